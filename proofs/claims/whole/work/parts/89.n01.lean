/-! HOW LONG A RUN GOES: sums -/
def sX (g : Nat → Int) : Nat → Int
  | 0 => 0
  | n + 1 => sX g n + g n
theorem sX_eq {g g' : Nat → Int} : ∀ {n : Nat}, (∀ x, x < n → g' x = g x) → sX g' n = sX g n
  | 0, _ => rfl
  | n + 1, h => by
    show sX g' n + g' n = sX g n + g n
    rw [sX_eq (fun x hx => h x (by omega)), h n (by omega)]
theorem sX_le {g g' : Nat → Int} {c : Int} : ∀ {n : Nat}, (∀ x, x < n → g' x ≤ g x + c) → sX g' n ≤ sX g n + c * n
  | 0, _ => by
    show (0 : Int) ≤ 0 + c * ((0 : Nat) : Int)
    simp
  | n + 1, h => by
    have h1 := sX_le (g := g) (g' := g') (c := c) (n := n) (fun x hx => h x (by omega))
    have h2 := h n (by omega)
    have h3 : c * ((n + 1 : Nat) : Int) = c * n + c := by rw [Int.natCast_succ, Int.mul_add, Int.mul_one]
    show sX g' n + g' n ≤ sX g n + g n + c * ((n + 1 : Nat) : Int)
    rw [h3]
    omega
theorem sX_up {g g' : Nat → Int} {x : Nat} : ∀ {n : Nat}, x < n → (∀ y, y < n → y ≠ x → g' y = g y) → sX g' n + g x = sX g n + g' x
  | 0, h, _ => absurd h (Nat.not_lt_zero _)
  | n + 1, h, e => by
    show sX g' n + g' n + g x = sX g n + g n + g' x
    by_cases w : x = n
    · subst w
      rw [sX_eq (g := g) (g' := g') (fun y hy => e y (by omega) (by omega))]
      omega
    · have h1 := sX_up (g := g) (g' := g') (x := x) (n := n) (by omega) (fun y hy q => e y (by omega) q)
      have h2 := e n (by omega) (by omega)
      omega
theorem sX_more {g : Nat → Int} {c : Int} : ∀ {n k : Nat}, (∀ x, n ≤ x → x < n + k → g x ≤ c) → sX g (n + k) ≤ sX g n + c * k
  | n, 0, _ => by
    show sX g n ≤ sX g n + c * ((0 : Nat) : Int)
    simp
  | n, k + 1, h => by
    have h1 := sX_more (g := g) (c := c) (n := n) (k := k) (fun x h1 h2 => h x h1 (by omega))
    have h2 := h (n + k) (by omega) (by omega)
    have h3 : c * ((k + 1 : Nat) : Int) = c * k + c := by rw [Int.natCast_succ, Int.mul_add, Int.mul_one]
    show sX g (n + k) + g (n + k) ≤ sX g n + c * ((k + 1 : Nat) : Int)
    rw [h3]
    omega
theorem sX_nn {g : Nat → Int} : ∀ {n : Nat}, (∀ x, x < n → 0 ≤ g x) → 0 ≤ sX g n
  | 0, _ => Int.le_refl _
  | n + 1, h => by
    have h1 := sX_nn (g := g) (n := n) (fun x hx => h x (by omega))
    have h2 := h n (by omega)
    show 0 ≤ sX g n + g n
    omega
def sI (W : Tk → Int) : List Tk → Int
  | [] => 0
  | t :: l => W t + sI W l
theorem sI_app {W : Tk → Int} : ∀ (l l' : List Tk), sI W (l ++ l') = sI W l + sI W l'
  | [], l' => (Int.zero_add _).symm
  | t :: l, l' => by
    show W t + sI W (l ++ l') = W t + sI W l + sI W l'
    rw [sI_app l l']
    omega
theorem sI_le {W : Tk → Int} {c : Int} : ∀ {l : List Tk}, (∀ t, t ∈ l → W t ≤ c) → sI W l ≤ c * l.length
  | [], _ => by
    show (0 : Int) ≤ c * ((0 : Nat) : Int)
    simp
  | t :: l, h => by
    have h1 := sI_le (W := W) (c := c) (l := l) (fun z hz => h z (List.mem_cons_of_mem _ hz))
    have h2 := h t (List.mem_cons_self ..)
    have h3 : c * (((t :: l).length : Nat) : Int) = c * l.length + c := by rw [List.length_cons, Int.natCast_succ, Int.mul_add, Int.mul_one]
    show W t + sI W l ≤ _
    rw [h3]
    omega
/-- what is less than nothing -/
theorem sI_ng {W : Tk → Int} {g : Tk → Nat} (h : ∀ t, 0 ≤ W t + (g t : Int)) : ∀ (l : List Tk), 0 ≤ sI W l + (sL1 g l : Int)
  | [] => Int.le_refl _
  | t :: l => by
    have h1 := sI_ng h l
    have h2 := h t
    have h3 : ((sL1 g (t :: l) : Nat) : Int) = (g t : Int) + (sL1 g l : Int) := Int.natCast_add _ _
    show 0 ≤ W t + sI W l + _
    rw [h3]
    omega
/-! weights: h tells the other one from the reference -/
def hC1 (h : Bool) : Int := if h = true then 3 else 7
def hC4 (h : Bool) : Int := if h = true then 9 else 18
def hLa (h : Bool) : Int := if h = true then 14600 else 60000
def hNg (h : Bool) : Nat := if h = true then 4290 else 34130
def tkW (h : Bool) (m : Nat → Nat) (t : Tk) : Int := match t.1 with
  | 1 => if h = true then 1 else 3
  | 2 => 1
  | 3 => if h = true then 1 else if m t.2.1 = 0 then -6 else 1
  | 4 => 12 * (tsz t.2.2.2.2 : Int) + 2
  | 5 => 12 * (tsz t.2.2.2.2 : Int)
  | 6 => 300
  | 7 => if h = true then -5 else -10
  | 8 => if h = true then -5 else -10
  | 10 => 1
  | 11 => 1
  | 13 => if h = true then 0 else -8
  | 14 => if h = true then 0 else -8
  | _ => 0
theorem sI_eq {W W' : Tk → Int} : ∀ {l : List Tk}, (∀ t, t ∈ l → W' t = W t) → sI W' l = sI W l
  | [], _ => rfl
  | t :: l, h => by
    show W' t + sI W' l = W t + sI W l
    rw [h t (List.mem_cons_self ..), sI_eq (fun z hz => h z (List.mem_cons_of_mem _ hz))]
def tkN (h : Bool) (t : Tk) : Nat := match t.1 with
  | 3 => if h = true then 0 else 10
  | 7 => if h = true then 5 else 10
  | 8 => if h = true then 5 else 10
  | 13 => if h = true then 0 else 10
  | 14 => if h = true then 0 else 10
  | _ => 0
theorem tkW_ng {h : Bool} {m : Nat → Nat} (t : Tk) : 0 ≤ tkW h m t + (tkN h t : Int) := by
  obtain ⟨k, y, a, b, p⟩ := t
  match k with
  | 0 => exact Int.le_refl _
  | 1 => cases h <;> exact of_decide_eq_true rfl
  | 2 => exact of_decide_eq_true rfl
  | 3 =>
    show (0 : Int) ≤ (if h = true then 1 else if m y = 0 then -6 else 1) + (((if h = true then 0 else 10) : Nat) : Int)
    by_cases w : m y = 0
    · rw [if_pos w]
      cases h <;> decide
    · rw [if_neg w]
      cases h <;> decide
  | 4 =>
    show (0 : Int) ≤ 12 * (tsz p : Int) + 2 + ((0 : Nat) : Int)
    omega
  | 5 =>
    show (0 : Int) ≤ 12 * (tsz p : Int) + ((0 : Nat) : Int)
    omega
  | 6 => exact of_decide_eq_true rfl
  | 7 => cases h <;> exact of_decide_eq_true rfl
  | 8 => cases h <;> exact of_decide_eq_true rfl
  | 9 => exact Int.le_refl _
  | 10 => exact of_decide_eq_true rfl
  | 11 => exact of_decide_eq_true rfl
  | 12 => exact Int.le_refl _
  | 13 => cases h <;> exact of_decide_eq_true rfl
  | 14 => cases h <;> exact of_decide_eq_true rfl
  | n + 15 => exact Int.le_refl _
def thV (h : Bool) (mk : Nat → Bool) (x : Nat) (t : Th) : Int := match tK t with
  | 1 => if mk x = true then 0 else hC1 h
  | 3 => 3
  | 4 => hC4 h
  | 5 => hC4 h
  | _ => 0
theorem thV_d {h : Bool} {mk : Nat → Bool} {x : Nat} {t : Th} (hk : tK t = 1) : 0 ≤ thV h mk x t ∧ thV h mk x t ≤ hC1 h := by
  unfold thV
  rw [hk]
  cases h <;> cases mk x <;> exact ⟨of_decide_eq_true rfl, of_decide_eq_true rfl⟩
theorem thV_bd {h : Bool} {mk : Nat → Bool} {x : Nat} {t : Th} : 0 ≤ thV h mk x t ∧ thV h mk x t ≤ hC4 h := by
  obtain ⟨k, w, a, b, o, p, r⟩ := t
  match k with
  | 0 => cases h <;> exact ⟨of_decide_eq_true rfl, of_decide_eq_true rfl⟩
  | 1 =>
    have := thV_d (h := h) (mk := mk) (x := x) (t := (1, w, a, b, o, p, r)) rfl
    have h2 : hC1 h ≤ hC4 h := by cases h <;> decide
    omega
  | 2 => cases h <;> exact ⟨of_decide_eq_true rfl, of_decide_eq_true rfl⟩
  | 3 => cases h <;> exact ⟨of_decide_eq_true rfl, of_decide_eq_true rfl⟩
  | 4 => cases h <;> exact ⟨of_decide_eq_true rfl, of_decide_eq_true rfl⟩
  | 5 => cases h <;> exact ⟨of_decide_eq_true rfl, of_decide_eq_true rfl⟩
  | 6 => cases h <;> exact ⟨of_decide_eq_true rfl, of_decide_eq_true rfl⟩
  | 7 => cases h <;> exact ⟨of_decide_eq_true rfl, of_decide_eq_true rfl⟩
  | n + 8 => cases h <;> exact ⟨of_decide_eq_true rfl, of_decide_eq_true rfl⟩
theorem thV_0 {h : Bool} {mk : Nat → Bool} {x : Nat} {t : Th} (hk : tK t = 0 ∨ tK t = 2 ∨ tK t = 6 ∨ tK t = 7) : thV h mk x t = 0 := by
  unfold thV
  rcases hk with e | e | e | e <;> rw [e] <;> rfl
theorem thV_45 {h : Bool} {mk : Nat → Bool} {x : Nat} {t : Th} (hk : tK t = 4 ∨ tK t = 5) : thV h mk x t = hC4 h := by
  unfold thV
  rcases hk with e | e <;> rw [e] <;> rfl
/-- a mark more or less changes data alone -/
theorem thV_mk {h : Bool} {mk mk' : Nat → Bool} {x : Nat} {t : Th} : thV h mk' x t ≤ thV h mk x t + hC1 h := by
  by_cases e : tK t = 1
  · have h1 := thV_d (h := h) (mk := mk) (x := x) e
    have h2 := thV_d (h := h) (mk := mk') (x := x) e
    omega
  · have : thV h mk' x t = thV h mk x t := by
      obtain ⟨k, w, a, b, o, p, r⟩ := t
      match k, e with
      | 0, _ => rfl
      | 1, e => exact absurd rfl e
      | 2, _ => rfl
      | 3, _ => rfl
      | 4, _ => rfl
      | 5, _ => rfl
      | 6, _ => rfl
      | 7, _ => rfl
      | n + 8, _ => rfl
    have h2 : 0 ≤ hC1 h := by cases h <;> decide
    omega
def mX (h : Bool) (mk : Nat → Bool) (f : Nat → Th) (n : Nat) : Int := sX (fun x => thV h mk x (f x)) n
theorem mX_eq {h : Bool} {mk mk' : Nat → Bool} {f f' : Nat → Th} {n : Nat} (h1 : ∀ x, x < n → mk' x = mk x) (h2 : ∀ x, x < n → f' x = f x) : mX h mk' f' n = mX h mk f n := sX_eq (fun x hx => by
  show thV h mk' x (f' x) = thV h mk x (f x)
  rw [h2 x hx]
  unfold thV
  rw [h1 x hx])
theorem mX_up {h : Bool} {mk : Nat → Bool} {f f' : Nat → Th} {n x : Nat} (hx : x < n) (hf : ∀ y, y < n → y ≠ x → f' y = f y) : mX h mk f' n + thV h mk x (f x) = mX h mk f n + thV h mk x (f' x) := sX_up (g := fun x => thV h mk x (f x)) (g' := fun x => thV h mk x (f' x)) hx (fun y hy q => by
  show thV h mk y (f' y) = thV h mk y (f y)
  rw [hf y hy q])
theorem mX_nn {h : Bool} {mk : Nat → Bool} {f : Nat → Th} {n : Nat} : 0 ≤ mX h mk f n := sX_nn (fun _ _ => thV_bd.1)
theorem mX_app {h : Bool} {mk : Nat → Bool} {f : Nat → Th} {n : Nat} {l : List Th} {c : Int} (hc : ∀ x, ∀ t, t ∈ l → thV h mk x t ≤ c) : mX h mk (app f n l) (n + l.length) ≤ mX h mk f n + c * l.length := by
  have h1 := sX_more (g := fun x => thV h mk x (app f n l x)) (c := c) (n := n) (k := l.length) (fun x h1 h2 => by
    obtain ⟨i, rfl⟩ := Nat.le.dest h1
    have hi : i < l.length := by omega
    show thV h mk _ (app f n l (n + i)) ≤ c
    rw [app_at (List.getElem?_eq_getElem hi)]
    exact hc _ _ (List.getElem_mem hi))
  have h2 : sX (fun x => thV h mk x (app f n l x)) n = mX h mk f n := sX_eq (fun x hx => by
    show thV h mk x (app f n l x) = thV h mk x (f x)
    rw [app_lt hx])
  rw [h2] at h1
  exact h1
