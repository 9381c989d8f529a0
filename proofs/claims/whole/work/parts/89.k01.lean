/-! HOW MUCH THERE IS: weights of tasks and things -/
/-- leaves of a tree -/
def lfs : Tr → Nat
  | .tag _ .nil => 1
  | .tag _ (.nest _ a) => lfs a
  | .tag _ (.append a b) => lfs a + lfs b
  | _ => 0
theorem lfs_lf {c : Nat} : lfs (tlf c) = 1 := by
  unfold tlf
  rw [lfs]
theorem lfs_un {c : Nat} {a : Tr} : lfs (tun c a) = lfs a := by
  unfold tun
  rw [lfs]
theorem lfs_bi {c : Nat} {a b : Tr} : lfs (tbi c a b) = lfs a + lfs b := by
  unfold tbi
  rw [lfs]
theorem lfs_sz {nf : Nat} {fp : Nat → Nat} {t : Tr} (hw : twf nf fp t) : 1 ≤ lfs t ∧ 2 * lfs t ≤ tsz t + 1 := by
  refine tr_ind (nf := nf) (fp := fp) (P := fun t => 1 ≤ lfs t ∧ 2 * lfs t ≤ tsz t + 1) ?_ ?_ ?_ (tsz t) t (Nat.le_refl _) hw
  · intro c _ _
    rw [lfs_lf, tsz_lf]
    omega
  · intro c a _ _ _ ih
    rw [lfs_un, tsz_un]
    omega
  · intro c a b _ _ _ _ ia ib
    rw [lfs_bi, tsz_bi]
    omega
/-- things that a task can still make -/
def pc (t : Tk) : Nat := if t.1 = 4 ∨ t.1 = 5 then tsz t.2.2.2.2 - 1 else if t.1 = 6 then 12 else 0
/-- what a task can still add to the weights of things -/
def pp (t : Tk) : Nat := if t.1 = 4 ∨ t.1 = 5 then lfs t.2.2.2.2 - 1 else if t.1 = 6 then 9 else 0
/-- what a task costs -/
def ct (t : Tk) : Nat := if t.1 = 4 ∨ t.1 = 5 then lfs t.2.2.2.2 else if t.1 = 0 ∨ t.1 = 3 ∨ t.1 = 10 ∨ t.1 = 11 ∨ t.1 = 15 then 0 else 1
def c10 (t : Tk) : Nat := if t.1 = 10 ∨ t.1 = 11 then 1 else 0
def c78 (t : Tk) : Nat := if t.1 = 7 ∨ t.1 = 8 then 1 else 0
/-- what a thing under way bears -/
def wp (t : Th) : Nat := if tK t = 1 then (if (tB t).isSome = true then 1 else 0) else if tK t = 4 ∨ tK t = 5 then 3 else if tK t = 2 then (match tT t with
  | .nil => 0
  | _ => 13) else 0
def wx (t : Th) : Nat := wp t + (if tK t = 4 ∨ tK t = 5 then 1 else 0)
def vv (f : Nat → Th) (t : Tk) : Nat := match t.1 with
  | 3 => wp (f t.2.1)
  | 6 => wp (f t.2.1)
  | 7 => wp (f t.2.1)
  | 8 => wp (f t.2.1)
  | 13 => wp (f t.2.2.2.1)
  | 14 => wp (f t.2.2.2.1)
  | 15 => 2
  | _ => 0
def sL1 (g : Tk → Nat) : List Tk → Nat
  | [] => 0
  | t :: l => g t + sL1 g l
theorem sL1_app {g : Tk → Nat} : ∀ (l l' : List Tk), sL1 g (l ++ l') = sL1 g l + sL1 g l'
  | [], l' => (Nat.zero_add _).symm
  | t :: l, l' => by
    show g t + sL1 g (l ++ l') = g t + sL1 g l + sL1 g l'
    rw [sL1_app l l']
    omega
/-- the weights of all things -/
def sW (f : Nat → Th) : Nat → Nat
  | 0 => 0
  | n + 1 => sW f n + wx (f n)
theorem sW_eq {f f' : Nat → Th} : ∀ {n : Nat}, (∀ x, x < n → f' x = f x) → sW f' n = sW f n
  | 0, _ => rfl
  | n + 1, h => by
    show sW f' n + wx (f' n) = sW f n + wx (f n)
    rw [sW_eq (fun x hx => h x (by omega)), h n (by omega)]
theorem sW_up {f : Nat → Th} {x : Nat} {v : Th} : ∀ {n : Nat}, x < n → sW (up1 f x v) n + wx (f x) = sW f n + wx v
  | 0, h => by omega
  | n + 1, h => by
    show sW (up1 f x v) n + wx (up1 f x v n) + wx (f x) = sW f n + wx (f n) + wx v
    by_cases e : x = n
    · subst e
      rw [up1_at, sW_eq (f := f) (fun y hy => up1_ne (by omega))]
      omega
    · rw [up1_ne (fun q => e q.symm)]
      have := sW_up (f := f) (v := v) (n := n) (show x < n by omega)
      omega
def sTh : List Th → Nat
  | [] => 0
  | t :: l => wx t + sTh l
theorem sTh_app : ∀ l l' : List Th, sTh (l ++ l') = sTh l + sTh l'
  | [], l' => (Nat.zero_add _).symm
  | t :: l, l' => by
    show wx t + sTh (l ++ l') = wx t + sTh l + sTh l'
    rw [sTh_app l l']
    omega
theorem sW_app {f : Nat → Th} {n : Nat} : ∀ {l : List Th}, sW (app f n l) (n + l.length) = sW f n + sTh l := by
  intro l
  have : ∀ k, k ≤ l.length → sW (app f n l) (n + k) = sW f n + sTh (l.take k) := by
    intro k
    induction k with
    | zero =>
      intro _
      rw [List.take_zero, Nat.add_zero]
      show _ = sW f n + 0
      rw [Nat.add_zero]
      exact sW_eq (fun x hx => app_lt hx)
    | succ k ih =>
      intro hk
      have e : app f n l (n + k) = l[k]'(by omega) := app_at (List.getElem?_eq_getElem (by omega))
      show sW (app f n l) (n + k) + wx (app f n l (n + k)) = _
      rw [ih (by omega), e, List.take_add_one, List.getElem?_eq_getElem (by omega), sTh_app]
      show sW f n + sTh (l.take k) + wx (l[k]'(by omega)) = sW f n + (sTh (l.take k) + (wx (l[k]'(by omega)) + 0))
      omega
  have h := this l.length (Nat.le_refl _)
  rw [List.take_length] at h
  exact h
theorem mkA_wx {nf : Nat} {fp : Nat → Nat} {g : Nat → Option Nat} {o p : Nat} {t : Tr} (hw : twf nf fp t) : ∀ n, sTh (mkA g o p t n).2 + 2 ≤ 2 * tsz t := by
  have k0 : ∀ c A, wx (kdc c, whc c, A, none, o, 0, .nil) ≤ 4 := fun c A => by
    unfold wx wp
    simp only []
    split <;> split <;> (try split) <;> (try split) <;> simp <;> omega
  have k1 : ∀ c A B, wx (kdc c, whc c, A, B, o, 0, .nil) ≤ 4 := fun c A B => by
    unfold wx wp
    simp only []
    split <;> split <;> (try split) <;> (try split) <;> simp <;> omega
  have kk : ∀ c, kdc c = 4 ∨ kdc c = 5 → 31 ≤ c ∧ c < 33 := fun c h => by
    unfold kdc at h
    split at h
    · omega
    · split at h
      · omega
      · omega
  have k2 : ∀ c A, ¬ (kdc c = 4 ∨ kdc c = 5) → wx (kdc c, whc c, A, none, o, 0, .nil) = 0 := fun c A h => by
    unfold wx wp
    show (if kdc c = 1 then (if (none : Option Nat).isSome = true then 1 else 0) else if kdc c = 4 ∨ kdc c = 5 then 3 else if kdc c = 2 then 0 else 0) + (if kdc c = 4 ∨ kdc c = 5 then 1 else 0) = 0
    rw [if_neg h, if_neg h]
    split
    · rfl
    · split <;> rfl
  refine tr_ind (nf := nf) (fp := fp) (P := fun t => ∀ n, sTh (mkA g o p t n).2 + 2 ≤ 2 * tsz t) ?_ ?_ ?_ (tsz t) t (Nat.le_refl _) hw
  · intro c hc hp n
    rw [mkA_lf, tsz_lf]
    split
    · show 0 + 2 ≤ _
      omega
    · show wx (kdc c, whc c, none, none, o, 0, .nil) + 0 + 2 ≤ _
      rw [k2 c none (fun w => by
        have := kk c w
        have e : prt fp c = 2 := by
          unfold prt
          rw [if_neg (by omega), if_neg (by omega), if_neg (by omega), if_neg (by omega)]
        omega)]
      omega
  · intro c a hc hp _ ih n
    rw [mkA_un, tsz_un]
    split
    · show 0 + 0 + 2 ≤ _
      omega
    · show wx (kdc c, whc c, (mkA g o p a (n + 1)).1, none, o, 0, .nil) + sTh (mkA g o p a (n + 1)).2 + 2 ≤ _
      rw [k2 c _ (fun w => by
        have := kk c w
        have e : prt fp c = 2 := by
          unfold prt
          rw [if_neg (by omega), if_neg (by omega), if_neg (by omega), if_neg (by omega)]
        omega)]
      have := ih (n + 1)
      omega
  · intro c a b hc hp _ _ ia ib n
    rw [mkA_bi, tsz_bi]
    show wx (kdc c, whc c, (mkA g o p a (n + 1)).1, (mkA g o p b (n + 1 + (mkA g o p a (n + 1)).2.length)).1, o, 0, .nil) + sTh ((mkA g o p a (n + 1)).2 ++ (mkA g o p b (n + 1 + (mkA g o p a (n + 1)).2.length)).2) + 2 ≤ _
    rw [sTh_app]
    have := ia (n + 1)
    have := ib (n + 1 + (mkA g o p a (n + 1)).2.length)
    have := k1 c (mkA g o p a (n + 1)).1 (mkA g o p b (n + 1 + (mkA g o p a (n + 1)).2.length)).1
    omega
/-- each rest of the tasks costs no more than is borne -/
def SUx (f : Nat → Th) (k : Nat) : List Tk → Prop
  | [] => True
  | t :: l => (ct t + sL1 ct l ≤ vv f t + sL1 (vv f) l + 1 ∧ c10 t + sL1 c10 l ≤ c78 t + sL1 c78 l + k) ∧ SUx f k l
theorem SUx.hd {f : Nat → Th} {k : Nat} : ∀ {l : List Tk}, SUx f k l → sL1 ct l ≤ sL1 (vv f) l + 1 ∧ sL1 c10 l ≤ sL1 c78 l + k
  | [], _ => ⟨Nat.zero_le _, Nat.zero_le _⟩
  | _ :: _, h => h.1
theorem vv_eq {f f' : Nat → Th} {t : Tk} (h : ∀ u, u ∈ frs t → f' u = f u) : vv f' t = vv f t := by
  obtain ⟨k, y, a, b, p⟩ := t
  match k, h with
  | 0, _ => rfl
  | 1, _ => rfl
  | 2, _ => rfl
  | 3, h => show wp (f' y) = wp (f y); rw [h y (List.mem_cons_self ..)]
  | 4, _ => rfl
  | 5, _ => rfl
  | 6, h => show wp (f' y) = wp (f y); rw [h y (List.mem_cons_self ..)]
  | 7, h => show wp (f' y) = wp (f y); rw [h y (List.mem_cons_self ..)]
  | 8, h => show wp (f' y) = wp (f y); rw [h y (List.mem_cons_self ..)]
  | 9, _ => rfl
  | 10, _ => rfl
  | 11, _ => rfl
  | 12, _ => rfl
  | 13, h => show wp (f' b) = wp (f b); rw [h b (List.mem_cons_self ..)]
  | 14, h => show wp (f' b) = wp (f b); rw [h b (List.mem_cons_self ..)]
  | 15, _ => rfl
  | n + 16, _ => rfl
theorem sv_eq {f f' : Nat → Th} : ∀ {l : List Tk}, (∀ t, t ∈ l → ∀ u, u ∈ frs t → f' u = f u) → sL1 (vv f') l = sL1 (vv f) l
  | [], _ => rfl
  | t :: l, h => by
    show vv f' t + sL1 (vv f') l = vv f t + sL1 (vv f) l
    rw [vv_eq (h t (List.mem_cons_self ..)), sv_eq (fun z hz => h z (List.mem_cons_of_mem _ hz))]
theorem SUx.eq {f f' : Nat → Th} {k k' : Nat} (hk : k ≤ k') : ∀ {l : List Tk}, SUx f k l → (∀ t, t ∈ l → ∀ u, u ∈ frs t → f' u = f u) → SUx f' k' l
  | [], _, _ => trivial
  | t :: l, ⟨⟨h1, h2⟩, h3⟩, h => by
    refine ⟨⟨?_, by omega⟩, h3.eq hk (fun z hz => h z (List.mem_cons_of_mem _ hz))⟩
    rw [vv_eq (h t (List.mem_cons_self ..)), sv_eq (fun z hz => h z (List.mem_cons_of_mem _ hz))]
    exact h1
theorem SUx.app {f : Nat → Th} {k : Nat} : ∀ {m l : List Tk}, SUx f k (m ++ l) → SUx f k l
  | [], _, h => h
  | _ :: _, _, h => SUx.app h.2
