/-! THE REFERENCE'S RUNS: things, names, tasks, one by one -/
theorem mI_fn {m : Mm} {a j b : Nat} {v : Int32} (h : b ≠ a) : mI (mSetI m a j v) b = mI m b := up2_ne h
theorem Fr.fn {S : Nat → Nat → Prop} {m m1 : Mm} (h : Fr S m m1) {a : Nat} (hs : ∀ j, ¬ S a j) : mI m1 a = mI m a := funext fun _ => h.i (hs _)
def TX (m : Mm) (t : Th) (x : Nat) : Prop := (tK t = 6 → mI m 682 x = nn (tP t) ∧ ∃ q, mI m 678 x = nn q ∧ q + tsz (tT t) ≤ 876 ∧ TC m q (tT t)) ∧ (tK t = 2 → tT t ≠ .nil → mI m 682 x = nn (tP t) ∧ ∃ sl, sl < 24 ∧ mI m 683 x = nn sl ∧ tsz (tT t) ≤ 12 ∧ TC m (36 + 36 * sl) (tT t))
def TF (m : Mm) (t : Th) (x : Nat) : Prop := mI m 677 x = nn (tK t) ∧ (tK t ≠ 6 → mI m 678 x = nn (tO t)) ∧ mI m 679 x = no (tA t) ∧ mI m 680 x = no (tB t) ∧ mI m 681 x = nn (tW t)
def RT (m : Mm) (n : Nat) (f : Nat → Th) (mk : Nat → Nat) : Prop := mI m 668 13 = nn n ∧ ∀ x, x < n → TF m (f x) x ∧ TX m (f x) x ∧ mI m 684 x = nn (mk x)
theorem TC.fe {m m' : Mm} {q : Nat} {t : Tr} (h : TC m q t) (he : mI m' 676 = mI m 676) : TC m' q t := h.eq (fun _ _ _ => by rw [he])
theorem TX.fe {m m' : Mm} {t : Th} {x : Nat} (h : TX m t x) (h0 : mI m' 676 = mI m 676) (h1 : mI m' 678 x = mI m 678 x) (h2 : mI m' 682 x = mI m 682 x) (h3 : mI m' 683 x = mI m 683 x) : TX m' t x := by
  unfold TX TC at *
  rw [h0, h1, h2, h3]
  exact h
theorem TF.fe {m m' : Mm} {t : Th} {x : Nat} (h : TF m t x) (he : ∀ a, 677 ≤ a → a < 682 → mI m' a x = mI m a x) : TF m' t x := by
  unfold TF at *
  rw [he 677 (by decide) (by decide), he 678 (by decide) (by decide), he 679 (by decide) (by decide), he 680 (by decide) (by decide), he 681 (by decide) (by decide)]
  exact h
theorem RT.fe {m m' : Mm} {n : Nat} {f : Nat → Th} {mk : Nat → Nat} (h : RT m n f mk) (he : ∀ a, 676 ≤ a → a < 685 → mI m' a = mI m a) (h0 : mI m' 668 13 = mI m 668 13) : RT m' n f mk :=
  ⟨h0.trans h.1, fun x hx => ⟨(h.2 x hx).1.fe (fun a a1 a2 => by rw [he a (by omega) (by omega)]), (h.2 x hx).2.1.fe (he _ (by decide) (by decide)) (by rw [he 678 (by decide) (by decide)]) (by rw [he 682 (by decide) (by decide)]) (by rw [he 683 (by decide) (by decide)]), by rw [he 684 (by decide) (by decide)]; exact (h.2 x hx).2.2⟩⟩
theorem TX.no {m : Mm} {t : Th} {x : Nat} (h6 : tK t ≠ 6) (h2 : tK t ≠ 2) : TX m t x := ⟨fun q => absurd q h6, fun q => absurd q h2⟩
def nT (m : Mm) (n : Nat) (k w o : Int32) : Mm := mSetI (mSetI (mSetI (mSetI (mSetI (mSetI (mSetI m 677 n k) 678 n w) 681 n o) 679 n (-1)) 680 n (-1)) 684 n 0) 668 13 (nn (n + 1))
theorem s12_newThing {m : Mm} {n : Nat} (hm : St m) (hn : n < 6000) (h : mI m 668 13 = nn n) (k w o : Int32) : C m12_newThing [.ref 668, .int k, .int w, .int o] m (fun r m' => r = .inl (some (.int (nn n))) ∧ m' = nT m n k w o) := by
  refine C.of (by decide +kernel) (Nat.le_of_ble_eq_true rfl) rfl (w12_newThing hm ?_)
  rw [h, nn_one, nn_tn (by omega), nn_pred (by omega)]
  have := nn_in (a := n) (n := 6000) (by omega) hn
  exact ⟨this, this, this, this, this, this, rfl, rfl⟩
theorem RT.new {m : Mm} {n : Nat} {f f' : Nat → Th} {mk : Nat → Nat} (h : RT m n f mk) (hmk : mk n = 0) {k w o : Nat} (hk : k ≠ 6) (hk2 : k ≠ 2) (hf : ∀ x, x < n → f' x = f x) (hn : f' n = (k, w, none, none, o, 0, .nil)) : RT (nT m n (nn k) (nn w) (nn o)) (n + 1) f' mk := by
  refine ⟨rfl, fun x hx => ?_⟩
  by_cases e : x = n
  · subst e
    rw [hn]
    simp [TF, TX, nT, mI_set, hk, hk2, hmk, no]
    rfl
  · rw [hf x (by omega)]
    have := h.2 x (by omega)
    simp [TF, TX, nT, mI_set, e, TC] at this ⊢
    exact this
/-- a thing's end is found -/
theorem s12_root {m : Mm} {n : Nat} {f : Nat → Th} {mk : Nat → Nat} {rk : Nat → Nat} (hm : St m) (h : RT m n f mk) (hn : n ≤ 6000) (hk : ∀ x, x < n → tK (f x) < 8) (hl : LkR n f rk) {x : Nat} (hx : x < n) : C m12_root [.ref 668, .int (nn x)] m (fun r m' => r = .inl (some (.int (nn (rootF f n x)))) ∧ m' = m) := by
  refine C.of (by decide +kernel) (Nat.le_of_ble_eq_true rfl) rfl (w12_root hm ?_)
  have loop : ∀ (d y : Nat), rk y < d → y < n → rootF f n y = rootF f n x → V m12_root 2 [some (.ref 668), some (.int (nn x)), some (.int (nn y))] [] m (fun r m' => r = .inl (some (.int (nn (rootF f n x)))) ∧ m' = m) := by
    intro d
    induction d with
    | zero => intro y h1; omega
    | succ d ih =>
      intro y h1 hy he
      refine w12_root_2 hm ?_
      rw [nn_tn (by omega)]
      obtain ⟨h2, -, h3, -⟩ := (h.2 y hy).1
      have e7 : mI m 677 y = 7 ↔ tK (f y) = 7 := by
        rw [h2]
        exact nn_eq (b := 7) (by have := hk y hy; omega) (by decide)
      rw [e7]
      have hi := nn_in (a := y) (n := 6000) (by omega) (by omega)
      refine ⟨hi, fun q => ⟨?_, rfl⟩, fun q => ⟨hi, ?_⟩⟩
      · rw [← he, rootF_no q]
      · obtain ⟨z, z1, z2, z3⟩ := hl y hy q
        rw [h3, z1]
        refine ih z (by omega) z2 ?_
        rw [← he]
        exact (root_lk (s := ((n, f), fun _ => 0, (0, fun _ _ => none), (0, fun _ => (0, 0, [], [], [], 0)), 0, 0, 0, 0)) hl hy q z1).symm
  exact loop (rk x + 1) x (by omega) hx rfl
def bM (m : Mm) (x y : Nat) : Mm := mSetI (mSetI m 677 x 7) 679 x (nn y)
theorem s12_become {m : Mm} (hm : St m) {x y : Nat} (hx : x < 6000) : C m12_become [.ref 668, .int (nn x), .int (nn y)] m (fun r m' => r = .inl none ∧ m' = bM m x y) := by
  refine C.of (by decide +kernel) (Nat.le_of_ble_eq_true rfl) rfl (w12_become hm ?_)
  rw [nn_tn (by omega)]
  have := nn_in (a := x) (n := 6000) (by omega) hx
  exact ⟨this, this, rfl, rfl⟩
theorem RT.link {m : Mm} {n : Nat} {f : Nat → Th} {mk : Nat → Nat} (h : RT m n f mk) {x y : Nat} (h6 : tK (f x) ≠ 6) : RT (bM m x y) n (up1 f x (7, tO (f x), some y, tB (f x), tW (f x), tP (f x), tT (f x))) mk := by
  refine ⟨h.1, fun z hz => ?_⟩
  have := h.2 z hz
  by_cases e : z = x
  · subst e
    rw [up1_at]
    refine ⟨?_, TX.no (by show (7 : Nat) ≠ 6; decide) (by show (7 : Nat) ≠ 2; decide), ?_⟩
    · simp [TF, bM, mI_set, no, h6] at this ⊢
      exact ⟨rfl, this.1.2.1, this.1.2.2.2.1, this.1.2.2.2.2⟩
    · simp [bM, mI_set] at this ⊢
      exact this.2.2
  · rw [up1_ne e]
    simp [TF, TX, bM, mI_set, e, TC] at this ⊢
    exact this
def dM (m : Mm) (x k : Nat) : Mm := mSetI (mSetI (mSetI (mSetI m 677 x 1) 678 x (nn k)) 679 x (-1)) 680 x (-1)
theorem s12_becomeData {m : Mm} (hm : St m) {x k : Nat} (hx : x < 6000) : C m12_becomeData [.ref 668, .int (nn x), .int (nn k)] m (fun r m' => r = .inl none ∧ m' = dM m x k) := by
  refine C.of (by decide +kernel) (Nat.le_of_ble_eq_true rfl) rfl (w12_becomeData hm ?_)
  rw [nn_tn (by omega)]
  have := nn_in (a := x) (n := 6000) (by omega) hx
  exact ⟨this, this, this, this, rfl, rfl⟩
theorem RT.data {m : Mm} {n : Nat} {f : Nat → Th} {mk : Nat → Nat} (h : RT m n f mk) {x k : Nat} : RT (dM m x k) n (up1 f x (1, k, none, none, tW (f x), tP (f x), tT (f x))) mk := by
  refine ⟨h.1, fun z hz => ?_⟩
  have := h.2 z hz
  by_cases e : z = x
  · subst e
    rw [up1_at]
    refine ⟨?_, TX.no (by show (1 : Nat) ≠ 6; decide) (by show (1 : Nat) ≠ 2; decide), ?_⟩
    · simp [TF, dM, mI_set, no] at this ⊢
      exact ⟨rfl, this.1.2.2.2.2⟩
    · simp [dM, mI_set] at this ⊢
      exact this.2.2
  · rw [up1_ne e]
    simp [TF, TX, dM, mI_set, e, TC] at this ⊢
    exact this
/-- names -/
def RN (m : Mm) (n : Nat) (g : Nat → Nat → Option Nat) : Prop := mI m 668 22 = nn n ∧ ∀ p, p < n → ∀ k, k < 6 → mI m 685 (6 * p + k) = no (g p k)
theorem RN.fe {m m' : Mm} {n : Nat} {g : Nat → Nat → Option Nat} (h : RN m n g) (he : mI m' 685 = mI m 685) (h0 : mI m' 668 22 = mI m 668 22) : RN m' n g := by
  unfold RN at *
  rw [he, h0]
  exact h
theorem s12_newNames {m : Mm} {n : Nat} {g : Nat → Nat → Option Nat} (hm : St m) (h : RN m n g) (hn : n < 200) : C m12_newNames [.ref 668] m (fun r m' => r = .inl (some (.int (nn n))) ∧ RN m' (n + 1) (up1 g n (fun _ => none)) ∧ Fr (fun a j => a = 685 ∨ a = 668 ∧ j = 22) m m') := by
  refine C.of (by decide +kernel) (Nat.le_of_ble_eq_true rfl) rfl (w12_newNames hm ?_)
  have loop : ∀ (d k : Nat) (m1 : Mm), k + d = 6 → St m1 → RN m1 n g → Fr (fun a j => a = 685 ∨ a = 668 ∧ j = 22) m m1 → (∀ j, j < k → mI m1 685 (6 * n + j) = -1) → V m12_newNames 2 [some (.ref 668), some (.int (nn k))] [] m1 (fun r m' => r = .inl (some (.int (nn n))) ∧ RN m' (n + 1) (up1 g n (fun _ => none)) ∧ Fr (fun a j => a = 685 ∨ a = 668 ∧ j = 22) m m') := by
    intro d
    induction d with
    | zero =>
      intro k m1 hk s1 h1 f1 q
      obtain rfl : k = 6 := by omega
      refine w12_newNames_2 s1 ⟨fun _ => ?_, fun w => (w (by decide)).elim⟩
      rw [h1.1, nn_one, nn_pred (by omega)]
      refine ⟨rfl, ⟨rfl, fun p hp j hj => ?_⟩, f1.set (Or.inr ⟨rfl, rfl⟩)⟩
      rw [mI_set, if_neg (by omega)]
      by_cases e : p = n
      · subst e
        rw [up1_at]
        exact q j hj
      · rw [up1_ne e]
        exact h1.2 p (by omega) j hj
    | succ d ih =>
      intro k m1 hk s1 h1 f1 q
      refine w12_newNames_2 s1 ⟨fun w => ?_, fun _ => ?_⟩
      · rw [show (6 : Int32) = nn 6 from rfl, nn_le (by decide) (by omega)] at w
        omega
      · rw [h1.1, show (6 : Int32) * nn n = nn (6 * n) from nn_mul 6 n, nn_add, nn_tn (by omega), nn_one]
        refine ⟨nn_in (by omega) (by omega), ih (k + 1) _ (by omega) (St.i s1) ⟨h1.1, fun p hp j hj => ?_⟩ (f1.set (Or.inl rfl)) (fun j hj => ?_)⟩
        · rw [mI_set, if_neg (by omega)]
          exact h1.2 p hp j hj
        · rw [mI_set]
          by_cases e : j = k
          · rw [if_pos ⟨rfl, by omega⟩]
          · rw [if_neg (by omega)]
            exact q j (by omega)
  exact loop 6 0 m rfl hm h Fr.refl (fun j hj => by omega)
/-- tasks -/
def tM (m : Mm) (n : Nat) (a b c d : Int32) : Mm := mSetI (mSetI (mSetI (mSetI (mSetI m 686 n a) 687 n b) 688 n c) 689 n d) 668 24 (nn (n + 1))
theorem s12_task {m : Mm} {n : Nat} (hm : St m) (h : mI m 668 24 = nn n) (hn : n < 20000) (a b c d : Int32) : C m12_task [.ref 668, .int a, .int b, .int c, .int d] m (fun r m' => r = .inl none ∧ m' = tM m n a b c d) := by
  refine C.of (by decide +kernel) (Nat.le_of_ble_eq_true rfl) rfl (w12_task hm ?_)
  rw [h, nn_tn (by omega), nn_one]
  have := nn_in (a := n) (n := 20000) (by omega) hn
  exact ⟨this, this, this, this, rfl, rfl⟩
/-- a task of machine A, as it lies at place i -/
def TK (m : Mm) (i : Nat) (t : Tk) : Prop := match t.1 with
  | 0 => mI m 686 i = 0 ∧ mI m 687 i = nn t.2.1
  | 1 => mI m 686 i = 1 ∧ mI m 687 i = nn t.2.1
  | 2 => mI m 686 i = 2 ∧ mI m 687 i = nn t.2.1
  | 3 => mI m 686 i = 3 ∧ mI m 687 i = nn t.2.1
  | 4 => mI m 686 i = 4 ∧ mI m 688 i = nn t.2.1 ∧ mI m 689 i = nn t.2.2.1 ∧ ∃ q, mI m 687 i = nn q ∧ q + tsz t.2.2.2.2 ≤ 876 ∧ TC m q t.2.2.2.2
  | 5 => mI m 686 i = 5 ∧ mI m 688 i = nn t.2.1 ∧ mI m 689 i = nn t.2.2.1 ∧ ∃ q, mI m 687 i = nn q ∧ q + tsz t.2.2.2.2 ≤ 876 ∧ TC m q t.2.2.2.2
  | 6 => mI m 686 i = 6 ∧ mI m 687 i = nn t.2.1
  | 9 => mI m 686 i = 9 ∧ mI m 687 i = nn t.2.1
  | 13 => mI m 686 i = 7 ∧ mI m 687 i = nn t.2.2.2.1
  | 14 => mI m 686 i = 8 ∧ mI m 687 i = nn t.2.2.2.1
  | _ => False
def RQ (m : Mm) : List Tk → Prop
  | [] => True
  | t :: l => TK m l.length t ∧ RQ m l
theorem TK.fe {m m' : Mm} {i : Nat} {t : Tk} (h : TK m i t) (h0 : mI m' 676 = mI m 676) (he : ∀ a, 686 ≤ a → a < 690 → mI m' a i = mI m a i) : TK m' i t := by
  unfold TK TC at *
  rw [h0, he 686 (by decide) (by decide), he 687 (by decide) (by decide), he 688 (by decide) (by decide), he 689 (by decide) (by decide)]
  exact h
theorem RQ.fe {m m' : Mm} : ∀ {l : List Tk}, RQ m l → mI m' 676 = mI m 676 → (∀ a i, 686 ≤ a → a < 690 → i < l.length → mI m' a i = mI m a i) → RQ m' l
  | [], _, _, _ => trivial
  | t :: l, h, h0, he => ⟨h.1.fe h0 (fun a a1 a2 => he a _ a1 a2 (Nat.lt_succ_self _)), h.2.fe h0 (fun a i a1 a2 hi => he a i a1 a2 (Nat.lt_succ_of_lt hi))⟩
theorem RQ.fe2 {m m' : Mm} {l : List Tk} (h : RQ m l) (h0 : mI m' 676 = mI m 676) (he : ∀ a, 686 ≤ a → a < 690 → mI m' a = mI m a) : RQ m' l := h.fe h0 (fun a i a1 a2 _ => by rw [he a a1 a2])
theorem RQ.drop {m : Mm} : ∀ {l1 l : List Tk}, RQ m (l1 ++ l) → RQ m l
  | [], _, h => h
  | _ :: l1, _, h => RQ.drop (l1 := l1) h.2
theorem TK.tm {m : Mm} {n i : Nat} {t : Tk} {a b c d : Int32} (h : TK m i t) (hi : i ≠ n) : TK (tM m n a b c d) i t :=
  h.fe (by rw [show mI (tM m n a b c d) 676 = mI m 676 from by
    funext j
    simp [tM, mI_set]]) (fun x x1 x2 => by
    simp [tM, mI_set, hi]
    omega)
