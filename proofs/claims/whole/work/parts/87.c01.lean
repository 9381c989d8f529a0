/-! THE OTHER ONE'S MEMORY OF A RUN. rh: numbers of things to its own. -/
def tg (k : Nat) : Nat := if k = 0 then 7 else if k = 7 then 8 else k
def mo (rh : Nat → Nat) (r : Option Nat) : Int32 := no (r.map rh)
def HF (m : Mm) (t : Th) (i : Nat) (rh : Nat → Nat) : Prop := mI m 14 i = nn (tg (tK t)) ∧ ((tK t = 1 ∨ tK t = 2) → mI m 15 i = nn (tO t)) ∧ mI m 16 i = mo rh (tA t) ∧ mI m 17 i = mo rh (tB t) ∧ mI m 19 i = nn (tW t)
/-- a tree that lies in an expression, its whole at r -/
def EA (m : Mm) (e r : Nat) (t : Tr) : Prop := ∃ n lo ly, 714 ≤ e ∧ e + 8 ≤ mN m ∧ isExp m e n ∧ n ≤ 12 ∧ lo + tsz t ≤ n ∧ Pc m e t lo ly ∧ r = lo + tsz t - 1 ∧ mI m e 0 = nn n ∧ ly + tsz t ≤ n
def HX (m : Mm) (t : Th) (i : Nat) : Prop := (tK t = 6 → mI m 18 i = nn (tP t) ∧ tP t < 102 ∧ ∃ e r, mR m (31 + 2 * tP t) 3 = some e ∧ EA m e r (tT t) ∧ mI m 15 i = nn r) ∧ (tK t = 2 → tT t ≠ .nil → mI m 18 i = nn (tP t) ∧ tP t < 102 ∧ ∃ e, mR m (31 + 2 * tP t) 3 = some e ∧ ExpT m e (tT t))
/-- the things of D, and how many there are -/
def HD (m : Mm) (cn : Nat) (D : Nat → Prop) (f : Nat → Th) (mk rh : Nat → Nat) : Prop := mI m 13 9 = nn cn ∧ (∀ x, D x → rh x < cn) ∧ (∀ x y, D x → D y → rh x = rh y → x = y) ∧ ∀ x, D x → HF m (f x) (rh x) rh ∧ HX m (f x) (rh x) ∧ mI m 20 (rh x) = nn (mk x)
abbrev HT (m : Mm) (n : Nat) (f : Nat → Th) (mk rh : Nat → Nat) : Prop := HD m n (fun x => x < n) f mk rh
theorem Pc.fe {nf : Nat} {fp : Nat → Nat} {m m' : Mm} {e lo ly : Nat} {t : Tr} (hw : twf nf fp t) (h : Pc m e t lo ly) (he : ∀ a, 714 ≤ a → mI m' a = mI m a) (h7 : 714 ≤ e) : Pc m' e t lo ly := h.eq hw (fun k j _ _ _ _ => by rw [he _ (by omega)])
/-- above the static cells all is as it was -/
def Up (m m' : Mm) : Prop := mN m' = mN m ∧ mS m' = mS m ∧ ∀ a, 714 ≤ a → mI m' a = mI m a ∧ mR m' a = mR m a
theorem Up.refl {m : Mm} : Up m m := ⟨rfl, rfl, fun _ _ => ⟨rfl, rfl⟩⟩
theorem Up.trans {m m1 m2 : Mm} (h : Up m m1) (h2 : Up m1 m2) : Up m m2 := ⟨h2.1.trans h.1, h2.2.1.trans h.2.1, fun a ha => ⟨(h2.2.2 a ha).1.trans (h.2.2 a ha).1, (h2.2.2 a ha).2.trans (h.2.2 a ha).2⟩⟩
theorem Up.fr {S : Nat → Nat → Prop} {m m' : Mm} (f : Fr S m m') (hS : ∀ a j, S a j → a < 714) : Up m m' := ⟨f.1, f.s, fun a ha => ⟨f.fn (fun j q => by have := hS a j q; omega), by rw [f.r]⟩⟩
theorem Up.gh {m m' : Mm} (h : Up m m') : Gh m m' := ⟨Nat.le_of_eq h.1.symm, fun a ha _ => ⟨by rw [h.2.1], (h.2.2 a ha).1, (h.2.2 a ha).2⟩⟩
theorem isExp.up {m m' : Mm} {e n : Nat} (h : isExp m e n) (he : 714 ≤ e) (u : Up m m') : isExp m' e n := by
  obtain ⟨h1, h2⟩ := h
  refine ⟨by rw [u.2.1]; exact h1, fun j j1 j2 => ?_⟩
  rw [(u.2.2 e he).2, u.2.1]
  exact h2 j j1 j2
theorem EA.up {nf : Nat} {fp : Nat → Nat} {m m' : Mm} {e r : Nat} {t : Tr} (hw : twf nf fp t) (h : EA m e r t) (u : Up m m') : EA m' e r t := by
  obtain ⟨n, lo, ly, h1, h2, h3, h4, h5, h6, h7, h8⟩ := h
  exact ⟨n, lo, ly, h1, by rw [u.1]; exact h2, h3.up h1 u, h4, h5, h6.fe hw (fun a ha => (u.2.2 a ha).1) h1, h7, by rw [(u.2.2 e h1).1]; exact h8.1, h8.2⟩
theorem ExpT.up {nf : Nat} {fp : Nat → Nat} {m m' : Mm} {e : Nat} {t : Tr} (hw : twf nf fp t) (h : ExpT m e t) (u : Up m m') : ExpT m' e t := h.gh hw u.gh
/-- texts are well formed -/
def tWf (fs : List Fn) (t : Th) : Prop := (tK t = 6 → twf fs.length (fpf fs) (tT t)) ∧ (tK t = 2 → tT t ≠ .nil → twf fs.length (fpf fs) (tT t))
theorem HX.fe {fs : List Fn} {m m' : Mm} {t : Th} {i : Nat} (hw : tWf fs t) (h : HX m t i) (u : Up m m') (h1 : mI m' 15 i = mI m 15 i) (h2 : mI m' 18 i = mI m 18 i) (h3 : ∀ p, p < 102 → mR m' (31 + 2 * p) 3 = mR m (31 + 2 * p) 3) : HX m' t i := by
  refine ⟨fun q => ?_, fun q q2 => ?_⟩
  · obtain ⟨a1, a2, e, r, a3, a4, a5⟩ := h.1 q
    exact ⟨h2.trans a1, a2, e, r, (h3 _ a2).trans a3, a4.up (hw.1 q) u, h1.trans a5⟩
  · obtain ⟨a1, a2, e, a3, a4⟩ := h.2 q q2
    exact ⟨h2.trans a1, a2, e, (h3 _ a2).trans a3, a4.up (hw.2 q q2) u⟩
theorem HF.fe {m m' : Mm} {t : Th} {i : Nat} {rh : Nat → Nat} (h : HF m t i rh) (he : ∀ a, 14 ≤ a → a < 20 → mI m' a i = mI m a i) : HF m' t i rh := by
  unfold HF at *
  rw [he 14 (by decide) (by decide), he 15 (by decide) (by decide), he 16 (by decide) (by decide), he 17 (by decide) (by decide), he 19 (by decide) (by decide)]
  exact h
theorem HD.fe {fs : List Fn} {m m' : Mm} {cn : Nat} {D : Nat → Prop} {f : Nat → Th} {mk rh : Nat → Nat} (hw : ∀ x, D x → tWf fs (f x)) (h : HD m cn D f mk rh) (u : Up m m') (he : ∀ a, 14 ≤ a → a ≤ 20 → mI m' a = mI m a) (h0 : mI m' 13 9 = mI m 13 9) (h3 : ∀ p, p < 102 → mR m' (31 + 2 * p) 3 = mR m (31 + 2 * p) 3) : HD m' cn D f mk rh :=
  ⟨h0.trans h.1, h.2.1, h.2.2.1, fun x hx => by
    obtain ⟨a1, a2, a3⟩ := h.2.2.2 x hx
    exact ⟨a1.fe (fun a b1 b2 => by rw [he a b1 (by omega)]), a2.fe (hw x hx) u (by rw [he 15 (by decide) (by decide)]) (by rw [he 18 (by decide) (by decide)]) h3, by rw [he 20 (by decide) (by decide)]; exact a3⟩⟩
theorem HD.ge {m : Mm} {cn : Nat} {D : Nat → Prop} {f f' : Nat → Th} {mk rh : Nat → Nat} (h : HD m cn D f mk rh) (hf : ∀ x, D x → f' x = f x) : HD m cn D f' mk rh := ⟨h.1, h.2.1, h.2.2.1, fun x hx => by rw [hf x hx]; exact h.2.2.2 x hx⟩
/-- a thing that is added -/
def aT (m : Mm) (n : Nat) (k w l r p o : Int32) : Mm := mSetI (mSetI (mSetI (mSetI (mSetI (mSetI (mSetI (mSetI (mSetI m 14 n k) 15 n w) 16 n l) 17 n r) 18 n p) 19 n o) 20 n 0) 21 n 0) 13 9 (nn (n + 1))
theorem s10_add {m : Mm} {n : Nat} (hm : St m) (hn : n < 3500) (h : mI m 13 9 = nn n) (k w l r p o : Int32) : C m10_add [.ref 13, .int k, .int w, .int l, .int r, .int p, .int o] m (fun z m' => z = .inl (some (.int (nn n))) ∧ m' = aT m n k w l r p o) := by
  refine C.of (by decide +kernel) (Nat.le_of_ble_eq_true rfl) rfl (w10_add hm ?_)
  have l35 : 3500 ≤ nn n ↔ 3500 ≤ n := nn_le (a := 3500) (by decide) (by omega)
  rw [h, l35, nn_tn (by omega), nn_one]
  have hi := nn_in (a := n) (n := 3500) (by omega) hn
  exact ⟨fun q => by omega, fun _ => ⟨hi, hi, hi, hi, hi, hi, hi, hi, rfl, rfl⟩⟩
theorem aT_fr {S : Nat → Nat → Prop} {m m1 : Mm} {n : Nat} {k w l r p o : Int32} (h : Fr S m m1) (h1 : ∀ a j, 14 ≤ a → a ≤ 21 → S a j) (h2 : S 13 9) : Fr S m (aT m1 n k w l r p o) :=
  ((((((((h.set (h1 14 n (by decide) (by decide))).set (h1 15 n (by decide) (by decide))).set (h1 16 n (by decide) (by decide))).set (h1 17 n (by decide) (by decide))).set (h1 18 n (by decide) (by decide))).set (h1 19 n (by decide) (by decide))).set (h1 20 n (by decide) (by decide))).set (h1 21 n (by decide) (by decide))).set h2
theorem aT_up {m : Mm} {n : Nat} {k w l r p o : Int32} : Up m (aT m n k w l r p o) := Up.fr (aT_fr (S := fun a _ => a < 714) Fr.refl (fun a j _ _ => by omega) (by omega)) (fun a j q => q)
theorem mo_eq {rh rh' : Nat → Nat} {r : Option Nat} (h : ∀ y, r = some y → rh' y = rh y) : mo rh' r = mo rh r := by
  cases r with
  | none => rfl
  | some y => exact congrArg nn (h y rfl)
/-- one thing more, x, at the end -/
theorem HD.add {fs : List Fn} {m : Mm} {cn x : Nat} {D : Nat → Prop} {f : Nat → Th} {mk rh rh' : Nat → Nat} {w p : Int32} (hw : ∀ y, D y → tWf fs (f y)) (h : HD m cn D f mk rh) (hx : ¬ D x) (hr : ∀ y, D y → rh' y = rh y) (hrx : rh' x = cn) (hmk : mk x = 0) (hp : ∀ y, D y → ∀ z, (tA (f y) = some z ∨ tB (f y) = some z) → D z)
    (hx1 : ((tK (f x) = 1 ∨ tK (f x) = 2) → w = nn (tO (f x)))) (hx2 : tK (f x) = 2 → tT (f x) = .nil) (hx3 : tK (f x) = 6 → p = nn (tP (f x)) ∧ tP (f x) < 102 ∧ ∃ e r, mR m (31 + 2 * tP (f x)) 3 = some e ∧ EA m e r (tT (f x)) ∧ w = nn r) (hwx : tWf fs (f x)) :
    HD (aT m cn (nn (tg (tK (f x)))) w (mo rh' (tA (f x))) (mo rh' (tB (f x))) p (nn (tW (f x)))) (cn + 1) (fun y => D y ∨ y = x) f mk rh' := by
  have lt : ∀ y, D y → rh y < cn := h.2.1
  refine ⟨rfl, fun y hy => ?_, fun y z hy hz e => ?_, fun y hy => ?_⟩
  · rcases hy with hy | rfl
    · rw [hr y hy]
      have := lt y hy
      omega
    · rw [hrx]
      omega
  · rcases hy with hy | rfl <;> rcases hz with hz | rfl
    · rw [hr y hy, hr z hz] at e
      exact h.2.2.1 y z hy hz e
    · rw [hr y hy, hrx] at e
      have := lt y hy
      omega
    · rw [hr z hz, hrx] at e
      have := lt z hz
      omega
    · rfl
  · by_cases e : y = x
    · subst e
      rw [hrx]
      refine ⟨⟨?_, fun q => ?_, ?_, ?_, ?_⟩, ⟨fun q => ?_, fun q q2 => (q2 (hx2 q)).elim⟩, ?_⟩
      · simp [aT, mI_set]
      · rw [← hx1 q]; simp [aT, mI_set]
      · simp [aT, mI_set]
      · simp [aT, mI_set]
      · simp [aT, mI_set]
      · obtain ⟨a1, a2, e, r, a3, a4, a5⟩ := hx3 q
        refine ⟨by rw [← a1]; simp [aT, mI_set], a2, e, r, a3, a4.up (hwx.1 q) aT_up, by rw [← a5]; simp [aT, mI_set]⟩
      · rw [hmk]
        simp [aT, mI_set]
        rfl
    · have hyD : D y := hy.resolve_right e
      obtain ⟨a1, a2, a3⟩ := h.2.2.2 y hyD
      have ne : rh y ≠ cn := by have := lt y hyD; omega
      rw [hr y hyD]
      have rd : ∀ a, mI (aT m cn (nn (tg (tK (f x)))) w (mo rh' (tA (f x))) (mo rh' (tB (f x))) p (nn (tW (f x)))) a (rh y) = if a = 13 ∧ rh y = 9 then nn (cn + 1) else mI m a (rh y) := fun a => by
        simp only [aT, mI_set]
        by_cases q : a = 13 ∧ rh y = 9
        · rw [if_pos q, if_pos q]
        · rw [if_neg q, if_neg q, if_neg (by omega), if_neg (by omega), if_neg (by omega), if_neg (by omega), if_neg (by omega), if_neg (by omega), if_neg (by omega), if_neg (by omega)]
      have rd2 : ∀ a, 14 ≤ a → mI (aT m cn (nn (tg (tK (f x)))) w (mo rh' (tA (f x))) (mo rh' (tB (f x))) p (nn (tW (f x)))) a (rh y) = mI m a (rh y) := fun a ha => (rd a).trans (if_neg (by omega))
      refine ⟨?_, a2.fe (hw y hyD) aT_up (rd2 15 (by decide)) (rd2 18 (by decide)) (fun _ _ => rfl), (rd2 20 (by decide)).trans a3⟩
      obtain ⟨b1, b2, b3, b4, b5⟩ := a1
      refine ⟨(rd2 14 (by decide)).trans b1, fun q => (rd2 15 (by decide)).trans (b2 q), ?_, ?_, (rd2 19 (by decide)).trans b5⟩
      · rw [rd2 16 (by decide), b3]
        exact (mo_eq (fun z hz => hr z (hp y hyD z (Or.inl hz)))).symm
      · rw [rd2 17 (by decide), b4]
        exact (mo_eq (fun z hz => hr z (hp y hyD z (Or.inr hz)))).symm
theorem s10_addOpen {m : Mm} {n : Nat} (hm : St m) (hn : n < 3500) (h : mI m 13 9 = nn n) (o : Int32) : C m10_addOpen [.ref 13, .int o] m (fun z m' => z = .inl (some (.int (nn n))) ∧ m' = aT m n 7 0 (-1) (-1) 0 o) := by
  refine C.of (by decide +kernel) (Nat.le_of_ble_eq_true rfl) rfl (w10_addOpen hm (C.mono (s10_add hm hn h _ _ _ _ _ _) ?_))
  rintro z m' ⟨rfl, rfl⟩
  exact ⟨_, rfl, St.i (St.i (St.i (St.i (St.i (St.i (St.i (St.i (St.i hm)))))))), rfl, rfl⟩
theorem tg8 {k : Nat} (h : k < 8) : nn (tg k) = 8 ↔ k = 7 := by
  have : ∀ k, k < 8 → (nn (tg k) = 8 ↔ k = 7) := by decide +kernel
  exact this k h
theorem tg7 {k : Nat} (h : k < 8) : nn (tg k) = 7 ↔ k = 0 := by
  have : ∀ k, k < 8 → (nn (tg k) = 7 ↔ k = 0) := by decide +kernel
  exact this k h
theorem tgk {k : Nat} (h : k < 8) : ∀ j, 1 ≤ j → j < 7 → (nn (tg k) = nn j ↔ k = j) := by
  have : ∀ k, k < 8 → ∀ j, j < 7 → 1 ≤ j → (nn (tg k) = nn j ↔ k = j) := by decide +kernel
  exact fun j j1 j2 => this k h j j2 j1
theorem s10_find {m : Mm} {n : Nat} {f : Nat → Th} {mk rh : Nat → Nat} {rk : Nat → Nat} (hm : St m) (h : HT m n f mk rh) (hn : n < 3500) (hk : ∀ x, x < n → tK (f x) < 8) (hl : LkR n f rk) {x : Nat} (hx : x < n) : C m10_find [.ref 13, .int (nn (rh x))] m (fun r m' => r = .inl (some (.int (nn (rh (rootF f n x))))) ∧ m' = m) := by
  refine C.of (by decide +kernel) (Nat.le_of_ble_eq_true rfl) rfl (w10_find hm ?_)
  have loop : ∀ (d y k : Nat), nrk rk n y < d → k + d ≤ n + 1 → y < n → rootF f n y = rootF f n x → V m10_find 4 [some (.ref 13), some (.int (nn (rh x))), some (.int (nn (rh y))), some (.int (nn k))] [] m (fun r m' => r = .inl (some (.int (nn (rh (rootF f n x))))) ∧ m' = m) := by
    intro d
    induction d with
    | zero => intro y k h1; omega
    | succ d ih =>
      intro y k h1 hkd hy he
      have hry := h.2.1 y hy
      have l35 : 3500 ≤ nn k ↔ 3500 ≤ k := nn_le (a := 3500) (by decide) (by omega)
      obtain ⟨⟨h2, -, h3, -⟩, -, -⟩ := h.2.2.2 y hy
      have hi := nn_in (a := rh y) (n := 3500) (by omega) (by omega)
      refine w10_find_4 hm ?_
      rw [l35, nn_tn (by omega), h2, tg8 (hk y hy), nn_one]
      refine ⟨fun q => by omega, fun _ => ⟨hi, fun q => ⟨?_, rfl⟩, fun q => ⟨hi, ?_⟩⟩⟩
      · rw [← he, rootF_no q]
      · obtain ⟨z, z1, z2, z3⟩ := hl.nr y hy q
        rw [h3, z1]
        refine ih z (k + 1) (by omega) (by omega) z2 ?_
        rw [← he]
        exact (root_lk (s := ((n, f), fun _ => 0, (0, fun _ _ => none), (0, fun _ => (0, 0, [], [], [], 0)), 0, 0, 0, 0)) hl hy q z1).symm
  exact loop (nrk rk n x + 1) x 0 (by omega) (by have := nrk_n (rk := rk) hx; omega) hx rfl
