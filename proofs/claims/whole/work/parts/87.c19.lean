/-! THE OTHER ONE: making the things of a tree, the whole behind its parts -/
def STd (a j : Nat) : Prop := STc a j ∨ a = 30
def MK (m0 m : Mm) (cn kk : Nat) (D : Nat → Prop) (F : Nat → Th) (mk rh : Nat → Nat) : Prop := HD m cn D F mk rh ∧ Fr STd m0 m ∧ (∀ x, D x → ∃ j, j ≤ kk ∧ mI m 21 (rh x) = nn j) ∧ ∀ y, D y → ∀ z, (tA (F y) = some z ∨ tB (F y) = some z) → D z
theorem STd_up {m m' : Mm} (h : Fr STd m m') : Up m m' := Up.fr h (fun a j q => by unfold STd STc at q; omega)
/-- a row of made things that is written -/
theorem MK.w {fs : List Fn} {m0 m : Mm} {cn kk : Nat} {D : Nat → Prop} {F : Nat → Th} {mk rh : Nat → Nat} {i : Nat} {v : Int32} (hw : ∀ y, tWf fs (F y)) (h : MK m0 m cn kk D F mk rh) : MK m0 (mSetI m 30 i v) cn kk D F mk rh := by
  obtain ⟨h1, h2, h3, h4⟩ := h
  refine ⟨h1.fe (fs := fs) (fun x _ => hw x) (Up.fr (S := fun a _ => a < 714) (Fr.refl.set (by omega)) (fun a j q => q)) (fun a a1 a2 => mI_fn (by omega)) rfl (fun _ _ => rfl), h2.set (Or.inr rfl), fun x hx => ?_, h4⟩
  obtain ⟨j, j1, j2⟩ := h3 x hx
  exact ⟨j, j1, by rw [mI_set, if_neg (by omega)]; exact j2⟩
theorem MK.iff {m0 m : Mm} {cn kk : Nat} {D D' : Nat → Prop} {F : Nat → Th} {mk rh : Nat → Nat} (h : MK m0 m cn kk D F mk rh) (e : ∀ x, D' x ↔ D x) : MK m0 m cn kk D' F mk rh := by
  have : D' = D := funext fun x => propext (e x)
  rw [this]
  exact h
theorem aT_g {m : Mm} {n : Nat} {k w l r p o : Int32} {a j : Nat} (h : ¬ (14 ≤ a ∧ a ≤ 21 ∧ j = n)) (h2 : ¬ (a = 13 ∧ j = 9)) : mI (aT m n k w l r p o) a j = mI m a j := by
  simp only [aT, mI_set]
  rw [if_neg h2, if_neg (by omega), if_neg (by omega), if_neg (by omega), if_neg (by omega), if_neg (by omega), if_neg (by omega), if_neg (by omega), if_neg (by omega)]
/-- a thing more -/
theorem MK.add {fs : List Fn} {m0 m : Mm} {cn kk x : Nat} {D : Nat → Prop} {F : Nat → Th} {mk rh : Nat → Nat} {w p : Int32} {t : Th} (hw : ∀ y, tWf fs (F y)) (h : MK m0 m cn kk D F mk rh) (hx : ¬ D x) (hF : F x = t) (hmk : mk x = 0) (hp : ∀ z, (tA t = some z ∨ tB t = some z) → D z) (hx1 : (tK t = 1 ∨ tK t = 2) → w = nn (tO t)) (hx2 : tK t = 2 → tT t = .nil) (hx3 : tK t = 6 → p = nn (tP t) ∧ tP t < 102 ∧ ∃ e r, mR m (31 + 2 * tP t) 3 = some e ∧ EA m e r (tT t) ∧ w = nn r) : MK m0 (aT m cn (nn (tg (tK t))) w (mo rh (tA t)) (mo rh (tB t)) p (nn (tW t))) (cn + 1) kk (fun y => D y ∨ y = x) F mk (up1 rh x cn) := by
  obtain ⟨h1, h2, h3, h4⟩ := h
  have ru : ∀ y, D y → up1 rh x cn y = rh y := fun y hy => up1_ne (fun q => hx (by rw [← q]; exact hy))
  have key := h1.add (fs := fs) (x := x) (rh' := up1 rh x cn) (w := w) (p := p) (fun y _ => hw y) hx ru up1_at hmk h4 (by rw [hF]; exact hx1) (by rw [hF]; exact hx2) (by rw [hF]; exact hx3) (hw x)
  have mu : ∀ r : Option Nat, (∀ z, r = some z → D z) → mo (up1 rh x cn) r = mo rh r := fun r hr => mo_eq (fun y hy => ru y (hr y hy))
  rw [hF, mu _ (fun z hz => hp z (Or.inl hz)), mu _ (fun z hz => hp z (Or.inr hz))] at key
  refine ⟨key, aT_fr h2 (fun a j a1 a2 => Or.inl (Or.inl ⟨a1, a2⟩)) (Or.inl (Or.inr ⟨rfl, rfl⟩)), fun y hy => ?_, fun y hy z hz => ?_⟩
  · by_cases e : y = x
    · rw [e, up1_at]
      refine ⟨0, Nat.zero_le _, ?_⟩
      simp [aT, mI_set]
      rfl
    · have hy := hy.resolve_right e
      obtain ⟨j, j1, j2⟩ := h3 y hy
      have := h1.2.1 y hy
      rw [ru y hy]
      exact ⟨j, j1, by rw [aT_g (by omega) (by omega)]; exact j2⟩
  · rcases hy with hy | rfl
    · exact Or.inl (h4 y hy z hz)
    · rw [hF] at hz
      exact Or.inl (hp z hz)
/-- nodes within a SOME are passed over -/
theorem mk_skip {nf : Nat} {fp : Nat → Nat} {m : Mm} {e n root ly : Nat} {v3 v4 : Int32} {K : Option Value ⊕ String → Mm → Prop} (hm : St m) (hex : isExp m e n) (hn : n ≤ 12) (hr : root < n) {t : Tr} (hw : twf nf fp t) : ∀ lo ly2, ly < ly2 → ly2 + tsz t < 100 → Pc m e t lo ly2 → lo + tsz t ≤ root + 1 → V m3_makeThings 16 [some (.ref 12), some (.ref e), some (.int (nn root)), some (.int v3), some (.int v4), some (.int (nn ly)), some (.int (nn (lo + tsz t)))] [] m K → V m3_makeThings 16 [some (.ref 12), some (.ref e), some (.int (nn root)), some (.int v3), some (.int v4), some (.int (nn ly)), some (.int (nn lo))] [] m K := by
  have one : ∀ at' ly2, ly < ly2 → ly2 < 2147483648 → at' ≤ root → mI m (e + 6) at' = nn ly2 → V m3_makeThings 16 [some (.ref 12), some (.ref e), some (.int (nn root)), some (.int v3), some (.int v4), some (.int (nn ly)), some (.int (nn (at' + 1)))] [] m K → V m3_makeThings 16 [some (.ref 12), some (.ref e), some (.int (nn root)), some (.int v3), some (.int v4), some (.int (nn ly)), some (.int (nn at'))] [] m K := by
    intro at' ly2 h1 h1b h2 h3 k
    refine w3_makeThings_16 hm hex ?_
    have l1 : nn root < nn at' ↔ root < at' := nn_lt (by omega) (by omega)
    have e1 : nn ly2 = nn ly ↔ ly2 = ly := nn_eq (by omega) (by omega)
    rw [l1, nn_tn (a := at') (by omega), h3, e1, nn_one]
    exact ⟨fun q => by omega, fun _ => ⟨nn_in (by omega) (by omega), fun _ => k, fun q => by omega⟩⟩
  refine tr_ind (nf := nf) (fp := fp) (P := fun t => ∀ lo ly2, ly < ly2 → ly2 + tsz t < 100 → Pc m e t lo ly2 → lo + tsz t ≤ root + 1 → V m3_makeThings 16 [some (.ref 12), some (.ref e), some (.int (nn root)), some (.int v3), some (.int v4), some (.int (nn ly)), some (.int (nn (lo + tsz t)))] [] m K → V m3_makeThings 16 [some (.ref 12), some (.ref e), some (.int (nn root)), some (.int v3), some (.int v4), some (.int (nn ly)), some (.int (nn lo))] [] m K) ?_ ?_ ?_ (tsz t) t (Nat.le_refl _) hw
  · intro c _ _ lo ly2 h1 h2 hp h3 k
    rw [tsz_lf] at h2 h3 k
    rw [Pc_lf] at hp
    exact one lo ly2 h1 (by omega) (by omega) hp.2.2.2.2.2 k
  · intro c a _ _ _ ih lo ly2 h1 h2 hp h3 k
    rw [tsz_un] at h2 h3 k
    rw [Pc_un] at hp
    have hlc : ly2 ≤ lyr c ly2 ∧ lyr c ly2 ≤ ly2 + 1 := by
      unfold lyr
      split <;> omega
    refine ih lo (lyr c ly2) (by omega) (by omega) hp.2 (by omega) (one (lo + tsz a) ly2 h1 (by omega) (by omega) hp.1.2.2.2.2.2 ?_)
    rw [show lo + tsz a + 1 = lo + (1 + tsz a) by omega]
    exact k
  · intro c a b _ _ _ _ iha ihb lo ly2 h1 h2 hp h3 k
    rw [tsz_bi] at h2 h3 k
    rw [Pc_bi] at hp
    have hlc : ly2 ≤ lyr c ly2 ∧ lyr c ly2 ≤ ly2 + 1 := by
      unfold lyr
      split <;> omega
    refine iha lo (lyr c ly2) (by omega) (by omega) hp.2.1 (by omega) (ihb (lo + tsz a) (lyr c ly2) (by omega) (by omega) hp.2.2 (by omega) (one (lo + tsz a + tsz b) ly2 h1 (by omega) (by omega) hp.1.2.2.2.2.2 ?_))
    rw [show lo + tsz a + tsz b + 1 = lo + (1 + tsz a + tsz b) by omega]
    exact k
