/-! THE OTHER ONE: a task -/
/-- what is needed of a state whose next task is taken -/
def FactsQ (fs : List Fn) (p : Ac) (t : Tk) : Prop := QOK fs p ∧ PLK p ∧ aP p < 102 ∧ (t.1 = 0 → aL p < 101) ∧ aC p ≤ 3420 ∧ cn3 (allK p) ≤ 4979 ∧ (∃ rk, LkR (aC p) (aF p) rk) ∧ (∀ x, x < aC p → DKx p x) ∧ ¬ pdT p ∧ (∀ j, 1 ≤ j → j ≤ aL p → lX (aV p j) < aC p) ∧ (∀ j, j < aL p → (lK (aV p j)).head?.map (fun t => t.1) ≠ some 12) ∧ (match t.1 with
  | 0 => t.2.1 < aC p ∧ FOQ fs p (root p t.2.1)
  | 1 => t.2.1 < aC p
  | 4 => t.2.1 < aC p ∧ t.2.2.1 < aC p ∧ tK (aF p t.2.2.1) = 2 ∧ tT (aF p t.2.2.1) ≠ .nil ∧ (∃ xf, fs[tO (aF p t.2.2.1)]? = some xf) ∧ twf fs.length (fpf fs) t.2.2.2.2 ∧ tcode t.2.2.2.2 < 20 ∧ tW (aF p t.2.2.1) ≤ aL p
  | 6 => t.2.1 < aC p ∧ tK (aF p t.2.1) = 2 ∧ tT (aF p t.2.1) ≠ .nil ∧ tsz (tT (aF p t.2.1)) ≤ 12
  | 7 => t.2.1 < aC p
  | 8 => t.2.1 < aC p ∧ tW (aF p t.2.1) ≤ aL p
  | 9 => t.2.1 < aC p ∧ 1 ≤ aL p ∧ lX (aV p (aL p)) = t.2.1 ∧ topK p = []
  | 10 => t.2.1 < aC p ∧ t.2.2.1 < aC p ∧ t.2.2.2.1 < aC p ∧ tK (aF p (root p t.2.1)) < 2 ∧ tK (aF p (root p t.2.2.1)) < 2 ∧ tW (aF p t.2.2.2.1) ≤ aL p
  | 11 => t.2.1 < aC p ∧ t.2.2.1 < aC p ∧ t.2.2.2.1 < aC p ∧ tK (aF p (root p t.2.1)) < 2 ∧ tK (aF p (root p t.2.2.1)) < 2 ∧ ∃ l e r, topK p = l ++ e :: r ∧ (∀ t, t ∈ l → t.1 = 11) ∧ e.1 = 8 ∧ r.head?.map (fun t => t.1) ≠ some 12
  | 12 => 1 ≤ aL p ∧ lU (aV p (aL p)) < 20 ∧ aR p < 1000 ∧ tK (aF p (lX (aV p (aL p)))) = 6 ∧ NmO (aN p (tP (aF p (lX (aV p (aL p)))))) (aC p) (tT (aF p (lX (aV p (aL p)))))
  | _ => False)
theorem PX.tr {m m1 m' : Mm} {n : Nat} {rh : Nat → Nat} {s' : Ac} {r : Option Value ⊕ String} (z : Zr m m1) (h : PX m1 n rh s' r m') : PX m n rh s' r m' := ⟨h.1, z.trans h.2.1, h.2.2⟩
theorem s3_doNext {fs : List Fn} {m : Mm} {s : Ac} {rh : Nat → Nat} {t : Tk} {l : List Tk} (hm : St m) (hF : CF m fs) (hpw : PW fs [] none) (h : HM m s rh (pdT s)) (hE : aE s = 0) (hO : QOK fs s) (hk : topK s = t :: l) (hfa : FactsQ fs (setK s l) t) : C m3_doNext [.ref 12] m (PX m (aC s) rh (doQ fs (setK s l) t)) := by
  refine C.of (by decide +kernel) (Nat.le_of_ble_eq_true rfl) rfl (w3_doNext hm ?_)
  obtain ⟨f1, f2, f3, f4, f5, f6, f7, f8⟩ := h.all hE
  have hf8 := hpw.1
  have hn3 : t.1 ≠ 3 := by
    intro q
    have := hfa.2.2.2.2.2.2.2.2.2.2.2
    rw [q] at this
    exact this
  have hA : allK s = t :: allK (setK s l) := by
    rw [allK_setK]
    show topK s ++ flatB (aV s) (aL s) = _
    rw [hk]
    rfl
  have hcn : cn3 (allK s) = cn3 (allK (setK s l)) + 1 := by
    rw [hA]
    exact if_neg hn3
  obtain ⟨p, hp⟩ : ∃ p, setK s l = p := ⟨_, rfl⟩
  rw [hp] at hfa hA hcn ⊢
  obtain ⟨O, P, g1, g2, g3, g4, ⟨rk, g5⟩, g6, g7, g8, g9, fact⟩ := hfa
  have hAp : allK p = l ++ flatB (aV s) (aL s) := by
    rw [← hp]
    exact allK_setK
  have hpp : aC p = aC s ∧ aE p = 0 := by
    rw [← hp]
    exact ⟨rfl, hE⟩
  obtain ⟨n, hn⟩ : ∃ n, cn3 (allK p) = n := ⟨_, rfl⟩
  rw [hn] at hcn
  have h23 : mI m 23 4 - 1 = nn n := by
    rw [f4, hcn]
    exact nn_pred (by omega)
  have hHK := f5
  rw [hA] at hHK
  have hH := hHK.1 hn3
  have hHQ := hHK.2
  rw [hn] at hH
  have hv := nn_in (a := n) (n := 5000) (by omega) (by omega)
  rw [h23, nn_tn (a := n) (by omega)]
  generalize hM : mSetI m 23 4 (nn n) = M
  have fr : Fr SKc m M := by
    rw [← hM]
    exact Fr.refl.set (Or.inr ⟨rfl, rfl⟩)
  have sM := fr.st hm
  have z := SKc_zr fr
  have R : HM M p rh (pdT s) := by
    rw [← hp]
    refine h.k hE hO fr ?_ ?_
    · rw [← hM, mI_set, if_pos ⟨rfl, rfl⟩, ← hAp, hn]
    · rw [← hAp, ← hM]
      refine hHQ.fe2 (fs := fs) (fun t ht => (O.2.2.2.2.2.2.2.2.2.1 t ht).1) ?_ (fun a a1 a2 => mI_fn (by omega)) rfl rfl
      rw [hM]
      exact z.up
  have hE2 := hpp.2
  have Rn : t.1 ≠ 12 → HM M p rh False := fun q => R.pd ⟨fun w => q (by
    unfold pdT at w
    rw [hk] at w
    exact Option.some.inj w), fun w => w.elim⟩
  have px : ∀ {y : Mi} {args : List Value} {s' : Ac}, doQ fs p t = s' → C y args M (PX M (aC p) rh s') → C y args M (fun o m5 => o = .inl none ∧ St m5 ∧ PX m (aC s) rh (doQ fs p t) (.inl none) m5) := by
    intro y args s' e k
    refine C.mono k ?_
    rintro o m5 ⟨rfl, z5, s5, R5⟩
    refine ⟨rfl, s5, rfl, z.trans z5, s5, ?_⟩
    rw [e, ← hpp.1]
    exact R5
  have pq : ∀ {y : Mi} {args : List Value} {s' : Ac}, doQ fs p t = s' → C y args M (PQ M s' rh) → C y args M (fun o m5 => o = .inl none ∧ St m5 ∧ PX m (aC s) rh (doQ fs p t) (.inl none) m5) := fun e k => px e (C.mono k (fun _ _ w => w.px))
  have fi : ∀ {x : Nat} {K : Option Value ⊕ String → Mm → Prop} {pd : Prop}, HM M p rh pd → x < aC p → K (.inl (some (.int (nn (rh (root p x)))))) M → C m10_find [.ref 13, .int (nn (rh x))] M K := fun {x K pd} R' hx k => by
    refine C.mono (s10_find sM (R'.all hE2).1 (by omega) (fun x hx => (O.2.2.2.2.2.2.1 x hx).2.1) g5 hx) ?_
    rintro o m' ⟨rfl, rfl⟩
    exact k
  have fok : ∀ {o : Nat}, o ≤ aL p → FOK p o := fun {o} ho => ⟨ho, fun q => g8 o q ho, g8, g9⟩
  have b1 := O.1
  have hrr : ∀ x, x < aC p → vp_in (nn (rh x)) 3500 ∧ rh x < 2147483648 := fun x hx => by
    have := f1.2.1 x (by omega)
    exact ⟨nn_in (by omega) (by omega), by omega⟩
  have t19 : ∀ x, x < aC p → mI m 19 (rh x) = nn (tW (aF p x)) := fun x hx => by
    have := (f1.2.2.2 x (by omega)).1.2.2.2.2
    rw [← hp]
    exact this
  refine ⟨hv, hv, hv, hv, ?_⟩
  obtain ⟨act, x1, x2, x3, tr⟩ := t
  simp only at fact hH
  unfold HK at hH
  simp only at hH
  split at fact
  · obtain ⟨h1, h2⟩ := hH
    rw [h1, h2]
    obtain ⟨y1, y2⟩ := fact
    have R' := Rn (show (0 : Nat) ≠ 12 by decide)
    refine ⟨fun _ => ?_, fun q => absurd q (by decide), fun q => absurd q (by decide), fun q => absurd q (by decide), fun q => absurd q (by decide), fun q => absurd q (by decide), fun q => absurd q (by decide), fun q => absurd q (by decide), fun q => absurd q (by decide), fun w0 w1 w2 w3 w4 w5 w6 w7 w8 => (w0 rfl).elim⟩
    exact fi R' y1 ⟨_, rfl, sM, pq rfl (s3_force sM (hF.zr hpw z) hpw R' hE2 O P (by omega) g1 (g2 rfl) y2 (fok y2.2.1) g7)⟩
  · obtain ⟨h1, h2⟩ := hH
    rw [h1, h2]
    have R' := Rn (show (1 : Nat) ≠ 12 by decide)
    have hr := (root_end g5 fact).2
    refine ⟨fun q => absurd q (by decide), fun _ => ?_, fun q => absurd q (by decide), fun q => absurd q (by decide), fun q => absurd q (by decide), fun q => absurd q (by decide), fun q => absurd q (by decide), fun q => absurd q (by decide), fun q => absurd q (by decide), fun w0 w1 w2 w3 w4 w5 w6 w7 w8 => (w1 rfl).elim⟩
    refine fi R' fact ⟨_, rfl, sM, pq (s' := wholeQ p (root p x1)) rfl (C.mono (s3_makeWhole sM R' hE2 O (by omega) hr (g6 _ hr) g8) ?_)⟩
    rintro o m5 ⟨rfl, z5, s5, R5⟩
    refine ⟨rfl, z5, s5, R5.fin (fun _ => ?_)⟩
    unfold wholeQ
    split
    · exact pdT_push (show (0 : Nat) ≠ 12 by decide)
    · split
      · refine pdT_push4 (fun u hu => ?_) g7
        rcases List.mem_append.mp hu with w | w
        · rcases List.mem_append.mp w with w | w
          · have : ∀ r : Option Nat, u ∈ oT 1 r → u.1 = 1 := fun r hr => by
              cases r with
              | none => cases hr
              | some y => rw [List.mem_singleton.mp hr]
            rw [this _ w]
            decide
          · have : ∀ r : Option Nat, u ∈ oT 1 r → u.1 = 1 := fun r hr => by
              cases r with
              | none => cases hr
              | some y => rw [List.mem_singleton.mp hr]
            rw [this _ w]
            decide
        · rw [List.mem_singleton.mp w]
          exact (show ¬ (3 : Nat) = 12 by decide)
      · exact g7
  · obtain ⟨h1, h2, h3, pl, sc, h4, h5, h6, h7⟩ := hH
    rw [h1, h2, h3, h4]
    obtain ⟨y1, y2, y3, y4, ⟨xf, y5⟩, y6, y7, y8⟩ := fact
    have R' := Rn (show (4 : Nat) ≠ 12 by decide)
    refine ⟨fun q => absurd q (by decide), fun q => absurd q (by decide), fun _ => ?_, fun q => absurd q (by decide), fun q => absurd q (by decide), fun q => absurd q (by decide), fun q => absurd q (by decide), fun q => absurd q (by decide), fun q => absurd q (by decide), fun w0 w1 w2 w3 w4 w5 w6 w7 w8 => (w2 rfl).elim⟩
    exact px rfl (s3_match (w := x3) sM ((hF.zr hpw z).1) R' hE2 O g5 g6 (by omega) (by omega) y1 y2 y3 y4 y5 y6 y7 h5 (by rw [fr.i (by unfold SKc; omega)]; exact h6) (h7.up y6 z.up (fun j _ => by rw [fr.r])) g8 (fok y8) g7)
  · obtain ⟨h1, h2⟩ := hH
    rw [h1, h2]
    obtain ⟨y1, y2, y3, y4⟩ := fact
    have R' := Rn (show (6 : Nat) ≠ 12 by decide)
    refine ⟨fun q => absurd q (by decide), fun q => absurd q (by decide), fun q => absurd q (by decide), fun _ => ?_, fun q => absurd q (by decide), fun q => absurd q (by decide), fun q => absurd q (by decide), fun q => absurd q (by decide), fun q => absurd q (by decide), fun w0 w1 w2 w3 w4 w5 w6 w7 w8 => (w3 rfl).elim⟩
    exact px rfl (s3_applyRule hf8 sM R' hE2 O P (by omega) g3 y1 y2 y3 y4 g8)
  · obtain ⟨h1, h2⟩ := hH
    rw [h1, h2]
    have R' := Rn (show (7 : Nat) ≠ 12 by decide)
    refine ⟨fun q => absurd q (by decide), fun q => absurd q (by decide), fun q => absurd q (by decide), fun q => absurd q (by decide), fun q => absurd q (by decide), fun _ => ?_, fun q => absurd q (by decide), fun q => absurd q (by decide), fun q => absurd q (by decide), fun w0 w1 w2 w3 w4 w5 w6 w7 w8 => (w5 rfl).elim⟩
    refine pq (s' := data p x1 1 none none) rfl (C.mono (s10_data (x := x1) (k := 1) (a := none) (b := none) sM R' hE2 O fact g8 rfl rfl) ?_)
    rintro o m5 ⟨rfl, fr5, R5⟩
    exact ⟨rfl, STc_zr fr5, fr5.st sM, R5.fin (fun _ => g7)⟩
  · obtain ⟨h1, h2⟩ := hH
    obtain ⟨y1, y2⟩ := fact
    have h19 := t19 x1 y1
    rw [h1, h2, nn_tn (hrr x1 y1).2, h19]
    have R' := Rn (show (8 : Nat) ≠ 12 by decide)
    refine ⟨fun q => absurd q (by decide), fun q => absurd q (by decide), fun q => absurd q (by decide), fun q => absurd q (by decide), fun q => absurd q (by decide), fun q => absurd q (by decide), fun q => absurd q (by decide), fun _ => ?_, fun q => absurd q (by decide), fun w0 w1 w2 w3 w4 w5 w6 w7 w8 => (w7 rfl).elim⟩
    exact ⟨(hrr x1 y1).1, pq rfl (s3_fail sM R' hE2 O (fok y2))⟩
  · obtain ⟨h1, h2⟩ := hH
    obtain ⟨y1, y2, y3, y4⟩ := fact
    rw [h1]
    have R' := Rn (show (9 : Nat) ≠ 12 by decide)
    refine ⟨fun q => absurd q (by decide), fun q => absurd q (by decide), fun q => absurd q (by decide), fun q => absurd q (by decide), fun q => absurd q (by decide), fun q => absurd q (by decide), fun q => absurd q (by decide), fun q => absurd q (by decide), fun q => absurd q (by decide), fun _ _ _ _ _ _ _ _ _ => ?_⟩
    exact pq rfl (s3_endRun sM R' hE2 O y2 y3 y1 y4 g8 g9)
  · obtain ⟨h1, h2, h3, h4⟩ := hH
    obtain ⟨y1, y2, y3, y4, y5, y6⟩ := fact
    have h19 : mI M 19 (rh x3) = nn (tW (aF p x3)) := by
      rw [fr.i (by unfold SKc; omega)]
      exact t19 x3 y3
    rw [h1, h2, h3, h4, nn_tn (hrr x3 y3).2]
    have R' := Rn (show (10 : Nat) ≠ 12 by decide)
    refine ⟨fun q => absurd q (by decide), fun q => absurd q (by decide), fun q => absurd q (by decide), fun q => absurd q (by decide), fun _ => ?_, fun q => absurd q (by decide), fun q => absurd q (by decide), fun q => absurd q (by decide), fun q => absurd q (by decide), fun w0 w1 w2 w3 w4 w5 w6 w7 w8 => (w4 rfl).elim⟩
    refine fi R' y1 ⟨_, rfl, sM, fi R' y2 ⟨_, rfl, sM, (hrr x3 y3).1, ?_⟩⟩
    rw [h19]
    exact pq rfl (s3_unite sM R' hE2 O g5 g6 (by omega) (root_end g5 y1).2 (root_end g5 y2).2 y3 y4 y5 g8 (fok y6) g7)
  · obtain ⟨h1, h2, h3, h4⟩ := hH
    obtain ⟨y1, y2, y3, y4, y5, l', e', r', y6, y7, y8, y9⟩ := fact
    rw [h1, h2, h3, h4]
    have R' := Rn (show (11 : Nat) ≠ 12 by decide)
    refine ⟨fun q => absurd q (by decide), fun q => absurd q (by decide), fun q => absurd q (by decide), fun q => absurd q (by decide), fun q => absurd q (by decide), fun q => absurd q (by decide), fun _ => ?_, fun q => absurd q (by decide), fun q => absurd q (by decide), fun w0 w1 w2 w3 w4 w5 w6 w7 w8 => (w6 rfl).elim⟩
    exact fi R' y1 ⟨_, rfl, sM, fi R' y2 ⟨_, rfl, sM, pq rfl (s3_ask sM R' hE2 O (by omega) (root_end g5 y1).2 (root_end g5 y2).2 y3 y4 y5 (g6 _ (root_end g5 y1).2) (g6 _ (root_end g5 y2).2) g8 y6 y7 y8 y9)⟩⟩
  · obtain ⟨y1, y2, y3, y4, y5⟩ := fact
    have h129 : mI m 12 9 = nn (aL p) := by
      rw [← hp]
      exact f3.1
    have hb3 := O.2.2.1
    rw [hH, h129, nn_tn (a := aL p) (by omega)]
    have R' : HM M p rh True := R.pd ⟨fun _ => trivial, fun _ => by
      unfold pdT
      rw [hk]
      rfl⟩
    refine ⟨fun q => absurd q (by decide), fun q => absurd q (by decide), fun q => absurd q (by decide), fun q => absurd q (by decide), fun q => absurd q (by decide), fun q => absurd q (by decide), fun q => absurd q (by decide), fun q => absurd q (by decide), fun _ => ?_, fun w0 w1 w2 w3 w4 w5 w6 w7 w8 => (w8 rfl).elim⟩
    exact ⟨nn_in (by omega) (by omega), px rfl (s3_startRunWithin hf8 sM R' hE2 O P (by omega) g3 y1 y2 y3 y4 y5 g8)⟩
  · exact fact.elim
