/-! THE REFERENCE: data of a pattern -/
theorem pat_kids {nf : Nat} {fp : Nat → Nat} {t : Tr} (hw : twf nf fp t) (h10 : 10 ≤ tcode t) (h20 : tcode t < 20) : ((tcode t - 10) / 2 = 0 ∧ kid1 t = none ∧ kid2 t = none) ∨ (∃ a, (tcode t - 10) / 2 = 1 ∧ kid1 t = some a ∧ kid2 t = none ∧ t = tun (tcode t) a ∧ twf nf fp a) ∨ ∃ a b, (tcode t - 10) / 2 = 2 ∧ kid1 t = some a ∧ kid2 t = some b ∧ t = tbi (tcode t) a b ∧ twf nf fp a ∧ twf nf fp b := by
  have hp : ∀ c, 10 ≤ c → c < 20 → prt fp c = (c - 10) / 2 := fun c h1 h2 => by
    unfold prt
    rw [if_neg (by omega), if_pos h2]
  rcases tr_cases hw with ⟨c, rfl, r1, r2⟩ | ⟨c, a, rfl, r1, r2, r3⟩ | ⟨c, a, b, rfl, r1, r2, r3, r4⟩
  · exact Or.inl ⟨(hp c h10 h20).symm.trans r2, rfl, rfl⟩
  · exact Or.inr (Or.inl ⟨a, (hp c h10 h20).symm.trans r2, rfl, rfl, rfl, r3⟩)
  · exact Or.inr (Or.inr ⟨a, b, (hp c h10 h20).symm.trans r2, rfl, rfl, rfl, r3, r4⟩)
section MD
variable {fs : List Fn} {m0 : Mm} {q y c : Nat} {t : Tr} {v2 : Int32}
theorem md_tasks {m : Mm} {s : Ac} {r k : Nat} {v8 v9 : Option Value} (s0 : St m0) (hF : MF m fs) (hf8 : fs.length ≤ 8) (fr : Fr SR m0 m) (h : RM m s) (hE : aE s = 0) (hK : (allK s).length ≤ 19000) (hC : aC s ≤ 5002) (hw : twf fs.length (fpf fs) t) (hq : q + tsz t ≤ 876) (ht : TC m q t) (h10 : 10 ≤ tcode t) (h20 : tcode t < 20) (hk : k = tcode t - 10) (hr : r < aC s) (hO : tO (aF s r) < 100) (hk1 : tK (aF s r) = 1) (hka : tO (aF s r) = k → (1 ≤ k / 2 → (tA (aF s r)).isSome = true) ∧ (2 ≤ k / 2 → (tB (aF s r)).isSome = true)) (hc : c < aC s) (ho : tW (aF s c) ≤ aL s)
    (hfail : ¬ tO (aF s r) = k → BD s ∧ WT fs s ∧ PW fs [] none ∧ (1 ≤ tW (aF s c) → lX (aV s (tW (aF s c))) < aC s ∧ tK (aF s (lX (aV s (tW (aF s c))))) = 6)) :
    V m12_matchData 155 [some (.ref 668), some (.int (nn q)), some (.int v2), some (.int (nn c)), some (.int (nn r)), some (.int (nn k)), some (.int (nn (k / 2))), v8, v9] [] m (PM m0 (stl (if tO (aF s r) = k then push s (mt1 (kid1 t) (tA (aF s r)) c ++ mt1 (kid2 t) (tB (aF s r)) c) else failA s (tW (aF s c))))) := by
  have hm := fr.st s0
  obtain ⟨f1, f2, f3, f4, f5, f6⟩ := h.all hE
  obtain ⟨⟨t1, t2, t3, t4, t5⟩, -, -⟩ := f1.2 r hr
  obtain ⟨⟨-, -, -, -, c5⟩, -, -⟩ := f1.2 c hc
  have hk10 : k < 10 := by omega
  have hi := nn_in (a := r) (n := 6000) (by omega) (by omega)
  have hic := nn_in (a := c) (n := 6000) (by omega) (by omega)
  have e678 : mI m 678 r = nn (tO (aF s r)) := t2 (by rw [hk1]; decide)
  have ek : nn (tO (aF s r)) = nn k ↔ tO (aF s r) = k := nn_eq (by omega) (by omega)
  have l1 : nn (k / 2) ≤ 1 ↔ k / 2 ≤ 1 := nn_le (b := 1) (by omega) (by decide)
  have l0 : nn (k / 2) ≤ 0 ↔ k / 2 ≤ 0 := nn_le (b := 0) (by omega) (by decide)
  have wk : ∀ {pc : Nat} {M : Mm} {K : Option Value ⊕ String → Mm → Prop}, V m12_matchData pc [some (.ref 668), some (.int (nn q)), some (.int v2), some (.int (nn c)), some (.int (nn r)), some (.int (nn k)), some (.int (nn (k / 2))), none, none] [] M K → V m12_matchData pc [some (.ref 668), some (.int (nn q)), some (.int v2), some (.int (nn c)), some (.int (nn r)), some (.int (nn k)), some (.int (nn (k / 2))), v8, v9] [] M K := fun {pc M K} k0 =>
    V.weak (L' := [some (.ref 668), some (.int (nn q)), some (.int v2), some (.int (nn c)), some (.int (nn r)), some (.int (nn k)), some (.int (nn (k / 2))), none, none]) rfl (fun i v hi => by
      match i, hi with
      | 0, hi => exact hi
      | 1, hi => exact hi
      | 2, hi => exact hi
      | 3, hi => exact hi
      | 4, hi => exact hi
      | 5, hi => exact hi
      | 6, hi => exact hi
      | 7, hi => cases hi
      | 8, hi => cases hi
      | n + 9, hi => cases hi) k0
  refine wk (u12_matchData_155 hm ?_)
  rw [nn_tn (a := r) (by omega), nn_tn (a := c) (by omega), e678, ek, c5]
  refine ⟨hi, fun w => ?_, fun w => ⟨hic, ?_⟩⟩
  · rw [if_pos w, l1]
    obtain ⟨ka, kb⟩ := hka w
    have kids := pat_kids hw h10 h20
    rw [← hk] at kids
    -- the first part's
    have fin : ∀ (m3 : Mm) (l : List Tk), Fr SR m m3 → mI m3 679 r = no (tA (aF s r)) → l.length ≤ 1 → RM m3 (push s l) → mt1 (kid2 t) (tB (aF s r)) c = l → (l = [] ∨ ∃ b u, l = [(4, b, c, 0, u)]) →
        V m12_matchData 204 [some (.ref 668), some (.int (nn q)), some (.int v2), some (.int (nn c)), some (.int (nn r)), some (.int (nn k)), some (.int (nn (k / 2))), none, none] [] m3 (PM m0 (stl (push s (mt1 (kid1 t) (tA (aF s r)) c ++ mt1 (kid2 t) (tB (aF s r)) c)))) := by
      intro m3 l w1 w2 w3 w4 w5 w6
      have frB := fr.trans w1
      have s3 := frB.st s0
      refine u12_matchData_204 s3 ?_
      rw [nn_tn (a := r) (by omega), l0, w2, nn_one]
      refine ⟨fun q0 => ?_, fun q0 => ⟨hi, ?_⟩⟩
      · refine u12_matchData_225 s3 ⟨rfl, frB, ?_⟩
        rcases kids with ⟨k1, k2, k3⟩ | ⟨a, k1, -⟩ | ⟨a, b, k1, -⟩
        · rw [k2, k3, show mt1 none (tA (aF s r)) c ++ mt1 none (tB (aF s r)) c = [] from rfl]
          have e : l = [] := by
            rw [← w5, k3]
            rfl
          rw [e] at w4
          have hn12 : ∀ t, t ∈ topK s → t.1 ≠ 12 := fun t ht => (f5.no12 t (List.mem_append_left _ ht)).1
          rw [stl_no (fun _ => ?_)]
          · exact w4
          · unfold push
            rw [topK_setK, List.nil_append]
            cases e2 : topK s with
            | nil => intro z; cases z
            | cons z zs =>
              intro z2
              exact hn12 z (by rw [e2]; exact List.mem_cons_self) (Option.some.inj z2)
        · omega
        · omega
      · obtain ⟨a, ha⟩ := Option.isSome_iff_exists.mp (ka (by omega))
        obtain ⟨u, hu1, hu2, hu3, hu4⟩ : ∃ u, kid1 t = some u ∧ twf fs.length (fpf fs) u ∧ TC m (q + 1) u ∧ 1 + tsz u ≤ tsz t := by
          rcases kids with ⟨k1, -⟩ | ⟨u, k1, k2, k3, k4, k5⟩ | ⟨u, b, k1, k2, k3, k4, k5, k6⟩
          · omega
          · exact ⟨u, k2, k5, (TC_un (by rw [← k4]; exact ht)).2, by rw [k4, tsz_un]; exact Nat.le_refl _⟩
          · exact ⟨u, k2, k5, (TC_bi (by rw [← k4]; exact ht)).2.1, by rw [k4, tsz_bi]; omega⟩
        rw [ha, no_some]
        refine C.mono (s12_push4 (k := 4) (t := u) (y := a) (c := c) s3 w4 hE (by rw [allK_push, List.length_append]; exact Nat.lt_of_le_of_lt (Nat.add_le_add w3 hK) (by decide)) (Or.inl rfl) (by omega) (hu3.fe (w1.fn (fun j => by unfold SR; omega)))) ?_
        rintro o4 m4 ⟨rfl, fr4, R4⟩
        have frC := frB.trans (SK_SR fr4)
        refine ⟨rfl, frC.st s0, u12_matchData_225 (frC.st s0) ⟨rfl, frC, ?_⟩⟩
        rw [push_push] at R4
        rw [hu1, w5]
        exact (stl_push (s := s) (t := (4, a, c, 0, u)) (l := l) (show (4 : Nat) ≠ 12 by decide)).symm ▸ R4
    refine ⟨fun q1 => ?_, fun q1 => ?_⟩
    · have hk2 : kid2 t = none := by
        rcases kids with ⟨k1, k2, k3⟩ | ⟨a, k1, k2, k3, -⟩ | ⟨a, b, k1, -⟩
        · exact k3
        · exact k3
        · omega
      refine fin m [] Fr.refl t3 (Nat.zero_le _) ?_ (by rw [hk2]; rfl) (Or.inl rfl)
      refine h.k hE (fun _ _ _ => rfl) (fun _ _ => rfl) ?_ ?_
      · rw [List.nil_append]
        exact f4
      · rw [List.nil_append]
        exact f5
    · obtain ⟨u, b, k1, k2, k3, k4, k5, k6⟩ : ∃ u b, k / 2 = 2 ∧ kid1 t = some u ∧ kid2 t = some b ∧ t = tbi (tcode t) u b ∧ twf fs.length (fpf fs) u ∧ twf fs.length (fpf fs) b := by
        rcases kids with ⟨k1, -⟩ | ⟨a, k1, -⟩ | h3
        · omega
        · omega
        · exact h3
      obtain ⟨z, hz⟩ := Option.isSome_iff_exists.mp (kb (by omega))
      obtain ⟨-, tcu, tcb⟩ := TC_bi (by rw [← k4]; exact ht)
      have hsz : tsz t = 1 + tsz u + tsz b := by rw [k4, tsz_bi]
      rw [nn_one]
      refine C.mono (s12_endOf hm hF.1 k5 (by omega) tcu) ?_
      rintro o1 m1 ⟨rfl, rfl⟩
      refine ⟨_, rfl, hm, hi, ?_⟩
      rw [t4, show no (tB (aF s r)) = nn z by rw [hz]; rfl]
      refine C.mono (s12_push4 (k := 4) (t := b) (y := z) (c := c) hm h hE (by omega) (Or.inl rfl) (by omega) tcb) ?_
      rintro o2 m2 ⟨rfl, fr2, R2⟩
      refine ⟨rfl, (SK_SR fr2).st hm, fin m2 [(4, z, c, 0, b)] (SK_SR fr2) ((fr2.i (by unfold SK; omega)).trans t3) (Nat.le_refl 1) R2 (by rw [k3, hz]; rfl) (Or.inr ⟨z, b, rfl⟩)⟩
  · rw [if_neg w]
    obtain ⟨g1, g2, g3, g4⟩ := hfail w
    refine C.mono (s12_fail (fs := fs) hm hF.1 g3.fp h hE g1 g2 ho g4) ?_
    rintro o1 m1 ⟨rfl, fr1, hR⟩
    exact ⟨rfl, fr1.st hm, rfl, fr.trans fr1, hR⟩
theorem md_end (hf8 : fs.length ≤ 8) {m : Mm} {s : Ac} {r k n : Nat} {F : Nat → Th} {v7 s0v : Int32} {a b : Option Nat} (s0 : St m0) (hF : MF m fs) (fr : Fr SR m0 m) (hM : ∀ a, (a < 677 ∨ 684 < a) → a ≠ 668 → mI m a = mI m0 a) (hM8 : ∀ j, j ≠ 13 → mI m 668 j = mI m0 668 j) (h : RM m0 s) (hE : aE s = 0) (hb : BD s) (hT : RT m n F (aM s)) (hr : r < n) (hFr : F r = (1, k, none, none, tW (aF s r), tP (aF s r), tT (aF s r))) (ha : v7 = no a) (hb2 : s0v = no b) (hw : twf fs.length (fpf fs) t) (hq : q + tsz t ≤ 876) (ht : TC m0 q t) (h10 : 10 ≤ tcode t) (h20 : tcode t < 20) (hk : k = tcode t - 10) (hn : n ≤ 5002) (hc : c < n) (hco : tW (F c) ≤ aL s) (hka : (1 ≤ k / 2 → a.isSome = true) ∧ (2 ≤ k / 2 → b.isSome = true)) (hcr : c ≠ r) :
    V m12_matchData 135 [some (.ref 668), some (.int (nn q)), some (.int v2), some (.int (nn c)), some (.int (nn r)), some (.int (nn k)), some (.int (nn (k / 2))), some (.int v7), none] [(.int s0v)] m (PM m0 (stl (push (sT s n (up1 F r (1, k, a, b, tW (aF s r), tP (aF s r), tT (aF s r)))) (mt1 (kid1 t) a c ++ mt1 (kid2 t) b c)))) := by
  have hm := fr.st s0
  have hi := nn_in (a := r) (n := 6000) (by omega) (by omega)
  refine u12_matchData_135 hm ?_
  rw [nn_tn (a := r) (by omega)]
  refine ⟨hi, hi, ?_⟩
  have f2 : Fr SR m (mSetI (mSetI m 679 r v7) 680 r s0v) := (Fr.refl.set (Or.inl (by omega))).set (Or.inl (by omega))
  have T2 : RT (mSetI (mSetI m 679 r v7) 680 r s0v) n (up1 F r (1, k, a, b, tW (aF s r), tP (aF s r), tT (aF s r))) (aM s) := by
    refine ⟨hT.1, fun x hx => ?_⟩
    have hh := hT.2 x hx
    by_cases e : x = r
    · subst e
      rw [hFr] at hh
      rw [up1_at]
      refine ⟨⟨hh.1.1, hh.1.2.1, ?_, ?_, hh.1.2.2.2.2⟩, TX.no (by show (1 : Nat) ≠ 6; decide) (by show (1 : Nat) ≠ 2; decide), hh.2.2⟩
      · simp [mI_set]
        exact ha
      · simp [mI_set]
        exact hb2
    · rw [up1_ne e]
      refine ⟨?_, hh.2.1.fe (by rw [mI_fn (by omega), mI_fn (by omega)]) rfl rfl rfl, hh.2.2⟩
      have := hh.1
      simp only [TF, mI_set] at this ⊢
      simpa [e] using this
  have R2 : RM (mSetI (mSetI m 679 r v7) 680 r s0v) (sM (sT s n (up1 F r (1, k, a, b, tW (aF s r), tP (aF s r), tT (aF s r)))) (aM s)) :=
    h.t hE (fun x x1 x2 => by rw [mI_fn (by omega), mI_fn (by omega), hM x x1 x2]) (fun j hj => hM8 j hj) T2
  have hF2 : MF (mSetI (mSetI m 679 r v7) 680 r s0v) fs := Fr.mf2 hF f2
  have hf : aF (sM (sT s n (up1 F r (1, k, a, b, tW (aF s r), tP (aF s r), tT (aF s r)))) (aM s)) r = (1, k, a, b, tW (aF s r), tP (aF s r), tT (aF s r)) := up1_at
  have key := md_tasks (v8 := some (.int v7)) (v9 := some (.int s0v)) (v2 := v2) (s := sM (sT s n (up1 F r (1, k, a, b, tW (aF s r), tP (aF s r), tT (aF s r)))) (aM s)) (r := r) (k := k) (c := c) s0 hF2 hf8 (fr.trans f2) R2 hE hb.2.2.2.1 hn hw hq (ht.fe ((fr.trans f2).fn (fun j => by unfold SR; omega))) h10 h20 hk hr (by rw [hf]; show k < 100; omega) (by rw [hf]) (fun _ => by rw [hf]; exact hka) hc (by show tW (up1 F r _ c) ≤ aL s; rw [up1_ne hcr]; exact hco) (fun w => (w (by rw [hf])).elim)
  rw [hf, if_pos (show tO (1, k, a, b, tW (aF s r), tP (aF s r), tT (aF s r)) = k from rfl)] at key
  exact key
end MD
theorem s12_matchData {fs : List Fn} {m : Mm} {s : Ac} {q y c : Nat} {t : Tr} {rk : Nat → Nat} {xf : Fn} (hm : St m) (hF : MF m fs) (h : RM m s) (hE : aE s = 0) (hO : OKs fs s) (hl : LkR (aC s) (aF s) rk) (hy : y < aC s) (hw : twf fs.length (fpf fs) t) (hq : q + tsz t ≤ 876) (ht : TC m q t) (h10 : 10 ≤ tcode t) (h20 : tcode t < 20) (hc : c < aC s) (hck : tK (aF s c) = 2) (hcf : fs[tO (aF s c)]? = some xf) (ho : tW (aF s c) ≤ aL s) (hfo : tK (aF s (root s y)) < 2) (hkn : ∀ x, x < aC s → tK (aF s x) = 1 → (2 ≤ tO (aF s x) → (tA (aF s x)).isSome = true) ∧ (4 ≤ tO (aF s x) → (tB (aF s x)).isSome = true)) :
    C m12_matchData [.ref 668, .int (nn q), .int (nn y), .int (nn c)] m (PM m (stl (metA fs s t (root s y) c))) := by
  refine C.of (by decide +kernel) (Nat.le_of_ble_eq_true rfl) rfl (u12_matchData hm (C.mono (s12_root2 hm h hE hO.1 hl hy) ?_))
  rintro o0 m0 ⟨rfl, rfl⟩
  have hr := root_end hl hy
  obtain ⟨r, hr0⟩ : ∃ r, root s y = r := ⟨_, rfl⟩
  rw [hr0] at hr hfo ⊢
  obtain ⟨f1, f2, f3, f4, f5, f6⟩ := h.all hE
  obtain ⟨hb, hwt, hsg, hpw, hgw⟩ := hO
  have hb' := hb
  obtain ⟨bb1, bb2, bb3, bb4, bb5, bb6, bb7, bb8, bb9⟩ := hb'
  obtain ⟨⟨t1, t2, t3, t4, t5⟩, -, -⟩ := f1.2 r hr.2
  obtain ⟨⟨c1, c2, c3, c4, c5⟩, -, -⟩ := f1.2 c hc
  have hfl := (List.getElem?_eq_some_iff.mp hcf).1
  have hf8 := hpw.1
  have hp := tsz_pos hw
  obtain ⟨k, hk⟩ : ∃ k, tcode t - 10 = k := ⟨_, rfl⟩
  have hk10 : k < 10 := by omega
  have hcode : mI m0 676 q - 10 = nn k := by
    rw [(TC_root hw ht).1, show nn (tcode t) - 10 = nn (tcode t - 10) from nn_sub (b := 10) h10, hk]
  have hdiv : nn k / 2 = nn (k / 2) := by
    have : ∀ k, k < 10 → nn k / 2 = nn (k / 2) := by decide +kernel
    exact this k hk10
  have hi := nn_in (a := r) (n := 6000) (by omega) (by omega)
  have hic := nn_in (a := c) (n := 6000) (by omega) (by omega)
  have hif := nn_in (a := tO (aF s c)) (n := 8) (by omega) (by omega)
  have e0 : nn (tK (aF s r)) = 0 ↔ tK (aF s r) = 0 := nn_eq (b := 0) (by omega) (by decide)
  have eW : nn (tW (aF s r)) = nn (tW (aF s c)) ↔ tW (aF s r) = tW (aF s c) := nn_eq (by have := bb7 r hr.2; omega) (by omega)
  have eR : bz xf.2.1 = 0 ↔ xf.2.1 = false := by cases xf.2.1 <;> decide
  have c678 : mI m0 678 c = nn (tO (aF s c)) := c2 (by rw [hck]; decide)
  refine ⟨_, rfl, hm, nn_in (by omega) (by omega), hi, ?_⟩
  rw [nn_tn (a := q) (by omega), nn_tn (a := r) (by omega), nn_tn (a := c) (by omega), hcode, hdiv, t1, t5, c5, c678, nn_tn (a := tO (aF s c)) (by omega), (hF.1.2.2 _ xf hcf).2.2, e0, eR, eW]
  have hmap : (fs[tO (aF s c)]?.map (fun y => y.2.1)).getD false = xf.2.1 := by rw [hcf]; rfl
  have fl : tK (aF s r) = 0 → (xf.2.1 = true ∨ tW (aF s r) ≠ tW (aF s c)) → V m12_matchData 64 [some (.ref 668), some (.int (nn q)), some (.int (nn y)), some (.int (nn c)), some (.int (nn r)), some (.int (nn k)), some (.int (nn (k / 2))), none, none] [] m0 (PM m0 (stl (metA fs s t r c))) := fun w w2 => by
    have e : metA fs s t r c = sE s 3 := by
      unfold metA
      simp only
      rw [if_pos w, hmap, if_pos w2]
    rw [e, stl_no (fun q => absurd q (show ¬ (3 : Nat) = 0 by decide))]
    exact u12_matchData_64 hm ⟨rfl, Fr.refl.set (Or.inr ⟨rfl, by omega⟩), h.sE (by decide) (by decide) rfl (fun a a1 a2 => mI_fn (by omega))⟩
  refine ⟨fun w => ?_, fun w => ⟨hic, hif, fun w2 => fl w (Or.inl ?_), fun w2 => ⟨hi, hic, fun w3 => ?_, fun w3 => fl w (Or.inr w3)⟩⟩⟩
  · have k1 : tK (aF s r) = 1 := by omega
    refine u12_matchData_70 hm ?_
    rw [nn_tn (a := r) (by omega), t1, e0]
    refine ⟨hi, fun _ => ?_, fun q => (w q).elim⟩
    have key := md_tasks (v8 := none) (v9 := none) (v2 := nn y) (s := s) (r := r) (k := k) (c := c) hm hF hf8 Fr.refl h hE bb4 (by omega) hw hq ht h10 h20 hk.symm hr.2 (bb7 r hr.2).2.1 k1 (fun q => by
      obtain ⟨q1, q2⟩ := hkn r hr.2 k1
      exact ⟨fun q3 => q1 (by omega), fun q3 => q2 (by omega)⟩) hc ho (fun _ => ⟨hb, hwt, hpw, fun q => hsg _ q ho⟩)
    have e : metA fs s t r c = if tO (aF s r) = k then push s (mt1 (kid1 t) (tA (aF s r)) c ++ mt1 (kid2 t) (tB (aF s r)) c) else failA s (tW (aF s c)) := by
      unfold metA
      simp only
      rw [if_neg w, hk]
    rw [e]
    exact key
  · cases e : xf.2.1 with
    | true => rfl
    | false => exact (w2 e).elim
  · have hcr : c ≠ r := fun e => by
      rw [e, w] at hck
      cases hck
    have e : metA fs s t r c = push (data (addT s (List.replicate (k / 2) (tOpen (tW (aF s r))))) r k (if 2 ≤ k then some (aC s) else none) (if 4 ≤ k then some (aC s + 1) else none)) (mt1 (kid1 t) (if 2 ≤ k then some (aC s) else none) c ++ mt1 (kid2 t) (if 4 ≤ k then some (aC s + 1) else none) c) := by
      unfold metA
      simp only
      rw [if_pos w, hmap, if_neg (by rw [w2]; rintro (q | q); cases q; exact q w3), hk]
    have kids := pat_kids hw h10 h20
    rw [hk] at kids
    refine u12_matchData_70 hm ?_
    rw [nn_tn (a := r) (by omega), t1, e0]
    refine ⟨hi, fun q => (q w).elim, fun _ => C.mono (s12_becomeData hm (by omega)) ?_⟩
    rintro o1 m1 ⟨rfl, rfl⟩
    have sd : St (dM m0 r k) := St.i (St.i (St.i (St.i hm)))
    have frd : Fr SU m0 (dM m0 r k) := (((Fr.refl.set (Or.inl (by omega))).set (Or.inl (by omega))).set (Or.inl (by omega))).set (Or.inl (by omega))
    have l1 : nn (k / 2) ≤ 1 ↔ k / 2 ≤ 1 := nn_le (b := 1) (by omega) (by decide)
    have l0 : nn (k / 2) ≤ 0 ↔ k / 2 ≤ 0 := nn_le (b := 0) (by omega) (by decide)
    have d681 : mI (dM m0 r k) 681 r = nn (tW (aF s r)) := t5
    rw [l0, d681]
    -- the things there will be
    obtain ⟨G, hG⟩ : ∃ G, app (aF s) (aC s) (List.replicate (k / 2) (tOpen (tW (aF s r)))) = G := ⟨_, rfl⟩
    have Glt : ∀ x, x < aC s → G x = aF s x := fun x hx => by rw [← hG]; exact app_lt hx
    have Gge : ∀ i, i < k / 2 → G (aC s + i) = tOpen (tW (aF s r)) := fun i hi => by
      rw [← hG]
      exact app_at (by rw [List.getElem?_replicate, if_pos hi])
    have T0 : RT (dM m0 r k) (aC s) (up1 G r (1, k, none, none, tW (aF s r), tP (aF s r), tT (aF s r))) (aM s) := f1.data.ge (fun x hx => by
      by_cases e : x = r
      · rw [e, up1_at, up1_at]
      · rw [up1_ne e, up1_ne e, Glt x hx])
    have hFr : up1 G r (1, k, none, none, tW (aF s r), tP (aF s r), tT (aF s r)) r = (1, k, none, none, tW (aF s r), tP (aF s r), tT (aF s r)) := up1_at
    have hFn : ∀ i, i < k / 2 → up1 G r (1, k, none, none, tW (aF s r), tP (aF s r), tT (aF s r)) (aC s + i) = tOpen (tW (aF s r)) := fun i hi => by rw [up1_ne (by omega), Gge i hi]
    have hFc : tW (up1 G r (1, k, none, none, tW (aF s r), tP (aF s r), tT (aF s r)) c) ≤ aL s := by rw [up1_ne hcr, Glt c hc]; exact ho
    have st_eq : ∀ a b, sT s (aC s + k / 2) (up1 (up1 G r (1, k, none, none, tW (aF s r), tP (aF s r), tT (aF s r))) r (1, k, a, b, tW (aF s r), tP (aF s r), tT (aF s r))) = data (addT s (List.replicate (k / 2) (tOpen (tW (aF s r))))) r k a b := by
      intro a b
      have hrr : aF (addT s (List.replicate (k / 2) (tOpen (tW (aF s r))))) r = aF s r := app_lt hr.2
      unfold data
      rw [hrr, up1_up1, ← hG]
      show _ = ((aC s + (List.replicate (k / 2) (tOpen (tW (aF s r)))).length, _), s.2)
      rw [List.length_replicate]
      rfl
    have nf : ∀ {M : Mm} {n : Nat} {x y z : Int32}, Fr SU m0 M → Fr SU m0 (nT M n x y z) := fun {M n x y z} f => nT_fr f (fun a j a1 a2 => Or.inl (by omega)) (Or.inr ⟨rfl, rfl⟩)
    have su : ∀ {M : Mm}, Fr SU m0 M → (∀ a, (a < 677 ∨ 684 < a) → a ≠ 668 → mI M a = mI m0 a) ∧ ∀ j, j ≠ 13 → mI M 668 j = mI m0 668 j := fun {M} f => ⟨fun a a1 a2 => f.fn (fun j => by unfold SU; omega), fun j hj => f.i (by unfold SU; omega)⟩
    have ends : ∀ (M : Mm) (v7 sv : Int32) (a b : Option Nat), Fr SU m0 M → RT M (aC s + k / 2) (up1 G r (1, k, none, none, tW (aF s r), tP (aF s r), tT (aF s r))) (aM s) → v7 = no a → sv = no b → k / 2 ≤ 2 → a = (if 2 ≤ k then some (aC s) else none) → b = (if 4 ≤ k then some (aC s + 1) else none) →
        V m12_matchData 135 [some (.ref 668), some (.int (nn q)), some (.int (nn y)), some (.int (nn c)), some (.int (nn r)), some (.int (nn k)), some (.int (nn (k / 2))), some (.int v7), none] [(.int sv)] M (PM m0 (stl (metA fs s t r c))) := by
      intro M v7 sv a b f T w7 wv h2 ea eb
      have key := md_end (v2 := nn y) (fs := fs) (m0 := m0) (q := q) (c := c) (t := t) hf8 (a := a) (b := b) (v7 := v7) (s0v := sv) hm (Fr.mf2 hF (SU_SR f)) (SU_SR f) (su f).1 (su f).2 h hE hb T (by omega) hFr w7 wv hw hq ht h10 h20 hk.symm (by omega) (by omega) hFc ?_ hcr
      · rw [st_eq, ea, eb] at key
        rw [e]
        exact key
      · rw [ea, eb]
        refine ⟨fun q => ?_, fun q => ?_⟩
        · rw [if_pos (by omega)]
          rfl
        · rw [if_pos (by omega)]
          rfl
    have frN : ∀ {M : Mm} {n : Nat} {x y z : Int32}, St M → St (nT M n x y z) := fun {M n x y z} f => St.i (St.i (St.i (St.i (St.i (St.i (St.i f))))))
    refine ⟨rfl, sd, fun q0 => ?_, fun q0 => ⟨hi, ?_⟩⟩
    · refine u12_matchData_110 sd ?_
      rw [l1]
      refine ⟨fun _ => ?_, fun q1 => by omega⟩
      refine ends _ _ _ none none frd (by rw [show aC s + k / 2 = aC s by omega]; exact T0) rfl rfl (by omega) (by rw [if_neg (by omega)]) (by rw [if_neg (by omega)])
    · refine C.mono (s12_newThing sd (by omega) T0.1 0 0 _) ?_
      rintro o2 m2 ⟨rfl, rfl⟩
      have T1 : RT (nT (dM m0 r k) (aC s) 0 0 (nn (tW (aF s r)))) (aC s + 1) (up1 G r (1, k, none, none, tW (aF s r), tP (aF s r), tT (aF s r))) (aM s) := T0.new (k := 0) (w := 0) (o := tW (aF s r)) (bb6 _ (Nat.le_refl _)) (by decide) (by decide) (fun _ _ => rfl) (hFn 0 (by omega))
      refine ⟨_, rfl, frN sd, u12_matchData_110 (frN sd) ?_⟩
      rw [l1, nn_tn (a := r) (by omega)]
      have e681 : mI (nT (dM m0 r k) (aC s) 0 0 (nn (tW (aF s r)))) 681 r = nn (tW (aF s r)) := by
        have := (T1.2 r (by omega)).1.2.2.2.2
        rw [hFr] at this
        exact this
      rw [e681]
      refine ⟨fun q1 => ?_, fun q1 => ⟨hi, ?_⟩⟩
      · refine ends _ _ _ (some (aC s)) none (nf frd) (by rw [show aC s + k / 2 = aC s + 1 by omega]; exact T1) rfl rfl (by omega) (by rw [if_pos (by omega)]) (by rw [if_neg (by omega)])
      · have h2 : k / 2 = 2 := by
          rcases kids with ⟨k1, -⟩ | ⟨a, k1, -⟩ | ⟨a, b, k1, -⟩ <;> omega
        refine C.mono (s12_newThing (frN sd) (by omega) T1.1 0 0 _) ?_
        rintro o3 m3 ⟨rfl, rfl⟩
        have T2 : RT (nT (nT (dM m0 r k) (aC s) 0 0 (nn (tW (aF s r)))) (aC s + 1) 0 0 (nn (tW (aF s r)))) (aC s + 1 + 1) (up1 G r (1, k, none, none, tW (aF s r), tP (aF s r), tT (aF s r))) (aM s) := T1.new (k := 0) (w := 0) (o := tW (aF s r)) (bb6 _ (by omega)) (by decide) (by decide) (fun _ _ => rfl) (hFn 1 (by omega))
        refine ⟨_, rfl, frN (frN sd), ?_⟩
        refine ends _ _ _ (some (aC s)) (some (aC s + 1)) (nf (nf frd)) (by rw [show aC s + k / 2 = aC s + 1 + 1 by omega]; exact T2) rfl rfl (by omega) (by rw [if_pos (by omega)]) (by rw [if_pos (by omega)])
