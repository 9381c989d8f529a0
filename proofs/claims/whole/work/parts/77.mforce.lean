/-! THE REFERENCE: calls and other things are forced -/
def OKs (fs : List Fn) (s : Ac) : Prop := BD s ∧ WT fs s ∧ (∀ j, 1 ≤ j → j ≤ aL s → lX (aV s j) < aC s ∧ tK (aF s (lX (aV s j))) = 6) ∧ PW fs [] none ∧ ∀ j, j ≤ aL s → ∀ w, w ∈ lG (aV s j) → w < 100
theorem PW.fp {fs : List Fn} {nds : List Tr} {g : Option Tr} (h : PW fs nds g) : ∀ f, f < fs.length → fpf fs f ≤ 2 := fun f hf => by
  rw [fpf_of (List.getElem?_eq_getElem hf)]
  exact (h.2.2.1 f _ (List.getElem?_eq_getElem hf)).1
theorem no_m1 {r : Option Nat} (h : ∀ y, r = some y → y < 2147483648) : no r = -1 ↔ r = none := by
  cases r with
  | none => exact ⟨fun _ => rfl, fun _ => rfl⟩
  | some y => exact ⟨fun q => (nn_m1 (h y rfl) q).elim, fun q => by cases q⟩
theorem s12_call {fs : List Fn} {m : Mm} {s : Ac} {x : Nat} {xf : Fn} (hm : St m) (hF : MF m fs) (h : RM m s) (hE : aE s = 0) (hO : OKs fs s) (hP : aP s < 150) (hx : x < aC s) (hS : CS fs s x xf) (ho : tW (aF s x) ≤ aL s)
    (hway : 1 < xf.2.2.length → aE (decA s (tW (aF s x)) xf.2.2.length).2 = 0 → (decA s (tW (aF s x)) xf.2.2.length).1 < xf.2.2.length) :
    C m12_call_ [.ref 668, .int (nn x)] m (PM m (stl (callA fs s x))) := by
  refine C.of (by decide +kernel) (Nat.le_of_ble_eq_true rfl) rfl (u12_call_ hm ?_)
  obtain ⟨f1, f2, f3, f4, f5, f6⟩ := h.all hE
  obtain ⟨hb, hw, hsg, hpw, hgw⟩ := hO
  have hb' := hb
  obtain ⟨bb1, bb2, bb3, bb4, bb5, bb6, bb7, bb8, bb9⟩ := hb'
  have hS' := hS
  obtain ⟨S1, S2, S3, S4⟩ := hS'
  obtain ⟨⟨t1, t2, t3, t4, t5⟩, -, -⟩ := f1.2 x hx
  have hfl := (List.getElem?_eq_some_iff.mp S2).1
  have hfs := hpw.1
  have hrl : rulf fs (tO (aF s x)) = xf.2.2 := rulf_of S2
  have htot := tot_le S2
  have htt := hpw.2.1
  have e678 : mI m 678 x = nn (tO (aF s x)) := t2 (by rw [S1]; decide)
  have hi := nn_in (a := x) (n := 6000) (by omega) (by omega)
  have hif := nn_in (a := tO (aF s x)) (n := 8) (by omega) (by omega)
  have e0 : nn xf.2.2.length = 0 ↔ xf.2.2.length = 0 := nn_eq (b := 0) (by omega) (by decide)
  have l1 : nn xf.2.2.length ≤ 1 ↔ xf.2.2.length ≤ 1 := nn_le (b := 1) (by omega) (by decide)
  rw [nn_tn (a := x) (by omega), e678, t5, nn_tn (a := tO (aF s x)) (by omega), hF.many S2, e0, l1]
  have hmf0 : MF0 m fs := hF.1
  -- behind the decision
  have go : ∀ (m1 : Mm) (d : Nat × Ac), Fr SR m m1 → RM m1 d.2 → (aE d.2 = 0 → d.1 < xf.2.2.length) → callA fs s x = (if aE d.2 = 0 then (if aE (stepA d.2) = 0 then takeR (stepA d.2) x (xf.2.2.getD d.1 (none, none, .nil)) else stepA d.2) else d.2) → (aE d.2 = 0 → aC d.2 = aC s ∧ aF d.2 = aF s ∧ aP d.2 = aP s ∧ allK d.2 = allK s ∧ aS d.2 = aS s) → aE d.2 < 6 →
      V m12_call_ 50 [some (.ref 668), some (.int (nn x)), some (.int (nn (tO (aF s x)))), some (.int (nn (tW (aF s x)))), some (.int (nn xf.2.2.length)), none, none] [(.int (nn d.1))] m1 (PM m (stl (callA fs s x))) := by
    intro m1 d fr1 hR hd hc heq h6
    have s1 := fr1.st hm
    have e29 : mI m1 668 29 = nn (aE d.2) := hR.1
    have ee : nn (aE d.2) = 0 ↔ aE d.2 = 0 := nn_eq (b := 0) (by omega) (by decide)
    refine u12_call__50 s1 ?_
    rw [e29, ee]
    refine ⟨fun q => ?_, fun q => ?_⟩
    · refine u12_call__63 s1 ?_
      rw [e29, ee]
      refine ⟨fun q2 => (q q2).elim, fun _ => ⟨rfl, fr1, ?_⟩⟩
      rw [hc, if_neg q, stl_no (fun q2 => (q q2).elim)]
      exact hR
    · obtain ⟨g1, g2, g3, g4, g5⟩ := heq q
      rw [if_pos q] at hc
      refine C.mono (s12_step s1 hR q (by rw [g5]; exact bb5)) ?_
      rintro o2 m2 ⟨rfl, fr2, hR2⟩
      have frm : Fr SR m m2 := fr1.trans (fr2.mono (fun a j w => by unfold SR; omega))
      refine ⟨rfl, frm.st hm, ?_⟩
      by_cases q2 : aE (stepA d.2) = 0
      · rw [if_pos q2] at hc
        rw [hc]
        have hst := stepA_k q2
        rw [hst] at hR2 q2 ⊢
        have hR' : xf.2.2[d.1]? = some (xf.2.2.getD d.1 (none, none, .nil)) := by
          rw [List.getD_eq_getElem?_getD, List.getElem?_eq_getElem (hd q)]
          rfl
        have hlt := hd q
        have hst2 : stl (takeR (sS d.2 (aS d.2 + 1)) x (xf.2.2.getD d.1 (none, none, .nil))) = takeR (sS d.2 (aS d.2 + 1)) x (xf.2.2.getD d.1 (none, none, .nil)) := by
          refine stl_no (fun _ => ?_)
          unfold takeR push
          rw [topK_setK]
          unfold mt1
          split <;> split <;> (intro w; simp at w)
        rw [hst2]
        exact s12_takeR (frm.st hm) (Fr.mf2 hF frm) frm hR2 q2 (by show aC d.2 ≤ 5000; rw [g1]; exact bb1) (by show aP d.2 < 150; rw [g3]; exact hP) (by show (allK d.2).length ≤ 19000; rw [g4]; exact bb4) (by show x < aC d.2; rw [g1]; exact hx) (by show CS fs (sS d.2 (aS d.2 + 1)) x xf; unfold CS; show tK (aF d.2 x) = 2 ∧ fs[tO (aF d.2 x)]? = some xf ∧ (1 ≤ xf.1 → (tA (aF d.2 x)).isSome = true) ∧ (2 ≤ xf.1 → (tB (aF d.2 x)).isSome = true); rw [g2]; exact hS) (by show tO (aF s x) = tO (aF d.2 x); rw [g2]) ((hpw.2.2.1 _ xf S2).2 _ (List.mem_of_getElem? hR')) hR' (by omega) (by omega) (hpw.2.2.1 _ xf S2).1
      · rw [if_neg q2] at hc
        refine u12_call__63 (frm.st hm) ?_
        have e29' : mI m2 668 29 = nn (aE (stepA d.2)) := hR2.1
        have : aE (stepA d.2) = 4 := by
          unfold stepA at q2 ⊢
          split
          · rfl
          · rename_i w
            rw [if_neg w] at q2
            exact (q2 q).elim
        rw [e29', this]
        refine ⟨fun q3 => absurd q3 (by decide), fun _ => ⟨rfl, frm, ?_⟩⟩
        rw [hc, stl_no (fun q3 => (q2 q3).elim)]
        exact hR2
  refine ⟨hi, hi, hif, fun q0 => ⟨fun q1 => ?_, fun q1 => ?_⟩, fun q0 => ?_⟩
  · refine go m (0, s) Fr.refl h (fun _ => by show 0 < xf.2.2.length; omega) ?_ (fun _ => ⟨rfl, rfl, rfl, rfl, rfl⟩) (by show aE s < 6; omega)
    unfold callA
    rw [hrl, if_neg q0]
    simp only
    rw [if_neg (show ¬ 1 < xf.2.2.length by omega)]
  · refine C.mono (s12_decide hm h hE hb ho) ?_
    rintro o1 m1 ⟨rfl, fr1, hR⟩
    refine ⟨_, rfl, fr1.st hm, ?_⟩
    obtain ⟨k1, k2, k3, k4, k5, k6, k7, k8⟩ := decA_t (s := s) (o := tW (aF s x)) (n := xf.2.2.length)
    refine go m1 (decA s (tW (aF s x)) xf.2.2.length) fr1 hR (hway (by omega)) ?_ (fun _ => ⟨k1, k2, k4, ?_, k7⟩) ?_
    · unfold callA
      rw [hrl, if_neg q0]
      simp only
      rw [if_pos (show 1 < xf.2.2.length by omega)]
    · show flatB (aV (decA s (tW (aF s x)) xf.2.2.length).2) (aL (decA s (tW (aF s x)) xf.2.2.length).2 + 1) = _
      rw [k6]
      exact flatB_k (fun j _ => k8 j)
    · unfold decA
      split
      · exact (by decide : 4 < 6)
      · split
        · show aE s < 6
          omega
        · split
          · exact (by decide : 5 < 6)
          · show aE s < 6
            omega
  · refine C.mono (s12_fail (fs := fs) hm hmf0 hpw.fp h hE hb hw ho (fun q => hsg _ q ho)) ?_
    rintro o1 m1 ⟨rfl, fr1, hR⟩
    refine ⟨rfl, fr1.st hm, rfl, fr1, ?_⟩
    unfold callA
    rw [hrl, if_pos q0]
    exact hR
/-- what is forced can be forced -/
def FO (fs : List Fn) (s : Ac) (r : Nat) : Prop := r < aC s ∧ tW (aF s r) ≤ aL s ∧ (tK (aF s r) = 2 → ∃ xf, CS fs s r xf ∧ (1 < xf.2.2.length → aE (decA s (tW (aF s r)) xf.2.2.length).2 = 0 → (decA s (tW (aF s r)) xf.2.2.length).1 < xf.2.2.length)) ∧ (3 ≤ tK (aF s r) → tK (aF s r) ≤ 5 → (tA (aF s r)).isSome = true ∧ (tB (aF s r)).isSome = true)
theorem s12_root2 {m : Mm} {s : Ac} {rk : Nat → Nat} (hm : St m) (h : RM m s) (hE : aE s = 0) (hb : BD s) (hl : LkR (aC s) (aF s) rk) {x : Nat} (hx : x < aC s) : C m12_root [.ref 668, .int (nn x)] m (fun r m' => r = .inl (some (.int (nn (root s x)))) ∧ m' = m) :=
  s12_root hm (h.all hE).1 (by have := hb.1; omega) (fun x hx => (hb.2.2.2.2.2.2.1 x hx).1) hl hx
theorem stl_push {s : Ac} {t : Tk} {l : List Tk} (h : t.1 ≠ 12) : stl (push s (t :: l)) = push s (t :: l) := by
  refine stl_no (fun _ => ?_)
  unfold push
  rw [topK_setK]
  intro w
  exact h (Option.some.inj w)
theorem V.w5 {y : Mi} {pc : Nat} {a b c : Option Value} {x1 x2 : Option Value} {m : Mm} {K : Option Value ⊕ String → Mm → Prop} (k : V y pc [a, b, c, none, none] [] m K) : V y pc [a, b, c, x1, x2] [] m K :=
  V.weak (L' := [a, b, c, none, none]) rfl (fun i v hi => by
    match i, hi with
    | 0, hi => exact hi
    | 1, hi => exact hi
    | 2, hi => exact hi
    | 3, hi => cases hi
    | 4, hi => cases hi
    | n + 5, hi => cases hi) k
theorem V.w51 {y : Mi} {pc : Nat} {a b c d : Option Value} {x2 : Option Value} {m : Mm} {K : Option Value ⊕ String → Mm → Prop} (k : V y pc [a, b, c, d, none] [] m K) : V y pc [a, b, c, d, x2] [] m K :=
  V.weak (L' := [a, b, c, d, none]) rfl (fun i v hi => by
    match i, hi with
    | 0, hi => exact hi
    | 1, hi => exact hi
    | 2, hi => exact hi
    | 3, hi => exact hi
    | 4, hi => cases hi
    | n + 5, hi => cases hi) k
theorem s12_force {fs : List Fn} {m : Mm} {s : Ac} {x : Nat} {rk : Nat → Nat} (hm : St m) (hF : MF m fs) (h : RM m s) (hE : aE s = 0) (hO : OKs fs s) (hP : aP s < 150) (hL : aL s < 105) (hl : LkR (aC s) (aF s) rk) (hx : x < aC s) (hfo : FO fs s (root s x)) (htop : (topK s).head?.map (fun t => t.1) ≠ some 12) :
    C m12_force [.ref 668, .int (nn x)] m (PM m (stl (forceG fs false s (root s x)))) := by
  refine C.of (by decide +kernel) (Nat.le_of_ble_eq_true rfl) rfl (u12_force hm (C.mono (s12_root2 hm h hE hO.1 hl hx) ?_))
  rintro o0 m0 ⟨rfl, rfl⟩
  obtain ⟨r, hr⟩ : ∃ r, root s x = r := ⟨_, rfl⟩
  rw [hr] at hfo ⊢
  obtain ⟨f1, f2, f3, f4, f5, f6⟩ := h.all hE
  obtain ⟨hb, hw, hsg, hpw, hgw⟩ := hO
  have hb' := hb
  obtain ⟨bb1, bb2, bb3, bb4, bb5, bb6, bb7, bb8, bb9⟩ := hb'
  obtain ⟨r1, r2, r3, r4⟩ := hfo
  obtain ⟨⟨t1, t2, t3, t4, t5⟩, -, -⟩ := f1.2 r r1
  have k8 := (bb7 r r1).1
  have hi := nn_in (a := r) (n := 6000) (by omega) (by omega)
  have ek : ∀ k, k < 8 → (nn (tK (aF s r)) = nn k ↔ tK (aF s r) = k) := fun k hk => nn_eq (by omega) (by omega)
  refine ⟨_, rfl, hm, ?_⟩
  rw [nn_tn (a := r) (by omega), t1, show (2 : Int32) = nn 2 from rfl, show (3 : Int32) = nn 3 from rfl, show (4 : Int32) = nn 4 from rfl, show (5 : Int32) = nn 5 from rfl, show (6 : Int32) = nn 6 from rfl, ek 2 (by decide), ek 3 (by decide), ek 4 (by decide), ek 5 (by decide), ek 6 (by decide)]
  have two : ∀ (k : Nat) (v : Int32), (k = 13 ∧ v = 7) ∨ (k = 14 ∧ v = 8) → (tA (aF s r)).isSome = true → (tB (aF s r)).isSome = true → forceG fs false s r = push s (oT 1 (tA (aF s r)) ++ oT 1 (tB (aF s r)) ++ [(k, (tA (aF s r)).getD 0, (tB (aF s r)).getD 0, r, .nil)]) →
      V m12_force 131 [some (.ref 668), some (.int (nn x)), some (.int (nn r)), none, none] [(.int v), (.ref 668)] m0 (PM m0 (stl (forceG fs false s r))) := by
    intro k v hk ha hb2 hf
    obtain ⟨a, ha⟩ := Option.isSome_iff_exists.mp ha
    obtain ⟨b, hb2⟩ := Option.isSome_iff_exists.mp hb2
    rw [ha, hb2] at hf
    refine u12_force_131 hm ?_
    rw [nn_tn (a := r) (by omega)]
    refine C.mono (s12_push (t := (k, a, b, r, .nil)) hm h hE (by omega) ?_) ?_
    · rcases hk with ⟨rfl, rfl⟩ | ⟨rfl, rfl⟩ <;> exact ⟨by simp [tM, mI_set], by simp [tM, mI_set]⟩
    rintro o1 m1 ⟨rfl, fr1, R1⟩
    have frA := SK_SR fr1
    refine ⟨rfl, frA.st hm, hi, ?_⟩
    rw [fr1.i (a := 680) (by unfold SK; omega), t4, hb2, no_some]
    refine C.mono (s12_push1 (k := 1) (x := b) (frA.st hm) R1 hE (by rw [allK_push, List.length_append]; exact Nat.lt_of_le_of_lt (Nat.add_le_add (Nat.le_refl 1) bb4) (by decide)) (by omega)) ?_
    rintro o2 m2 ⟨rfl, fr2, R2⟩
    have frB := frA.trans (SK_SR fr2)
    refine ⟨rfl, frB.st hm, hi, ?_⟩
    rw [fr2.i (a := 679) (by unfold SK; omega), fr1.i (a := 679) (by unfold SK; omega), t3, ha, no_some]
    refine C.mono (s12_push1 (k := 1) (x := a) (frB.st hm) R2 hE (by rw [push_push, allK_push, List.length_append]; exact Nat.lt_of_le_of_lt (Nat.add_le_add (Nat.le_refl 2) bb4) (by decide)) (by omega)) ?_
    rintro o3 m3 ⟨rfl, fr3, R3⟩
    have frC := frB.trans (SK_SR fr3)
    refine ⟨rfl, frC.st hm, u12_force_182 (frC.st hm) ⟨rfl, frC, ?_⟩⟩
    rw [push_push, push_push] at R3
    rw [hf]
    exact (stl_push (s := s) (t := (1, a, 0, 0, .nil)) (l := [(1, b, 0, 0, .nil), (k, a, b, r, .nil)]) (show (1 : Nat) ≠ 12 by decide)).symm ▸ R3
  have none_ : forceG fs false s r = s → V m12_force 182 [some (.ref 668), some (.int (nn x)), some (.int (nn r)), none, none] [] m0 (PM m0 (stl (forceG fs false s r))) := fun e => by
    refine u12_force_182 hm ⟨rfl, Fr.refl, ?_⟩
    rw [e, stl_no (fun _ => htop)]
    exact h
  refine ⟨hi, fun n2 => ⟨hi, fun n3 => ⟨hi, fun k4 => ?_, fun n4 => ⟨hi, fun n5 => ⟨hi, fun n6 => ?_, fun k6 => ?_⟩, fun k5 => ?_⟩⟩, fun k3 => ⟨hi, ?_⟩⟩, fun k2 => ?_⟩
  · refine u12_force_113 hm ?_
    rw [nn_tn (a := r) (by omega), t1, show (4 : Int32) = nn 4 from rfl, ek 4 (by decide)]
    refine ⟨hi, fun q => (q k4).elim, fun _ => ?_⟩
    obtain ⟨q1, q2⟩ := r4 (by omega) (by omega)
    refine two 13 7 (Or.inl ⟨rfl, rfl⟩) q1 q2 ?_
    unfold forceG
    rw [k4]
    rfl
  · refine none_ ?_
    unfold forceG
    split <;> first | omega | rfl
  · refine C.mono (s12_begin (fs := fs) hm hF.1 hpw.fp h hE hb hL hw r1 k6) ?_
    rintro o1 m1 ⟨rfl, fr1, R1⟩
    refine ⟨rfl, fr1.st hm, u12_force_182 (fr1.st hm) ⟨rfl, fr1, ?_⟩⟩
    unfold forceG
    rw [k6]
    exact R1
  · refine u12_force_113 hm ?_
    rw [nn_tn (a := r) (by omega), t1, show (4 : Int32) = nn 4 from rfl, ek 4 (by decide)]
    refine ⟨hi, fun _ => ?_, fun q => by omega⟩
    obtain ⟨q1, q2⟩ := r4 (by omega) (by omega)
    refine two 14 8 (Or.inr ⟨rfl, rfl⟩) q1 q2 ?_
    unfold forceG
    rw [k5]
    rfl
  · rw [t5]
    refine C.mono (s12_decide (n := 2) hm h hE hb r2) ?_
    rintro o1 m1 ⟨rfl, fr1, R1⟩
    refine ⟨_, rfl, fr1.st hm, ?_⟩
    obtain ⟨d, hd⟩ : ∃ d, decA s (tW (aF s r)) 2 = d := ⟨_, rfl⟩
    obtain ⟨g1, g2, g3, g4, g5, g6, g7, g8⟩ := decA_t (s := s) (o := tW (aF s r)) (n := 2)
    have d6 : aE d.2 < 6 := by
      rw [← hd]
      unfold decA
      split
      · exact (by decide : 4 < 6)
      · split
        · show aE s < 6
          omega
        · split
          · exact (by decide : 5 < 6)
          · show aE s < 6
            omega
    have dw : d.1 < 100 := by
      rw [← hd]
      unfold decA
      split
      · exact (by decide : 0 < 100)
      · split
        · rename_i w rr hg
          exact hgw _ r2 w (by rw [hg]; exact List.mem_cons_self)
        · split <;> exact (by decide : 0 < 100)
    rw [hd] at R1 g1 g2 g3 g4 g5 g6 g7 g8 ⊢
    have e29 : mI m1 668 29 = nn (aE d.2) := R1.1
    have ee : nn (aE d.2) = 0 ↔ aE d.2 = 0 := nn_eq (b := 0) (by omega) (by decide)
    have ew : nn d.1 = 0 ↔ d.1 = 0 := nn_eq (b := 0) (by omega) (by decide)
    rw [e29, ee, ew]
    have hfg : forceG fs false s r = (if aE d.2 = 0 then (match (if d.1 = 0 then tA (aF s r) else tB (aF s r)) with
      | some y => push (link d.2 r y) [(0, y, 0, 0, .nil)]
      | none => d.2) else d.2) := by
      unfold forceG
      rw [k3]
      simp only [hd]
      rfl
    have s1 := fr1.st hm
    have hA : allK d.2 = allK s := by
      show flatB (aV d.2) (aL d.2 + 1) = _
      rw [g6]
      exact flatB_k (fun j _ => g8 j)
    have go : ∀ y, (if d.1 = 0 then tA (aF s r) else tB (aF s r)) = some y → aE d.2 = 0 → V m12_force 72 [some (.ref 668), some (.int (nn x)), some (.int (nn r)), some (.int (nn d.1)), none] [(.int (nn y))] m1 (PM m0 (stl (forceG fs false s r))) := by
      intro y hy q
      refine u12_force_72 s1 (C.mono (s12_link s1 R1 q (by omega) (by rw [g2]; omega)) ?_)
      rintro o2 m2 ⟨rfl, fr2, R2⟩
      have frB := fr1.trans (SU_SR fr2)
      refine ⟨rfl, frB.st hm, ?_⟩
      refine C.mono (s12_push1 (k := 0) (x := y) (frB.st hm) R2 q (by show (allK d.2).length < 20000; rw [hA]; omega) (by omega)) ?_
      rintro o3 m3 ⟨rfl, fr3, R3⟩
      have frC := frB.trans (SK_SR fr3)
      refine ⟨rfl, frC.st hm, V.w51 (u12_force_90 (frC.st hm) (V.w5 (u12_force_182 (frC.st hm) ⟨rfl, frC, ?_⟩)))⟩
      rw [hfg, if_pos q, hy]
      exact (stl_push (t := (0, y, 0, 0, .nil)) (l := []) (show (0 : Nat) ≠ 12 by decide)).symm ▸ R3
    obtain ⟨ha, hb2⟩ := r4 (by omega) (by omega)
    obtain ⟨a, ha⟩ := Option.isSome_iff_exists.mp ha
    obtain ⟨b, hb2⟩ := Option.isSome_iff_exists.mp hb2
    refine ⟨fun q => ?_, fun q => ?_⟩
    · refine V.w51 (u12_force_90 s1 (V.w5 (u12_force_182 s1 ⟨rfl, fr1, ?_⟩)))
      rw [hfg, if_neg q, stl_no (fun q2 => (q q2).elim)]
      exact R1
    obtain ⟨⟨u1, u2, u3, u4, u5⟩, -, -⟩ := (R1.all q).1.2 r (by rw [g1]; exact r1)
    rw [g2] at u3 u4
    refine ⟨fun q2 => ⟨hi, ?_⟩, fun q2 => ⟨hi, ?_⟩⟩
    · rw [u4, hb2]
      exact go b (by rw [if_neg q2]; exact hb2) q
    · rw [u3, ha]
      exact go a (by rw [if_pos q2]; exact ha) q
  · obtain ⟨xf, c1, c2⟩ := r3 k2
    refine C.mono (s12_call hm hF h hE ⟨hb, hw, hsg, hpw, hgw⟩ hP r1 c1 r2 c2) ?_
    rintro o1 m1 ⟨rfl, fr1, R1⟩
    refine ⟨rfl, fr1.st hm, u12_force_182 (fr1.st hm) ⟨rfl, fr1, ?_⟩⟩
    unfold forceG
    rw [k2]
    exact R1
