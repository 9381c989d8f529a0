/-! THROWS, AND A ROW COPIED WITHIN ITSELF -/
def xN : List String := ["java/lang/RuntimeException", "java/lang/Exception"]
def xBad (ic : Nat) (E : String) : List Cond := (vx_atS RX11 ic E xN).filter (fun w => !goodWord w)
def xOK (ik ic : Nat) (cls : String) : Prop := Bundle.fit cls = true ∧ Cond.classLink RX11 ik cls ∈ wsL_law ∧ Cond.initialized cls ∈ wsL_law ∧ (∀ w ∈ (vx_atS RX11 ic cls xN).filter goodWord, w ∈ wsL_law) ∧ (∀ w ∈ xBad ic cls, w ∈ tables_1 ∧ isNest w = true) ∧ (∀ w ∈ Cond.classLink RX11 ik cls :: Cond.initialized cls :: vx_atS RX11 ic cls xN, vx_ot w = true)
theorem x49_ok : xOK 45 49 "java/lang/IllegalArgumentException" := ⟨by decide +kernel, by decide +kernel, by decide +kernel, fun w h => List.mem_append_left _ (List.mem_append_left _ (List.mem_append_right _ h)), by decide +kernel, by decide +kernel⟩
theorem x60_ok : xOK 56 60 "java/lang/IllegalStateException" := ⟨by decide +kernel, by decide +kernel, by decide +kernel, fun w h => List.mem_append_left _ (List.mem_append_right _ h), by decide +kernel, by decide +kernel⟩
theorem x169_ok : xOK 165 169 "java/lang/IndexOutOfBoundsException" := ⟨by decide +kernel, by decide +kernel, by decide +kernel, fun w h => List.mem_append_right _ h, by decide +kernel, by decide +kernel⟩
section Throw
variable {y : Mi} {pc : Nat} {L : List (Option Value)} {st : List Value} {m : Mm} {K : Option Value ⊕ String → Mm → Prop}
theorem r_throw {ik is ic : Nat} {cls text : String} (d0 : decode y.2.1 pc = .ok (.new ik, 3)) (d3 : decode y.2.1 (pc + 3) = .ok (.dup, 1)) (d4 : decode y.2.1 (pc + 4) = .ok (.ldc is, 2)) (d6 : decode y.2.1 (pc + 6) = .ok (.invokespecial ic, 3)) (d9 : decode y.2.1 (pc + 9) = .ok (.athrow, 1))
    (hy : y.1.cls = RX11) (hs : (is, text) ∈ strW) (hx : xOK ik ic cls) (hf : 6 ≤ y.2.2.2.2.1) (ho : st.length + 82 ≤ y.2.2.2.2.2) (k : K (.inr cls) (mWaste m 1 6)) : V y pc L st m K := by
  refine ⟨.inr cls, mWaste m 1 6, k, Nat.le_succ _, Nat.le_add_right _ _, Nat.le_refl _, ?_⟩
  intro D dA A ad ad0 n0 p l e R s mid args below meth c H locs cells slots ls X Y ha hn0 hl0 hL oL oS hc0 hz0
  have hc1 : cells + 1 ≤ R.cells := by
    have h1 : cells + (mC m + 1 - mC m) ≤ R.cells := hc0
    omega
  have hz1 : slots + 6 ≤ R.slots := by
    have h1 : slots + (mZ m + 6 - mZ m) ≤ R.slots := hz0
    omega
  have R1 := X.2.2.2.2.2.2.2.2.2.2.2.2.2.2.2.1
  have R2 := X.2.2.2.2.2.2.2.2.2.2.2.2.2.2.2.2
  obtain ⟨sa, hstr⟩ := X.2.2.2.2.2.2.2.2.2.2.2.2.1.1 (is, text) hs
  have hT := X.2.2.2.2.2.2.2.2.2.2.2.2.2.1
  have hown : s.vm.findClass RX11 = some mid.cls := by rw [← hy]; exact X.own
  have hat : ∀ w ∈ vx_atS RX11 ic cls xN, w.before args s = true := by
    intro w hw
    by_cases hg : goodWord w = true
    · exact X.w (hx.2.2.2.1 w (List.mem_filter.mpr ⟨hw, hg⟩))
    · have hb := hx.2.2.2.2.1 w (List.mem_filter.mpr ⟨hw, by simp [hg]⟩)
      exact va_Nw.use (isNest_tables hb.2) (X.nst hb.1 hb.2)
  refine vx_throwS (own := RX11) (names := xN) (A := A) X.1 X.2.1 X.2.2.2.2.2.2.2.1 hown hx.1 (by decide +kernel) (X.w hx.2.1) (X.w hx.2.2.1) hstr hat hx.2.2.2.2.2 hT.1 hT.2 Y.2.2.2 (by rw [hl0.1, hL]; exact X.2.2.1.symm) d0 d3 d4 d6 d9 (fun x h => (X.2.2.2.2.2.2.2.2.1 x h).elim) ?_ ?_ hc1 hz1 X.2.2.2.2.1 ?_ Y.2.2.2.2.2 hc1 hz1
  · show 2 + 3 < R.frames
    omega
  · rw [oS.cat]
    show st.length + (13 * (2 + 1) + 43) ≤ R.locals
    omega
  · intro t hvm hsz hk
    exact ⟨ad, rfl, ha, Y.1.kept (fun i x hi => hk x.1 (Y.1 i x hi).lt), Y.2.1, Y.2.2.1, Nat.le_trans Y.2.2.2.1 hsz, fun q h1 h2 => (hk q (Nat.lt_of_lt_of_le h1 Y.2.2.2.1)).trans (Y.2.2.2.2.1 q h1 h2)⟩
def mCpy (m : Mm) (a sp dp n : Nat) : Mm := (m.1, m.2.1, m.2.2.1, m.2.2.2.1, (fun b => if b = a then va_cpy (mI m a) (mI m a) sp dp n else mI m b), m.2.2.2.2.2)
theorem r_acopy {a n idx : Nat} {sp dp k : Int32} (d : decode y.2.1 pc = .ok (.invokestatic idx, 3)) (hs : mS m a = (13, n)) (h1 : ¬ sp < 0) (h2 : ¬ dp < 0) (h3 : ¬ k < 0) (h4 : sp.toNatClampNeg + k.toNatClampNeg ≤ n) (h5 : dp.toNatClampNeg + k.toNatClampNeg ≤ n)
    (hw : Cond.methodLink y.1.cls idx arraycopyName ∈ wsL_law ∧ Cond.native arraycopyName ∈ wsL_law ∧ Cond.static arraycopyName ∈ wsL_law ∧ Cond.initialized "java/lang/System" ∈ wsL_law) (hf : 1 ≤ y.2.2.2.2.1) (ho : st.length + (nativeFrameWords "java/lang/System" "arraycopy" 5 + 11) ≤ y.2.2.2.2.2)
    (kk : V y (pc + 3) L st (mCpy m a sp.toNatClampNeg dp.toNatClampNeg k.toNatClampNeg) K) : V y pc L (.int k :: .int dp :: .ref a :: .int sp :: .ref a :: st) m K := by
  obtain ⟨o, m', hK, h11, h12, h13, h14⟩ := kk
  refine ⟨o, m', hK, h11, h12, h13, ?_⟩
  intro D dA A ad ad0 n0 p l e R s mid args below meth c H locs cells slots ls X Y ha hn0 hl0 hL oL oS hc0 hz0
  have R1 := X.2.2.2.2.2.2.2.2.2.2.2.2.2.2.2.1
  have R2 := X.2.2.2.2.2.2.2.2.2.2.2.2.2.2.2.2
  have oR : okS (mN m) st := oS.t.t.t.t.t
  have hw0 : (wof ad dA m)[a]? = some (ad a, .inl (dA 13, n, .inl (mI m a))) := wof_ai oS.t.t.ref hs (Or.inl rfl)
  refine va_copyi X.1 X.2.1 (by rw [hl0.1, hL]; exact X.2.2.1) X.own (X.w hw.1) (X.w hw.2.1) (X.w hw.2.2.1) (X.w hw.2.2.2) X.kk Y.1 Y.2.1 Y.2.2.2 a a 0 0 hw0 hw0 rfl rfl rfl h1 h2 h3 h4 h5 (fun _ _ => rfl) (by omega) ?_ d (fun H1 locs1 hP hD hS => ?_)
  · have h9 := oR.cat ad
    rw [h9]
    omega
  · have eq : (wof ad dA m).set a (ad a, .inl (dA 13, n, .inl (va_cpy (mI m a) (mI m a) sp.toNatClampNeg dp.toNatClampNeg k.toNatClampNeg))) = wof ad dA (mCpy m a sp.toNatClampNeg dp.toNatClampNeg k.toNatClampNeg) :=
      wof_set rfl (by
        rw [cel_int (m := mCpy m a sp.toNatClampNeg dp.toNatClampNeg k.toNatClampNeg) (kd := 13) hs (Or.inl rfl)]
        exact congrArg (fun f => Sum.inl (dA 13, n, Sum.inl f)) (if_pos rfl)) (fun i hi => cel_same rfl (if_neg hi) rfl)
    rw [eq] at hP hD
    exact h14 D dA A ad ad0 n0 p l e R s mid args below meth c H1 locs1 cells slots ls X ⟨hP, hD, Y.2.2.1, hS⟩ ha hn0 hl0 hL oL oR hc0 hz0
end Throw
