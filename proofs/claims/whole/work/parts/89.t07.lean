/-! THE LAW: its loop -/
theorem and31 (x : Int32) : ∃ k, k < 32 ∧ x &&& 31 = nn k := by
  refine ⟨(x.toBitVec &&& 31#32).toNat, ?_, ?_⟩
  · rw [BitVec.toNat_and]
    exact Nat.lt_of_le_of_lt Nat.and_le_right (by decide)
  · apply Int32.toBitVec_inj.mp
    show x.toBitVec &&& 31#32 = BitVec.ofNat 32 (x.toBitVec &&& 31#32).toNat
    rw [BitVec.ofNat_toNat, BitVec.setWidth_eq]
theorem more {i L : Nat} (hL : L ≤ 2560) (hi : i ≤ L) (h5 : i % 5 = 0) (h : ¬ Int32.ofNat L - 5 < nn i) : i + 4 < L := by
  by_cases w : 5 ≤ L
  · have e : Int32.ofNat L - 5 = nn (L - 5) := nn_sub (a := L) (b := 5) w
    rw [e, nn_lt (by omega) (by omega)] at h
    omega
  · exfalso
    obtain rfl : i = 0 := by omega
    rcases (show L = 0 ∨ L = 1 ∨ L = 2 ∨ L = 3 ∨ L = 4 by omega) with rfl | rfl | rfl | rfl | rfl
    all_goals exact h (by decide)
section LawLoop
variable {D : va_G} {dA : Nat → ClassId} {cL : ClassId} {p : Program} {l : Launch} {e : Env} {s : State} {mid : MethodId} {b L : Nat} {xs : Nat → Int32} {below : List Frame} {meth : Method} {c : Code} {x0 m0 q : Nat}
theorem law_loop (X : LC D dA cL p l s mid b L xs meth c) (hL : L ≤ 2560) {zb : Nat} (hzb : zb ≤ 500000) : ∀ (n j : Nat) (ad : Nat → Nat) (H : Heap) (locs : List Loc) (ls : Array Slot) (m : Mm) (v : Int64), L < 5 * j + 5 * n + 5 → 5 * j ≤ L → IVx (120000 * j) m → Lx D dA (fun z => s.heap.size ≤ z) ad m q cL v s H locs → ad 0 = x0 → ad 668 = m0 → lv_has ls 7 [(0, .ref b), (1, .ref x0), (2, .ref m0), (3, .ref q), (4, .int (nn (5 * j)))] → mC m ≤ 714 + 26 * j → mZ m ≤ zb + 284 * j →
    W p l e room_1 s mid #[Value.ref b] below meth c H locs (mC m + 1) (mZ m + 1) (lw_Z below #[Value.ref b] s) (F0 mid 23 ls []) := by
  have hx := X.1
  have hb := X.2.1
  have hret := X.2.2.2.1
  have hlk := X.2.2.2.2.1
  have hX := X.2.2.2.2.2.2.2.2.2.2.2.2.2.2.1
  have hbl := X.2.2.2.2.2.2.2.2.2.2.2.2.2.2.2
  intro n
  induction n with
  | zero =>
    intro j ad H locs ls m v hn hj hI hLx h0 h668 hl hcm hzm
    refine lv_iload hx hb dL_law_23 (lv_at hl 4 rfl) ?_
    refine lv_aload_n hx hb dL_law_25 rfl (lv_at hl 0 rfl) ?_
    refine va_slen hx hb hX hbl (Nat.not_le.mpr hbl) hLx.2.2.2 dL_law_26 ?_
    refine lv_iconst (v := 5) hx hb dL_law_27 (by decide) ?_
    refine lv_isub hx hb dL_law_28 ?_
    refine lv_icmp_gt (tgt := 1380) hx hb dL_law_29 rfl (fun _ => ?_) (fun h => ?_)
    · refine lv_iconst (v := 1) hx hb dL_law_1380 (by decide) ?_
      refine va_forget hLx.2.2.2.2.2 ?_
      refine W.widen (k := 601024) (n := 7293034) (by omega) (by omega) ?_
      exact lw_ret hx hb hret hlk dL_law_1381
    · have := more hL hj (by omega) h
      omega
  | succ n ih =>
    intro j ad H locs ls m v hn hj hI hLx h0 h668 hl hcm hzm
    refine lv_iload hx hb dL_law_23 (lv_at hl 4 rfl) ?_
    refine lv_aload_n hx hb dL_law_25 rfl (lv_at hl 0 rfl) ?_
    refine va_slen hx hb hX hbl (Nat.not_le.mpr hbl) hLx.2.2.2 dL_law_26 ?_
    refine lv_iconst (v := 5) hx hb dL_law_27 (by decide) ?_
    refine lv_isub hx hb dL_law_28 ?_
    refine lv_icmp_gt (tgt := 1380) hx hb dL_law_29 rfl (fun _ => ?_) (fun h => ?_)
    · refine lv_iconst (v := 1) hx hb dL_law_1380 (by decide) ?_
      refine va_forget hLx.2.2.2.2.2 ?_
      refine W.widen (k := 601024) (n := 7293034) (by omega) (by omega) ?_
      exact lw_ret hx hb hret hlk dL_law_1381
    · have hi := more hL hj (by omega) h
      have kk : LK D dA cL p l e s mid b (5 * j) below meth c (lw_Z below #[Value.ref b] s) x0 m0 q (120000 * (j + 1)) (mC m + 26) (mZ m + 284) := by
        intro ad1 H1 locs1 ls1 m2 v2 a1 a2 a3 a4 a5 a6 a7 a8
        refine lv_iinc (k := 4) (v := nn (5 * (j + 1))) hx hb dL_law_1374 a5 rfl ?_ (by decide) rfl (fun ls2 hl2 => ?_)
        · show nn (5 * j) + nn 5 = _
          rw [nn_add]
          rfl
        · refine lv_goto (tgt := 23) hx hb dL_law_1377 rfl ?_
          exact ih (j + 1) ad1 H1 locs1 ls2 m2 v2 (by omega) (by omega) a6 a1 a3 a4 (lv_sub hl2 [1, 2, 3, 4, 0] rfl) (by omega) (Nat.le_trans a8 (Nat.le_trans (Nat.add_le_add_right hzm 284) (Nat.le_of_eq (by rw [Nat.mul_add, Nat.mul_one, Nat.add_assoc]))))
      refine lv_aload_n hx hb dL_law_32 rfl (lv_at hl 0 rfl) ?_
      refine lv_iload hx hb dL_law_33 (lv_at hl 4 rfl) ?_
      refine va_sld hx hb hX hbl (Nat.not_le.mpr hbl) hLx.2.2.2 (nn_in (by omega) (by omega)) dL_law_35 ?_
      rw [nn_tn (by omega)]
      refine lv_bipush (v := 31) hx hb dL_law_36 (by decide) ?_
      refine lv_iand hx hb dL_law_38 ?_
      obtain ⟨k, hk, ek⟩ := and31 (xs (5 * j))
      rw [ek]
      have hZ2 : 120000 * (j + 1) < 2147480000 := by omega
      rcases (show k = 0 ∨ k = 1 ∨ k = 2 ∨ k = 3 ∨ k = 4 ∨ k = 5 ∨ k = 6 ∨ k = 7 ∨ k = 8 ∨ k = 9 ∨ k = 10 ∨ k = 11 ∨ k = 12 ∨ k = 13 ∨ k = 14 ∨ k = 15 ∨ k = 16 ∨ k = 17 ∨ k = 18 ∨ k = 19 ∨ 20 ≤ k by omega) with rfl | rfl | rfl | rfl | rfl | rfl | rfl | rfl | rfl | rfl | rfl | rfl | rfl | rfl | rfl | rfl | rfl | rfl | rfl | rfl | hk20
      · exact lv_tableIn hx hb dL_law_39 (by decide) (by decide) rfl (tgt := 132) rfl (lc_function X hL hi hI (by omega) hZ2 hLx h0 h668 hl (by omega) (by omega) kk)
      · exact lv_tableIn hx hb dL_law_39 (by decide) (by decide) rfl (tgt := 216) rfl (lc_name X hL hi hI (by omega) hZ2 hLx h0 h668 hl (by omega) (by omega) kk)
      · exact lv_tableIn hx hb dL_law_39 (by decide) (by decide) rfl (tgt := 272) rfl (lc_data X hL hi hI (by omega) hZ2 hLx h0 h668 hl (by omega) (by omega) kk)
      · exact lv_tableIn hx hb dL_law_39 (by decide) (by decide) rfl (tgt := 352) rfl (lc_call X hL hi hI (by omega) hZ2 hLx h0 h668 hl (by omega) (by omega) kk)
      · exact lv_tableIn hx hb dL_law_39 (by decide) (by decide) rfl (tgt := 432) rfl (lc_either X hL hi hI (by omega) hZ2 hLx h0 h668 hl (by omega) (by omega) kk)
      · exact lv_tableIn hx hb dL_law_39 (by decide) (by decide) rfl (tgt := 500) rfl (lc_same X hL hi hI (by omega) hZ2 hLx h0 h668 hl (by omega) (by omega) kk)
      · exact lv_tableIn hx hb dL_law_39 (by decide) (by decide) rfl (tgt := 568) rfl (lc_unlike X hL hi hI (by omega) hZ2 hLx h0 h668 hl (by omega) (by omega) kk)
      · exact lv_tableIn hx hb dL_law_39 (by decide) (by decide) rfl (tgt := 636) rfl (lc_some X hL hi hI (by omega) hZ2 hLx h0 h668 hl (by omega) (by omega) kk)
      · exact lv_tableIn hx hb dL_law_39 (by decide) (by decide) rfl (tgt := 692) rfl (lc_drop X hL hi hI (by omega) hZ2 hLx h0 h668 hl (by omega) (by omega) kk)
      · exact lv_tableIn hx hb dL_law_39 (by decide) (by decide) rfl (tgt := 705) rfl (lc_rule X hL hi hI (by omega) hZ2 hLx h0 h668 hl (by omega) (by omega) kk)
      · exact lv_tableIn hx hb dL_law_39 (by decide) (by decide) rfl (tgt := 797) rfl (lc_unrule X hL hi hI (by omega) hZ2 hLx h0 h668 hl (by omega) (by omega) kk)
      · exact lv_tableIn hx hb dL_law_39 (by decide) (by decide) rfl (tgt := 853) rfl (lc_many X hL hi hI (by omega) hZ2 hLx h0 h668 hl (by omega) (by omega) kk)
      · exact lv_tableIn hx hb dL_law_39 (by decide) (by decide) rfl (tgt := 866) rfl (lc_goal X hL hi hI (by omega) hZ2 hLx h0 h668 hl (by omega) (by omega) kk)
      · exact lv_tableIn hx hb dL_law_39 (by decide) (by decide) rfl (tgt := 922) rfl (lc_search X hL hi hI (by omega) hZ2 hLx h0 h668 hl (by omega) (by omega) kk)
      · exact lv_tableIn hx hb dL_law_39 (by decide) (by decide) rfl (tgt := 990) rfl (lc_count X hL hi hI (by omega) hZ2 hLx h0 h668 hl (by omega) (by omega) kk)
      · exact lv_tableIn hx hb dL_law_39 (by decide) (by decide) rfl (tgt := 1046) rfl (lc_part X hL hi hI (by omega) hZ2 hLx h0 h668 hl (by omega) (by omega) kk)
      · exact lv_tableIn hx hb dL_law_39 (by decide) (by decide) rfl (tgt := 1114) rfl (lc_bound X hL hi hI (by omega) hZ2 hLx h0 h668 hl (by omega) (by omega) kk)
      · exact lv_tableIn hx hb dL_law_39 (by decide) (by decide) rfl (tgt := 1194) rfl (lc_steps X hL hi hI (by omega) hZ2 hLx h0 h668 hl (by omega) (by omega) kk)
      · exact lv_tableIn hx hb dL_law_39 (by decide) (by decide) rfl (tgt := 1250) rfl (lc_fate X hL hi hI (by omega) hZ2 hLx h0 h668 hl (by omega) (by omega) kk)
      · exact lv_tableIn hx hb dL_law_39 (by decide) (by decide) rfl (tgt := 1318) rfl (lc_within X hL hi hI (by omega) hZ2 hLx h0 h668 hl (by omega) (by omega) kk)
      · refine lv_tableOut hx hb dL_law_39 (tgt := 1374) (Or.inr ?_) rfl ?_
        · rw [nn_ti (by omega)]
          omega
        · exact kk ad H locs ls m v hLx hI.st h0 h668 hl (hI.mono (by omega)) (by omega) (by omega)
end LawLoop
