/-! SEARCHES OF THE MODEL: the search -/
def SSx (a j : Nat) : Prop := (677 ≤ a ∧ a < 714) ∨ (a = 668 ∧ 12 < j)
theorem SSx_g (a j : Nat) (h : SSx a j) : 677 ≤ a ∨ a = 668 ∧ 12 < j := by
  unfold SSx at h
  omega
theorem SY_SSx {a j : Nat} (h : SY a j) : SSx a j := by
  unfold SSx
  rcases h with q | q
  · have := SX_n q
    omega
  · omega
def SchM (m : Mm) (fs : List Fn) (nds : List Tr) (g : Tr) (Z : Nat) (R : List Nat × List Kp) (r : Option Value ⊕ String) (m' : Mm) : Prop := r = .inl (some (.int (nn (R.1.getD 0 0)))) ∧ Fr SSx m m' ∧ MX m' fs nds (some g) ∧ KM m' R.1 R.2 ∧ ∃ Z', RX m' Z' ∧ Z' ≤ Z
theorem V.drs {y : Mi} {pc : Nat} {a b c d : Option Value} {x1 x2 : Option Value} {m : Mm} {K : Option Value ⊕ String → Mm → Prop} (k : V y pc [a, b, c, d, none, none] [] m K) : V y pc [a, b, c, d, x1, x2] [] m K := by
  refine V.weak (L' := [a, b, c, d, none, none]) rfl (fun i v q => ?_) k
  rcases i with _ | _ | _ | _ | _ | _ | i
  all_goals first | exact q | cases q
theorem V.drs1 {y : Mi} {pc : Nat} {a b c d e : Option Value} {x1 : Option Value} {m : Mm} {K : Option Value ⊕ String → Mm → Prop} (k : V y pc [a, b, c, d, e, none] [] m K) : V y pc [a, b, c, d, e, x1] [] m K := by
  refine V.weak (L' := [a, b, c, d, e, none]) rfl (fun i v q => ?_) k
  rcases i with _ | _ | _ | _ | _ | _ | i
  all_goals first | exact q | cases q
theorem s12_s260 {fs : List Fn} {nds : List Tr} {g : Tr} {m M : Mm} {Z Z' : Nat} {ord : List Nat} {left : List (List Nat)} {nums : List Nat} {kept : List Kp} {v1 v2 v3 : Int32} (fr : Fr SSx m M) (hX : MX M fs nds (some g)) (hO : ORm M ord) (hl : ord.length = left.length) (hK : KM M nums kept) (h6 : nums.length = 6) (hR : RX M Z') (hZ : Z' ≤ Z) : V m12_search 260 [some (.ref 668), some (.int v1), some (.int v2), some (.int v3), none, none] [] M (SchM m fs nds g Z (nums.set 5 (if left.length = 0 then 1 else 0), kept)) := by
  have hm := hX.1
  have z0 : nn ord.length = 0 ↔ ord.length = 0 := nn_eq (b := 0) (by have := hO.2.1; omega) (by decide)
  have fin : ∀ v, v = (if left.length = 0 then 1 else 0) → V m12_search 277 [some (.ref 668), some (.int v1), some (.int v2), some (.int v3), none, none] [(.int (nn v)), (.int 5), (.ref 708)] M (SchM m fs nds g Z (nums.set 5 (if left.length = 0 then 1 else 0), kept)) := fun v hv => by
    refine u12_search_277 hm ⟨nn_in (a := 5) (by decide) (by decide), nn_in (a := 0) (by decide) (by decide), ?_⟩
    rw [show Int32.toNatClampNeg 5 = 5 from rfl, ← hv]
    obtain ⟨k1, k2⟩ := hK.set5 (v := v) h6
    have f1 : Fr (fun a _ => a = 708) M (mSetI M 708 5 (nn v)) := Fr.refl.set rfl
    exact ⟨by rw [k2], fr.trans (f1.mono (fun a j q => by unfold SSx; omega)), hX.gen f1 (fun a j q => by omega), k1, Z', hR.fe (f1.i (by omega)) (fun j => f1.i (by omega)), hZ⟩
  refine u12_search_260 hm ?_
  rw [hO.1, z0]
  exact ⟨fun q => fin 0 (by rw [if_neg (by omega)]), fun q => fin 1 (by rw [if_pos (by omega)])⟩
theorem s12_sloop {fs : List Fn} {nds : List Tr} {g : Tr} {m : Mm} {o Zt : Nat} {seed : Int32} (hpw : PW fs nds (some g)) (ho : o < 3) (hZt : Zt < 2147480000) : ∀ (n k Z : Nat) (st : Int32) (M : Mm) (lain left : List (List Nat)) (ord nums : List Nat) (kept : List Kp), k + n = 200 → Z + 200 * n ≤ Zt → Fr SSx m M → MX M fs nds (some g) → LNm M lain → ORm M ord → LWr lain ord left → (∀ w, w ∈ left → OKw fs g w) → lain.length ≤ 1 + 24 * k → ord.length ≤ lain.length → KM M nums kept → nums.length = 6 → nums.getD 4 0 = k → RX M Z →
    V m12_search 88 [some (.ref 668), some (.int (nn o)), some (.int seed), some (.int st), none, none] [] M (SchM m fs nds g Zt (srch fs g o n st left nums kept)) := by
  have hg := hpw.2.2.2.2.2 g rfl
  have hf := hpw.no
  intro n
  induction n with
  | zero =>
    intro k Z st M lain left ord nums kept hk hZ fr hX hL hO hLW hok hll hol hK h6 h4 hR
    obtain rfl : k = 200 := by omega
    have fin := s12_s260 (left := left) (v1 := nn o) (v2 := seed) (v3 := st) fr hX hO hLW.1 hK h6 hR (show Z ≤ Zt by omega)
    have e4 : mI M 708 4 = nn 200 := by rw [hK.1 4 (by decide), h4]
    refine u12_search_88 hX.1 ?_
    rw [e4]
    exact ⟨fun _ => fin, fun _ => ⟨nn_in (a := 4) (by decide) (by decide), fun _ => fin, fun q => (q (by decide)).elim⟩⟩
  | succ n ih =>
    intro k Z st M lain left ord nums kept hk hZ fr hX hL hO hLW hok hll hol hK h6 h4 hR
    have hm := hX.1
    have hlen := hLW.1
    have hln := hL.2.1
    have e4 : mI M 708 4 = nn k := by rw [hK.1 4 (by decide), h4]
    have l0 : nn ord.length ≤ 0 ↔ ord.length ≤ 0 := nn_le (b := 0) (by omega) (by decide)
    have m2 : 200 ≤ nn k ↔ 200 ≤ k := nn_le (a := 200) (by decide) (by omega)
    have z0 : nn ord.length = 0 ↔ ord.length = 0 := nn_eq (b := 0) (by omega) (by decide)
    have o0 : nn o = 0 ↔ o = 0 := nn_eq (b := 0) (by omega) (by decide)
    have o1 : nn o = 1 ↔ o = 1 := nn_eq (b := 1) (by omega) (by decide)
    by_cases he : ord.length ≤ 0
    · have fin := s12_s260 (left := left) (v1 := nn o) (v2 := seed) (v3 := st) fr hX hO hLW.1 hK h6 hR (show Z ≤ Zt by omega)
      have es : srch fs g o (n + 1) st left nums kept = (nums.set 5 1, kept) := if_pos (by omega)
      rw [if_pos (by omega)] at fin
      rw [es]
      refine u12_search_88 hm ?_
      rw [hO.1, l0]
      exact ⟨fun _ => fin, fun q => (q he).elim⟩
    · obtain ⟨p, hp⟩ : ∃ p, p = pick o (nxt st) left.length := ⟨_, rfl⟩
      have hpl : p < ord.length := by
        rw [hp, hlen]
        exact pick_lt (by omega)
      obtain ⟨r, hr⟩ : ∃ r, ord[p]? = some r := ⟨_, List.getElem?_eq_getElem hpl⟩
      obtain ⟨w, hw1, hw2⟩ := hLW.2 p r hr
      have hwD : left.getD p [] = w := by
        rw [List.getD_eq_getElem?_getD, hw1]
        rfl
      have hwok := hok w (List.mem_of_getElem? hw1)
      obtain ⟨S, hS⟩ : ∃ S, S = finA fs g w := ⟨_, rfl⟩
      have hev : srch fs g o (n + 1) st left nums kept = if aE S = 5 then srch fs g o n (nxt st) (left.eraseIdx p ++ (List.range (aB S)).map (brW o (aB S) w)) (bump nums 4) kept else srch fs g o n (nxt st) (left.eraseIdx p) (bump (bump nums 4) (aE S - 1)) (keepL S (goR g) kept) := by
        show (if left.length = 0 then (nums.set 5 1, kept) else _) = _
        rw [if_neg (by omega), ← hp, hwD, ← hS]
      have hok' : ∀ w', w' ∈ left.eraseIdx p → OKw fs g w' := fun w' q => hok w' (List.mem_of_mem_eraseIdx q)
      have hel : (ord.eraseIdx p).length = ord.length - 1 := by rw [List.length_eraseIdx, if_pos hpl]
      -- one run
      have body : ∀ v4 s1 : Int32, s1 = nn p → V m12_search 153 [some (.ref 668), some (.int (nn o)), some (.int seed), some (.int (nxt st)), some (.int v4), none] [(.int s1), (.ref 668)] M (SchM m fs nds g Zt (srch fs g o (n + 1) st left nums kept)) := by
        intro v4 s1 hs1
        rw [hs1]
        refine u12_search_153 hm (C.mono (s12_takes hm hL hO hr hw2) ?_)
        rintro z1 m1 ⟨rfl, fr1, W1, O1⟩
        have X1 : MX m1 fs nds (some g) := hX.gen fr1 (fun a j q => by unfold STk at q; omega)
        have R1 : RX m1 Z := hR.fe (fr1.i (by unfold STk; omega)) (fun j => fr1.i (by unfold STk; omega))
        refine ⟨rfl, X1.1, C.mono (s12_run2 hpw hwok X1 W1 R1 (by omega)) ?_⟩
        obtain ⟨⟨sl, hsl⟩, hS0, hS5⟩ := hwok.last hf hg
        have dl := (hsl.dec hf hS0).1
        rw [← hS] at hS0 hS5 dl ⊢
        rintro z3 m3 ⟨rfl, fr3, X3, ⟨Z', R3, hZ'⟩, e29, b3, W3, v3⟩
        have fr03 : Fr SSx m m3 := (fr.trans (fr1.mono (fun a j q => by unfold STk at q; unfold SSx; omega))).trans (fr3.mono (fun a j q => SY_SSx q))
        have f3 : ∀ a j, ¬ (677 ≤ a ∧ a ≤ 702) → ¬ (a = 668 ∧ 12 < j ∧ j < 50) → mI m3 a j = mI m1 a j := fun a j q1 q2 => fr3.i (fun q => by
          rcases q with q | q
          · have := SX_n q
            omega
          · omega)
        have L1 : LNm m1 lain := hL.fe (fr1.i (by unfold STk; omega)) (fun j => fr1.i (by unfold STk; omega)) (fun j => fr1.i (by unfold STk; omega))
        have L3 : LNm m3 lain := L1.fe (f3 _ _ (by omega) (by omega)) (fun j => f3 _ _ (by omega) (by omega)) (fun j => f3 _ _ (by omega) (by omega))
        have O3 : ORm m3 (ord.eraseIdx p) := O1.fe (f3 _ _ (by omega) (by omega)) (fun j => f3 _ _ (by omega) (by omega))
        have K1 : KM m1 nums kept := hK.fe (fun j => fr1.i (by unfold STk; omega)) (fr1.i (by unfold STk; omega)) (fun a a1 a2 j => fr1.i (by unfold STk; omega))
        have K3 : KM m3 nums kept := K1.fe (fun j => f3 _ _ (by omega) (by omega)) (f3 _ _ (by omega) (by omega)) (fun a a1 a2 j => f3 _ _ (by omega) (by omega))
        have K4 := K3.bump h6 (i := 4) (by decide)
        have ee5 : nn (aE S) = 5 ↔ aE S = 5 := nn_eq (b := 5) (by omega) (by decide)
        have ee1 : nn (aE S) = 1 ↔ aE S = 1 := nn_eq (b := 1) (by omega) (by decide)
        have n4 : (bump nums 4).getD 4 0 = k + 1 := by rw [bump_g (by omega), if_pos rfl, h4]
        -- and on
        have nxt1 : ∀ (m5 : Mm) (lain' left' : List (List Nat)) (ord' nums' : List Nat) (kept' : List Kp) (x5 : Option Value), Fr SSx m m5 → MX m5 fs nds (some g) → LNm m5 lain' → ORm m5 ord' → LWr lain' ord' left' → (∀ w, w ∈ left' → OKw fs g w) → lain'.length ≤ 1 + 24 * (k + 1) → ord'.length ≤ lain'.length → KM m5 nums' kept' → nums'.length = 6 → nums'.getD 4 0 = k + 1 → RX m5 Z' → srch fs g o (n + 1) st left nums kept = srch fs g o n (nxt st) left' nums' kept' → V m12_search 257 [some (.ref 668), some (.int (nn o)), some (.int seed), some (.int (nxt st)), some (.int v4), x5] [] m5 (SchM m fs nds g Zt (srch fs g o (n + 1) st left nums kept)) := by
          intro m5 lain' left' ord' nums' kept' x5 a1 a2 a3 a4 a5 a6 a7 a8 a9 a10 a11 a12 a13
          rw [a13]
          exact V.drs1 (u12_search_257 a2.1 (V.drs (ih (k + 1) Z' (nxt st) m5 lain' left' ord' nums' kept' (by omega) (by omega) a1 a2 a3 a4 a5 a6 a7 a8 a9 a10 a11 a12)))
        refine ⟨rfl, X3.1, nn_in (a := 4) (by decide) (by decide), nn_in (a := 4) (by decide) (by decide), ?_⟩
        rw [e29, ee5, ee1, nn_pred (show 1 ≤ aE S by omega), nn_tn (show aE S - 1 < 2147483648 by omega)]
        refine ⟨fun ne => ?_, fun e5 => ?_⟩
        · rw [if_neg ne] at hev
          have v6 : vp_in (nn (aE S - 1)) 6 := nn_in (by omega) (by omega)
          have K5 := K4.bump (by rw [bump_l]; exact h6) (i := aE S - 1) (by omega)
          obtain ⟨m4, hm4⟩ : ∃ m4, m4 = mSetI (mSetI m3 708 4 (mI m3 708 4 + 1)) 708 (aE S - 1) (mI (mSetI m3 708 4 (mI m3 708 4 + 1)) 708 (aE S - 1) + 1) := ⟨_, rfl⟩
          rw [← hm4] at K5 ⊢
          have fr4 : Fr (fun a _ => a = 708) m3 m4 := by
            rw [hm4]
            exact Fr.set (S := fun a _ => a = 708) (Fr.set (S := fun a _ => a = 708) Fr.refl rfl) rfl
          have X4 : MX m4 fs nds (some g) := X3.gen fr4 (fun a j q => by omega)
          have n5 : (bump (bump nums 4) (aE S - 1)).getD 4 0 = k + 1 := by rw [bump_g (by rw [bump_l]; omega), if_neg (by omega), n4]
          have L4 : LNm m4 lain := L3.fe (fr4.i (by omega)) (fun j => fr4.i (by omega)) (fun j => fr4.i (by omega))
          have O4 : ORm m4 (ord.eraseIdx p) := O3.fe (fr4.i (by omega)) (fun j => fr4.i (by omega))
          have R4 : RX m4 Z' := R3.fe (fr4.i (by omega)) (fun j => fr4.i (by omega))
          have fr04 : Fr SSx m m4 := fr03.trans (fr4.mono (fun a j q => by unfold SSx; omega))
          have h6' : (bump (bump nums 4) (aE S - 1)).length = 6 := by rw [bump_l, bump_l]; exact h6
          have e50 : mI m3 668 50 = nn kept.length := K3.2.1
          have m10 : 10 ≤ nn kept.length ↔ 10 ≤ kept.length := nn_le (a := 10) (by decide) (by have := K3.2.2.1; omega)
          rw [e50, m10]
          refine ⟨v6, v6, fun n1 => ?_, fun e1 => ⟨fun q => ?_, fun q => ?_⟩⟩
          · have ek : keepL S (goR g) kept = kept := if_neg (fun w => n1 w.1)
            rw [ek] at hev
            exact nxt1 m4 lain _ _ _ _ _ fr04 X4 L4 O4 (hLW.erase p) hok' (by omega) (by omega) K5 h6' n5 R4 hev
          · have ek : keepL S (goR g) kept = kept := if_neg (fun w => by omega)
            rw [ek] at hev
            exact nxt1 m4 lain _ _ _ _ _ fr04 X4 L4 O4 (hLW.erase p) hok' (by omega) (by omega) K5 h6' n5 R4 hev
          · have ek : keepL S (goR g) kept = kept ++ [keptK S (goR g)] := if_pos ⟨e1, by omega⟩
            rw [ek] at hev
            have v4' : ValM fs g m4 S := (v3 e1).fe dl (fun a a1 a2 => fr4.fn (fun j => by omega)) (fun j hj => fr4.i (by omega))
            obtain ⟨q1, q2, q3, q4, q5, q6, q7, q8, q9, q10⟩ := v4'
            refine C.mono (s12_keepValue X4.1 q1 q2 q3 q4 q5 q6 q7 q8 q9 q10 K5 (by omega)) ?_
            rintro z5 m5 ⟨rfl, fr5, K6⟩
            have X5 : MX m5 fs nds (some g) := X4.gen fr5 (fun a j q => by unfold SKm at q; omega)
            refine ⟨rfl, X5.1, ?_⟩
            exact nxt1 m5 lain _ _ _ _ _ (fr04.trans (fr5.mono (fun a j q => by unfold SKm at q; unfold SSx; omega))) X5 (L4.fe (fr5.i (by unfold SKm; omega)) (fun j => fr5.i (by unfold SKm; omega)) (fun j => fr5.i (by unfold SKm; omega))) (O4.fe (fr5.i (by unfold SKm; omega)) (fun j => fr5.i (by unfold SKm; omega))) (hLW.erase p) hok' (by omega) (by omega) K6 h6' n5 (R4.fe (fr5.i (by unfold SKm; omega)) (fun j => fr5.i (by unfold SKm; omega))) hev
        · rw [if_pos e5] at hev
          obtain ⟨n24, n2, w40, sn, _⟩ := hwok.br hf hg (by rw [← hS]; exact e5)
          rw [← hS] at n24 n2 sn
          obtain ⟨m4, hm4⟩ : ∃ m4, m4 = mSetI m3 708 4 (mI m3 708 4 + 1) := ⟨_, rfl⟩
          rw [← hm4] at K4 ⊢
          have fr4 : Fr (fun a _ => a = 708) m3 m4 := by
            rw [hm4]
            exact Fr.refl.set rfl
          have X4 : MX m4 fs nds (some g) := X3.gen fr4 (fun a j q => by omega)
          have L4 : LNm m4 lain := L3.fe (fr4.i (by omega)) (fun j => fr4.i (by omega)) (fun j => fr4.i (by omega))
          have O4 : ORm m4 (ord.eraseIdx p) := O3.fe (fr4.i (by omega)) (fun j => fr4.i (by omega))
          have R4 : RX m4 Z' := R3.fe (fr4.i (by omega)) (fun j => fr4.i (by omega))
          have fr04 : Fr SSx m m4 := fr03.trans (fr4.mono (fun a j q => by unfold SSx; omega))
          have W4 : WM m4 w := ⟨(fr4.i (by omega)).trans W3.1, W3.2.1, fun i x hx => (fr4.i (by omega)).trans (W3.2.2 i x hx)⟩
          have b4 : mI m4 668 39 = nn (aB S) := (fr4.i (by omega)).trans (b3 e5)
          have hNl : ∀ j, ((List.range j).map (brW o (aB S) w)).length = j := fun j => by rw [List.length_map, List.length_range]
          have loop : ∀ (d j : Nat) (M5 : Mm), j + d = aB S → Fr SLm m4 M5 → LNm M5 (lain ++ (List.range j).map (brW o (aB S) w)) → ORm M5 (ord.eraseIdx p ++ (List.range j).map (fun i => lain.length + i)) → V m12_search 181 [some (.ref 668), some (.int (nn o)), some (.int seed), some (.int (nxt st)), some (.int v4), some (.int (nn j))] [] M5 (SchM m fs nds g Zt (srch fs g o (n + 1) st left nums kept)) := by
            intro d
            induction d with
            | zero =>
              intro j M5 hj fr5 L5 O5
              obtain rfl : j = aB S := by omega
              have X5 : MX M5 fs nds (some g) := X4.gen fr5 (fun a j q => by unfold SLm at q; omega)
              refine u12_search_181 X5.1 ?_
              rw [show mI M5 668 39 = nn (aB S) from (fr5.i (by unfold SLm; omega)).trans b4]
              refine ⟨fun _ => ?_, fun q => (q (Int32.le_refl _)).elim⟩
              refine nxt1 M5 _ _ _ _ _ _ (fr04.trans (fr5.mono (fun a j q => by unfold SLm at q; unfold SSx; omega))) X5 L5 O5 ((hLW.erase p).app (hNl _)) (fun w' hw' => ?_) (by rw [List.length_append, hNl]; omega) (by rw [List.length_append, List.length_append, List.length_map, List.length_range, hNl]; omega) (K4.fe (fun j => fr5.i (by unfold SLm; omega)) (fr5.i (by unfold SLm; omega)) (fun a a1 a2 j => fr5.i (by unfold SLm; omega))) (by rw [bump_l]; exact h6) n4 (R4.fe (fr5.i (by unfold SLm; omega)) (fun j => fr5.i (by unfold SLm; omega))) hev
              rcases List.mem_append.mp hw' with q | q
              · exact hok' w' q
              · obtain ⟨i, i1, i2⟩ := List.mem_map.mp q
                obtain ⟨x, x1, x2⟩ := brW_eq (o := o) (us := w) (List.mem_range.mp i1)
                rw [← i2, x2]
                exact sn x x1
            | succ d ih5 =>
              intro j M5 hj fr5 L5 O5
              have s5 := fr5.st X4.1
              have l1 : nn (aB S) ≤ nn j ↔ aB S ≤ j := nn_le (by omega) (by omega)
              have W5 : WM M5 w := ⟨(fr5.i (by unfold SLm; omega)).trans W4.1, W4.2.1, fun i x hx => (fr5.i (by unfold SLm; omega)).trans (W4.2.2 i x hx)⟩
              have lenL : (lain ++ (List.range j).map (brW o (aB S) w)).length = lain.length + j := by rw [List.length_append, hNl]
              have lenO : (ord.eraseIdx p ++ (List.range j).map (fun i => lain.length + i)).length = ord.length - 1 + j := by rw [List.length_append, List.length_map, List.length_range, hel]
              have step : ∀ x, brW o (aB S) w j = w ++ [x] → x < 100 → V m12_search 209 [some (.ref 668), some (.int (nn o)), some (.int seed), some (.int (nxt st)), some (.int v4), some (.int (nn j))] [(.int (nn x)), (.ref 668)] M5 (SchM m fs nds g Zt (srch fs g o (n + 1) st left nums kept)) := by
                intro x hx hx100
                refine u12_search_209 s5 ?_
                refine C.mono (s12_lays (o := some x) s5 L5 O5 W5 (by omega) (by omega) ?_ (fun y hy => ?_)) ?_
                · show (w ++ [x]).length ≤ 40
                  rw [List.length_append, List.length_singleton]
                  omega
                · obtain rfl : x = y := Option.some.inj hy
                  omega
                · rintro z6 m6 ⟨rfl, fr6, L6, O6⟩
                  refine ⟨rfl, fr6.st s5, ?_⟩
                  rw [nn_one]
                  refine ih5 (j + 1) m6 (by omega) (fr5.trans fr6) ?_ ?_
                  · rw [List.range_succ, List.map_append, ← List.append_assoc]
                    show LNm m6 (_ ++ [brW o (aB S) w j])
                    rw [hx]
                    exact L6
                  · rw [List.range_succ, List.map_append, ← List.append_assoc]
                    show ORm m6 (_ ++ [lain.length + j])
                    rw [lenL] at O6
                    exact O6
              refine u12_search_181 s5 ?_
              rw [show mI M5 668 39 = nn (aB S) from (fr5.i (by unfold SLm; omega)).trans b4, l1, o0, show (nn (aB S) - 1 : Int32) = nn (aB S - 1) from nn_pred (by omega), nn_sub (show j ≤ aB S - 1 by omega)]
              exact ⟨fun q => by omega, fun _ => ⟨fun w => step j (by unfold brW; rw [if_neg w]) (by omega), fun w => step (aB S - 1 - j) (by unfold brW; rw [if_pos w]) (by omega)⟩⟩
          exact loop (aB S) 0 m4 (by omega) Fr.refl (by simpa using L4) (by simpa using O4)
      refine u12_search_88 hm ?_
      rw [hO.1, e4, l0, m2, z0, o0, o1]
      refine ⟨fun q => by omega, fun _ => ⟨nn_in (a := 4) (by decide) (by decide), fun q => by omega, fun _ => ⟨by omega, fun n0 => ⟨fun n1 => ?_, fun e1 => ?_⟩, fun e0 => ?_⟩⟩⟩
      · refine body _ _ ?_
        show ((nxt st).toUInt32 >>> (Int32.toUInt32 16 &&& Int32.toUInt32 31)).toInt32 - ((nxt st).toUInt32 >>> (Int32.toUInt32 16 &&& Int32.toUInt32 31)).toInt32 / nn ord.length * nn ord.length = nn p
        rw [drw_eq, nn_rem (by have := drw_lt (nxt st); omega) (by omega)]
        congr 1
        rw [hp, hlen]
        unfold pick
        rw [if_neg n0, if_pos (by omega)]
      · refine body _ _ ?_
        rw [hp]
        unfold pick
        rw [if_neg n0, if_neg (by omega)]
        rfl
      · refine body _ _ ?_
        rw [nn_pred (by omega), hp, hlen]
        unfold pick
        rw [if_pos e0]
