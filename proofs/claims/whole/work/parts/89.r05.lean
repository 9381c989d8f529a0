/-! SEARCHES: the class's search -/
theorem RWm.fe {m m' : Mm} {rows : List (List Nat)} (h : RWm m rows) (h6 : mI m' 541 6 = mI m 541 6) (h4 : ∀ a, 544 ≤ a → a < 547 → ∀ j, mI m' a j = mI m a j) : RWm m' rows := ⟨h6.trans h.1, h.2.1, fun r ws hr => by
  obtain ⟨a1, a2, a3, a4⟩ := h.2.2 r ws hr
  refine ⟨(h4 546 (by decide) (by decide) _).trans a1, a2, a3, fun us x hu => ?_⟩
  obtain ⟨o, c1, c2, c3, c4⟩ := a4 us x hu
  exact ⟨o, c1, (h4 544 (by decide) (by decide) _).trans c2, (h4 545 (by decide) (by decide) _).trans c3, c4⟩⟩
theorem LFm.fe {m m' : Mm} {lf : List Nat} {st : Nat} (h : LFm m lf st) (h8 : mI m' 541 8 = mI m 541 8) (h9 : mI m' 541 9 = mI m 541 9) (h7 : ∀ j, mI m' 547 j = mI m 547 j) : LFm m' lf st := ⟨h8.trans h.1, h9.trans h.2.1, h.2.2.1, fun i r hi => (h7 _).trans (h.2.2.2 i r hi)⟩
theorem KC.fe {m m' : Mm} {nums : List Nat} {kept : List Kp} (h : KC m nums kept) (h3 : ∀ j, mI m' 543 j = mI m 543 j) (h10 : mI m' 541 10 = mI m 541 10) (h8 : ∀ a, 548 ≤ a → a < 668 → ∀ j, mI m' a j = mI m a j) : KC m' nums kept := by
  obtain ⟨k1, k2, k3, k4⟩ := h
  refine ⟨fun i hi => (h3 i).trans (k1 i hi), h10.trans k2, k3, fun i k hk => ?_⟩
  have hl := (List.getElem?_eq_some_iff.mp hk).1
  exact KCi.fr (S := fun _ _ => True) (k4 i k hk) (fun a j a1 a2 => h8 a (by omega) (by omega) j)
theorem KC.bump {m : Mm} {nums : List Nat} {kept : List Kp} {i : Nat} (h : KC m nums kept) (hl : nums.length = 6) (hi : i < 6) : KC (mSetI m 543 i (mI m 543 i + 1)) (bump nums i) kept := by
  obtain ⟨k1, k2, k3, k4⟩ := h
  refine ⟨fun j hj => ?_, ?_, k3, fun j k hk => ?_⟩
  · rw [mI_set, bump_g (by omega)]
    by_cases e : j = i
    · rw [if_pos ⟨rfl, e⟩, if_pos e, k1 i hi, nn_one]
    · rw [if_neg (fun q => e q.2), if_neg e]
      exact k1 j hj
  · rw [mI_set, if_neg (by omega)]
    exact k2
  · refine KCi.fr (S := fun _ _ => True) (k4 j k hk) (fun a j a1 a2 => ?_)
    rw [mI_set, if_neg (by omega)]
theorem KC.set5 {m : Mm} {nums : List Nat} {kept : List Kp} {v : Nat} (h : KC m nums kept) (hl : nums.length = 6) : KC (mSetI m 543 5 (nn v)) (nums.set 5 v) kept ∧ mI m 543 0 = nn ((nums.set 5 v).getD 0 0) := by
  obtain ⟨k1, k2, k3, k4⟩ := h
  have g : ∀ j, (nums.set 5 v).getD j 0 = if j = 5 then v else nums.getD j 0 := fun j => by
    by_cases e : j = 5
    · rw [if_pos e, e, List.getD_eq_getElem?_getD, List.getElem?_set_self (by omega)]
      rfl
    · rw [if_neg e, List.getD_eq_getElem?_getD, List.getElem?_set_ne (Ne.symm e), List.getD_eq_getElem?_getD]
  refine ⟨⟨fun j hj => ?_, ?_, k3, fun j k hk => ?_⟩, ?_⟩
  · rw [mI_set, g]
    by_cases e : j = 5
    · rw [if_pos ⟨rfl, e⟩, if_pos e]
    · rw [if_neg (fun q => e q.2), if_neg e]
      exact k1 j hj
  · rw [mI_set, if_neg (by omega)]
    exact k2
  · refine KCi.fr (S := fun _ _ => True) (k4 j k hk) (fun a j a1 a2 => ?_)
    rw [mI_set, if_neg (by omega)]
  · rw [g, if_neg (by decide)]
    exact k1 0 (by decide)
/-- the rows that are left, by their numbers -/
def LWr (rows : List (List Nat)) (lf : List Nat) (left : List (List Nat)) : Prop := lf.length = left.length ∧ ∀ (i r : Nat), lf[i]? = some r → ∃ w, left[i]? = some w ∧ rows[r]? = some w
theorem LWr.erase {rows : List (List Nat)} {lf : List Nat} {left : List (List Nat)} (h : LWr rows lf left) (p : Nat) : LWr rows (lf.eraseIdx p) (left.eraseIdx p) := by
  refine ⟨by rw [List.length_eraseIdx, List.length_eraseIdx, h.1], fun i r hi => ?_⟩
  rw [List.getElem?_eraseIdx] at hi ⊢
  by_cases q : i < p
  · rw [if_pos q] at hi ⊢
    exact h.2 i r hi
  · rw [if_neg q] at hi ⊢
    exact h.2 _ r hi
theorem LWr.app {rows N : List (List Nat)} {lf : List Nat} {left : List (List Nat)} {n : Nat} (h : LWr rows lf left) (hn : N.length = n) : LWr (rows ++ N) (lf ++ (List.range n).map (fun i => rows.length + i)) (left ++ N) := by
  refine ⟨by rw [List.length_append, List.length_append, List.length_map, List.length_range, h.1, hn], fun i r hi => ?_⟩
  by_cases q : i < lf.length
  · rw [List.getElem?_append_left q] at hi
    obtain ⟨w, w1, w2⟩ := h.2 i r hi
    exact ⟨w, by rw [List.getElem?_append_left (by rw [← h.1]; exact q)]; exact w1, by rw [List.getElem?_append_left (List.getElem?_eq_some_iff.mp w2).1]; exact w2⟩
  · have hl := (List.getElem?_eq_some_iff.mp hi).1
    rw [List.length_append, List.length_map, List.length_range] at hl
    rw [List.getElem?_append_right (by omega), List.getElem?_map, List.getElem?_range (by omega)] at hi
    obtain rfl : rows.length + (i - lf.length) = r := Option.some.inj hi
    refine ⟨N[i - lf.length]'(by omega), ?_, ?_⟩
    · rw [List.getElem?_append_right (by rw [← h.1]; omega), ← h.1]
      exact List.getElem?_eq_getElem _
    · rw [List.getElem?_append_right (by omega), show rows.length + (i - lf.length) - rows.length = i - lf.length by omega]
      exact List.getElem?_eq_getElem _
theorem brW_eq {o n i : Nat} {us : List Nat} (hi : i < n) : ∃ x, x < n ∧ brW o n us i = us ++ [x] := ⟨if o = 0 then n - 1 - i else i, by split <;> omega, rfl⟩
def SchK (m : Mm) (R : List Nat × List Kp) (r : Option Value ⊕ String) (m' : Mm) : Prop := r = .inl (some (.int (nn (R.1.getD 0 0)))) ∧ Ze m m' ∧ St m' ∧ KC m' R.1 R.2
theorem V.dropm {y : Mi} {pc : Nat} {a b c d e f : Option Value} {x1 x2 x3 : Option Value} {m : Mm} {K : Option Value ⊕ String → Mm → Prop} (k : V y pc [a, b, c, d, e, f, none, none, none] [] m K) : V y pc [a, b, c, d, e, f, x1, x2, x3] [] m K := by
  refine V.weak (L' := [a, b, c, d, e, f, none, none, none]) rfl (fun i v q => ?_) k
  rcases i with _ | _ | _ | _ | _ | _ | _ | _ | _ | i
  all_goals first | exact q | cases q
theorem s8_loop {fs : List Fn} {g : Tr} {m : Mm} {e o : Nat} {seed : Int32} (hf : PW fs [] none) (hg : tok fs g) (hF : CF m fs) (het : ExpT m e g) (ho : o < 3) : ∀ (n k s0 : Nat) (st v4 : Int32) (M : Mm) (rows left : List (List Nat)) (lf nums : List Nat) (kept : List Kp), k + n = 200 → St M → Ze m M → RWm M rows → LFm M lf s0 → LWr rows lf left → (∀ w, w ∈ left → OKw fs g w) → rows.length ≤ 1 + 24 * k → s0 + lf.length ≤ rows.length → KC M nums kept → nums.length = 6 → (o = 2 → v4 = st) →
    V m8_make 17 [some (.ref 541), some (.ref e), some (.int (nn o)), some (.int seed), some (.int v4), some (.int (nn k)), none, none, none] [] M (SchK m (srch fs g o n st left nums kept)) := by
  intro n
  induction n with
  | zero =>
    intro k s0 st v4 M rows left lf nums kept hk sM hZ hR hL hLW hok hrl hsl hKC hn6 hv
    obtain rfl : k = 200 := by omega
    have e4 := het.up hg.1 hZ.up
    refine u8_make_17 sM e4.2.2.1 ⟨fun _ => ?_, fun q => (q (Int32.le_refl _)).elim⟩
    refine w8_make_166 sM e4.2.2.1 ?_
    rw [hL.1, hL.2.1]
    have l9 : nn (s0 + lf.length) ≤ nn s0 ↔ s0 + lf.length ≤ s0 := nn_le (by have := hL.2.2.1; omega) (by have := hL.2.2.1; omega)
    rw [l9]
    have fin : ∀ v, v = (if left.length = 0 then 1 else 0) → SchK m (srch fs g o 0 st left nums kept) (.inl (some (.int (mI M 543 0)))) (mSetI M 543 5 (nn v)) := fun v hv => by
      obtain ⟨k1, k2⟩ := hKC.set5 (v := v) hn6
      have es : srch fs g o 0 st left nums kept = (nums.set 5 v, kept) := by
        rw [hv]
        rfl
      rw [es]
      exact ⟨by rw [k2], hZ.trans (Fr.ze (S := fun a _ => a = 543) (Fr.refl.set rfl) (fun a j q => by omega)), St.i sM, k1⟩
    refine ⟨fun q => ⟨nn_in (a := 5) (by decide) (by decide), nn_in (a := 0) (by decide) (by decide), ?_⟩, fun q => ⟨nn_in (a := 5) (by decide) (by decide), nn_in (a := 0) (by decide) (by decide), ?_⟩⟩
    · exact fin 1 (by rw [if_pos (by have := hLW.1; omega)])
    · exact fin 0 (by rw [if_neg (by have := hLW.1; omega)])
  | succ n ih =>
    intro k s0 st v4 M rows left lf nums kept hk sM hZ hR hL hLW hok hrl hsl hKC hn6 hv
    have e4 := het.up hg.1 hZ.up
    have hlen := hLW.1
    have h48 := hL.2.2.1
    have m2 : 200 ≤ nn k ↔ 200 ≤ k := nn_le (a := 200) (by decide) (by omega)
    have l9 : nn (s0 + lf.length) ≤ nn s0 ↔ s0 + lf.length ≤ s0 := nn_le (by omega) (by omega)
    have o0 : nn o = 0 ↔ o = 0 := nn_eq (b := 0) (by omega) (by decide)
    have o2 : nn o = 2 ↔ o = 2 := nn_eq (b := 2) (by omega) (by decide)
    refine u8_make_17 sM e4.2.2.1 ?_
    rw [m2, hL.1, hL.2.1, l9]
    refine ⟨fun q => by omega, fun _ => ⟨fun q => ?_, fun q => ?_⟩⟩
    · refine w8_make_166 sM e4.2.2.1 ?_
      rw [hL.1, hL.2.1, l9]
      refine ⟨fun _ => ⟨nn_in (a := 5) (by decide) (by decide), nn_in (a := 0) (by decide) (by decide), ?_⟩, fun q2 => (q2 q).elim⟩
      obtain ⟨k1, k2⟩ := hKC.set5 (v := 1) hn6
      have es : srch fs g o (n + 1) st left nums kept = (nums.set 5 1, kept) := if_pos (by omega)
      rw [es]
      exact ⟨by rw [k2], hZ.trans (Fr.ze (S := fun a _ => a = 543) (Fr.refl.set rfl) (fun a j q => by omega)), St.i sM, k1⟩
    · have hln : 0 < lf.length := by omega
      have hd : nn (s0 + lf.length) - nn s0 = nn lf.length := by
        rw [nn_sub (by omega)]
        congr 1
        omega
      rw [hd, nn_pred (by omega)]
      obtain ⟨p, hp⟩ : ∃ p, p = pick o (nxt st) left.length := ⟨_, rfl⟩
      have hpl : p < lf.length := by
        rw [hp, hlen]
        exact pick_lt (by omega)
      obtain ⟨r, hr⟩ : ∃ r, lf[p]? = some r := ⟨_, List.getElem?_eq_getElem hpl⟩
      obtain ⟨w, hw1, hw2⟩ := hLW.2 p r hr
      have hwD : left.getD p [] = w := by
        rw [List.getD_eq_getElem?_getD, hw1]
        rfl
      have hwok := hok w (List.mem_of_getElem? hw1)
      obtain ⟨S, hS⟩ : ∃ S, S = finA fs g w := ⟨_, rfl⟩
      have hrr := (List.getElem?_eq_some_iff.mp hw2).1
      -- one run
      have body : ∀ v4' : Int32, (o = 2 → v4' = nxt st) → V m8_make 93 [some (.ref 541), some (.ref e), some (.int (nn o)), some (.int seed), some (.int v4'), some (.int (nn k)), some (.int (nn p)), none, none] [] M (SchK m (srch fs g o (n + 1) st left nums kept)) := by
        intro v4' hv4
        refine w8_make_93 sM e4.2.2.1 (C.mono (s8_takeRow sM hR hL hr) ?_)
        rintro z1 m1 ⟨rfl, fr1, R1, L1⟩
        have s1 := fr1.st sM
        have z1 : Ze M m1 := fr1.ze (fun a j q => by omega)
        refine ⟨_, rfl, s1, C.mono (s8_giveWays s1 R1 hw2) ?_⟩
        rintro z2 m2 ⟨rfl, fr2, W2⟩
        have s2 := fr2.st s1
        have z2 : Ze m m2 := (hZ.trans z1).trans (fr2.ze (fun a j q => by omega))
        refine ⟨rfl, s2, C.mono (s3_run hf hg hwok s2 (CF.ze hf hF z2) W2 (het.up hg.1 z2.up)) ?_⟩
        rw [← hS]
        rintro z3 m3 ⟨rfl, z3, s3, _, c3, b3, _, v3⟩
        obtain ⟨_, hS0, hS5⟩ := hwok.last hf hg
        rw [← hS] at hS0 hS5
        have hKC3 : KC m3 nums kept := hKC.fe (fun j => by rw [c3 543 (by decide), fr2.i (by omega), fr1.i (by omega)]) (by rw [c3 541 (by decide), fr2.i (by omega), fr1.i (by omega)]) (fun a a1 a2 j => by rw [c3 a (by omega), fr2.i (by omega), fr1.i (by omega)])
        have hR3 : RWm m3 rows := R1.fe (by rw [c3 541 (by decide), fr2.i (by omega)]) (fun a a1 a2 j => by rw [c3 a (by omega), fr2.i (by omega)])
        have hL3 : LFm m3 (lf.eraseIdx p) (if p = 0 then s0 + 1 else s0) := L1.fe (by rw [c3 541 (by decide), fr2.i (by omega)]) (by rw [c3 541 (by decide), fr2.i (by omega)]) (fun j => by rw [c3 547 (by decide), fr2.i (by omega)])
        have hKC4 := hKC3.bump hn6 (i := 4) (by decide)
        have hel : (lf.eraseIdx p).length = lf.length - 1 := by rw [List.length_eraseIdx, if_pos hpl]
        have hsl' : (if p = 0 then s0 + 1 else s0) + (lf.eraseIdx p).length ≤ rows.length := by
          rw [hel]
          split <;> omega
        have ee : nn (oc (aE S)) = 4 ↔ aE S = 5 := by
          unfold oc
          rw [if_neg hS0]
          have : nn (aE S - 1) = 4 ↔ aE S - 1 = 4 := nn_eq (b := 4) (by omega) (by decide)
          rw [this]
          omega
        have hZ3 : Ze m m3 := z2.trans z3
        have hev : srch fs g o (n + 1) st left nums kept = if aE S = 5 then srch fs g o n (nxt st) (left.eraseIdx p ++ (List.range (aB S)).map (brW o (aB S) w)) (bump nums 4) kept else srch fs g o n (nxt st) (left.eraseIdx p) (bump (bump nums 4) (aE S - 1)) (keepL S (goR g) kept) := by
          show (if left.length = 0 then (nums.set 5 1, kept) else _) = _
          rw [if_neg (by omega), ← hp, hwD, ← hS]
        have hok' : ∀ w', w' ∈ left.eraseIdx p → OKw fs g w' := fun w' q => hok w' (List.mem_of_mem_eraseIdx q)
        refine ⟨_, rfl, s3, nn_in (a := 4) (by decide) (by decide), nn_in (a := 4) (by decide) (by decide), ?_⟩
        rw [ee]
        refine ⟨fun ne => ?_, fun e5 => ?_⟩
        · rw [if_neg ne] at hev
          have eo : oc (aE S) = aE S - 1 := if_neg hS0
          have v6 : vp_in (nn (oc (aE S))) 6 := nn_in (by rw [eo]; omega) (by rw [eo]; omega)
          refine ⟨v6, v6, ?_⟩
          have tn : Int32.toNatClampNeg (nn (oc (aE S))) = aE S - 1 := by
            rw [eo]
            exact nn_tn (by omega)
          rw [tn]
          have hKC5 := hKC4.bump (by rw [bump_l]; exact hn6) (i := aE S - 1) (by omega)
          obtain ⟨m4, hm4⟩ : ∃ m4, m4 = mSetI (mSetI m3 543 4 (mI m3 543 4 + 1)) 543 (aE S - 1) (mI (mSetI m3 543 4 (mI m3 543 4 + 1)) 543 (aE S - 1) + 1) := ⟨_, rfl⟩
          rw [← hm4] at hKC5 ⊢
          have fr4 : Fr (fun a _ => a = 543) m3 m4 := by
            rw [hm4]
            exact Fr.set (S := fun a _ => a = 543) (Fr.set (S := fun a _ => a = 543) Fr.refl rfl) rfl
          have s4 := fr4.st s3
          refine C.mono (s8_keepValue (fs := fs) (g := g) (S := S) s4 hKC5 (by omega) (by omega) (fun h1 => ?_)) ?_
          · obtain ⟨rh, s, u1, u2, u3, u4, u5, u6, u7, u8, u9, u10⟩ := v3 h1
            refine ⟨rh, s, u1, HT.hi u1 u2 fr4 (fun a j q => by omega), by rw [fr4.i (by omega)]; exact u3, fun k hk => by rw [fr4.i (by omega)]; exact u4 k hk, by rw [fr4.i (by omega)]; exact u5, ?_, u7, u8, u9, u10⟩
            exact u6.fe (fun a i a1 a2 _ => fr4.i (by omega))
          · rintro z5 m5 ⟨rfl, fr5, K5⟩
            have s5 := fr5.st s4
            have f45 : Fr (fun a j => a = 543 ∨ (548 ≤ a ∧ a < 668) ∨ (a = 541 ∧ j = 10)) m3 m5 := (fr4.mono (fun a j q => Or.inl q)).trans (fr5.mono (fun a j q => Or.inr q))
            refine ⟨rfl, s5, w8_make_160 s5 (het.up hg.1 (hZ3.trans (f45.ze (fun a j q => by omega))).up).2.2.1 ?_⟩
            rw [nn_one, hev]
            refine V.dropm (ih (k + 1) _ (nxt st) v4' m5 rows (left.eraseIdx p) (lf.eraseIdx p) _ _ (by omega) s5 (hZ3.trans (f45.ze (fun a j q => by omega))) (hR3.fe (f45.i (by omega)) (fun a a1 a2 j => f45.i (by omega))) (hL3.fe (f45.i (by omega)) (f45.i (by omega)) (fun j => f45.i (by omega))) (hLW.erase p) hok' (by omega) hsl' K5 (by rw [bump_l, bump_l]; exact hn6) hv4)
        · rw [if_pos e5] at hev
          obtain ⟨n24, n2, w40, sn, _⟩ := hwok.br hf hg (by rw [← hS]; exact e5)
          rw [← hS] at n24 n2 sn
          obtain ⟨m4, hm4⟩ : ∃ m4, m4 = mSetI m3 543 4 (mI m3 543 4 + 1) := ⟨_, rfl⟩
          rw [← hm4] at hKC4 ⊢
          have fr4 : Fr (fun a _ => a = 543) m3 m4 := by
            rw [hm4]
            exact Fr.refl.set rfl
          have s4 := fr4.st s3
          have hR4 : RWm m4 rows := hR3.fe (fr4.i (by omega)) (fun a a1 a2 j => fr4.i (by omega))
          have hL4 : LFm m4 (lf.eraseIdx p) (if p = 0 then s0 + 1 else s0) := hL3.fe (fr4.i (by omega)) (fr4.i (by omega)) (fun j => fr4.i (by omega))
          refine C.mono (s8_addBranches (n := aB S) (o := o) (us := w) s4 hR4 hL4 (by rw [fr4.i (by omega)]; exact b3 e5) (by omega) (by omega) hw2 w40 (by omega) (by omega)) ?_
          rintro z5 m5 ⟨rfl, fr5, R5, L5⟩
          have s5 := fr5.st s4
          have f45 : Fr (fun a j => a = 543 ∨ (544 ≤ a ∧ a ≤ 547) ∨ (a = 541 ∧ (j = 6 ∨ j = 9))) m3 m5 := (fr4.mono (fun a j q => Or.inl q)).trans (fr5.mono (fun a j q => Or.inr q))
          refine ⟨rfl, s5, w8_make_160 s5 (het.up hg.1 (hZ3.trans (f45.ze (fun a j q => by omega))).up).2.2.1 ?_⟩
          rw [nn_one, hev]
          have hNl : ((List.range (aB S)).map (brW o (aB S) w)).length = aB S := by rw [List.length_map, List.length_range]
          refine V.dropm (ih (k + 1) _ (nxt st) v4' m5 _ _ _ _ _ (by omega) s5 (hZ3.trans (f45.ze (fun a j q => by omega))) R5 L5 ((hLW.erase p).app hNl) (fun w' hw' => ?_) (by rw [List.length_append, hNl]; omega) (by rw [List.length_append, List.length_append, List.length_map, List.length_range, hNl]; omega) (hKC4.fe (fun j => fr5.i (by omega)) (fr5.i (by omega)) (fun a a1 a2 j => fr5.i (by omega))) (by rw [bump_l]; exact hn6) hv4)
          rcases List.mem_append.mp hw' with q | q
          · exact hok' w' q
          · obtain ⟨i, i1, i2⟩ := List.mem_map.mp q
            obtain ⟨x, x1, x2⟩ := brW_eq (o := o) (us := w) (List.mem_range.mp i1)
            rw [← i2, x2]
            exact sn x x1
      have at55 : ∀ s0' : Nat, (o ≠ 2 → s0' = p) → V m8_make 55 [some (.ref 541), some (.ref e), some (.int (nn o)), some (.int seed), some (.int v4), some (.int (nn k)), none, none, none] [.int (nn s0')] M (SchK m (srch fs g o (n + 1) st left nums kept)) := by
        intro s0' hs0
        refine u8_make_55 sM e4.2.2.1 ?_
        rw [o2, hL.1, hL.2.1, hd]
        refine ⟨fun ne => ?_, fun e2 => ⟨fun q => ?_, ?_⟩⟩
        · rw [hs0 ne]
          exact body v4 (fun q => absurd q ne)
        · have : nn lf.length = 0 ↔ lf.length = 0 := nn_eq (b := 0) (by omega) (by decide)
          have := this.mp q
          omega
        · have hv4 := hv e2
          rw [hv4]
          show V m8_make 93 [some (.ref 541), some (.ref e), some (.int (nn o)), some (.int seed), some (.int (nxt st)), some (.int (nn k)), some (.int ((((nxt st).toUInt32 >>> (Int32.toUInt32 16 &&& Int32.toUInt32 31)).toInt32 &&& 65535) - (((nxt st).toUInt32 >>> (Int32.toUInt32 16 &&& Int32.toUInt32 31)).toInt32 &&& 65535) / nn lf.length * nn lf.length)), none, none] [] M _
          rw [drw_eq, nn_and (drw_lt _), nn_rem (by have := drw_lt (nxt st); omega) (by omega)]
          have : drw (nxt st) % lf.length = p := by
            rw [hp, hlen]
            unfold pick
            rw [if_neg (by omega), if_pos e2]
          rw [this]
          exact body (nxt st) (fun _ => rfl)
      rw [o0]
      refine ⟨fun ne => ?_, fun e0 => ?_⟩
      · refine at55 0 (fun n2 => ?_)
        rw [hp]
        unfold pick
        rw [if_neg ne, if_neg n2]
      · refine at55 (lf.length - 1) (fun _ => ?_)
        rw [hp, hlen]
        unfold pick
        rw [if_pos e0]
theorem s8_clear {m : Mm} (hm : St m) : C m8_clear [.ref 541] m (fun r m' => r = .inl none ∧ Fr (fun a j => a = 543 ∨ (a = 541 ∧ (j = 6 ∨ j = 8 ∨ j = 9 ∨ j = 10))) m m' ∧ RWm m' [] ∧ LFm m' [] 0 ∧ KC m' [0, 0, 0, 0, 0, 0] []) := by
  refine C.of (by decide +kernel) (Nat.le_of_ble_eq_true rfl) rfl (w8_clear hm ?_)
  have loop : ∀ (d k : Nat) (M : Mm), k + d = 6 → St M → Fr (fun a j => a = 543 ∨ (a = 541 ∧ (j = 6 ∨ j = 8 ∨ j = 9 ∨ j = 10))) m M → (∀ j, j < k → mI M 543 j = 0) → V m8_clear 2 [some (.ref 541), some (.int (nn k))] [] M (fun r m' => r = .inl none ∧ Fr (fun a j => a = 543 ∨ (a = 541 ∧ (j = 6 ∨ j = 8 ∨ j = 9 ∨ j = 10))) m m' ∧ RWm m' [] ∧ LFm m' [] 0 ∧ KC m' [0, 0, 0, 0, 0, 0] []) := by
    intro d
    induction d with
    | zero =>
      intro k M hk sM fr hz
      obtain rfl : k = 6 := by omega
      refine w8_clear_2 sM ⟨fun _ => ?_, fun q => (q (Int32.le_refl _)).elim⟩
      refine ⟨rfl, (((fr.set (by omega)).set (by omega)).set (by omega)).set (by omega), ⟨?_, Nat.zero_le _, fun r ws hr => by cases hr⟩, ⟨?_, ?_, Nat.zero_le _, fun i r hr => by cases hr⟩, fun i hi => ?_, ?_, Nat.zero_le _, fun i k hk => by cases hk⟩
      · simp [mI_set]
        rfl
      · simp [mI_set]
        rfl
      · simp [mI_set]
        rfl
      · rw [mI_set, if_neg (by omega), mI_set, if_neg (by omega), mI_set, if_neg (by omega), mI_set, if_neg (by omega), hz i hi]
        rcases (show i = 0 ∨ i = 1 ∨ i = 2 ∨ i = 3 ∨ i = 4 ∨ i = 5 by omega) with q | q | q | q | q | q <;> rw [q] <;> rfl
      · simp [mI_set]
        rfl
    | succ d ih =>
      intro k M hk sM fr hz
      have n6 : 6 ≤ nn k ↔ 6 ≤ k := nn_le (a := 6) (by decide) (by omega)
      refine w8_clear_2 sM ?_
      rw [n6, nn_tn (a := k) (by omega), nn_one]
      refine ⟨fun q => by omega, fun _ => ⟨nn_in (by omega) (by omega), ih (k + 1) _ (by omega) (St.i sM) (fr.set (by omega)) (fun j hj => ?_)⟩⟩
      rw [mI_set]
      by_cases e : j = k
      · rw [if_pos ⟨rfl, e⟩]
      · rw [if_neg (by omega)]
        exact hz j (by omega)
  exact loop 6 0 m rfl hm Fr.refl (fun j hj => by omega)
/-- what a search finds -/
noncomputable def schR (fs : List Fn) (g : Tr) (o : Nat) (seed : Int32) : List Nat × List Kp := srch fs g o 200 seed [[]] [0, 0, 0, 0, 0, 0] []
theorem s8_make {fs : List Fn} {g : Tr} {m : Mm} {e o : Nat} {seed : Int32} (hf : PW fs [] none) (hg : tok fs g) (hm : St m) (hF : CF m fs) (het : ExpT m e g) (ho : o < 3) : C m8_make [.ref 541, .ref e, .int (nn o), .int seed] m (SchK m (schR fs g o seed)) := by
  refine C.of (by decide +kernel) (Nat.le_of_ble_eq_true rfl) rfl (w8_make hm het.2.2.1 (C.mono (s8_clear hm) ?_))
  rintro z1 m1 ⟨rfl, fr1, R1, L1, K1⟩
  have s1 := fr1.st hm
  refine ⟨rfl, s1, C.mono (s8_addRow (o := 0) (x := 0) (ws := []) s1 R1 L1 (Nat.zero_le _) (fun y hy => (List.not_mem_nil hy).elim) (fun us y hu => by simp at hu) (by decide) (by decide)) ?_⟩
  rintro z2 m2 ⟨rfl, fr2, R2, L2⟩
  have s2 := fr2.st s1
  refine ⟨rfl, s2, ?_⟩
  have hZ : Ze m m2 := (fr1.ze (fun a j q => by omega)).trans (fr2.ze (fun a j q => by omega))
  refine s8_loop hf hg hF het ho 200 0 0 seed seed m2 [[]] [[]] [0] [0, 0, 0, 0, 0, 0] [] rfl s2 hZ R2 L2 ⟨rfl, fun i r hi => ?_⟩ (fun w hw => ?_) (Nat.le_refl _) (Nat.le_refl _) (K1.fe (fun j => fr2.i (by omega)) (fr2.i (by omega)) (fun a a1 a2 j => fr2.i (by omega))) rfl (fun _ => rfl)
  · cases i with
    | zero =>
      obtain rfl : 0 = r := Option.some.inj hi
      exact ⟨[], rfl, rfl⟩
    | succ i => cases hi
  · rw [List.mem_singleton.mp hw]
    exact OKw.nil hf hg
