/-! ROWS THAT MAKE ARRAYS OVER REFERENCES AND OVER ROWS -/
section Rows
variable {y : Mi} {pc : Nat} {L : List (Option Value)} {st : List Value} {m : Mm} {K : Option Value ⊕ String → Mm → Prop}
theorem Cx.arr {D : va_G} {dA : Nat → ClassId} {A : Nat → Prop} {p : Program} {l : Launch} {R : Room} {s : State} {mid : MethodId} {args : Array Value} {meth : Method} {c : Code} (C : Cx y D dA A p l R s mid args meth c) : Arr s := C.2.2.2.2.2.2.2.2.2.2.2.2.1.2
theorem Arr.at {U : State} {kd : Nat} (h : Arr U) (h1 : 15 ≤ kd) (h2 : kd < 19) : va_AO (clsOf (clsKd kd)).1 U := by
  rcases (show kd = 15 ∨ kd = 16 ∨ kd = 17 ∨ kd = 18 by omega) with rfl | rfl | rfl | rfl
  · exact h.1
  · exact h.2.1
  · exact h.2.2.1
  · exact h.2.2.2.1
theorem r_newR {kd index : Nat} {n : Int32} {N : Nat} (d : decode y.2.1 pc = .ok (.anewarray index, 3)) (h1 : 15 ≤ kd) (h2 : kd < 19) (hl : Cond.classLink y.1.cls index (clsOf (clsKd kd)).1 ∈ wsL_law) (hn : ¬ n < 0) (hN : n.toNatClampNeg = N) (hb : N * 4 ≤ 536870912)
    (k : V y (pc + 3) L (.ref (mN m) :: st) (mNew m kd N N) K) : V y pc L (.int n :: st) m K := by
  refine V.lift (fun _ _ w => Wt.nw w (fun h => okS.c (Nat.lt_succ_self _) (h.t.mono (Nat.le_succ _))) (fun D dA A p l e R s mid args below meth c H locs cells slots ls Q ad C Y oS hc1 hz1 k => ?_)) k
  refine va_newq C.1 C.2.1 C.own (C.w hl) (C.arr.at h1 h2) C.kk Y.1 Y.2.1 Y.2.2.2 C.grow hn hN hb hc1 hz1 d (fun q cA H1 hK2 hP hD hS => ?_)
  have hid : cA = dA kd := arr_id (kd := kd) (by omega) (by omega) C.kk (by rw [(clsKd_ok h1 h2).2]; exact hK2)
  subst hid
  have e : wof ad dA m ++ [(q, .inl (dA kd, N, .inr (.inr (.inr (.inr (fun _ => none))))))] = wof (adn ad (mN m) q) dA (mNew m kd N N) := wof_new Y.2.2.1 adn_at adn_lt (by rw [cel_ref (kd := kd) mNew_S h1, mNew_R]; rfl)
  rw [e] at hP hD
  have k1 := k (adn ad (mN m) q) H1 adn_lt ⟨hP, hD, wfm_new Y.2.2.1, hS⟩
  rw [List.map_cons, oS.t.ext adn_lt, show shv (adn ad (mN m) q) (.ref (mN m)) = .ref q from congrArg Value.ref adn_at] at k1
  exact k1
/-- N rows of K ints, and the array over them -/
def mMna (m : Mm) (N K : Nat) : Mm := (m.1 + 1 + N, m.2.1 + 1 + N, m.2.2.1 + (N + N * K), (fun k => if k < m.1 then m.2.2.2.1 k else if k = m.1 then (19, N) else (13, K)), (fun k => if k < m.1 then m.2.2.2.2.1 k else fun _ => 0), (fun k => if k < m.1 then m.2.2.2.2.2 k else if k = m.1 then (fun j => if j < N then some (m.1 + 1 + j) else none) else fun _ => none))
def adm (ad : Nat → Nat) (n q : Nat) (r : Nat → Nat) : Nat → Nat := fun k => if k < n then ad k else if k = n then q else r (k - (n + 1))
theorem adm_lt {ad : Nat → Nat} {n q : Nat} {r : Nat → Nat} : ∀ k, k < n → adm ad n q r k = ad k := fun _ h => if_pos h
theorem adm_at {ad : Nat → Nat} {n q : Nat} {r : Nat → Nat} : adm ad n q r n = q := (if_neg (Nat.lt_irrefl n)).trans (if_pos rfl)
theorem adm_r {ad : Nat → Nat} {n q j : Nat} {r : Nat → Nat} : adm ad n q r (n + 1 + j) = r j := by
  unfold adm
  rw [if_neg (by omega), if_neg (by omega), show n + 1 + j - (n + 1) = j by omega]
theorem wfm_mna {N K : Nat} (h : wfm m) : wfm (mMna m N K) := by
  intro i x a hi ha
  have h1 : (if i < m.1 then m.2.2.2.2.2 i else if i = m.1 then (fun j => if j < N then some (m.1 + 1 + j) else none) else fun _ => none) x = some a := ha
  show a < m.1 + 1 + N
  by_cases e : i < m.1
  · rw [if_pos e] at h1
    have := h i x a e h1
    have h2 : a < m.1 := this
    omega
  · rw [if_neg e] at h1
    by_cases e2 : i = m.1
    · rw [if_pos e2] at h1
      by_cases e3 : x < N
      · rw [if_pos e3] at h1
        cases h1
        omega
      · rw [if_neg e3] at h1
        cases h1
    · rw [if_neg e2] at h1
      cases h1
theorem wof_mna {ad : Nat → Nat} {dA : Nat → ClassId} {N K q : Nat} {r : Nat → Nat} (hw : wfm m) : (wof ad dA m ++ [(q, .inl (dA 19, N, .inr (.inr (.inr (.inr (fun i => if i < N then some (r i) else none))))))]) ++ (List.range N).map (fun i => (r i, .inl (dA 13, K, .inl (fun _ => 0)))) = wof (adm ad (mN m) q r) dA (mMna m N K) := by
  have hl : (wof ad dA m ++ [(q, (.inl (dA 19, N, .inr (.inr (.inr (.inr (fun i => if i < N then some (r i) else none))))) : va_E))]).length = mN m + 1 := by rw [List.length_append, wof_len]; rfl
  apply List.ext_getElem?
  intro i
  by_cases h1 : i < mN m
  · rw [List.getElem?_append_left (by rw [hl]; omega), List.getElem?_append_left (by rw [wof_len]; exact h1), wof_get h1, wof_get (m := mMna m N K) (by show i < m.1 + 1 + N; have : i < m.1 := h1; omega), adm_lt i h1]
    refine congrArg (fun e => some (ad i, e)) (cel_ext (n := mN m) adm_lt (fun j a h => hw i j a h1 h) (if_pos h1) (if_pos h1) (if_pos h1)).symm
  · by_cases h2 : i = mN m
    · subst h2
      rw [List.getElem?_append_left (by rw [hl]; omega), List.getElem?_append_right (by rw [wof_len]; exact Nat.le_refl _), wof_len, Nat.sub_self, wof_get (m := mMna m N K) (by show m.1 < m.1 + 1 + N; omega), adm_at]
      refine congrArg (fun e => some (q, e)) ?_
      rw [cel_ref (m := mMna m N K) (kd := 19) (len := N) ((if_neg h1).trans (if_pos rfl)) (by omega)]
      refine congrArg (fun f => Sum.inl (dA 19, N, Sum.inr (Sum.inr (Sum.inr (Sum.inr f))))) (funext fun j => ?_)
      have e0 : mR (mMna m N K) m.1 j = if j < N then some (m.1 + 1 + j) else none := congrFun ((if_neg h1).trans (if_pos rfl)) j
      show _ = (mR (mMna m N K) m.1 j).map _
      rw [e0]
      by_cases e3 : j < N
      · rw [if_pos e3, if_pos e3]
        exact congrArg some adm_r.symm
      · rw [if_neg e3, if_neg e3]
        rfl
    · rw [List.getElem?_append_right (by rw [hl]; omega), hl]
      by_cases h3 : i < mN m + 1 + N
      · rw [wof_get (m := mMna m N K) h3, List.getElem?_map, List.getElem?_range (by omega)]
        have e1 : i = mN m + 1 + (i - (mN m + 1)) := by omega
        have e2 : adm ad (mN m) q r i = r (i - (mN m + 1)) := by
          conv => lhs; rw [e1]
          exact adm_r
        rw [e2, cel_int (m := mMna m N K) (kd := 13) (len := K) ((if_neg h1).trans (if_neg h2)) (Or.inl rfl), show mI (mMna m N K) i = fun _ => 0 from if_neg h1]
        rfl
      · rw [List.getElem?_eq_none (by rw [List.length_map, List.length_range]; omega)]
        exact (List.getElem?_eq_none (by rw [wof_len]; show m.1 + 1 + N ≤ i; have : ¬ i < m.1 + 1 + N := h3; omega)).symm
theorem r_mna {index : Nat} {n k : Int32} {N K' : Nat} (d : decode y.2.1 pc = .ok (.multianewarray index 2, 4)) (hl : Cond.classLink y.1.cls index "[[I" ∈ wsL_law) (hw : Cond.arrayClass .int ∈ wsL_law) (hn : ¬ n < 0) (hk : ¬ k < 0) (hN : n.toNatClampNeg = N) (hK' : k.toNatClampNeg = K') (hb : N * 4 ≤ 536870912) (hb2 : K' * 4 ≤ 536870912)
    (kk : V y (pc + 4) L (.ref (mN m) :: st) (mMna m N K') K) : V y pc L (.int k :: .int n :: st) m K := by
  obtain ⟨o, m', hKK, h1, h2, h3, h4⟩ := kk
  have g1 : mC m + 1 + N ≤ mC m' := h1
  have g2 : mZ m + (N + N * K') ≤ mZ m' := h2
  have g3 : mN m + 1 + N ≤ mN m' := h3
  refine ⟨o, m', hKK, by omega, by omega, by omega, ?_⟩
  intro D dA A ad ad0 n0 p l ev R s mid args below meth c H locs cells slots ls X Y ha hn0 hl0 hL oL oS hc hz
  have hcy : s.vm.findClass (FieldType.array .int).toString = some (dA 13) := by
    have := (X.kk.2 0 (dA 13, .int) rfl).2
    exact this
  have e0 : wof ad dA m = wof ad dA m ++ va_pl [] (fun _ => .inl (dA 13, 0, .inl (fun _ => 0))) := (List.append_nil _).symm
  refine va_mna (X := wof ad dA m) (L := []) (f := fun _ => .inl (dA 13, 0, .inl (fun _ => 0))) X.1 X.2.1 (ty := .int) X.own (X.w hl) X.arr.2.2.2.2 (X.w hw) hcy X.kk (by rw [← e0]; exact Y.1) (by rw [← e0]; exact Y.2.1) Y.2.2.2 X.grow (z := (K', .inl (fun _ => 0))) hn hk hN hK' hb hb2 (by omega) rfl rfl (by omega) (by have : slots + (mZ m' - mZ m) ≤ R.slots := hz; omega) (fun cc => ?_) d (fun q r cA H1 _ _ hK2 hP hD hS => ?_)
  · show Jvm.Free.Multi.innerC cc K' (.int 0) = _
    unfold Jvm.Free.Multi.innerC
    rw [vp_cell_i]
    exact arrV_new _ _ _
  · have hid : cA = dA 19 := arr_id (kd := 19) (by omega) (by omega) X.kk hK2
    subst hid
    have e : (wof ad dA m ++ [(q, .inl (dA 19, N, .inr (.inr (.inr (.inr (fun i => if i < N then some (r i) else none))))))]) ++ va_pl ([] ++ (List.range N).map r) (vr_up (fun _ => .inl (dA 13, 0, .inl (fun _ => 0))) ((List.range N).map r) (.inl (dA 13, K', .inl (fun _ => 0)))) = wof (adm ad (mN m) q r) dA (mMna m N K') := by
      rw [← wof_mna Y.2.2.1]
      refine congrArg (fun z : va_W => (wof ad dA m ++ [(q, .inl (dA 19, N, .inr (.inr (.inr (.inr (fun i => if i < N then some (r i) else none))))))]) ++ z) ?_
      rw [List.nil_append]
      unfold va_pl
      rw [List.map_map]
      refine List.map_congr_left (fun i hi => ?_)
      show (r i, vr_up _ _ _ (r i)) = _
      rw [vr_up_in (List.mem_map.mpr ⟨i, hi, rfl⟩)]
    rw [e] at hP hD
    have k1 := h4 D dA A (adm ad (mN m) q r) ad0 n0 p l ev R s mid args below meth c H1 locs (cells + 1 + N) (slots + N + N * K') ls X ⟨hP, hD, wfm_mna Y.2.2.1, hS⟩ (fun k hk => (adm_lt k (Nat.lt_of_lt_of_le hk hn0)).trans (ha k hk)) (Nat.le_trans hn0 (by show m.1 ≤ m.1 + 1 + N; omega)) (hl0.ext oL adm_lt) hL (oL.mono (by show m.1 ≤ m.1 + 1 + N; omega)) (okS.c (by show m.1 < m.1 + 1 + N; omega) (oS.t.t.mono (by show m.1 ≤ m.1 + 1 + N; omega))) (by show cells + 1 + N + (mC m' - (mC m + 1 + N)) ≤ _; omega) (by show slots + N + N * K' + (mZ m' - (mZ m + (N + N * K'))) ≤ _; omega)
    rw [List.map_cons, oS.t.t.ext adm_lt, show shv (adm ad (mN m) q r) (.ref (mN m)) = .ref q from congrArg Value.ref adm_at] at k1
    exact k1
end Rows
theorem mI_set {m : Mm} {a j b k : Nat} {v : Int32} : mI (mSetI m a j v) b k = if b = a ∧ k = j then v else mI m b k := rfl
theorem mI_setR {m : Mm} {a j b k : Nat} {v : Option Nat} : mI (mSetR m a j v) b k = mI m b k := rfl
theorem mR_set {m : Mm} {a j b k : Nat} {v : Int32} : mR (mSetI m a j v) b k = mR m b k := rfl
theorem mR_setR {m : Mm} {a j b k : Nat} {v : Option Nat} : mR (mSetR m a j v) b k = if b = a ∧ k = j then v else mR m b k := rfl
theorem V.top {y : Mi} {pc : Nat} {L : List (Option Value)} {st : List Value} {m : Mm} {K : Option Value ⊕ String → Mm → Prop} {a b : Int32} (e : a = b) (k : V y pc L (.int b :: st) m K) : V y pc L (.int a :: st) m K := by
  rw [e]
  exact k
theorem St.i {m : Mm} {a j : Nat} {v : Int32} (h : St m) : St (mSetI m a j v) := h
