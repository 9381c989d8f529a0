/-! THE LAW: its start -/
theorem strW_in : ∀ q ∈ strW, Cond.stringRef RX11 q.1 q.2 ∈ tables_1 := by decide +kernel
theorem strW_ex : ∀ q ∈ strW, Cond.exactly (.string RX11 q.1) "java/lang/String" ∈ flatC (Jvm.Cond.and given_1 narrow_1) := by decide +kernel
theorem ncW : ∀ E, E ∈ [eIA, eIS, eIO] → ∀ F, F ∈ [eIA, eIS, eIO] → E ≠ F → Cond.not (.castable E F) ∈ flatC (Jvm.Cond.and given_1 narrow_1) := by decide +kernel
theorem thrW : Cond.isRef (.static Bundle.tN "UNASSIGNED_STACK" Bundle.steD) ∈ flatC (Jvm.Cond.and given_1 narrow_1) ∧ Cond.isRef (.static Bundle.tN "SUPPRESSED_SENTINEL" Bundle.listD) ∈ flatC (Jvm.Cond.and given_1 narrow_1) := by decide +kernel
theorem thrL : Cond.laysStatic Bundle.tN "UNASSIGNED_STACK" Bundle.steD ∈ tables_1 ∧ Cond.laysStatic Bundle.tN "SUPPRESSED_SENTINEL" Bundle.listD ∈ tables_1 ∧ Cond.initialized Bundle.tN ∈ tables_1 := by decide +kernel
theorem arrL : Cond.arrayClass .int ∈ tables_1 ∧ Cond.arrayClass .boolean ∈ tables_1 ∧ Cond.arrayOver (.object "Choicepoint$Found") ∈ tables_1 ∧ Cond.arrayOver (.object "Choicepoint$Level") ∈ tables_1 ∧ Cond.arrayOver (.object "Choicepoint$Rule") ∈ tables_1 ∧ Cond.arrayOver (.object "Choicepoint$Scope") ∈ tables_1 ∧ Cond.arrayOver (.array .int) ∈ tables_1 := by decide +kernel
theorem insL : ∀ q ∈ vwCl, Cond.instantiable q.1 q.2.2 ∈ wsL_law := by
  intro q hq
  rcases List.mem_cons.mp hq with rfl | hq
  · exact (r17_law _ (List.mem_of_getElem? (i := 3) rfl))
  rcases List.mem_cons.mp hq with rfl | hq
  · exact (r6_law _ (List.mem_of_getElem? (i := 15) rfl))
  rcases List.mem_cons.mp hq with rfl | hq
  · exact (r4_law _ (List.mem_of_getElem? (i := 5) rfl))
  rcases List.mem_cons.mp hq with rfl | hq
  · exact (r1_law _ (List.mem_of_getElem? (i := 22) rfl))
  rcases List.mem_cons.mp hq with rfl | hq
  · exact (r1_law _ (List.mem_of_getElem? (i := 14) rfl))
  rcases List.mem_cons.mp hq with rfl | hq
  · exact (r1_law _ (List.mem_of_getElem? (i := 18) rfl))
  rcases List.mem_cons.mp hq with rfl | hq
  · exact (r17_law _ (List.mem_of_getElem? (i := 0) rfl))
  rcases List.mem_cons.mp hq with rfl | hq
  · exact (r4_law _ (List.mem_of_getElem? (i := 3) rfl))
  rcases List.mem_cons.mp hq with rfl | hq
  · exact (r2_law _ (List.mem_of_getElem? (i := 2) rfl))
  rcases List.mem_cons.mp hq with rfl | hq
  · exact (r3_law _ (List.mem_of_getElem? (i := 11) rfl))
  rcases List.mem_cons.mp hq with rfl | hq
  · exact (r3_law _ (List.mem_of_getElem? (i := 7) rfl))
  rcases List.mem_cons.mp hq with rfl | hq
  · exact (r1_law _ (List.mem_of_getElem? (i := 1) rfl))
  rcases List.mem_cons.mp hq with rfl | hq
  · exact (r1_law _ (List.mem_of_getElem? (i := 4) rfl))
  cases hq
/-- the classes, as the tables have them -/
theorem kn_all {s : State} {args : Array Value} (hts : ∀ w, w ∈ wsL_law → w.before args s = true) : ∃ D : va_G, ∀ (k : Nat) (q : vw_C), vwCl[k]? = some q → u_Kn s q.1 q.2.1 q.2.2 (D.1 k) (D.2 k) := by
  have H : ∀ k : Nat, ∃ z : ClassId × (Nat → Nat), ∀ q, vwCl[k]? = some q → u_Kn s q.1 q.2.1 q.2.2 z.1 z.2 := fun k => by
    by_cases h : k < 13
    · have hq := clsOf_at h
      obtain ⟨cC, iS, hK⟩ := u_known (C := (clsOf k).1) (T := (clsOf k).2.1) (N := (clsOf k).2.2) (n := (clsOf k).2.2) hts (fun w hw => inW h w hw) (hts _ (insL _ (List.mem_of_getElem? hq)))
      refine ⟨(cC, iS), fun q e => ?_⟩
      rw [hq] at e
      rw [← Option.some.inj e]
      exact hK
    · refine ⟨((0 : Nat), fun _ => 0), fun q e => ?_⟩
      have hl := (List.getElem?_eq_some_iff.mp e).1
      exact absurd hl h
  obtain ⟨f, hf⟩ := Classical.axiomOfChoice H
  exact ⟨(fun k => (f k).1, fun k => (f k).2), fun k q e => hf k q e⟩
theorem arr_pr {s : State} {args : Array Value} {ty : FieldType} (h : (Cond.arrayClass ty).before args s = true) : ∃ cA : ClassId, ArrOfT s cA ty ∧ s.vm.findClass ("[" ++ ty.toString) = some cA := by
  obtain ⟨c, k, comp, h1, h2, h3⟩ := Cond.arrayClass_spec h
  exact ⟨c, fun n z => ⟨fun k h => (by cases h), k, h2, comp, h3⟩, h1⟩
theorem arr_ob {s : State} {args : Array Value} {n : String} (h : (Cond.arrayOver (.object n)).before args s = true) : ∃ cA : ClassId, ArrOfT s cA (.object n) ∧ va_RA s cA (.object n) := by
  obtain ⟨comp, c, k, h1, h2, h3, h4, h5⟩ := Cond.arrayOver_spec h
  exact ⟨c, fun n z => ⟨fun k h => (by cases h), k, h3, comp, h4⟩, k, comp, h3, h4, h1, h5⟩
theorem arr_ar {s : State} {args : Array Value} {t : FieldType} (h : (Cond.arrayOver (.array t)).before args s = true) : ∃ cA : ClassId, ArrOfT s cA (.array t) ∧ va_RA s cA (.array t) := by
  obtain ⟨comp, c, k, h1, h2, h3, h4, h5⟩ := arrayOverA_spec h
  exact ⟨c, fun n z => ⟨fun k h => (by cases h), k, h3, comp, h4⟩, h5⟩
theorem arr_all {s : State} {args : Array Value} (hts : ∀ w, w ∈ tables_1 → w.before args s = true) : ∃ dA : Nat → ClassId, ∀ (k : Nat) (q : ClassId × FieldType), (tyl dA)[k]? = some q → ArrOfT s q.1 q.2 ∧ va_RA s q.1 q.2 := by
  obtain ⟨w1, w2, w3, w4, w5, w6, w7⟩ := arrL
  obtain ⟨c1, a1, b1⟩ := arr_pr (hts _ w1)
  obtain ⟨c2, a2, b2⟩ := arr_pr (hts _ w2)
  obtain ⟨c3, a3⟩ := arr_ob (hts _ w3)
  obtain ⟨c4, a4⟩ := arr_ob (hts _ w4)
  obtain ⟨c5, a5⟩ := arr_ob (hts _ w5)
  obtain ⟨c6, a6⟩ := arr_ob (hts _ w6)
  obtain ⟨c7, a7⟩ := arr_ar (hts _ w7)
  refine ⟨fun k => if k = 13 then c1 else if k = 14 then c2 else if k = 15 then c3 else if k = 16 then c4 else if k = 17 then c5 else if k = 18 then c6 else c7, fun k q hq => ?_⟩
  match k, hq with
  | 0, hq => cases hq; exact ⟨a1, b1⟩
  | 1, hq => cases hq; exact ⟨a2, b2⟩
  | 2, hq => cases hq; exact a3
  | 3, hq => cases hq; exact a4
  | 4, hq => cases hq; exact a5
  | 5, hq => cases hq; exact a6
  | 6, hq => cases hq; exact a7
  | k + 7, hq => cases hq
/-- behind both constructors -/
theorem iv_bld {c z : Nat} {m : Mm} (h : Bld 714 (fun _ _ => False) c z m) : IVx 0 m := by
  have hm := h.st
  have z0 : ∀ a, a < 714 → dirty a = false → ∀ j, mI m a j = nn 0 := fun a ha hd j => h.zero ha hd
  have z1 : ∀ a, a < 12 → ∀ j, mI m a j = nn 0 := fun a ha j => z0 a (by omega) (by
    unfold dirty
    rw [beq_eq_false_iff_ne.mpr (show a ≠ 12 by omega), decide_eq_false (show ¬ 235 ≤ a by omega)]
    rfl) j
  have z2 : ∀ a, 541 ≤ a → a < 714 → ∀ j, mI m a j = nn 0 := fun a h1 h2 j => z0 a h2 (by
    unfold dirty
    rw [beq_eq_false_iff_ne.mpr (show a ≠ 12 by omega), decide_eq_false (show ¬ a < 541 by omega), Bool.and_false, Bool.false_and]
    rfl) j
  have c6 : ∀ i, i < 6 → ([0, 0, 0, 0, 0, 0] : List Nat).getD i 0 = 0 := fun i hi => by
    rcases (show i = 0 ∨ i = 1 ∨ i = 2 ∨ i = 3 ∨ i = 4 ∨ i = 5 by omega) with q | q | q | q | q | q <;> rw [q] <;> rfl
  refine ⟨[], [], none, [0, 0, 0, 0, 0, 0], [], ⟨Nat.zero_le _, Nat.zero_le _, fun f x hx => (by cases hx), Nat.zero_le _, fun t ht => (by cases ht), fun t ht => (by cases ht)⟩, ⟨⟨hm, ⟨z1 1 (by decide) 5, Nat.zero_le _, fun i t ht => (by cases ht)⟩, ⟨⟨z1 7 (by decide) 4, Nat.zero_le _, fun f x hx => (by cases hx)⟩, z1 7 (by decide) 5, fun f _ _ => z1 10 (by decide) f, fun f x hx => (by cases hx)⟩, ?_⟩, fun i hi => ?_, z2 541 (by decide) (by decide) 10, Nat.zero_le _, fun i k hk => (by cases hk)⟩, ⟨hm, ⟨z2 668 (by decide) (by decide) 3, Nat.zero_le _, fun i t ht => (by cases ht)⟩, ⟨⟨z2 668 (by decide) (by decide) 0, Nat.zero_le _, fun f x hx => (by cases hx)⟩, z2 668 (by decide) (by decide) 9, fun f _ _ => z2 673 (by decide) (by decide) f, fun _ _ => 0, [], List.nodup_nil, rfl, fun s hs => (by cases hs), fun s _ => ?_, fun f x hx => (by cases hx), fun f f' k k' x x' hx => (by cases hx)⟩, z2 668 (by decide) (by decide) 11, fun t ht => (by cases ht)⟩, ⟨fun i hi => ?_, z2 668 (by decide) (by decide) 50, Nat.zero_le _, fun i k hk => (by cases hk)⟩, 0, ⟨z2 668 (by decide) (by decide) 46, fun i _ => ⟨0, Nat.le_refl _, z2 701 (by decide) (by decide) i⟩⟩, Nat.le_refl _⟩
  · exact Bld.none h (a := 0) (j := 4) (by decide) rfl
  · rw [c6 i hi]
    exact z2 543 (by decide) (by decide) i
  · rw [if_neg (List.not_mem_nil)]
    exact z2 675 (by decide) (by decide) s
  · rw [c6 i hi]
    exact z2 708 (by decide) (by decide) i
def mNil : Mm := (0, 0, 0, fun _ => (0, 0), fun _ _ => 0, fun _ _ => none)
theorem bld_nil : Bld 0 (fun _ _ => False) 0 0 mNil := ⟨rfl, rfl, rfl, fun a ha => absurd ha (Nat.not_lt_zero _), fun a ha => absurd ha (Nat.not_lt_zero _), fun a ha => absurd ha (Nat.not_lt_zero _)⟩
section LawStart
variable {D : va_G} {dA : Nat → ClassId} {p : Program} {l : Launch} {e : Env} {s : State} {mid : MethodId} {b : Nat} {below : List Frame} {meth : Method} {c : Code} {Q : State → Prop} {H : Heap} {locs : List Loc} {ls : Array Slot}
/-- a constructor of the law's -/
theorem l_callI {y2 : Mi} {b0 a0 idx pc : Nat} {m m1 : Mm} {ad : Nat → Nat} {rest : List Value} (hx : p.tables.exec = Jvm.exec) (hb : c.code = code) (hml : c.maxLocals = 7) (hown : s.vm.findClass RL = some mid.cls) (hts : ∀ w, w ∈ wsL_law → w.before #[Value.ref b] s = true) (hst : l.stackTraces = false) (hK : va_K D vwCl (tyl dA) s) (hN : Nst s) (hStr : Str s) (hT : Thr (fun z => s.heap.size ≤ z) s s.heap) (d : decode code pc = .ok (.invokespecial idx, 3)) (hq : CalI y2 0) (hl : Cond.methodLink RL idx y2.1 ∈ wsL_law) (hfit : y2.2.2.2.2.1 + 1 ≤ 12 ∧ 8 + (y2.2.2.1 + 11) + y2.2.2.2.2.2 ≤ 476) (hbm : b0 < mN m) (Y : Dy D dA (fun z => s.heap.size ≤ z) ad m s H locs) (ha0 : ad b0 = a0) (hls : ls.size = 7) (h8 : (rest.map fun v => v.category).sum ≤ 8) (ct : Ct y2 [.ref b0] m (.inl none) m1) (hc : mC m1 ≤ 601024) (hz : mZ m1 ≤ 7293034)
    (kk : ∀ (ad1 : Nat → Nat) (H1 : Heap) (locs1 : List Loc), Dy D dA (fun z => s.heap.size ≤ z) ad1 m1 s H1 locs1 → (∀ j, j < mN m → ad1 j = ad j) → W p l e room_1 s mid #[Value.ref b] below meth c H1 locs1 (mC m1) (mZ m1) Q (F0 mid (pc + 3) ls rest)) : W p l e room_1 s mid #[Value.ref b] below meth c H locs (mC m) (mZ m) Q (F0 mid pc ls (.ref a0 :: rest)) := by
  subst ha0
  have hAw : ∀ z, va_A (wof ad dA m) H.size z → s.heap.size ≤ z := fun z h => by
    rcases h with ⟨k, w, h⟩ | h
    · exact Y.2.1.2 k (z, w) h
    · exact Nat.le_trans Y.2.2.2.1 h
  have cb : CallB room_1 s #[Value.ref b] RL idx y2.1 y2.2.1 y2.2.2.1 y2.2.2.2.1 (miW y2) (rmM y2 m m1) (mC m1 - mC m) (mZ m1 - mZ m) 0 := by
    refine callB_of (Ts := wsL_law) (ws' := wsL_law) 0 hts (fun w hw0 => ?_) rfl rfl rfl (hts _ hq.1.1) (hts _ hl) hq.1.2.2 hfit
    have h1 : w ∈ wsL_law := by
      rcases List.mem_cons.mp hw0 with e | e
      · rw [e]; exact hq.1.2.1
      · exact e
    exact ⟨h1, good_of_word (List.all_eq_true.mp law_good w h1)⟩
  rw [hq.2.2.2] at cb
  have run := va_runI (p := p) (l := l) (e := e) (R := room_1) (s := s) (m := mid) (args := #[Value.ref b]) (below := below) (meth := meth) (c := c) (H := H) (locs := locs) (cells := mC m) (slots := mZ m) (g := F0 mid pc ls (.ref (ad b0) :: rest)) (b := ad b0) (As := []) (rest := rest) (cc := code) (nL := 7) (Ts := wsL_law)
    ⟨hx, hb, hml, hown, hts⟩ (ct.met hst D dA ad H.size) ⟨cb, hq.2.2.1, hts _ hq.2.1⟩ ⟨PcM.blind, fun U hU hW => by
      refine ⟨rfl, by rw [hU], by rw [hU]; exact Y.1, va_K.moved hW.alike hK, Y.2.1.weaken (fun _ _ _ _ => trivial), Y.2.2.1, hN.warm hW, hStr.warm hW, by rw [hU]; exact hT.go hW.alike Y.2.2.2.2.1 hAw, ?_⟩
      intro w hw
      rw [List.mem_singleton.mp hw]
      exact hbm⟩ rfl rfl hls rfl (lv_room h8) d ⟨by have := ct.1; show mC m + (mC m1 - mC m) ≤ 601024; omega, by have := ct.2.1; show mZ m + (mZ m1 - mZ m) ≤ 7293034; omega⟩
  intro T hT0 XS
  obtain ⟨v', st₀, t, T', L1, h0, X', hL1, e1, e2, ⟨v2, ad', e3, e4, e5, e6, e7, e8, e9, hF⟩, stp⟩ := run T hT0 XS
  cases e3
  cases e4
  obtain ⟨hz1, hk1⟩ := hF
  rw [h0] at hz1 hk1
  have hS1 : va_S (fun z => s.heap.size ≤ z) s.heap T'.heap (locs ++ L1) := ⟨Nat.le_trans Y.2.2.2.1 (by rw [e1]; exact hz1), fun z z1 z2 => by rw [e1, hk1 z (Nat.lt_of_lt_of_le z1 Y.2.2.2.1) (fun w => z2 (hAw z w))]; exact Y.2.2.2.2.1 z z1 z2, fun z hz => by
    rcases List.mem_append.mp hz with h | h
    · exact Y.2.2.2.2.2 z h
    · exact hAw _ (hL1 z h)⟩
  have k := kk ad' T'.heap (locs ++ L1) ⟨by rw [e1]; exact e6, e7.weaken (fun _ _ _ h => hAw _ h), e8, hS1⟩ e5
  rw [show mC m1 = mC m + (mC m1 - mC m) by have := ct.1; omega, show mZ m1 = mZ m + (mZ m1 - mZ m) by have := ct.2.1; omega] at k
  obtain ⟨t2, a1, b1⟩ := k T' rfl X'
  exact ⟨t2, stp t2 a1, b1⟩
/-- a new object of the law's -/
theorem l_new {i ci pc : Nat} {m : Mm} {ad : Nat → Nat} {rest : List Value} (hx : p.tables.exec = Jvm.exec) (hb : c.code = code) (hown : s.vm.findClass RL = some mid.cls) (hts : ∀ w, w ∈ wsL_law → w.before #[Value.ref b] s = true) (hK : va_K D vwCl (tyl dA) s) (d : decode code pc = .ok (.new i, 3)) (hc : ci < 13) (hl : Cond.classLink RL i (clsOf ci).1 ∈ wsL_law) (hi : Cond.instantiable (clsOf ci).1 (clsOf ci).2.2 ∈ wsL_law) (hz : Cond.initialized (clsOf ci).1 ∈ wsL_law) (Y : Dy D dA (fun z => s.heap.size ≤ z) ad m s H locs) (hc1 : mC m + 1 ≤ 601024) (hz1 : mZ m + (clsOf ci).2.2 ≤ 7293034)
    (kk : ∀ (ad1 : Nat → Nat) (H1 : Heap), Dy D dA (fun z => s.heap.size ≤ z) ad1 (mNew m ci 0 (clsOf ci).2.2) s H1 locs → (∀ j, j < mN m → ad1 j = ad j) → W p l e room_1 s mid #[Value.ref b] below meth c H1 locs (mC m + 1) (mZ m + (clsOf ci).2.2) Q (F0 mid (pc + 3) ls (.ref (ad1 (mN m)) :: rest))) : W p l e room_1 s mid #[Value.ref b] below meth c H locs (mC m) (mZ m) Q (F0 mid pc ls rest) := by
  refine va_new hx hb hts (fun w hw => inW hc w hw) (tyOf ci) (tyOf_ok hc) hown (hts _ hl) (hts _ hi) (hts _ hz) hK Y.1 Y.2.1 Y.2.2.2 (fun z h => h) (clsOf_at hc) (fs := born ci) (born_ok hc) hc1 hz1 d (fun q H1 hP hD hS => ?_)
  have e : wof ad dA m ++ [(q, .inr (ci, born ci))] = wof (adn ad (mN m) q) dA (mNew m ci 0 (clsOf ci).2.2) := wof_new Y.2.2.1 adn_at adn_lt (by rw [cel_new hc, celF_born])
  rw [e] at hP hD
  have k1 := kk (adn ad (mN m) q) H1 ⟨hP, hD, wfm_new Y.2.2.1, hS⟩ adn_lt
  rw [adn_at] at k1
  exact k1
end LawStart
