/-! THE OTHER ONE: making the things of a tree -/
section MKR
variable {fs : List Fn} {m0 : Mm} {e ne root p o n kk ly : Nat} {F : Nat → Th} {mk rh0 : Nat → Nat} {g : Nat → Option Nat} {K : Option Value ⊕ String → Mm → Prop}
theorem mz_step {m : Mm} {at' : Nat} (hm : St m) (hex : isExp m e ne) (hne : ne ≤ 12) (hr : root < ne) (ha : at' ≤ root) (h6 : mI m (e + 6) at' = nn ly) (k : C m3_makeThing [.ref 12, .ref e, .int (nn at'), .int (nn p), .int (nn o)] m (fun r m5 => ∃ x7 : Int32, r = .inl (some (.int x7)) ∧ St m5 ∧ V m3_makeThings 16 [some (.ref 12), some (.ref e), some (.int (nn root)), some (.int (nn p)), some (.int (nn o)), some (.int (nn ly)), some (.int (nn (at' + 1)))] [] (mSetI m5 30 at' x7) K)) : V m3_makeThings 16 [some (.ref 12), some (.ref e), some (.int (nn root)), some (.int (nn p)), some (.int (nn o)), some (.int (nn ly)), some (.int (nn at'))] [] m K := by
  refine w3_makeThings_16 hm hex ?_
  have l1 : nn root < nn at' ↔ root < at' := nn_lt (by omega) (by omega)
  rw [l1, nn_tn (a := at') (by omega), h6, nn_one]
  refine ⟨fun q => by omega, fun _ => ⟨nn_in (by omega) (by omega), fun q => (q rfl).elim, fun _ => C.mono k ?_⟩⟩
  rintro r m5 ⟨x7, rfl, s5, k5⟩
  exact ⟨x7, rfl, s5, nn_in (by omega) (by omega), k5⟩
theorem mz_name {m : Mm} {at' c : Nat} (hm : St m) (hex : isExp m e ne) (hne : ne ≤ 12) (ha : at' < ne) (hp : p < 102) (hc : c < 6) (h1 : mI m (e + 1) at' = 0) (h2 : mI m (e + 2) at' = nn c) : C m3_makeThing [.ref 12, .ref e, .int (nn at'), .int (nn p), .int (nn o)] m (fun r m' => r = .inl (some (.int (mI m (32 + 2 * p) c))) ∧ m' = m) := by
  refine C.of (by decide +kernel) (Nat.le_of_ble_eq_true rfl) rfl (w3_makeThing hm hex ?_)
  rw [nn_tn (a := at') (by omega), h1, h2, nn_tn (a := p) (by omega), nn_tn (a := c) (by omega)]
  exact ⟨nn_in (by omega) ha, fun q => (q rfl).elim, fun _ => ⟨nn_in (by omega) hp, nn_in (by omega) ha, nn_in (by omega) hc, rfl, rfl⟩⟩
theorem mz_node {m : Mm} {at' c cn : Nat} {vl vr : Int32} (hm : St m) (hex : isExp m e ne) (hne : ne ≤ 12) (ha : at' < ne) (hcn : cn < 3500) (h9 : mI m 13 9 = nn cn) (hc : 10 ≤ c) (hc4 : c < 33) (h1 : mI m (e + 1) at' = nn (ctg c)) (h2 : mI m (e + 2) at' = nn (cwh c)) (hl : (mI m (e + 3) at' = -1 ∧ vl = -1) ∨ ∃ r1, r1 < 12 ∧ mI m (e + 3) at' = nn r1 ∧ mI m 30 r1 = vl) (hr : (mI m (e + 4) at' = -1 ∧ vr = -1) ∨ ∃ r1, r1 < 12 ∧ mI m (e + 4) at' = nn r1 ∧ mI m 30 r1 = vr) : C m3_makeThing [.ref 12, .ref e, .int (nn at'), .int (nn p), .int (nn o)] m (fun r m' => r = .inl (some (.int (nn cn))) ∧ m' = aT m cn (nn (ctg c)) (nn (cwh c)) vl vr (nn p) (nn o)) := by
  refine C.of (by decide +kernel) (Nat.le_of_ble_eq_true rfl) rfl (w3_makeThing hm hex ?_)
  have hg : 1 ≤ ctg c ∧ ctg c < 6 := by
    unfold ctg
    split
    · omega
    · split
      · omega
      · split <;> omega
  have g0 : nn (ctg c) = 0 ↔ ctg c = 0 := nn_eq (b := 0) (by omega) (by decide)
  have g6 : nn (ctg c) = 6 ↔ ctg c = 6 := nn_eq (b := 6) (by omega) (by decide)
  have ng : ∀ k, k < 12 → ¬ nn k < 0 := by decide +kernel
  have n1 : (-1 : Int32) < 0 := by decide
  have hv := nn_in (a := at') (n := ne) (by omega) ha
  have adk : ∀ l r : Int32, l = vl → r = vr → C m10_add [.ref 13, .int (nn (ctg c)), .int (nn (cwh c)), .int l, .int r, .int (nn p), .int (nn o)] m (fun o' m9 => ∃ x11 : Int32, o' = .inl (some (.int x11)) ∧ St m9 ∧ ((.inl (some (.int x11)) : Option Value ⊕ String) = .inl (some (.int (nn cn))) ∧ m9 = aT m cn (nn (ctg c)) (nn (cwh c)) vl vr (nn p) (nn o))) := by
    rintro l r rfl rfl
    refine C.mono (s10_add hm hcn h9 _ _ _ _ _ _) ?_
    rintro z m' ⟨rfl, rfl⟩
    exact ⟨_, rfl, St.i (St.i (St.i (St.i (St.i (St.i (St.i (St.i (St.i hm)))))))), rfl, rfl⟩
  rw [nn_tn (a := at') (by omega), h1, h2, g0, g6]
  refine ⟨hv, fun _ => ⟨fun _ => ⟨hv, ?_⟩, fun q => by omega⟩, fun q => by omega⟩
  rcases hl with ⟨l1, l2⟩ | ⟨a1, l0, l1, l2⟩
  · rw [l1]
    refine ⟨fun _ => ⟨hv, ?_⟩, fun q => (q n1).elim⟩
    rcases hr with ⟨r1, r2⟩ | ⟨b1, r0, r1, r2⟩
    · rw [r1]
      exact ⟨fun _ => ⟨hv, adk _ _ l2.symm r2.symm⟩, fun q => (q n1).elim⟩
    · rw [r1, nn_tn (a := b1) (by omega), r2]
      exact ⟨fun q => (ng _ r0 q).elim, fun _ => ⟨hv, nn_in (by omega) r0, hv, adk _ _ l2.symm rfl⟩⟩
  · rw [l1, nn_tn (a := a1) (by omega), l2]
    refine ⟨fun q => (ng _ l0 q).elim, fun _ => ⟨hv, nn_in (by omega) l0, hv, ?_⟩⟩
    rcases hr with ⟨r1, r2⟩ | ⟨b1, r0, r1, r2⟩
    · rw [r1]
      exact ⟨fun _ => ⟨hv, adk _ _ rfl r2.symm⟩, fun q => (q n1).elim⟩
    · rw [r1, nn_tn (a := b1) (by omega), r2]
      exact ⟨fun q => (ng _ r0 q).elim, fun _ => ⟨hv, nn_in (by omega) r0, hv, adk _ _ rfl rfl⟩⟩
theorem mz_some {m : Mm} {at' cn r1 : Nat} (hm : St m) (hex : isExp m e ne) (hne : ne ≤ 12) (ha : at' < ne) (hcn : cn < 3500) (h9 : mI m 13 9 = nn cn) (h1 : mI m (e + 1) at' = nn 6) (h3 : mI m (e + 3) at' = nn r1) : C m3_makeThing [.ref 12, .ref e, .int (nn at'), .int (nn p), .int (nn o)] m (fun r m' => r = .inl (some (.int (nn cn))) ∧ m' = aT m cn 6 (nn r1) (-1) (-1) (nn p) (nn o)) := by
  refine C.of (by decide +kernel) (Nat.le_of_ble_eq_true rfl) rfl (w3_makeThing hm hex ?_)
  have hv := nn_in (a := at') (n := ne) (by omega) ha
  rw [nn_tn (a := at') (by omega), h1, h3]
  refine ⟨hv, fun _ => ⟨fun q => (q rfl).elim, fun _ => ⟨hv, C.mono (s10_add hm hcn h9 _ _ _ _ _ _) ?_⟩⟩, fun q => absurd q (by decide)⟩
  rintro z m' ⟨rfl, rfl⟩
  exact ⟨_, rfl, St.i (St.i (St.i (St.i (St.i (St.i (St.i (St.i (St.i hm)))))))), rfl, rfl⟩
/-- a node is made -/
theorem MK.node {m : Mm} {cn x at' : Nat} {D : Nat → Prop} {rh : Nat → Nat} {t : Th} {ck w vl vr pp : Int32} (hF : ∀ y, tWf fs (F y)) (hm : St m) (h : MK m0 m cn kk D F mk rh) (hx : ¬ D x) (hFx : F x = t) (hmk : mk x = 0) (hck : ck = nn (tg (tK t))) (hvl : vl = mo rh (tA t)) (hvr : vr = mo rh (tB t)) (hW : tW t = o) (hp : ∀ z, (tA t = some z ∨ tB t = some z) → D z) (hx1 : (tK t = 1 ∨ tK t = 2) → w = nn (tO t)) (hx2 : tK t = 2 → tT t = .nil) (hx3 : tK t = 6 → pp = nn (tP t) ∧ tP t < 102 ∧ ∃ e r, mR m (31 + 2 * tP t) 3 = some e ∧ EA m e r (tT t) ∧ w = nn r) : St (mSetI (aT m cn ck w vl vr pp (nn o)) 30 at' (nn cn)) ∧ MK m0 (mSetI (aT m cn ck w vl vr pp (nn o)) 30 at' (nn cn)) (cn + 1) kk (fun y => D y ∨ y = x) F mk (up1 rh x cn) ∧ (∀ y, D y → up1 rh x cn y = rh y) ∧ mI (mSetI (aT m cn ck w vl vr pp (nn o)) 30 at' (nn cn)) 30 at' = mo (up1 rh x cn) (some x) ∧ ∀ j, j ≠ at' → mI (mSetI (aT m cn ck w vl vr pp (nn o)) 30 at' (nn cn)) 30 j = mI m 30 j := by
  refine ⟨St.i (St.i (St.i (St.i (St.i (St.i (St.i (St.i (St.i (St.i hm))))))))), ?_, fun y hy => up1_ne (fun q => hx (by rw [← q]; exact hy)), ?_, fun j hj => ?_⟩
  · have := (h.add (w := w) (p := pp) hF hx hFx hmk hp hx1 hx2 hx3).w (i := at') (v := nn cn) hF
    rw [← hck, ← hvl, ← hvr, hW] at this
    exact this
  · rw [mI_set, if_pos ⟨rfl, rfl⟩]
    show _ = nn (up1 rh x cn x)
    rw [up1_at]
  · rw [mI_set, if_neg (by omega), aT_g (by omega) (by omega)]
theorem kdc_ctg {c : Nat} (h : 10 ≤ c) (h2 : c < 33) : nn (ctg c) = nn (tg (kdc c)) ∧ ((kdc c = 1 ∨ kdc c = 2) → nn (cwh c) = nn (whc c)) ∧ kdc c ≠ 6 := by
  have : ∀ c, c < 33 → 10 ≤ c → nn (ctg c) = nn (tg (kdc c)) ∧ ((kdc c = 1 ∨ kdc c = 2) → nn (cwh c) = nn (whc c)) ∧ kdc c ≠ 6 := by decide +kernel
  exact this c h2 h
/-- what a walk over a tree needs, and what it leaves -/
def MKG (fs : List Fn) (m0 : Mm) (e ne root p o n kk ly : Nat) (F : Nat → Th) (mk rh0 : Nat → Nat) (g : Nat → Option Nat) (K : Option Value ⊕ String → Mm → Prop) (t : Tr) : Prop :=
  ∀ (lo k : Nat) (m : Mm) (D : Nat → Prop) (cn : Nat) (rh : Nat → Nat), St m → MK m0 m cn kk D F mk rh → (∀ x, x < n → D x ∧ rh x = rh0 x) → n ≤ k → Pc m0 e t lo ly → ly + tsz t ≤ ne → lo + tsz t ≤ root + 1 → cn + tsz t ≤ 3450 → NmO g n t → (∀ i u, (mkA g o p t k).2[i]? = some u → F (k + i) = u) → (∀ i, i < (mkA g o p t k).2.length → ¬ D (k + i)) →
    (∀ (m' : Mm) (rh' : Nat → Nat), St m' → MK m0 m' (cn + (mkA g o p t k).2.length) kk (fun x => D x ∨ (k ≤ x ∧ x < k + (mkA g o p t k).2.length)) F mk rh' → (∀ x, D x → rh' x = rh x) → mI m' 30 (lo + tsz t - 1) = mo rh' (mkA g o p t k).1 → (∀ j, j < lo → mI m' 30 j = mI m 30 j) → V m3_makeThings 16 [some (.ref 12), some (.ref e), some (.int (nn root)), some (.int (nn p)), some (.int (nn o)), some (.int (nn ly)), some (.int (nn (lo + tsz t)))] [] m' K) →
    V m3_makeThings 16 [some (.ref 12), some (.ref e), some (.int (nn root)), some (.int (nn p)), some (.int (nn o)), some (.int (nn ly)), some (.int (nn lo))] [] m K
theorem mz_run (he : 714 ≤ e) (hf8 : fs.length ≤ 8) (hex0 : isExp m0 e ne) (hbe : e + 8 ≤ mN m0) (hsz : mI m0 e 0 = nn ne) (hne : ne ≤ 12) (hr : root < ne) (hp : p < 102) (hep : mR m0 (31 + 2 * p) 3 = some e) (hF : ∀ y, tWf fs (F y)) (hmk : ∀ x, n ≤ x → mk x = 0) (hg : ∀ c y, c < 6 → g c = some y → mI m0 (32 + 2 * p) c = nn (rh0 y)) {t : Tr} (hw : twf fs.length (fpf fs) t) : MKG fs m0 e ne root p o n kk ly F mk rh0 g K t := by
  have frm : ∀ {m : Mm} {cn : Nat} {D : Nat → Prop} {rh : Nat → Nat}, MK m0 m cn kk D F mk rh → isExp m e ne ∧ (∀ a, 714 ≤ a → mI m a = mI m0 a) ∧ (∀ a j, 31 ≤ a → mI m a j = mI m0 a j) ∧ mR m = mR m0 := fun {m cn D rh} h => ⟨hex0.up he (STd_up h.2.1), fun a ha => ((STd_up h.2.1).2.2 a ha).1, fun a j ha => h.2.1.i (by unfold STd STc; omega), h.2.1.r⟩
  refine tr_ind (nf := fs.length) (fp := fpf fs) (P := fun t => MKG fs m0 e ne root p o n kk ly F mk rh0 g K t) ?_ ?_ ?_ (tsz t) t (Nat.le_refl _) hw
  · intro c hc hpr lo k m D cn rh hm h hD hk hpc hly hlo hcn hN hFk hnD go
    rw [tsz_lf] at hly hlo hcn go
    rw [Pc_lf] at hpc
    obtain ⟨n1, n2, n3, n4, n5, n6⟩ := hpc
    obtain ⟨x1, x2, x3, x4⟩ := frm h
    rw [← x2 (e + 1) (by omega)] at n1
    rw [← x2 (e + 2) (by omega)] at n2
    rw [← x2 (e + 3) (by omega)] at n3
    rw [← x2 (e + 4) (by omega)] at n4
    rw [← x2 (e + 6) (by omega)] at n6
    rw [mkA_lf] at hFk hnD go
    by_cases c10 : c < 10
    · rw [if_pos c10] at hFk hnD go
      have c6 : c < 6 := by
        unfold cok at hc
        omega
      have e1 : ctg c = 0 := if_pos c10
      have e2 : cwh c = c := if_pos c10
      rw [e1] at n1
      rw [e2] at n2
      obtain ⟨y, hy, hyn⟩ := hN c (by rw [tenc_lf]; exact List.mem_singleton.mpr rfl) c10
      refine mz_step hm x1 hne hr (by omega) n6 (C.mono (mz_name hm x1 hne (by omega) hp c6 n1 n2) ?_)
      rintro r m5 ⟨rfl, rfl⟩
      refine ⟨_, rfl, hm, ?_⟩
      refine go _ rh (St.i hm) ((h.w hF).iff (fun x => ⟨fun q => q.resolve_right (fun w => ?_), fun q => Or.inl q⟩)) (fun _ _ => rfl) ?_ (fun j hj => by rw [mI_set, if_neg (by omega)])
      · have : x < k + 0 := w.2
        have := w.1
        omega
      · rw [show lo + 1 - 1 = lo by omega, mI_set, if_pos ⟨rfl, rfl⟩, x3 _ _ (by omega), hg c y c6 hy, hy]
        show nn (rh0 y) = nn (rh y)
        rw [(hD y hyn).2]
    · rw [if_neg c10] at hFk hnD go
      have c33 : c < 33 := by
        unfold cok at hc
        unfold prt at hpr
        by_cases q : c = 33
        · rw [if_neg (by omega), if_neg (by omega), if_neg (by omega), if_pos q] at hpr
          omega
        · omega
      refine mz_step hm x1 hne hr (by omega) n6 (C.mono (mz_node (vl := -1) (vr := -1) hm x1 hne (by omega) (by omega) h.1.1 (by omega) c33 n1 n2 (Or.inl ⟨n3, rfl⟩) (Or.inl ⟨n4, rfl⟩)) ?_)
      rintro r m5 ⟨rfl, rfl⟩
      refine ⟨_, rfl, St.i (St.i (St.i (St.i (St.i (St.i (St.i (St.i (St.i hm)))))))), ?_⟩
      obtain ⟨k1, k2, k3⟩ := kdc_ctg (by omega : 10 ≤ c) c33
      obtain ⟨a1, a2, a3, a4, a5⟩ := MK.node (at' := lo) (x := k) (t := (kdc c, whc c, none, none, o, 0, .nil)) (ck := nn (ctg c)) (w := nn (cwh c)) (vl := -1) (vr := -1) (pp := nn p) hF hm h (hnD 0 Nat.zero_lt_one) (hFk 0 _ rfl) (hmk k hk) k1 rfl rfl rfl (fun z hz => by rcases hz with hz | hz <;> cases hz) k2 (fun _ => rfl) (fun q => (k3 q).elim)
      refine go _ _ a1 (a2.iff (fun x => ?_)) a3 (by rw [show lo + 1 - 1 = lo by omega]; exact a4) (fun j hj => a5 j (by omega))
      show (D x ∨ (k ≤ x ∧ x < k + 1)) ↔ (D x ∨ x = k)
      constructor
      · rintro (q | q)
        · exact Or.inl q
        · exact Or.inr (by omega)
      · rintro (q | q)
        · exact Or.inl q
        · exact Or.inr (by omega)
  · intro c a hc hpr hwa ih lo k m D cn rh hm h hD hk hpc hly hlo hcn hN hFk hnD go
    have hpa := tsz_pos hwa
    rw [tsz_un] at hly hlo hcn go
    rw [Pc_un] at hpc
    obtain ⟨⟨n1, n2, n3, n4, n5, n6⟩, n7⟩ := hpc
    rw [mkA_un] at hFk hnD go
    obtain ⟨x1, x2, x3, x4⟩ := frm h
    have hat : lo + (1 + tsz a) - 1 = lo + tsz a := by omega
    have hat2 : lo + (1 + tsz a) = lo + tsz a + 1 := by omega
    rw [hat, hat2] at go
    by_cases c33 : c = 33
    · rw [if_pos c33] at hFk hnD go
      subst c33
      have hEAa : EA m e (lo + tsz a - 1) a := ⟨ne, lo, ly + 1, he, by rw [h.2.1.1]; exact hbe, x1, hne, by omega, n7.fe hwa x2 he, rfl, by rw [x2 e he]; exact hsz, by omega⟩
      refine mk_skip hm x1 hne hr hwa lo (ly + 1) (by omega) (by omega) (n7.fe hwa x2 he) (by omega) ?_
      rw [← x2 (e + 1) (by omega)] at n1
      rw [← x2 (e + 3) (by omega)] at n3
      rw [← x2 (e + 6) (by omega)] at n6
      refine mz_step hm x1 hne hr (by omega) n6 (C.mono (mz_some hm x1 hne (by omega) (by omega) h.1.1 n1 n3) ?_)
      rintro r m5 ⟨rfl, rfl⟩
      refine ⟨_, rfl, St.i (St.i (St.i (St.i (St.i (St.i (St.i (St.i (St.i hm)))))))), ?_⟩
      obtain ⟨a1, a2, a3, a4, a5⟩ := MK.node (at' := lo + tsz a) (x := k) (t := (6, 0, none, none, o, p, a)) (ck := 6) (w := nn (lo + tsz a - 1)) (vl := -1) (vr := -1) (pp := nn p) hF hm h (hnD 0 (Nat.zero_lt_one)) (hFk 0 _ rfl) (hmk k hk) rfl rfl rfl rfl (fun z hz => by rcases hz with hz | hz <;> cases hz) (fun q => by rcases q with q | q <;> cases q) (fun q => by cases q) (fun _ => ⟨rfl, hp, e, lo + tsz a - 1, by rw [x4]; exact hep, hEAa, rfl⟩)
      refine go _ _ a1 (a2.iff (fun x => ?_)) a3 a4 (fun j hj => a5 j (by omega))
      show (D x ∨ (k ≤ x ∧ x < k + 1)) ↔ (D x ∨ x = k)
      constructor
      · rintro (q | q)
        · exact Or.inl q
        · exact Or.inr (by omega)
      · rintro (q | q)
        · exact Or.inl q
        · exact Or.inr (by omega)
    · rw [if_neg c33] at hFk hnD go
      have hll : lyr c ly = ly := if_neg c33
      rw [hll] at n7
      have c10 : 10 ≤ c := by
        unfold prt at hpr
        by_cases q : c < 10
        · rw [if_pos q] at hpr
          omega
        · omega
      have c33' : c < 33 := by
        unfold cok at hc
        omega
      have hNa : NmO g n a := hN.un
      have hlen := mkA_len (g := g) (o := o) (p := p) hwa (k + 1)
      refine ih lo (k + 1) m D cn rh hm h hD (by omega) n7 (by omega) (by omega) (by omega) hNa (fun i u hi => ?_) (fun i hi => ?_) (fun m1 rh1 s1 M1 r1 v1 w1 => ?_)
      · rw [show k + 1 + i = k + (i + 1) by omega]
        exact hFk (i + 1) u (by rw [List.getElem?_cons_succ]; exact hi)
      · rw [show k + 1 + i = k + (i + 1) by omega]
        exact hnD (i + 1) (by rw [List.length_cons]; omega)
      · obtain ⟨y1, y2, y3, y4⟩ := frm M1
        rw [← y2 (e + 1) (by omega)] at n1
        rw [← y2 (e + 2) (by omega)] at n2
        rw [← y2 (e + 3) (by omega)] at n3
        rw [← y2 (e + 4) (by omega)] at n4
        rw [← y2 (e + 6) (by omega)] at n6
        obtain ⟨A, hA, hA2⟩ := mkA_some (g := g) (o := o) (p := p) hwa hNa (k + 1)
        refine mz_step s1 y1 hne hr (by omega) n6 (C.mono (mz_node (vl := mo rh1 (mkA g o p a (k + 1)).1) (vr := -1) s1 y1 hne (by omega) (by omega) M1.1.1 c10 c33' n1 n2 (Or.inr ⟨_, by omega, n3, v1⟩) (Or.inl ⟨n4, rfl⟩)) ?_)
        rintro r m5 ⟨rfl, rfl⟩
        refine ⟨_, rfl, St.i (St.i (St.i (St.i (St.i (St.i (St.i (St.i (St.i s1)))))))), ?_⟩
        obtain ⟨k1, k2, k3⟩ := kdc_ctg c10 c33'
        have hkD : ¬ (D k ∨ (k + 1 ≤ k ∧ k < k + 1 + (mkA g o p a (k + 1)).2.length)) := by
          rintro (q | q)
          · exact hnD 0 (by rw [List.length_cons]; omega) q
          · omega
        obtain ⟨a1, a2, a3, a4, a5⟩ := MK.node (at' := lo + tsz a) (x := k) (t := (kdc c, whc c, (mkA g o p a (k + 1)).1, none, o, 0, .nil)) (ck := nn (ctg c)) (w := nn (cwh c)) (vl := mo rh1 (mkA g o p a (k + 1)).1) (vr := -1) (pp := nn p) hF s1 M1 hkD (hFk 0 _ rfl) (hmk k hk) k1 rfl rfl rfl (fun z hz => by
          rcases hz with hz | hz
          · have hz : (mkA g o p a (k + 1)).1 = some z := hz
            rw [hA] at hz
            cases hz
            rcases hA2 with q | ⟨q, q2⟩
            · exact Or.inl (hD _ q).1
            · exact Or.inr (by omega)
          · cases hz) k2 (fun _ => rfl) (fun q => (k3 q).elim)
        refine go _ _ a1 ?_ (fun x hx => (a3 x (Or.inl hx)).trans (r1 x hx)) a4 (fun j hj => (a5 j (by omega)).trans (w1 j hj))
        have e1 : cn + ((kdc c, whc c, (mkA g o p a (k + 1)).1, none, o, 0, (.nil : Tr)) :: (mkA g o p a (k + 1)).2 : List Th).length = cn + (mkA g o p a (k + 1)).2.length + 1 := by
          rw [List.length_cons]
          omega
        rw [e1]
        refine a2.iff (fun x => ?_)
        rw [List.length_cons]
        constructor
        · rintro (q | q)
          · exact Or.inl (Or.inl q)
          · by_cases q2 : x = k
            · exact Or.inr q2
            · exact Or.inl (Or.inr (by omega))
        · rintro ((q | q) | q)
          · exact Or.inl q
          · exact Or.inr (by omega)
          · exact Or.inr (by omega)
  · intro c a b hc hpr hwa hwb iha ihb lo k m D cn rh hm h hD hk hpc hly hlo hcn hN hFk hnD go
    have hpa := tsz_pos hwa
    have hpb := tsz_pos hwb
    rw [tsz_bi] at hly hlo hcn go
    rw [Pc_bi] at hpc
    obtain ⟨⟨n1, n2, n3, n4, n5, n6⟩, n7, n8⟩ := hpc
    rw [mkA_bi] at hFk hnD go
    have hat : lo + (1 + tsz a + tsz b) - 1 = lo + tsz a + tsz b := by omega
    have hat2 : lo + (1 + tsz a + tsz b) = lo + tsz a + tsz b + 1 := by omega
    rw [hat, hat2] at go
    have c33 : ¬ c = 33 := by
      rintro rfl
      have : prt (fpf fs) 33 = 1 := rfl
      omega
    have hll : lyr c ly = ly := if_neg c33
    rw [hll] at n7 n8
    have c10 : 10 ≤ c := by
      unfold prt at hpr
      by_cases q : c < 10
      · rw [if_pos q] at hpr
        omega
      · omega
    have c33' : c < 33 := by
      unfold cok at hc
      omega
    have hlenA := mkA_len (g := g) (o := o) (p := p) hwa (k + 1)
    obtain ⟨la, hla⟩ : ∃ la, (mkA g o p a (k + 1)).2.length = la := ⟨_, rfl⟩
    have hlenB := mkA_len (g := g) (o := o) (p := p) hwb (k + 1 + la)
    obtain ⟨A, hA, hA2⟩ := mkA_some (g := g) (o := o) (p := p) hwa hN.l (k + 1)
    obtain ⟨B, hB, hB2⟩ := mkA_some (g := g) (o := o) (p := p) hwb hN.r (k + 1 + la)
    rw [hla] at hFk hnD go hlenA hA2
    obtain ⟨lb, hlb⟩ : ∃ lb, (mkA g o p b (k + 1 + la)).2.length = lb := ⟨_, rfl⟩
    rw [hlb] at hlenB hB2
    have hall : ((kdc c, whc c, (mkA g o p a (k + 1)).1, (mkA g o p b (k + 1 + la)).1, o, 0, (.nil : Tr)) :: ((mkA g o p a (k + 1)).2 ++ (mkA g o p b (k + 1 + la)).2) : List Th).length = la + lb + 1 := by
      rw [List.length_cons, List.length_append, hla, hlb]
    simp only at hFk hnD go
    rw [hall] at hnD go
    refine iha lo (k + 1) m D cn rh hm h hD (by omega) n7 (by omega) (by omega) (by omega) hN.l (fun i u hi => ?_) (fun i hi => ?_) (fun m1 rh1 s1 M1 r1 v1 w1 => ?_)
    · rw [show k + 1 + i = k + (i + 1) by omega]
      refine hFk (i + 1) u ?_
      rw [List.getElem?_cons_succ, List.getElem?_append_left (List.getElem?_eq_some_iff.mp hi).1]
      exact hi
    · rw [show k + 1 + i = k + (i + 1) by omega]
      exact hnD (i + 1) (by omega)
    rw [hla] at M1
    refine ihb (lo + tsz a) (k + 1 + la) m1 _ (cn + la) rh1 s1 M1 (fun x hx => ⟨Or.inl (hD x hx).1, (r1 x (hD x hx).1).trans (hD x hx).2⟩) (by omega) n8 (by omega) (by omega) (by omega) hN.r (fun i u hi => ?_) (fun i hi => ?_) (fun m2 rh2 s2 M2 r2 v2 w2 => ?_)
    · rw [show k + 1 + la + i = k + (la + i + 1) by omega]
      refine hFk (la + i + 1) u ?_
      rw [List.getElem?_cons_succ, List.getElem?_append_right (by omega), hla, show la + i - la = i by omega]
      exact hi
    · rw [hlb] at hi
      rw [show k + 1 + la + i = k + (la + i + 1) by omega]
      rintro (q | q)
      · exact hnD (la + i + 1) (by omega) q
      · omega
    rw [hlb] at M2
    obtain ⟨y1, y2, y3, y4⟩ := frm M2
    rw [← y2 (e + 1) (by omega)] at n1
    rw [← y2 (e + 2) (by omega)] at n2
    rw [← y2 (e + 3) (by omega)] at n3
    rw [← y2 (e + 4) (by omega)] at n4
    rw [← y2 (e + 6) (by omega)] at n6
    have hAD : D A ∨ (k + 1 ≤ A ∧ A < k + 1 + la) := by
      rcases hA2 with q | ⟨q, q2⟩
      · exact Or.inl (hD _ q).1
      · exact Or.inr (by omega)
    have hvA : mI m2 30 (lo + tsz a - 1) = mo rh2 (mkA g o p a (k + 1)).1 := by
      rw [w2 _ (by omega), v1, hA]
      show nn (rh1 A) = nn (rh2 A)
      rw [r2 A hAD]
    refine mz_step s2 y1 hne hr (by omega) n6 (C.mono (mz_node (vl := mo rh2 (mkA g o p a (k + 1)).1) (vr := mo rh2 (mkA g o p b (k + 1 + la)).1) s2 y1 hne (by omega) (by omega) M2.1.1 c10 c33' n1 n2 (Or.inr ⟨_, by omega, n3, hvA⟩) (Or.inr ⟨_, by omega, n4, v2⟩)) ?_)
    rintro r m5 ⟨rfl, rfl⟩
    refine ⟨_, rfl, St.i (St.i (St.i (St.i (St.i (St.i (St.i (St.i (St.i s2)))))))), ?_⟩
    obtain ⟨k1, k2, k3⟩ := kdc_ctg c10 c33'
    have hkD : ¬ ((D k ∨ (k + 1 ≤ k ∧ k < k + 1 + la)) ∨ (k + 1 + la ≤ k ∧ k < k + 1 + la + lb)) := by
      rintro ((q | q) | q)
      · exact hnD 0 (by omega) q
      · omega
      · omega
    obtain ⟨a1, a2, a3, a4, a5⟩ := MK.node (at' := lo + tsz a + tsz b) (x := k) (t := (kdc c, whc c, (mkA g o p a (k + 1)).1, (mkA g o p b (k + 1 + la)).1, o, 0, .nil)) (ck := nn (ctg c)) (w := nn (cwh c)) (vl := mo rh2 (mkA g o p a (k + 1)).1) (vr := mo rh2 (mkA g o p b (k + 1 + la)).1) (pp := nn p) hF s2 M2 hkD (hFk 0 _ rfl) (hmk k hk) k1 rfl rfl rfl (fun z hz => by
      rcases hz with hz | hz
      · have hz : (mkA g o p a (k + 1)).1 = some z := hz
        rw [hA] at hz
        cases hz
        exact Or.inl hAD
      · have hz : (mkA g o p b (k + 1 + la)).1 = some z := hz
        rw [hB] at hz
        cases hz
        rcases hB2 with q | ⟨q, q2⟩
        · exact Or.inl (Or.inl (hD _ q).1)
        · exact Or.inr (by omega)) k2 (fun _ => rfl) (fun q => (k3 q).elim)
    refine go _ _ a1 ?_ (fun x hx => (a3 x (Or.inl (Or.inl hx))).trans ((r2 x (Or.inl hx)).trans (r1 x hx))) a4 (fun j hj => (a5 j (by omega)).trans ((w2 j (by omega)).trans (w1 j hj)))
    rw [show cn + (la + lb + 1) = cn + la + lb + 1 by omega]
    refine a2.iff (fun x => ?_)
    constructor
    · rintro (q | q)
      · exact Or.inl (Or.inl (Or.inl q))
      · by_cases q2 : x = k
        · exact Or.inr q2
        · by_cases q3 : x < k + 1 + la
          · exact Or.inl (Or.inl (Or.inr (by omega)))
          · exact Or.inl (Or.inr (by omega))
    · rintro (((q | q) | q) | q)
      · exact Or.inl q
      · exact Or.inr (by omega)
      · exact Or.inr (by omega)
      · exact Or.inr (by omega)
end MKR
