/-! THE OTHER ONE: names stand for new things -/
theorem nl_conv : ∀ (l : List Nat) (s c : Nat), (nl l s).testBit c = true → s.testBit c = true ∨ (c ∈ l ∧ c < 10)
  | [], _, _, h => Or.inl h
  | d :: l, s, c, h => by
    rcases nl_conv l _ c h with q | q
    · by_cases w : d < 10
      · rw [if_pos w, Nat.testBit_or] at q
        by_cases e : d = c
        · exact Or.inr ⟨by rw [e]; exact List.mem_cons_self, by omega⟩
        · rw [Nat.one_shiftLeft, Nat.testBit_two_pow, decide_eq_false e, Bool.or_false] at q
          exact Or.inl q
      · rw [if_neg w] at q
        exact Or.inl q
    · exact Or.inr ⟨List.mem_cons_of_mem _ q.1, q.2⟩
theorem ksA_conv {t : Tr} {c : Nat} (h : c ∈ ksA t) : c ∈ tenc t ∧ c < 6 := by
  obtain ⟨h1, h2⟩ := List.mem_filter.mp h
  rcases nl_conv _ _ _ h2 with q | q
  · rw [Nat.zero_testBit] at q
    cases q
  · exact ⟨q.1, List.mem_range.mp h1⟩
theorem MK.self {m0 m : Mm} {cn kk : Nat} {D : Nat → Prop} {F : Nat → Th} {mk rh : Nat → Nat} (h : MK m0 m cn kk D F mk rh) : MK m m cn kk D F mk rh := ⟨h.1, Fr.refl, h.2.2⟩
theorem MK.set {fs : List Fn} {m : Mm} {cn kk p i : Nat} {v : Int32} {D : Nat → Prop} {F : Nat → Th} {mk rh : Nat → Nat} (hw : ∀ y, tWf fs (F y)) (h : MK m m cn kk D F mk rh) (hp : p < 102) : MK (mSetI m (32 + 2 * p) i v) (mSetI m (32 + 2 * p) i v) cn kk D F mk rh := by
  obtain ⟨h1, h2, h3, h4⟩ := h
  refine ⟨h1.fe (fs := fs) (fun x _ => hw x) (Up.fr (S := fun a _ => a < 714) (Fr.refl.set (by omega)) (fun a j q => q)) (fun a a1 a2 => mI_fn (by omega)) (by rw [mI_fn (by omega)]) (fun _ _ => rfl), Fr.refl, fun x hx => ?_, h4⟩
  obtain ⟨j, j1, j2⟩ := h3 x hx
  exact ⟨j, j1, by rw [mI_fn (by omega)]; exact j2⟩
theorem s3_openNames {fs : List Fn} {m : Mm} {s : Ac} {rh : Nat → Nat} {e p o : Nat} {t : Tr} (hf8 : fs.length ≤ 8) (hm : St m) (h : HM m s rh False) (hE : aE s = 0) (hO : QOK fs s) (hP : PLK s) (hw : twf fs.length (fpf fs) t) (het : ExpT m e t) (h12 : tsz t ≤ 12) (hp : p < aP s) (hp2 : p < 102) (hep : mR m (31 + 2 * p) 3 = some e) (hC : aC s ≤ 3430) (ho : o ≤ 101) (hsg : ∀ j, 1 ≤ j → j ≤ aL s → lX (aV s j) < aC s) : C m3_openNames [.ref 12, .int (nn p), .int (nn o)] m (fun z m' => z = .inl none ∧ ∃ rh', (∀ y, y < aC s → rh' y = rh y) ∧ Zr m m' ∧ St m' ∧ mR m' = mR m ∧ HM m' (opsA s t p o) rh' False ∧ QOK fs (opsA s t p o)) := by
  refine C.of (by decide +kernel) (Nat.le_of_ble_eq_true rfl) rfl (w3_openNames hm ?_)
  have hvp := nn_in (a := p) (n := 102) (by omega) hp2
  rw [nn_tn (a := p) (by omega)]
  refine ⟨hvp, hvp, e, hep, ?_⟩
  obtain ⟨f1, f2, f3, f4, f5, f6, f7, f8⟩ := h.all hE
  have hO' := hO
  obtain ⟨b1, b2, b3, b4, b5, b6, b7, b8, b9, b10, b11⟩ := hO'
  obtain ⟨x1, x2, x3, x4, x5⟩ := het
  obtain ⟨U, hU⟩ : ∃ U, (ksA t).filter (fun k => (aN s p k).isNone) = U := ⟨_, rfl⟩
  obtain ⟨q, hq⟩ : ∃ q, opG o (ksA t) (aC s) (aN s p) = q := ⟨_, rfl⟩
  have hnd : (ksA t).Nodup := List.Pairwise.filter _ List.nodup_range
  obtain ⟨g1, g2, g3⟩ := opG_spec (o := o) (ksA t) (aC s) (aN s p) hnd
  rw [hU, hq] at g1 g2 g3
  have hUnd : U.Nodup := by
    rw [← hU]
    exact List.Pairwise.filter _ hnd
  have hUm : ∀ c, c ∈ U ↔ (c ∈ tenc t ∧ c < 6) ∧ aN s p c = none := fun c => by
    rw [← hU, List.mem_filter]
    constructor
    · rintro ⟨q1, q2⟩
      refine ⟨ksA_conv q1, ?_⟩
      cases e : aN s p c with
      | none => rfl
      | some y =>
        rw [e] at q2
        cases q2
    · rintro ⟨⟨q1, q2⟩, q3⟩
      exact ⟨ksA_mem hw q1 (by omega), by rw [q3]; rfl⟩
  have hUl : U.length ≤ 6 := by
    have := List.Nodup.length_le_of_subset hUnd (l₂ := List.range 6) (fun c hc => List.mem_range.mpr ((hUm c).mp hc).1.2)
    rw [List.length_range] at this
    exact this
  have hql : q.2.length = U.length := by rw [g1, List.length_replicate]
  have hops : opsA s t p o = sN (sT s (aC s + q.2.length) (app (aF s) (aC s) q.2)) (aP s) (up1 (aN s) p q.1) := by
    unfold opsA
    rw [hq]
    rfl
  have hFn : ∀ i, i < U.length → app (aF s) (aC s) q.2 (aC s + i) = tOpen o := fun i hi => app_at (by rw [g1, List.getElem?_replicate, if_pos hi])
  have hwf : ∀ y, tWf fs (app (aF s) (aC s) q.2 y) := fun y => by
    by_cases w : y < aC s
    · rw [app_lt w]
      exact (b7 y w).1
    · by_cases w2 : y < aC s + U.length
      · have := hFn (y - aC s) (by omega)
        rw [show aC s + (y - aC s) = y by omega] at this
        rw [this]
        exact ⟨fun q => (by cases q), fun q => (by cases q)⟩
      · have : app (aF s) (aC s) q.2 y = tNil := by
          unfold app
          rw [if_neg w, List.getD_eq_getElem?_getD, List.getElem?_eq_none (by omega)]
          rfl
        rw [this]
        exact ⟨fun q => (by cases q), fun q => (by cases q)⟩
  have hOq : QOK fs (opsA s t p o) := by
    rw [hops]
    have hO2 : QOK fs (addT s q.2) := hO.addl (o := o) (by omega) ho (fun u hu => by
      rw [g1] at hu
      rw [List.eq_of_mem_replicate hu]
      exact ⟨⟨fun q => (by cases q), fun q => (by cases q)⟩, show 0 < 8 by decide, show 0 < 100 by decide, rfl, fun z hz => by rcases hz with hz | hz <;> cases hz⟩)
    obtain ⟨c1, c2, c3, c4, c5, c6, c7, c8, c9, c10, c11⟩ := hO2
    refine ⟨c1, c2, c3, c4, c5, c6, c7, c8, fun p' k y hy => ?_, c10, c11⟩
    show y < aC s + q.2.length
    have hy : up1 (aN s) p q.1 p' k = some y := hy
    by_cases w : p' = p
    · rw [w, up1_at] at hy
      by_cases wk : k ∈ U
      · obtain ⟨i, hi⟩ := List.mem_iff_getElem?.mp wk
        rw [g2 i k hi] at hy
        cases hy
        have := (List.getElem?_eq_some_iff.mp hi).1
        omega
      · rw [g3 k wk] at hy
        have := b9 p k y hy
        omega
    · rw [up1_ne w] at hy
      have := b9 p' k y hy
      omega
  obtain ⟨pp1, pp2⟩ := pc_pos hw 0 0 x5
  obtain ⟨kk, kk1, kk2, kk3⟩ := f8
  have loop : ∀ (d j : Nat) (M : Mm) (L : List Nat) (rh' : Nat → Nat), j + d = tsz t → St M → Fr (fun a j => STc a j ∨ a = 32 + 2 * p) m M → L.Nodup → (∀ c, c ∈ L → c ∈ U) → MK M M (aC s + L.length) kk (fun x => x < aC s ∨ ∃ k, k ∈ L ∧ q.1 k = some x) (app (aF s) (aC s) q.2) (aM s) rh' → (∀ x, x < aC s → rh' x = rh x) → (∀ k, k < 6 → mI M (32 + 2 * p) k = mo rh' (if k ∈ L then q.1 k else aN s p k)) → (∀ i, i < j → ∀ c, c < 6 → mI m (e + 1) i = 0 → mI m (e + 2) i = nn c → c ∈ U → c ∈ L) →
      V m3_openNames 24 [some (.ref 12), some (.int (nn p)), some (.int (nn o)), some (.ref (32 + 2 * p)), some (.ref e), some (.int (nn j))] [] M (fun z m' => z = .inl none ∧ ∃ rh', (∀ y, y < aC s → rh' y = rh y) ∧ Zr m m' ∧ St m' ∧ mR m' = mR m ∧ HM m' (opsA s t p o) rh' False ∧ QOK fs (opsA s t p o)) := by
    intro d
    induction d with
    | zero =>
      intro j M L rh' hj sM fr hL hLU hMK hr hc hs
      have u := (Up.fr fr (fun a j q => by unfold STc at q; omega))
      refine w3_openNames_24 sM (sa_st sM hp2) (x3.up x1 u) ?_
      have l1 : nn (tsz t) ≤ nn j ↔ tsz t ≤ j := nn_le (by omega) (by omega)
      rw [(u.2.2 e x1).1, x4, l1]
      refine ⟨fun _ => ⟨rfl, rh', hr, ?_⟩, fun q => by omega⟩
      have hUL : ∀ c, c ∈ U → c ∈ L := fun c hc => by
        obtain ⟨⟨c1, c2⟩, c3⟩ := (hUm c).mp hc
        obtain ⟨i, i1, i2, i3, i4⟩ := pp2 c c1
        refine hs i (by omega) c c2 ?_ ?_ hc
        · rw [i3]
          unfold ctg
          rw [if_pos (by omega)]
          rfl
        · rw [i4]
          unfold cwh
          rw [if_pos (by omega)]
      have hlen : L.length = U.length := Nat.le_antisymm (List.Nodup.length_le_of_subset hL hLU) (List.Nodup.length_le_of_subset hUnd hUL)
      have hT : HT M (aC s + q.2.length) (app (aF s) (aC s) q.2) (aM s) rh' := by
        have := hMK.1
        rw [hlen, ← hql] at this
        refine this.iff (fun x => ?_)
        constructor
        · intro w
          by_cases w1 : x < aC s
          · exact Or.inl w1
          · obtain ⟨k, hk⟩ : ∃ k, U[x - aC s]? = some k := ⟨_, List.getElem?_eq_getElem (by omega)⟩
            refine Or.inr ⟨k, hUL k (List.mem_iff_getElem?.mpr ⟨_, hk⟩), ?_⟩
            rw [g2 _ k hk]
            congr 1
            omega
        · rintro (w | ⟨k, k1, k2⟩)
          · omega
          · obtain ⟨i, hi⟩ := List.mem_iff_getElem?.mp (hLU k k1)
            rw [g2 i k hi] at k2
            cases k2
            have := (List.getElem?_eq_some_iff.mp hi).1
            omega
      have key := h.te (fs := fs) (p := p) (g := q.1) hE hO hP hp2 fr hT (Nat.le_add_right _ _) (fun x hx => app_lt hx) hr ⟨kk, kk1, (fr.i (by unfold STc; omega)).trans kk2, fun x hx => by
        obtain ⟨j, j1, j2⟩ := hMK.2.2.1 x (by
          by_cases w1 : x < aC s
          · exact Or.inl w1
          · obtain ⟨k, hk⟩ : ∃ k, U[x - aC s]? = some k := ⟨_, List.getElem?_eq_getElem (by omega)⟩
            refine Or.inr ⟨k, hUL k (List.mem_iff_getElem?.mpr ⟨_, hk⟩), ?_⟩
            rw [g2 _ k hk]
            congr 1
            omega)
        exact ⟨j, j1, j2⟩⟩ hsg (fun k hk => by
          rw [hc k hk]
          by_cases w : k ∈ L
          · rw [if_pos w]
          · rw [if_neg w, g3 k (fun z => w (hUL k z))])
      refine ⟨key.1, sM, fr.r, ?_, hOq⟩
      rw [hops]
      exact key.2
    | succ d ih =>
      intro j M L rh' hj sM fr hL hLU hMK hr hc hs
      have u := (Up.fr fr (fun a j q => by unfold STc at q; omega))
      have hLl : L.length ≤ 6 := Nat.le_trans (List.Nodup.length_le_of_subset hL hLU) hUl
      obtain ⟨c, c1, c2, c3⟩ := pp1 j (Nat.zero_le _) (by omega)
      refine w3_openNames_24 sM (sa_st sM hp2) (x3.up x1 u) ?_
      have l1 : nn (tsz t) ≤ nn j ↔ tsz t ≤ j := nn_le (by omega) (by omega)
      have hv := nn_in (a := j) (n := tsz t) (by omega) (by omega)
      have e1 : mI M (e + 1) = mI m (e + 1) := (u.2.2 (e + 1) (by omega)).1
      have e2 : mI M (e + 2) = mI m (e + 2) := (u.2.2 (e + 2) (by omega)).1
      rw [(u.2.2 e x1).1, x4, l1, nn_tn (a := j) (by omega), e1, e2, c2, c3, nn_one]
      refine ⟨fun q => by omega, fun _ => ⟨hv, fun nt => ?_, fun tz => ?_⟩⟩
      · refine ih (j + 1) M L rh' (by omega) sM fr hL hLU hMK hr hc (fun i hi c' h1 h2 h3 h4 => ?_)
        by_cases w : i = j
        · rw [w, c2] at h2
          exact (nt h2).elim
        · exact hs i (by omega) c' h1 h2 h3 h4
      · have c10 : c < 10 := by
          by_cases w : c < 10
          · exact w
          · have : ∀ c, c < 40 → ¬ c < 10 → ¬ nn (ctg c) = 0 := by decide +kernel
            have hcc := tenc_cok hw c c1
            unfold cok at hcc
            exact (this c (by omega) w tz).elim
        have c6 : c < 6 := by
          have := tenc_cok hw c c1
          unfold cok at this
          omega
        have ew : cwh c = c := if_pos c10
        rw [ew, nn_tn (a := c) (by omega), hc c c6]
        have go : c ∈ L ∨ c ∉ U → V m3_openNames 24 [some (.ref 12), some (.int (nn p)), some (.int (nn o)), some (.ref (32 + 2 * p)), some (.ref e), some (.int (nn (j + 1)))] [] M (fun z m' => z = .inl none ∧ ∃ rh', (∀ y, y < aC s → rh' y = rh y) ∧ Zr m m' ∧ St m' ∧ mR m' = mR m ∧ HM m' (opsA s t p o) rh' False ∧ QOK fs (opsA s t p o)) := fun w => by
          refine ih (j + 1) M L rh' (by omega) sM fr hL hLU hMK hr hc (fun i hi c' h1 h2 h3 h4 => ?_)
          by_cases wi : i = j
          · rw [wi, c3, ew] at h3
            have : c = c' := (nn_eq (by omega) (by omega)).mp h3
            subst this
            exact w.resolve_right (fun z => z h4)
          · exact hs i (by omega) c' h1 h2 h3 h4
        refine ⟨hv, nn_in (by omega) c6, ?_⟩
        have hrl : ∀ x, (x < aC s ∨ ∃ k, k ∈ L ∧ q.1 k = some x) → rh' x < 2147483648 := fun x hx => by
          have := hMK.1.2.1 x hx
          omega
        by_cases cL : c ∈ L
        · rw [if_pos cL]
          obtain ⟨i, hi⟩ := List.mem_iff_getElem?.mp (hLU c cL)
          have hb := hrl _ (Or.inr ⟨c, cL, g2 i c hi⟩)
          rw [g2 i c hi]
          exact ⟨fun _ => go (Or.inl cL), fun w => (nn_m1 hb w).elim⟩
        · rw [if_neg cL]
          cases hgc : aN s p c with
          | some y =>
            have hb := hrl y (Or.inl (b9 p c y hgc))
            exact ⟨fun _ => go (Or.inr (fun z => by have := ((hUm c).mp z).2; rw [hgc] at this; cases this)), fun w => (nn_m1 hb w).elim⟩
          | none =>
            have cU : c ∈ U := (hUm c).mpr ⟨⟨c1, c6⟩, hgc⟩
            obtain ⟨i, hi⟩ := List.mem_iff_getElem?.mp cU
            have hil := (List.getElem?_eq_some_iff.mp hi).1
            have hqc := g2 i c hi
            refine ⟨fun w => (w rfl).elim, fun _ => ⟨hv, C.mono (s10_addOpen sM (by omega) hMK.1.1 (nn o)) ?_⟩⟩
            rintro z m8 ⟨rfl, rfl⟩
            have s8 : St (aT M (aC s + L.length) 7 0 (-1) (-1) 0 (nn o)) := St.i (St.i (St.i (St.i (St.i (St.i (St.i (St.i (St.i sM))))))))
            refine ⟨_, rfl, s8, sa_st s8 hp2, nn_in (by omega) c6, ?_⟩
            have hxD : ¬ (aC s + i < aC s ∨ ∃ k, k ∈ L ∧ q.1 k = some (aC s + i)) := by
              rintro (w | ⟨k, k1, k2⟩)
              · omega
              · obtain ⟨i', hi'⟩ := List.mem_iff_getElem?.mp (hLU k k1)
                rw [g2 i' k hi'] at k2
                have : i' = i := by
                  have := Option.some.inj k2
                  omega
                subst this
                rw [hi] at hi'
                cases hi'
                exact cL k1
            have M1 := hMK.add (x := aC s + i) (t := tOpen o) (w := 0) (p := 0) hwf hxD (hFn i hil) (b8 _ (Nat.le_add_right _ _)) (fun z hz => by rcases hz with hz | hz <;> cases hz) (fun w => by rcases w with w | w <;> cases w) (fun w => by cases w) (fun w => by cases w)
            have M2 := (M1.self.set (p := p) (i := c) (v := nn (aC s + L.length)) hwf hp2)
            have fr2 : Fr (fun a j => STc a j ∨ a = 32 + 2 * p) m (mSetI (aT M (aC s + L.length) 7 0 (-1) (-1) 0 (nn o)) (32 + 2 * p) c (nn (aC s + L.length))) := (aT_fr fr (fun a j a1 a2 => Or.inl (Or.inl ⟨a1, a2⟩)) (Or.inl (Or.inr ⟨rfl, rfl⟩))).set (Or.inr rfl)
            refine ih (j + 1) _ (c :: L) (up1 rh' (aC s + i) (aC s + L.length)) (by omega) (St.i s8) fr2 (List.nodup_cons.mpr ⟨cL, hL⟩) (fun k hk => ?_) ?_ (fun x hx => (up1_ne (by omega)).trans (hr x hx)) (fun k hk => ?_) (fun i' hi' c' h1 h2 h3 h4 => ?_)
            · rcases List.mem_cons.mp hk with w | w
              · rw [w]
                exact cU
              · exact hLU k w
            · rw [List.length_cons]
              refine M2.iff (fun x => ?_)
              constructor
              · rintro (w | ⟨k, k1, k2⟩)
                · exact Or.inl (Or.inl w)
                · rcases List.mem_cons.mp k1 with w | w
                  · rw [w, hqc] at k2
                    exact Or.inr (Option.some.inj k2).symm
                  · exact Or.inl (Or.inr ⟨k, w, k2⟩)
              · rintro ((w | ⟨k, k1, k2⟩) | w)
                · exact Or.inl w
                · exact Or.inr ⟨k, List.mem_cons_of_mem _ k1, k2⟩
                · exact Or.inr ⟨c, List.mem_cons_self, by rw [hqc, w]⟩
            · have kp : ∀ r : Option Nat, (∀ y, r = some y → (y < aC s ∨ ∃ k, k ∈ L ∧ q.1 k = some y)) → mo (up1 rh' (aC s + i) (aC s + L.length)) r = mo rh' r := fun r hr2 => mo_eq (fun y hy => up1_ne (fun w => hxD (by rw [← w]; exact hr2 y hy)))
              rw [mI_set]
              by_cases w : k = c
              · subst w
                rw [if_pos ⟨rfl, rfl⟩, if_pos List.mem_cons_self, hqc]
                show _ = nn (up1 rh' (aC s + i) (aC s + L.length) (aC s + i))
                rw [up1_at]
              · rw [if_neg (by omega), aT_g (by omega) (by omega), hc k hk]
                by_cases wL : k ∈ L
                · rw [if_pos wL, if_pos (List.mem_cons_of_mem _ wL)]
                  exact (kp _ (fun y hy => Or.inr ⟨k, wL, hy⟩)).symm
                · have wL2 : k ∉ c :: L := fun z => by
                    rcases List.mem_cons.mp z with z | z
                    · exact w z
                    · exact wL z
                  rw [if_neg wL, if_neg wL2]
                  exact (kp _ (fun y hy => Or.inl (b9 p k y hy))).symm
            · by_cases wi : i' = j
              · rw [wi, c3, ew] at h3
                have : c = c' := (nn_eq (by omega) (by omega)).mp h3
                rw [← this]
                exact List.mem_cons_self
              · exact List.mem_cons_of_mem _ (hs i' (by omega) c' h1 h2 h3 h4)
  refine loop (tsz t) 0 m [] rh (by omega) hm Fr.refl List.nodup_nil (fun c hc => by cases hc) ⟨?_, Fr.refl, fun x hx => ?_, fun y hy z hz => ?_⟩ (fun _ _ => rfl) (fun k hk => ?_) (fun i hi => by omega)
  · exact (f1.ge (f' := app (aF s) (aC s) q.2) (fun x hx => app_lt hx)).iff (fun x => ⟨fun w => w.resolve_right (fun ⟨k, k1, _⟩ => by cases k1), fun w => Or.inl w⟩)
  · obtain ⟨j, j1, j2⟩ := kk3 x (hx.resolve_right (fun ⟨k, k1, _⟩ => by cases k1))
    exact ⟨j, j1, j2⟩
  · have hy := hy.resolve_right (fun ⟨k, k1, _⟩ => by cases k1)
    rw [app_lt hy] at hz
    rcases hz with hz | hz
    · exact Or.inl ((b7 y hy).2.2.2.2.2.1 z hz)
    · exact Or.inl ((b7 y hy).2.2.2.2.2.2 z hz)
  · rw [if_neg (fun w => by cases w), f2.2 p hp k hk]
