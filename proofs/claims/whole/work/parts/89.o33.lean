/-! A RUN WITHIN IS MADE AGAIN: the earlier attempt and the later one -/
theorem Att.le {R : Nat → Ac} {j b n n' : Nat} (h : Att R j b n) (h1 : b < n') (h2 : n' ≤ n) : Att R j b n' := by
  obtain ⟨a1, a2, a3, a4⟩ := h
  exact ⟨a1, a2, h1, fun i i1 i2 => a4 i i1 (by omega)⟩
/-- the way that the later one takes is that of the earlier one, while more are given -/
theorem Fld.way {fs : List Fn} {R : Nat → Ac} {N j b f m n : Nat} {k wi : Nat} (hf : PW fs [] none) (h : Seg fs R N) (hj : 1 ≤ j) (hfn : f + 1 ≤ N) (hN : n ≤ N) (hF : Fld R j b f) (ha : Att R j (f + 1) n) (hbm : b < m) (hmf : m < f) (hne : lG (aV (R n) j) ≠ []) (hD : lD (aV (R n) j) = lD (aV (R m) j)) (hd : lD (aV (R (m + 1)) j) = (wi, k) :: lD (aV (R m) j)) : (lG (aV (R n) j)).headD 0 < k ∧ ((lG (aV (R n) j)).tail ≠ [] → (lG (aV (R n) j)).headD 0 = wi) := by
  have l2 := (h.ld hf hj hN ha n ha.2.2.1 (Nat.le_refl _)).2
  have hA := hF.1
  obtain ⟨_, _, _, _, _, _, w, n0, r, q1, q2⟩ := hF
  obtain ⟨⟨pre', q3⟩, q4⟩ := backA_f q1
  obtain ⟨dd, hdd⟩ := Nat.le.dest (show m + 1 ≤ f by omega)
  obtain ⟨pre, hpre⟩ := h.suf hf hj (by omega) hA dd (m + 1) (by omega) (by omega)
  rw [hdd, hd] at hpre
  have hlt : ∀ e, e ∈ lD (aV (R f) j) → e.1 < e.2 := fun e he => by
    obtain ⟨_, Af⟩ := h.2.1 f (by omega)
    exact (Af.2.1.2.1 j (hA.2.2.2 f hA.2.2.1 (Nat.le_refl _)).1).2.2.1 e he |>.1
  rw [l2, hD, q2] at hne ⊢
  obtain ⟨g1, g2⟩ := headG q3 hpre q4 hlt hne
  refine ⟨g1, fun z => g2 ?_⟩
  rw [List.tail_drop] at z
  exact z
theorem MC {fs : List Fn} {R : Nat → Ac} {N j b f : Nat} (hf : PW fs [] none) (h : Seg fs R N) (hj : 1 ≤ j) (hF : Fld R j b f) : ∀ n, f + 1 < n → n ≤ N → Att R j (f + 1) n → lG (aV (R n) j) ≠ [] → ∃ m, b < m ∧ m < f ∧ ((∃ Dm be, SYw j Dm be (R m) (R n)) ∨ ∃ Dm be o P lp, DWn j o Dm be (R m) (R n) ∧ stp (R m) P lp ∧ R (m + 1) = failA P o) := by
  have hA := hF.1
  intro n
  induction n with
  | zero => intro h1; omega
  | succ n ih =>
    intro h1 h2 ha hne
    obtain ⟨rn, Jn⟩ := h.jr (i := n) (by omega)
    obtain ⟨rn', Jn'⟩ := h.jr (i := n + 1) h2
    obtain ⟨hEn, An⟩ := h.2.1 n (by omega)
    obtain ⟨hEn', An'⟩ := h.2.1 (n + 1) h2
    by_cases hn0 : n = f + 1
    · -- it begins
      subst hn0
      obtain ⟨rb, Jb⟩ := h.jr (i := b) (by have := hA.2.2.1; omega)
      obtain ⟨rb', Jb'⟩ := h.jr (i := b + 1) (by have := hA.2.2.1; omega)
      have hbf := hA.2.2.1
      obtain ⟨hEb, _⟩ := h.2.1 b (by omega)
      obtain ⟨hEb', _⟩ := h.2.1 (b + 1) (by omega)
      obtain ⟨lb1, lb2⟩ := hA.2.2.2 (b + 1) (by omega) (by omega)
      obtain ⟨ln1, ln2⟩ := ha.2.2.2 (f + 1 + 1) (by omega) (Nat.le_refl _)
      rcases h.t1 hf (i := b) (by omega) hj lb1 lb2 with ⟨_, z, _⟩ | ⟨c1, c2, c3, c4, c5, tp, lp, c6, c7, c8⟩
      · exact absurd z hA.2.1
      · rcases h.t1 hf (i := f + 1) (by omega) hj ln1 ln2 with ⟨_, z, _⟩ | ⟨d1, d2, d3, d4, d5, tq, lq, d6, d7, d8⟩
        · exact absurd z ha.2.1
        · obtain ⟨k1, k2⟩ := h.k6 hf hj (by omega) hA f (by omega) (Nat.le_refl _)
          obtain ⟨x1, _⟩ := h.ld hf hj (by omega) hA f (by omega) (Nat.le_refl _)
          obtain ⟨_, f2, f3, f4, f5, f6, _⟩ := hF
          have E1 := h.ev1 hf (i := b) (by omega)
          have E2 := h.evk hf (i := b + 1) (k := f + 1 + 1) (by omega) h2
          rw [c8] at hEb' Jb' E1 E2
          rw [d8] at hEn' Jn' E2
          obtain ⟨Dm, be, S⟩ := SYstart hf.1 hj Jb Jn hEb hEn c1 d1 c6 d6 c7 d7 (f4.trans x1) (by rw [f5]; exact k1) (by rw [f6]; exact k2) hEb' hEn' E1 Jb'.1 Jn'.1 E2
          rw [← c8, ← d8] at S
          have hlt := Fld.lt hf h hj h2 ⟨hA, f2, f3, f4, f5, f6, ‹_›⟩ ha (m := b + 1) (by omega) (by omega) hne S.ld
          exact ⟨b + 1, by omega, hlt, Or.inl ⟨Dm, be, S⟩⟩
    · have hfn : f + 1 < n := by omega
      have ha' := ha.le (n' := n) hfn (by omega)
      obtain ⟨l1, l2⟩ := ha.2.2.2 (n + 1) (by omega) (Nat.le_refl _)
      have hds : DSx (R n) (R (n + 1)) j := by
        rcases h.t1 hf (i := n) (by omega) hj l1 l2 with ⟨_, _, z, _⟩ | ⟨_, z, _⟩
        · exact z
        · exact absurd (ha'.2.2.2 n hfn (Nat.le_refl _)).2 z
      have hne' : lG (aV (R n) j) ≠ [] := fun q => by
        rcases hds.2 with ⟨_, z⟩ | ⟨_, _, z⟩
        · rw [z] at hne
          exact hne q
        · rw [z, q] at hne
          exact hne rfl
      obtain ⟨m, m1, m2, hm⟩ := ih hfn (by omega) ha' hne'
      have En := h.ev1 hf (i := n) (by omega)
      have Wn := h.2.2 n (by omega)
      -- a window goes on
      have win : ∀ m Dm be o P lp, b < m → m < f → DWn j o Dm be (R m) (R n) → stp (R m) P lp → R (m + 1) = failA P o → ∃ m, b < m ∧ m < f ∧ ((∃ Dm be, SYw j Dm be (R m) (R (n + 1))) ∨ ∃ Dm be o P lp, DWn j o Dm be (R m) (R (n + 1)) ∧ stp (R m) P lp ∧ R (m + 1) = failA P o) := fun m Dm be o P lp m1 m2 D sp e => by
        obtain ⟨rm, Jm⟩ := h.jr (i := m) (by omega)
        have hEm1 := (h.2.1 (m + 1) (by omega)).1
        have E0 := h.evk hf (i := m) (k := n) (by omega) (by omega)
        have E1 := h.evk hf (i := m) (k := n + 1) (by omega) h2
        have Em := h.ev1 hf (i := m) (by omega)
        have st := h.1 n
        rw [st] at hEn' E1 En Jn'
        rcases D.go hf hj Jm An E0 hEn Wn hEn' E1 with ⟨D', _⟩ | ⟨Q, lq, sq, e2⟩
        · rw [← st] at D'
          exact ⟨m, m1, m2, Or.inr ⟨Dm, be, o, P, lp, D', sp, e⟩⟩
        · rw [e2] at hEn' En Jn'
          rw [e] at hEm1 Em
          have S := D.end hj Jm Jn E0 sp sq hEm1 hEn' Em En Jn'.1
          rw [← e, ← e2, ← st] at S
          have hlt := Fld.lt hf h hj h2 hF ha (m := m + 1) (by omega) (by omega) hne S.ld
          exact ⟨m + 1, by omega, hlt, Or.inl ⟨Dm, be, S⟩⟩
      rcases hm with ⟨Dm, be, S⟩ | ⟨Dm, be, o, P, lp, D, sp, e⟩
      · cases htq : topK (R n) with
        | nil =>
          have st := h.1 n
          rw [st] at hEn'
          unfold goX at hEn'
          rw [if_pos hEn, htq] at hEn'
          exact absurd hEn' (show ¬ (1 : Nat) = 0 by decide)
        | cons tq lq =>
          by_cases hq : silA (R n) tq
          · have S' := S.sq (fs := fs) hEn htq hq
            rw [← h.1] at S'
            exact ⟨m, m1, m2, Or.inl ⟨Dm, be, S'⟩⟩
          · obtain ⟨m', Dm', be', tp, lp, n1, n2, S', htp, hp, hown⟩ := ADV hf h hj hfn (by omega) hF ha' hne' _ m (Nat.le_refl _) m1 m2 ⟨Dm, be, S⟩
            obtain ⟨rm, Jm⟩ := h.jr (i := m') (by omega)
            obtain ⟨hEm, Am⟩ := h.2.1 m' (by omega)
            have hEm1 := (h.2.1 (m' + 1) (by omega)).1
            have E0 := h.evk hf (i := m') (k := n) (by omega) (by omega)
            have Wm := h.2.2 m' (by omega)
            obtain ⟨v1, v2⟩ := hA.2.2.2 (m' + 1) (by omega) (by omega)
            have v3 := (hA.2.2.2 m' n1 (by omega)).2
            have hd0 := (HD0 (fs := fs) S' Jm Jn E0 htp htq hp hq hown).1
            have st := h.1 n
            have sm := h.1 m'
            have hEm1g := hEm1
            have hEn'g := hEn'
            have v1g := v1
            have v2g := v2
            rw [sm] at hEm1g v1g v2g
            rw [st] at hEn'g
            have way : tp.1 = 0 → tW (aF (R m') (root (R m') tp.2.1)) = j → ∀ k, (tK (aF (R m') (root (R m') tp.2.1)) = 2 ∧ k = (rulf fs (tO (aF (R m') (root (R m') tp.2.1)))).length ∧ 1 < k) ∨ (tK (aF (R m') (root (R m') tp.2.1)) = 3 ∧ k = 2) → (decA (setK (R n) lq) j k).1 = (decA (setK (R m') lp) j k).1 := fun h00 hw k hk => by
              obtain ⟨g1, g2⟩ := hd0 h00
              have Da := hown h00
              obtain ⟨a1, a2, a3, b1, b2, b3, _⟩ := S'.1.1.1 _ Da
              obtain ⟨kk, y, c, d, pt⟩ := tp
              have h00 : kk = 0 := h00
              subst h00
              obtain ⟨kk2, y2, c2, d2, pt2⟩ := tq
              have g1 : kk2 = 0 := g1
              subst g1
              have g2 : root (R n) y2 = be' (root (R m') y) := g2
              have hw : tW (aF (R m') (root (R m') y)) = j := hw
              rw [goX_cons hEm htp] at hEm1g
              rw [goX_cons hEn htq] at hEn'g
              have p1 := DECx (fs := fs) (l := lp) (x := root (R m') y) Jm a1 hEm hk hEm1g
              have q1 := DECx (fs := fs) (l := lq) (x := root (R n) y2) (n := k) Jn (by rw [g2]; exact a2) hEn (by rw [g2, b1, b2]; exact hk) hEn'g
              have eP : R (m' + 1) = forceG fs false (setK (R m') lp) (root (R m') y) := by
                rw [sm, goX_cons hEm htp]
                rfl
              have eQ : R (n + 1) = forceG fs false (setK (R n) lq) (root (R n) y2) := by
                rw [st, goX_cons hEn htq]
                rfl
              rw [hw, ← eP] at p1
              rw [g2] at q1 eQ
              rw [b3, hw, ← eQ] at q1
              have w := Fld.way hf h hj (by omega) (by omega) hF ha' n1 n2 hne' S'.ld p1.1
              rw [q1.2.2]
              refine w.2 ?_
              rw [← q1.2.1]
              exact hne
            rcases LSTEP hf S' hj Am An E0 hEm hEn Wm Wn hEm1g hEn'g htp htq hp hq hown v3 v2g v1g way with ⟨Dm2, be2, S2⟩ | D
            · rw [← sm, ← st] at S2
              have hlt := Fld.lt hf h hj h2 hF ha (m := m' + 1) (by omega) (by omega) hne S2.ld
              exact ⟨m' + 1, by omega, hlt, Or.inl ⟨Dm2, be2, S2⟩⟩
            · obtain ⟨o, P, Dm2, D2, sp, e⟩ := DWn.of S' hj Jm Jn E0 htq D
              exact win m' Dm2 be' o P lp n1 n2 D2 sp (by rw [sm]; exact e)
      · exact win m Dm be o P lp m1 m2 D sp e
/-- ways of runs within are in range -/
theorem WRin {fs : List Fn} {R : Nat → Ac} {N : Nat} (hf : PW fs [] none) (h : Seg fs R N) (hL0 : aL (R 0) = 0) {y c d : Nat} {p : Tr} {l : List Tk} (ht : topK (R N) = (0, y, c, d, p) :: l) (h1 : 1 ≤ tW (aF (R N) (root (R N) y))) {k : Nat} (hk : (tK (aF (R N) (root (R N) y)) = 2 ∧ k = (rulf fs (tO (aF (R N) (root (R N) y)))).length ∧ 1 < k) ∨ (tK (aF (R N) (root (R N) y)) = 3 ∧ k = 2)) (hd : aE (decA (setK (R N) l) (tW (aF (R N) (root (R N) y))) k).2 = 0) : (decA (setK (R N) l) (tW (aF (R N) (root (R N) y))) k).1 < k := by
  obtain ⟨hE, A⟩ := h.2.1 N (Nat.le_refl _)
  obtain ⟨rk, J⟩ := h.jr (i := N) (Nat.le_refl _)
  have hy := (J.2.2.2.1 (aL (R N)) (Nat.le_refl _) [] _ l ht).1 y (List.mem_cons_self ..)
  have oL : tW (aF (R N) (root (R N) y)) ≤ aL (R N) := Nat.le_trans (J.1.own hy.1) hy.2
  obtain ⟨j, hjj⟩ : ∃ j, j = tW (aF (R N) (root (R N) y)) := ⟨_, rfl⟩
  rw [← hjj] at h1 oL hd ⊢
  have e2 := (decA_f hd (show aE (setK (R N) l) = 0 from hE)).2
  rw [e2, ((kg_setK (s := R N) (l := l)).2 j).2.2]
  by_cases hne : lG (aV (R N) j) = []
  · rw [hne]
    show 0 < k
    omega
  · have hlv : liv (R N) j := by
      by_cases w : j = aL (R N)
      · rw [w]
        exact liv_t ht (show (0 : Nat) ≠ 12 by decide)
      · exact J.lw (by omega)
    obtain ⟨b2, ha⟩ := h.att hf hL0 h1 N (Nat.le_refl _) oL hlv
    have hld := (h.ld hf h1 (Nat.le_refl _) ha N ha.2.2.1 (Nat.le_refl _)).2
    have hG : lG (aV (R b2) j) ≠ [] := fun q => by
      rw [q, List.drop_nil] at hld
      exact hne hld
    obtain ⟨f, rfl⟩ : ∃ f, b2 = f + 1 := by
      cases b2 with
      | zero =>
        have := ha.1
        omega
      | succ f => exact ⟨f, rfl⟩
    have hb2 := ha.2.2.1
    obtain ⟨rf, Jf⟩ := h.jr (i := f) (by omega)
    obtain ⟨rf', Jf'⟩ := h.jr (i := f + 1) (by omega)
    have hEf := (h.2.1 f (by omega)).1
    have hEf' := (h.2.1 (f + 1) (by omega)).1
    have ts := h.ts hf (i := f) (by omega)
    have sf := h.1 f
    have z1 := ha.1
    have z2 := ha.2.1
    rw [sf] at hEf' Jf' ts z1 z2
    rcases TS2 Jf Jf' hEf ts hEf' h1 z1.symm z2 with q | ⟨t, lf, Q, w, n0, r, c1, c2, c3, c4, c5, c6, c7, c8, c9, c10, c11, c12⟩
    · rw [← sf] at q
      exact absurd q hG
    · rw [← sf] at z1 z2 c8 c9 c10 c11 c12
      obtain ⟨b, hA⟩ := h.att hf hL0 h1 f (by omega) c4 c5
      have hF : Fld R j b f := ⟨hA, z1, z2, c9, c11, c12, w, n0, r, c7, c8⟩
      have hfn : f + 1 < N := ha.2.2.1
      obtain ⟨m, m1, m2, hm⟩ := MC hf h h1 hF N hfn (Nat.le_refl _) ha hne
      rcases hm with ⟨Dm, be, S⟩ | ⟨Dm, be, o, P, lp, D, _⟩
      · have hq : ¬ silA (R N) (0, y, c, d, p) := fun q => by
          rcases q with ⟨_, q⟩ | ⟨q, _⟩ | q | q | q
          · have q : tK (aF (R N) (root (R N) y)) < 2 := q
            omega
          · exact absurd q (show ¬ (0 : Nat) = 2 by decide)
          · exact absurd q (show ¬ (0 : Nat) = 3 by decide)
          · exact absurd q (show ¬ (0 : Nat) = 13 by decide)
          · exact absurd q (show ¬ (0 : Nat) = 14 by decide)
        obtain ⟨m', Dm', be', tp, lp, n1, n2, S', htp, hp, hown⟩ := ADV hf h h1 hfn (Nat.le_refl _) hF ha hne _ m (Nat.le_refl _) m1 m2 ⟨Dm, be, S⟩
        obtain ⟨rm, Jm⟩ := h.jr (i := m') (by omega)
        have hEm := (h.2.1 m' (by omega)).1
        have hEm1 := (h.2.1 (m' + 1) (by omega)).1
        have E0 := h.evk hf (i := m') (k := N) (by omega) (Nat.le_refl _)
        obtain ⟨g0, g1⟩ := HD0 (fs := fs) S' Jm J E0 htp ht hp hq hown
        have h00 := g1 rfl
        obtain ⟨_, g2⟩ := g0 h00
        have Da := hown h00
        obtain ⟨a1, a2, a3, b1, b2, b3, _⟩ := S'.1.1.1 _ Da
        obtain ⟨kk, yp, cp, dp, pp⟩ := tp
        have h00 : kk = 0 := h00
        subst h00
        have g2 : root (R N) y = be' (root (R m') yp) := g2
        have a1 : root (R m') yp < aC (R m') := a1
        have hk' : (tK (aF (R m') (root (R m') yp)) = 2 ∧ k = (rulf fs (tO (aF (R m') (root (R m') yp)))).length ∧ 1 < k) ∨ (tK (aF (R m') (root (R m') yp)) = 3 ∧ k = 2) := by
          have b1 : tK (aF (R N) (be' (root (R m') yp))) = tK (aF (R m') (root (R m') yp)) := b1
          have b2 : tO (aF (R N) (be' (root (R m') yp))) = tO (aF (R m') (root (R m') yp)) := b2
          rw [g2, b1, b2] at hk
          exact hk
        have hw : tW (aF (R m') (root (R m') yp)) = j := by
          rw [hjj, g2]
          exact b3.symm
        have sm := h.1 m'
        have hEm1g := hEm1
        rw [sm, goX_cons hEm htp] at hEm1g
        have p1 := DECx (fs := fs) (l := lp) (x := root (R m') yp) Jm a1 hEm hk' hEm1g
        have eP : R (m' + 1) = forceG fs false (setK (R m') lp) (root (R m') yp) := by
          rw [sm, goX_cons hEm htp]
          rfl
        rw [hw, ← eP] at p1
        exact (Fld.way hf h h1 (by omega) (Nat.le_refl _) hF ha n1 n2 hne S'.ld p1.1).1
      · -- what is united in vain is not forced
        exfalso
        obtain ⟨t, l2, q1, q2, _⟩ : ∃ t l2, topK (R N) = t :: l2 ∧ t.1 = 10 ∧ True := by
          obtain ⟨_, _, _, _, _, _, _, _, _, E, u, r2, e1, e2, e3, e4⟩ := D
          cases E with
          | nil =>
            obtain ⟨V, hV⟩ := VAL.is J.1
            exact absurd ⟨V, hV, fun t ht => (List.not_mem_nil ht).elim⟩ e4
          | cons t E => exact ⟨t, _, e1, (e2 t (List.mem_cons_self ..)).1, trivial⟩
        rw [ht] at q1
        rw [← (List.cons.inj q1).1] at q2
        exact absurd q2 (show ¬ (0 : Nat) = 10 by decide)
