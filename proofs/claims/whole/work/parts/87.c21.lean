/-! THE OTHER ONE: things made -/
theorem STd_zr {m m' : Mm} (f : Fr STd m m') : Zr m m' := f.zr (fun a j q => by unfold STd STc at q; omega)
/-- more things -/
theorem HM.td {fs : List Fn} {m m' : Mm} {s : Ac} {rh rh' : Nat → Nat} {pd : Prop} {n : Nat} {f : Nat → Th} (h : HM m s rh pd) (hE : aE s = 0) (hO : QOK fs s) (hP : PLK s) (fr : Fr STd m m') (hT : HT m' n f (aM s) rh') (hn : aC s ≤ n) (hf : ∀ x, x < aC s → f x = aF s x) (hr : ∀ x, x < aC s → rh' x = rh x) (hL : HL m' n (aS s) rh') (hsg : ∀ j, 1 ≤ j → j ≤ aL s → lX (aV s j) < aC s) : HM m' (sT s n f) rh' pd := by
  obtain ⟨f1, f2, f3, f4, f5, f6, f7, f8⟩ := h.all hE
  obtain ⟨b1, b2, b3, b4, b5, b6, b7, b8, b9, b10, b11⟩ := hO
  have e8 : ∀ a j, ¬ STd a j → mI m' a j = mI m a j := fun a j q => fr.i q
  have ef : ∀ a, a ≠ 13 → a ≠ 30 → ¬ (14 ≤ a ∧ a ≤ 21) → mI m' a = mI m a := fun a a1 a2 a3 => fr.fn (fun j => by unfold STd STc; omega)
  have hno : ∀ r : Option Nat, (∀ y, r = some y → y < aC s) → mo rh' r = mo rh r := fun r hr2 => mo_eq (fun y hy => hr y (hr2 y hy))
  refine h.gen (fs := fs) hE (show aE s = 0 from hE) (e8 12 12 (by unfold STd STc; omega)) (h.2.2.1.fe (fun a i a1 a2 _ => by rw [ef a (by omega) (by omega) (by omega)])) ⟨hT, ⟨?_, fun p hp k hk => ?_⟩, f3.fe (fun a a1 a2 => ef a (by omega) (by omega) (by omega)) (e8 12 9 (by unfold STd STc; omega)) (fun j j1 j2 => hr _ (hsg j j1 j2)), (e8 23 4 (by unfold STd STc; omega)).trans f4, f5.fe (fun t ht => (b10 t ht).1) (STd_up fr) (fun a i a1 a2 _ => by rw [ef a (by omega) (by omega) (by omega)]) (fun t ht x hx => hr x ((b10 t ht).2 x hx)) (fun t ht q sc _ w => ⟨?_, fun _ _ => by rw [fr.r]⟩), (e8 12 11 (by unfold STd STc; omega)).trans f6, (e8 12 10 (by unfold STd STc; omega)).trans f7, hL⟩
  · exact (e8 12 8 (by unfold STd STc; omega)).trans f2.1
  · rw [ef _ (by omega) (by omega) (by omega), f2.2 p hp k hk]
    exact (hno _ (fun y hy => b9 p k y hy)).symm
  · have hc : t.2.2.1 < aC s := (b10 t ht).2 _ (by
      unfold kTh
      rw [q]
      exact List.mem_cons_of_mem _ List.mem_cons_self)
    obtain ⟨k1, k2⟩ := hP.2 t ht q
    obtain ⟨x1, -⟩ := (f1.2.2.2 _ hc).2.1.2 k1 k2
    have h2 := (hT.2.2.2 t.2.2.1 (by omega)).2.1
    rw [hf _ hc, hr _ hc] at h2
    rw [(h2.2 k1 k2).1, ← x1]
    exact w
def thO (fs : List Fn) (o b k n : Nat) (u : Th) : Prop := tWf fs u ∧ tK u < 8 ∧ tO u < 100 ∧ tW u = o ∧ ∀ z, (tA u = some z ∨ tB u = some z) → z < b ∨ (k ≤ z ∧ z < k + n)
theorem thO.le {fs : List Fn} {o b k n k' n' : Nat} {u : Th} (h : thO fs o b k n u) (h1 : k' ≤ k) (h2 : k + n ≤ k' + n') : thO fs o b k' n' u := ⟨h.1, h.2.1, h.2.2.1, h.2.2.2.1, fun z hz => by
  rcases h.2.2.2.2 z hz with q | q
  · exact Or.inl q
  · exact Or.inr (by omega)⟩
theorem kdc_ok {fs : List Fn} (hf8 : fs.length ≤ 8) {c : Nat} (h1 : cok fs.length c) (h2 : 10 ≤ c) (h3 : c ≠ 33) : kdc c ≠ 6 ∧ kdc c < 8 ∧ whc c < 100 := by
  unfold cok at h1
  have : c < 34 := by omega
  have : ∀ c, c < 34 → 10 ≤ c → c ≠ 33 → kdc c ≠ 6 ∧ kdc c < 8 ∧ whc c < 100 := by decide +kernel
  exact this c (by omega) h2 h3
theorem mkA_ok {fs : List Fn} (hf8 : fs.length ≤ 8) {g : Nat → Option Nat} {o p b : Nat} {t : Tr} (hw : twf fs.length (fpf fs) t) : NmO g b t → ∀ k u, u ∈ (mkA g o p t k).2 → thO fs o b k (mkA g o p t k).2.length u := by
  have node : ∀ (c k n : Nat) (A B : Option Nat), cok fs.length c → 10 ≤ c → c ≠ 33 → (∀ z, (A = some z ∨ B = some z) → z < b ∨ (k ≤ z ∧ z < k + n)) → thO fs o b k n (kdc c, whc c, A, B, o, 0, .nil) := fun c k n A B h1 h2 h3 h4 => by
    obtain ⟨k1, k2, k3⟩ := kdc_ok hf8 h1 h2 h3
    exact ⟨⟨fun q => (k1 q).elim, fun _ q => (q rfl).elim⟩, k2, k3, rfl, h4⟩
  refine tr_ind (nf := fs.length) (fp := fpf fs) (P := fun t => NmO g b t → ∀ k u, u ∈ (mkA g o p t k).2 → thO fs o b k (mkA g o p t k).2.length u) ?_ ?_ ?_ (tsz t) t (Nat.le_refl _) hw
  · intro c hc hpr hN k u hu
    rw [mkA_lf] at hu ⊢
    by_cases q : c < 10
    · rw [if_pos q] at hu
      cases hu
    · rw [if_neg q] at hu ⊢
      rw [List.mem_singleton.mp hu]
      refine node c k _ none none hc (by omega) ?_ (fun z hz => by rcases hz with hz | hz <;> cases hz)
      rintro rfl
      have : prt (fpf fs) 33 = 1 := rfl
      omega
  · intro c a hc hpr hwa ih hN k u hu
    rw [mkA_un] at hu ⊢
    by_cases q : c = 33
    · rw [if_pos q] at hu ⊢
      rw [List.mem_singleton.mp hu]
      exact ⟨⟨fun _ => hwa, fun q => by cases q⟩, show 6 < 8 by decide, show 0 < 100 by decide, rfl, fun z hz => by rcases hz with hz | hz <;> cases hz⟩
    · rw [if_neg q] at hu ⊢
      have c10 : 10 ≤ c := by
        unfold prt at hpr
        by_cases q : c < 10
        · rw [if_pos q] at hpr
          omega
        · omega
      rcases List.mem_cons.mp hu with e | e
      · rw [e]
        refine node c k _ _ _ hc c10 q (fun z hz => ?_)
        obtain ⟨A, hA, hA2⟩ := mkA_some (g := g) (o := o) (p := p) hwa hN.un (k + 1)
        rcases hz with hz | hz
        · rw [hA] at hz
          cases hz
          rw [List.length_cons]
          rcases hA2 with q | ⟨q, q2⟩
          · exact Or.inl q
          · exact Or.inr (by omega)
        · cases hz
      · refine (ih hN.un (k + 1) u e).le (by omega) ?_
        rw [List.length_cons]
        omega
  · intro c a a2 hc hpr hwa hwb iha ihb hN k u hu
    rw [mkA_bi] at hu ⊢
    have c10 : 10 ≤ c := by
      unfold prt at hpr
      by_cases q : c < 10
      · rw [if_pos q] at hpr
        omega
      · omega
    have c33 : c ≠ 33 := by
      rintro rfl
      have : prt (fpf fs) 33 = 1 := rfl
      omega
    rcases List.mem_cons.mp hu with e | e
    · rw [e]
      refine node c k _ _ _ hc c10 c33 (fun z hz => ?_)
      obtain ⟨A, hA, hA2⟩ := mkA_some (g := g) (o := o) (p := p) hwa hN.l (k + 1)
      obtain ⟨B, hB, hB2⟩ := mkA_some (g := g) (o := o) (p := p) hwb hN.r (k + 1 + (mkA g o p a (k + 1)).2.length)
      rw [List.length_cons, List.length_append]
      rcases hz with hz | hz
      · rw [hA] at hz
        cases hz
        rcases hA2 with q | ⟨q, q2⟩
        · exact Or.inl q
        · exact Or.inr (by omega)
      · rw [hB] at hz
        cases hz
        rcases hB2 with q | ⟨q, q2⟩
        · exact Or.inl q
        · exact Or.inr (by omega)
    · rcases List.mem_append.mp e with e | e
      · refine (iha hN.l (k + 1) u e).le (by omega) ?_
        simp only [List.length_cons, List.length_append]
        omega
      · refine (ihb hN.r _ u e).le (by omega) ?_
        simp only [List.length_cons, List.length_append]
        omega
theorem QOK.addl {fs : List Fn} {s : Ac} {l : List Th} {o : Nat} (hO : QOK fs s) (hc : aC s + l.length ≤ 3450) (ho : o ≤ 101) (hl : ∀ u, u ∈ l → thO fs o (aC s) (aC s) l.length u) : QOK fs (addT s l) := by
  obtain ⟨b1, b2, b3, b4, b5, b6, b7, b8, b9, b10, b11⟩ := hO
  refine ⟨hc, b2, b3, b4, b5, b6, fun x hx => ?_, fun x hx => b8 x (by have : aC s + l.length ≤ x := hx; omega), fun p k y hy => by have := b9 p k y hy; show y < aC s + l.length; omega, fun z hz => ⟨(b10 z hz).1, fun x hx => by have := (b10 z hz).2 x hx; show x < aC s + l.length; omega⟩, fun j hj => ?_⟩
  · have hx : x < aC s + l.length := hx
    show tWf fs (app (aF s) (aC s) l x) ∧ tK (app (aF s) (aC s) l x) < 8 ∧ tO (app (aF s) (aC s) l x) < 100 ∧ tW (app (aF s) (aC s) l x) ≤ 101 ∧ aM s x ≤ 1000 ∧ (∀ y, tA (app (aF s) (aC s) l x) = some y → y < aC s + l.length) ∧ ∀ y, tB (app (aF s) (aC s) l x) = some y → y < aC s + l.length
    by_cases e : x < aC s
    · rw [app_lt e]
      obtain ⟨p1, p2, p3, p4, p5, p6, p7⟩ := b7 x e
      exact ⟨p1, p2, p3, p4, p5, fun y hy => by have := p6 y hy; omega, fun y hy => by have := p7 y hy; omega⟩
    · have hi : l[x - aC s]? = some (l[x - aC s]'(by omega)) := List.getElem?_eq_getElem _
      have ha : app (aF s) (aC s) l x = l[x - aC s]'(by omega) := by
        have := app_at (f := aF s) (n := aC s) hi
        rw [show aC s + (x - aC s) = x by omega] at this
        exact this
      rw [ha, b8 x (by omega)]
      obtain ⟨q1, q2, q3, q4, q5⟩ := hl _ (List.mem_iff_getElem?.mpr ⟨_, hi⟩)
      exact ⟨q1, q2, q3, by rw [q4]; exact ho, Nat.zero_le _, fun y hy => by have := q5 y (Or.inl hy); omega, fun y hy => by have := q5 y (Or.inr hy); omega⟩
  · obtain ⟨c1, c2, c3⟩ := b11 j hj
    exact ⟨c1, show lX (aV s j) < aC s + l.length + 1 by omega, c3⟩
/-- the top of a tree: where it begins, how deep it lies -/
theorem EA.top {nf : Nat} {fp : Nat → Nat} {m : Mm} {e r : Nat} {t : Tr} (hw : twf nf fp t) (h : EA m e r t) : ∃ n lo ly, 714 ≤ e ∧ e + 8 ≤ mN m ∧ isExp m e n ∧ n ≤ 12 ∧ lo + tsz t = r + 1 ∧ r < n ∧ Pc m e t lo ly ∧ mI m e 0 = nn n ∧ ly + tsz t ≤ n ∧ mI m (e + 5) r = nn lo ∧ mI m (e + 6) r = nn ly := by
  obtain ⟨n, lo, ly, h1, h2, h3, h4, h5, h6, h7, h8, h9⟩ := h
  have hp := tsz_pos hw
  refine ⟨n, lo, ly, h1, h2, h3, h4, by omega, by omega, h6, h8, h9, ?_⟩
  rcases tr_cases hw with ⟨c, rfl, r1, r2⟩ | ⟨c, a, rfl, r1, r2, r3⟩ | ⟨c, a, b, rfl, r1, r2, r3, r4⟩
  · rw [tsz_lf] at h7
    rw [Pc_lf] at h6
    obtain rfl : r = lo := by omega
    exact ⟨h6.2.2.2.2.1, h6.2.2.2.2.2⟩
  · rw [tsz_un] at h7
    rw [Pc_un] at h6
    obtain rfl : r = lo + tsz a := by omega
    exact ⟨h6.1.2.2.2.2.1, h6.1.2.2.2.2.2⟩
  · rw [tsz_bi] at h7
    rw [Pc_bi] at h6
    obtain rfl : r = lo + tsz a + tsz b := by omega
    exact ⟨h6.1.2.2.2.2.1, h6.1.2.2.2.2.2⟩
theorem s3_makeThings {fs : List Fn} {m : Mm} {s : Ac} {rh : Nat → Nat} {e r p o : Nat} {t : Tr} (hf8 : fs.length ≤ 8) (hm : St m) (h : HM m s rh False) (hE : aE s = 0) (hO : QOK fs s) (hP : PLK s) (hw : twf fs.length (fpf fs) t) (hea : EA m e r t) (hp : p < aP s) (hp2 : p < 102) (hep : mR m (31 + 2 * p) 3 = some e) (hN : NmO (aN s p) (aC s) t) (hC : aC s ≤ 3430) (ho : o ≤ 101) (hsg : ∀ j, 1 ≤ j → j ≤ aL s → lX (aV s j) < aC s) : C m3_makeThings [.ref 12, .ref e, .int (nn r), .int (nn p), .int (nn o)] m (fun z m' => ∃ rh' y, z = .inl (some (.int (nn (rh' y)))) ∧ (mkA (aN s p) o p t (aC s)).1 = some y ∧ y < aC (addT s (mkA (aN s p) o p t (aC s)).2) ∧ (∀ y, y < aC s → rh' y = rh y) ∧ Fr STd m m' ∧ HM m' (addT s (mkA (aN s p) o p t (aC s)).2) rh' False ∧ QOK fs (addT s (mkA (aN s p) o p t (aC s)).2)) := by
  obtain ⟨n, lo, ly, e1, e2, e3, e4, e5, e6, e7, e8, e9, e10, e11⟩ := hea.top hw
  refine C.of (by decide +kernel) (Nat.le_of_ble_eq_true rfl) rfl (w3_makeThings hm e3 ?_)
  rw [nn_tn (a := r) (by omega), e10, e11]
  have hv := nn_in (a := r) (n := n) (by omega) e6
  refine ⟨hv, hv, ?_⟩
  obtain ⟨f1, f2, f3, f4, f5, f6, f7, f8⟩ := h.all hE
  have hO' := hO
  obtain ⟨b1, b2, b3, b4, b5, b6, b7, b8, b9, b10, b11⟩ := hO'
  have hlen := mkA_len (g := aN s p) (o := o) (p := p) hw (aC s)
  have hpos := tsz_pos hw
  have hok := mkA_ok hf8 (o := o) (p := p) (t := t) hw hN (aC s)
  have hO2 : QOK fs (addT s (mkA (aN s p) o p t (aC s)).2) := hO.addl (by omega) ho hok
  obtain ⟨y, hy, hy2⟩ := mkA_some (g := aN s p) (o := o) (p := p) hw hN (aC s)
  have hwf : ∀ y, tWf fs (app (aF s) (aC s) (mkA (aN s p) o p t (aC s)).2 y) := fun y => by
    by_cases q : y < aC s + (mkA (aN s p) o p t (aC s)).2.length
    · exact (hO2.2.2.2.2.2.2.1 y q).1
    · have : app (aF s) (aC s) (mkA (aN s p) o p t (aC s)).2 y = tNil := by
        unfold app
        rw [if_neg (by omega), List.getD_eq_getElem?_getD, List.getElem?_eq_none (by omega)]
        rfl
      rw [this]
      exact ⟨fun q => (by cases q), fun q => (by cases q)⟩
  obtain ⟨k, k1, k2, k3⟩ := f8
  have key := mz_run (fs := fs) (m0 := m) (e := e) (ne := n) (root := r) (p := p) (o := o) (n := aC s) (kk := k) (ly := ly) (F := app (aF s) (aC s) (mkA (aN s p) o p t (aC s)).2) (mk := aM s) (rh0 := rh) (g := aN s p) (K := fun z m' => ∃ rh' y, z = .inl (some (.int (nn (rh' y)))) ∧ (mkA (aN s p) o p t (aC s)).1 = some y ∧ y < aC (addT s (mkA (aN s p) o p t (aC s)).2) ∧ (∀ y, y < aC s → rh' y = rh y) ∧ Fr STd m m' ∧ HM m' (addT s (mkA (aN s p) o p t (aC s)).2) rh' False ∧ QOK fs (addT s (mkA (aN s p) o p t (aC s)).2)) (t := t) e1 hf8 e3 e2 e8 e4 e6 hp2 hep hwf b8 (fun c y hc6 hc => by
    rw [f2.2 p hp c hc6, hc]
    rfl) hw
  refine key lo (aC s) m (fun x => x < aC s) (aC s) rh hm ⟨f1.ge (fun x hx => app_lt hx), Fr.refl, fun x hx => ?_, fun y hy z hz => ?_⟩ (fun x hx => ⟨hx, rfl⟩) (Nat.le_refl _) e7 e9 (by omega) (by omega) hN (fun i u hi => app_at hi) (fun i hi => by omega) (fun m' rh' s' M' r' v' w' => ?_)
  · obtain ⟨j, j1, j2⟩ := k3 x hx
    exact ⟨j, j1, j2⟩
  · rw [app_lt hy] at hz
    rcases hz with hz | hz
    · exact (b7 y hy).2.2.2.2.2.1 z hz
    · exact (b7 y hy).2.2.2.2.2.2 z hz
  · rw [e5]
    have x1 := e3.up e1 (STd_up M'.2.1)
    refine w3_makeThings_16 s' x1 ?_
    have l1 : nn r < nn (r + 1) ↔ r < r + 1 := nn_lt (by omega) (by omega)
    rw [l1, nn_tn (a := r) (by omega)]
    refine ⟨fun _ => ⟨nn_in (by omega) (by omega), ?_⟩, fun q => by omega⟩
    have hr1 : mI m' 30 r = mo rh' (some y) := by
      rw [← hy, ← v']
      congr 1
      omega
    rw [hr1]
    have hT : HT m' (aC s + (mkA (aN s p) o p t (aC s)).2.length) (app (aF s) (aC s) (mkA (aN s p) o p t (aC s)).2) (aM s) rh' := M'.1.iff (fun x => by omega)
    refine ⟨rh', y, rfl, hy, ?_, r', M'.2.1, ?_, hO2⟩
    · show y < aC s + (mkA (aN s p) o p t (aC s)).2.length
      rcases hy2 with q | ⟨q, q2⟩ <;> omega
    · refine h.td (fs := fs) hE hO hP M'.2.1 hT (Nat.le_add_right _ _) (fun x hx => app_lt hx) r' ⟨k, k1, ?_, fun x hx => ?_⟩ hsg
      · exact (M'.2.1.i (by unfold STd STc; omega)).trans k2
      · obtain ⟨j, j1, j2⟩ := M'.2.2.1 x (by omega)
        exact ⟨j, j1, j2⟩
