/-! THE OTHER ONE: names -/
theorem opG_spec {o : Nat} : ∀ (ks : List Nat) (n : Nat) (g : Nat → Option Nat), ks.Nodup → (opG o ks n g).2 = List.replicate (ks.filter (fun k => (g k).isNone)).length (tOpen o) ∧ (∀ i k, (ks.filter (fun k => (g k).isNone))[i]? = some k → (opG o ks n g).1 k = some (n + i)) ∧ ∀ k, k ∉ ks.filter (fun k => (g k).isNone) → (opG o ks n g).1 k = g k
  | [], n, g, _ => ⟨rfl, fun i k h => (by cases h), fun k _ => rfl⟩
  | k :: ks, n, g, hnd => by
    obtain ⟨n1, n2⟩ := List.nodup_cons.mp hnd
    unfold opG
    by_cases w : g k = none
    · rw [if_pos w]
      obtain ⟨i1, i2, i3⟩ := opG_spec (o := o) ks (n + 1) (up1 g k (some n)) n2
      have hfl : ks.filter (fun z => (up1 g k (some n) z).isNone) = ks.filter (fun z => (g z).isNone) := List.filter_congr (fun z hz => by rw [up1_ne (fun q => n1 (by rw [← q]; exact hz))])
      have hcs : (k :: ks).filter (fun z => (g z).isNone) = k :: ks.filter (fun z => (g z).isNone) := List.filter_cons_of_pos (by rw [w]; rfl)
      rw [hfl] at i1 i2 i3
      rw [hcs]
      have hkn : k ∉ ks.filter (fun z => (g z).isNone) := fun q => n1 (List.mem_filter.mp q).1
      refine ⟨by rw [List.length_cons, i1]; rfl, fun i c hi => ?_, fun c hc => ?_⟩
      · cases i with
        | zero =>
          cases hi
          show (opG o ks (n + 1) (up1 g k (some n))).1 k = some (n + 0)
          rw [i3 k hkn, up1_at]
          rfl
        | succ i =>
          rw [List.getElem?_cons_succ] at hi
          show (opG o ks (n + 1) (up1 g k (some n))).1 c = some (n + (i + 1))
          rw [i2 i c hi]
          congr 1
          omega
      · have h1 : c ≠ k := fun q => hc (by rw [q]; exact List.mem_cons_self)
        have h2 : c ∉ ks.filter (fun z => (g z).isNone) := fun q => hc (List.mem_cons_of_mem _ q)
        show (opG o ks (n + 1) (up1 g k (some n))).1 c = g c
        rw [i3 c h2, up1_ne h1]
    · rw [if_neg w]
      have hcs : (k :: ks).filter (fun z => (g z).isNone) = ks.filter (fun z => (g z).isNone) := List.filter_cons_of_neg (by
        cases q : g k with
        | none => exact (w q).elim
        | some y => simp)
      rw [hcs]
      exact opG_spec ks n g n2
/-- nodes of a tree by their places -/
theorem pc_pos {nf : Nat} {fp : Nat → Nat} {m : Mm} {e : Nat} {t : Tr} (hw : twf nf fp t) : ∀ lo ly, Pc m e t lo ly → (∀ j, lo ≤ j → j < lo + tsz t → ∃ c, c ∈ tenc t ∧ mI m (e + 1) j = nn (ctg c) ∧ mI m (e + 2) j = nn (cwh c)) ∧ ∀ c, c ∈ tenc t → ∃ j, lo ≤ j ∧ j < lo + tsz t ∧ mI m (e + 1) j = nn (ctg c) ∧ mI m (e + 2) j = nn (cwh c) := by
  refine tr_ind (nf := nf) (fp := fp) (P := fun t => ∀ lo ly, Pc m e t lo ly → (∀ j, lo ≤ j → j < lo + tsz t → ∃ c, c ∈ tenc t ∧ mI m (e + 1) j = nn (ctg c) ∧ mI m (e + 2) j = nn (cwh c)) ∧ ∀ c, c ∈ tenc t → ∃ j, lo ≤ j ∧ j < lo + tsz t ∧ mI m (e + 1) j = nn (ctg c) ∧ mI m (e + 2) j = nn (cwh c)) ?_ ?_ ?_ (tsz t) t (Nat.le_refl _) hw
  · intro c _ _ lo ly h
    rw [Pc_lf] at h
    rw [tsz_lf, tenc_lf]
    refine ⟨fun j j1 j2 => ?_, fun d hd => ?_⟩
    · obtain rfl : j = lo := by omega
      exact ⟨c, List.mem_singleton.mpr rfl, h.1, h.2.1⟩
    · rw [List.mem_singleton.mp hd]
      exact ⟨lo, Nat.le_refl _, by omega, h.1, h.2.1⟩
  · intro c a _ _ _ ih lo ly h
    rw [Pc_un] at h
    rw [tsz_un, tenc_un]
    obtain ⟨i1, i2⟩ := ih _ _ h.2
    refine ⟨fun j j1 j2 => ?_, fun d hd => ?_⟩
    · by_cases q : j < lo + tsz a
      · obtain ⟨d, d1, d2⟩ := i1 j j1 q
        exact ⟨d, List.mem_cons_of_mem _ d1, d2⟩
      · obtain rfl : j = lo + tsz a := by omega
        exact ⟨c, List.mem_cons_self, h.1.1, h.1.2.1⟩
    · rcases List.mem_cons.mp hd with q | q
      · rw [q]
        exact ⟨lo + tsz a, by omega, by omega, h.1.1, h.1.2.1⟩
      · obtain ⟨j, j1, j2, j3⟩ := i2 d q
        exact ⟨j, j1, by omega, j3⟩
  · intro c a b _ _ _ _ iha ihb lo ly h
    rw [Pc_bi] at h
    rw [tsz_bi, tenc_bi]
    obtain ⟨i1, i2⟩ := iha _ _ h.2.1
    obtain ⟨k1, k2⟩ := ihb _ _ h.2.2
    refine ⟨fun j j1 j2 => ?_, fun d hd => ?_⟩
    · by_cases q : j < lo + tsz a
      · obtain ⟨d, d1, d2⟩ := i1 j j1 q
        exact ⟨d, List.mem_cons_of_mem _ (List.mem_append_left _ d1), d2⟩
      · by_cases q2 : j < lo + tsz a + tsz b
        · obtain ⟨d, d1, d2⟩ := k1 j (by omega) q2
          exact ⟨d, List.mem_cons_of_mem _ (List.mem_append_right _ d1), d2⟩
        · obtain rfl : j = lo + tsz a + tsz b := by omega
          exact ⟨c, List.mem_cons_self, h.1.1, h.1.2.1⟩
    · rcases List.mem_cons.mp hd with q | q
      · rw [q]
        exact ⟨lo + tsz a + tsz b, by omega, by omega, h.1.1, h.1.2.1⟩
      · rcases List.mem_append.mp q with q | q
        · obtain ⟨j, j1, j2, j3⟩ := i2 d q
          exact ⟨j, j1, by omega, j3⟩
        · obtain ⟨j, j1, j2, j3⟩ := k2 d q
          exact ⟨j, by omega, by omega, j3⟩
/-- other names at a place, and more things -/
theorem HM.te {fs : List Fn} {m m' : Mm} {s : Ac} {rh rh' : Nat → Nat} {pd : Prop} {n p : Nat} {f : Nat → Th} {g : Nat → Option Nat} (h : HM m s rh pd) (hE : aE s = 0) (hO : QOK fs s) (hP : PLK s) (hp2 : p < 102) (fr : Fr (fun a j => STc a j ∨ a = 32 + 2 * p) m m') (hT : HT m' n f (aM s) rh') (hn : aC s ≤ n) (hf : ∀ x, x < aC s → f x = aF s x) (hr : ∀ x, x < aC s → rh' x = rh x) (hL : HL m' n (aS s) rh') (hsg : ∀ j, 1 ≤ j → j ≤ aL s → lX (aV s j) < aC s) (hNm : ∀ k, k < 6 → mI m' (32 + 2 * p) k = mo rh' (g k)) : Zr m m' ∧ HM m' (sN (sT s n f) (aP s) (up1 (aN s) p g)) rh' pd := by
  obtain ⟨f1, f2, f3, f4, f5, f6, f7, f8⟩ := h.all hE
  obtain ⟨b1, b2, b3, b4, b5, b6, b7, b8, b9, b10, b11⟩ := hO
  have zr : Zr m m' := fr.zr (fun a j q => by unfold STc at q; omega)
  have e8 : ∀ a j, ¬ STc a j → a ≠ 32 + 2 * p → mI m' a j = mI m a j := fun a j q q2 => fr.i (by rintro (w | w); exact q w; exact q2 w)
  have ef : ∀ a, a ≠ 13 → a ≠ 32 + 2 * p → ¬ (14 ≤ a ∧ a ≤ 21) → mI m' a = mI m a := fun a a1 a2 a3 => fr.fn (fun j => by unfold STc; omega)
  have hno : ∀ r : Option Nat, (∀ y, r = some y → y < aC s) → mo rh' r = mo rh r := fun r hr2 => mo_eq (fun y hy => hr y (hr2 y hy))
  refine ⟨zr, h.gen (fs := fs) hE (show aE s = 0 from hE) (e8 12 12 (by unfold STc; omega) (by omega)) (h.2.2.1.fe (fun a i a1 a2 _ => by rw [ef a (by omega) (by omega) (by omega)])) ⟨hT, ⟨?_, fun q hq k hk => ?_⟩, f3.fe (fun a a1 a2 => ef a (by omega) (by omega) (by omega)) (e8 12 9 (by unfold STc; omega) (by omega)) (fun j j1 j2 => hr _ (hsg j j1 j2)), (e8 23 4 (by unfold STc; omega) (by omega)).trans f4, f5.fe (fun t ht => (b10 t ht).1) zr.up (fun a i a1 a2 _ => by rw [ef a (by omega) (by omega) (by omega)]) (fun t ht x hx => hr x ((b10 t ht).2 x hx)) (fun t ht q sc _ w => ⟨?_, fun _ _ => by rw [fr.r]⟩), (e8 12 11 (by unfold STc; omega) (by omega)).trans f6, (e8 12 10 (by unfold STc; omega) (by omega)).trans f7, hL⟩⟩
  · exact (e8 12 8 (by unfold STc; omega) (by omega)).trans f2.1
  · show _ = mo rh' (up1 (aN s) p g q k)
    by_cases e : q = p
    · rw [e, up1_at]
      exact hNm k hk
    · have hq : q < aP s := hq
      rw [up1_ne e, ef _ (by omega) (by omega) (by omega), f2.2 q hq k hk]
      exact (hno _ (fun y hy => b9 q k y hy)).symm
  · have hc : t.2.2.1 < aC s := (b10 t ht).2 _ (by
      unfold kTh
      rw [q]
      exact List.mem_cons_of_mem _ List.mem_cons_self)
    obtain ⟨k1, k2⟩ := hP.2 t ht q
    obtain ⟨x1, -⟩ := (f1.2.2.2 _ hc).2.1.2 k1 k2
    have h2 := (hT.2.2.2 t.2.2.1 (by omega)).2.1
    rw [hf _ hc, hr _ hc] at h2
    rw [(h2.2 k1 k2).1, ← x1]
    exact w
