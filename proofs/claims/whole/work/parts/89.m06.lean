/-! BOTH MACHINES ALIKE: runs -/
theorem nz_inv0 {s : Ac} {t : Tk} {r : Nat} (h : nz s t = [(0, r, 0, 0, .nil)]) : t.1 = 0 ∧ root s t.2.1 = r := by
  obtain ⟨k, y, a, b, p⟩ := t
  match k, h with
  | 0, h =>
    by_cases w : tK (aF s (root s y)) < 2
    · rw [nz0.1 w] at h
      cases h
    · rw [nz0.2 (Nat.not_lt.mp w)] at h
      cases h
      exact ⟨rfl, rfl⟩
  | 1, h =>
    by_cases w : Cl s y
    · rw [(nz12 (Or.inl rfl)).1 w] at h
      cases h
    · rw [(nz12 (Or.inl rfl)).2 w] at h
      cases h
  | 2, h =>
    by_cases w : Cl s y
    · rw [(nz12 (Or.inr rfl)).1 w] at h
      cases h
    · rw [(nz12 (Or.inr rfl)).2 w] at h
      cases h
  | 3, h => cases h
  | 4, h => cases h
  | 5, h => cases h
  | 6, h => cases h
  | 7, h => cases h
  | 8, h => cases h
  | 9, h => cases h
  | 10, h => cases h
  | 11, h => cases h
  | 12, h => cases h
  | 13, h => cases h
  | 14, h => cases h
  | n + 15, h => cases h
theorem nz_act {fs : List Fn} {s : Ac} {t : Tk} {l1 l2 : List Tk} {j : Nat} (h : ¬ silA s t) (hk : KO fs s j l1 t l2) : ∃ e, nz s t = [e] := by
  obtain ⟨k, y, a, b, p⟩ := t
  match k, h, hk.2 with
  | 0, h, _ =>
    by_cases w : tK (aF s (root s y)) < 2
    · exact absurd (Or.inl ⟨Or.inl rfl, w⟩) h
    · exact ⟨_, nz0.2 (Nat.not_lt.mp w)⟩
  | 1, h, _ =>
    by_cases w : tK (aF s (root s y)) < 2
    · exact absurd (Or.inl ⟨Or.inr (Or.inl rfl), w⟩) h
    · exact ⟨_, (nz12 (Or.inl rfl)).2 (fun q => w (Cl_iff.mp q).1)⟩
  | 2, h, _ =>
    by_cases w : Cl s y
    · exact absurd (Or.inr (Or.inl ⟨rfl, w⟩)) h
    · exact ⟨_, (nz12 (Or.inr rfl)).2 w⟩
  | 3, h, _ => exact absurd (Or.inr (Or.inr (Or.inl rfl))) h
  | 4, _, _ => exact ⟨_, rfl⟩
  | 5, _, _ => exact ⟨_, rfl⟩
  | 6, _, _ => exact ⟨_, rfl⟩
  | 7, _, _ => exact ⟨_, rfl⟩
  | 8, _, _ => exact ⟨_, rfl⟩
  | 9, _, _ => exact ⟨_, rfl⟩
  | 10, _, _ => exact ⟨_, rfl⟩
  | 11, _, _ => exact ⟨_, rfl⟩
  | 12, _, _ => exact ⟨_, rfl⟩
  | 13, h, _ => exact absurd (Or.inr (Or.inr (Or.inr (Or.inl rfl)))) h
  | 14, h, _ => exact absurd (Or.inr (Or.inr (Or.inr (Or.inr rfl)))) h
  | n + 15, _, q => exact q.elim
/-- the reference goes on until a task has an effect, or none is left -/
theorem RRx.until {fs : List Fn} {g : Tr} {w : List Nat} {q : Ac} {N : Nat} (hAA : ∀ m, aE (itX (doA fs) m (startA g w)) = 0 → AA fs (itX (doA fs) m (startA g w))) (hN : aE (itX (doA fs) N (startA g w)) ≠ 0) (hEq : aE q = 0) : ∀ (k m : Nat), N - m ≤ k → RRx q (itX (doA fs) m (startA g w)) → ∃ m', RRx q (itX (doA fs) m' (startA g w)) ∧ (topK (itX (doA fs) m' (startA g w)) = [] ∨ ∃ t l, topK (itX (doA fs) m' (startA g w)) = t :: l ∧ ¬ silA (itX (doA fs) m' (startA g w)) t) := by
  intro k
  induction k with
  | zero =>
    intro m hm hR
    exfalso
    obtain ⟨K, M, e, _⟩ := hR
    have hE : aE (itX (doA fs) m (startA g w)) = 0 := by
      rw [e] at hEq
      exact hEq
    obtain ⟨d, hd⟩ := Nat.le.dest (show N ≤ m by omega)
    rw [← hd, itX_add, itX_end hN] at hE
    exact hN hE
  | succ k ih =>
    intro m hm hR
    have hE : aE (itX (doA fs) m (startA g w)) = 0 := by
      obtain ⟨K, M, e, _⟩ := hR
      rw [e] at hEq
      exact hEq
    have hA := hAA m hE
    cases ht : topK (itX (doA fs) m (startA g w)) with
    | nil => exact ⟨m, hR, Or.inl ht⟩
    | cons t l =>
      by_cases hs : silA (itX (doA fs) m (startA g w)) t
      · obtain ⟨⟨⟨rk, J⟩, _⟩, _⟩ := hA
        have hR' := hR.nA (fs := fs) hE ht hs (J.2.2.2.1 _ (Nat.le_refl _) [] t l ht)
        rw [← itX_s] at hR'
        by_cases wm : m < N
        · exact ih (m + 1) (by omega) hR'
        · exfalso
          obtain ⟨d, hd⟩ := Nat.le.dest (show N ≤ m by omega)
          rw [← hd, itX_add, itX_end hN] at hE
          exact hN hE
      · exact ⟨m, hR, Or.inr ⟨t, l, ht, hs⟩⟩
theorem WRx.of {fs : List Fn} {p : Ac} {K1 : Nat → List Tk} {M : Nat → Nat} {x : Nat} (h : WRc fs p x ∧ WRe p x) : WRc fs (wk p K1 M) x ∧ WRe (wk p K1 M) x := by
  unfold WRc WRe at h ⊢
  rw [show aF (wk p K1 M) = aF p from rfl, decA_wk, decA_wk]
  exact h
/-- a run of the other one is at each turn like the reference's at some turn -/
theorem sim_all {fs : List Fn} {g : Tr} {w : List Nat} {N : Nat} (hf : PW fs [] none) (hg : tok fs g) (h40 : w.length ≤ 40) (h100 : ∀ x, x ∈ w → x < 100) (hW : WRA fs g w) (hN : aE (itX (doA fs) N (startA g w)) ≠ 0) : ∀ n, (∀ i, i < n → aE (itX (doQ fs) i (startA g w)) = 0 → WR2 fs (itX (doQ fs) i (startA g w))) ∧ ∃ m, RRx (itX (doQ fs) n (startA g w)) (itX (doA fs) m (startA g w)) := by
  have hAA : ∀ m, aE (itX (doA fs) m (startA g w)) = 0 → AA fs (itX (doA fs) m (startA g w)) := fun m => (AA.all hf hg h40 h100 m (fun i _ => hW i)).2.2
  intro n
  induction n with
  | zero => exact ⟨fun i hi => by omega, 0, fun j => lK (aV (startA g w) j), aM (startA g w), rfl, fun _ j _ => rfl⟩
  | succ n ih =>
    obtain ⟨i1, m, hR⟩ := ih
    obtain ⟨q, hq⟩ : ∃ q, q = itX (doQ fs) n (startA g w) := ⟨_, rfl⟩
    rw [itX_s, ← hq]
    rw [← hq] at hR
    have fin : (aE q = 0 → WR2 fs q) → (∃ m, RRx (goX (doQ fs) q) (itX (doA fs) m (startA g w))) → (∀ i, i < n + 1 → aE (itX (doQ fs) i (startA g w)) = 0 → WR2 fs (itX (doQ fs) i (startA g w))) ∧ ∃ m, RRx (goX (doQ fs) q) (itX (doA fs) m (startA g w)) := fun h1 h2 => ⟨fun i hi => by
      by_cases c : i < n
      · exact i1 i c
      · have ei : i = n := by omega
        rw [ei, ← hq]
        exact h1, h2⟩
    by_cases hE : aE q = 0
    · have hQ : QQ fs q := by
        rw [hq] at hE ⊢
        exact (QQ.all hf hg h40 h100 n (fun i hi => i1 i hi)).2.2 hE
      cases ht : topK q with
      | nil =>
        obtain ⟨m', hR', hm⟩ := RRx.until hAA hN hE _ m (Nat.le_refl _) hR
        obtain ⟨K, M, e, A⟩ := hR'
        have hEa : aE (itX (doA fs) m' (startA g w)) = 0 := by
          rw [e] at hE
          exact hE
        have A := A hEa (aL (itX (doA fs) m' (startA g w))) (Nat.le_refl _)
        have hK : K (aL (itX (doA fs) m' (startA g w))) = [] := by
          rw [e] at ht
          exact ht
        rw [hK] at A
        refine fin (fun _ t l h => by rw [ht] at h; cases h) ⟨m' + 1, ?_⟩
        rcases hm with hm | ⟨t, l, hm, hs⟩
        · have e1 : goX (doQ fs) q = sE q 1 := by
            unfold goX
            rw [if_pos hE, ht]
          have e2 : goX (doA fs) (itX (doA fs) m' (startA g w)) = sE (itX (doA fs) m' (startA g w)) 1 := by
            unfold goX
            rw [if_pos hEa, hm]
          rw [itX_s, e1, e2]
          refine ⟨K, M, ?_, fun h => absurd h (show ¬ (1 : Nat) = 0 by decide)⟩
          have : sE q 1 = sE (wk (itX (doA fs) m' (startA g w)) K M) 1 := by rw [← e]
          exact this
        · exfalso
          obtain ⟨⟨⟨rk, J⟩, _⟩, _⟩ := hAA m' hEa
          obtain ⟨e', he'⟩ := nz_act hs (J.2.2.2.1 _ (Nat.le_refl _) [] t l hm)
          have A : er (itX (doA fs) m' (startA g w)) [] = er (itX (doA fs) m' (startA g w)) (topK (itX (doA fs) m' (startA g w))) := A
          rw [hm] at A
          have A : [] = nz (itX (doA fs) m' (startA g w)) t ++ er (itX (doA fs) m' (startA g w)) l := A
          rw [he'] at A
          cases A
      | cons tq lq =>
        have eFq : aF q = aF (itX (doA fs) m (startA g w)) ∧ (∀ z, root q z = root (itX (doA fs) m (startA g w)) z) ∧ aE (itX (doA fs) m (startA g w)) = 0 := by
          obtain ⟨K, M, e, _⟩ := hR
          refine ⟨by rw [e]; rfl, fun z => by rw [e]; rfl, ?_⟩
          rw [e] at hE
          exact hE
        by_cases hs : silQ (itX (doA fs) m (startA g w)) tq
        · refine fin (fun _ t l h h0 => ?_) ⟨m, hR.nQ eFq.2.2 ht hs⟩
          rw [ht] at h
          cases h
          have hfo : tK (aF q (root q tq.2.1)) < 2 := by
            rw [eFq.1, eFq.2.1]
            rcases hs with ⟨_, q⟩ | ⟨q, _⟩ | q
            · exact q
            · omega
            · omega
          exact ⟨fun k2 => absurd hfo (by
            have k2 : tK (aF q (root q tq.2.1)) = 2 := k2
            omega), fun k3 => absurd hfo (by
            have k3 : tK (aF q (root q tq.2.1)) = 3 := k3
            omega)⟩
        · obtain ⟨m', hR', hm⟩ := RRx.until hAA hN hE _ m (Nat.le_refl _) hR
          have hR2 := hR'
          obtain ⟨K, M, e, A⟩ := hR'
          have hEa : aE (itX (doA fs) m' (startA g w)) = 0 := by
            rw [e] at hE
            exact hE
          have A := A hEa (aL (itX (doA fs) m' (startA g w))) (Nat.le_refl _)
          have hK : K (aL (itX (doA fs) m' (startA g w))) = tq :: lq := by
            rw [e] at ht
            exact ht
          rw [hK] at A
          have A : nz (itX (doA fs) m' (startA g w)) tq ++ er (itX (doA fs) m' (startA g w)) lq = er (itX (doA fs) m' (startA g w)) (topK (itX (doA fs) m' (startA g w))) := A
          have same : nz (itX (doA fs) m' (startA g w)) = nz (itX (doA fs) m (startA g w)) := by
            obtain ⟨K0, M0, e0, _⟩ := hR
            refine nz_eq ?_ ?_
            · have h1 : aC q = aC (itX (doA fs) m' (startA g w)) := by rw [e]; rfl
              have h2 : aC q = aC (itX (doA fs) m (startA g w)) := by rw [e0]; rfl
              rw [← h1, h2]
            · have h1 : aF q = aF (itX (doA fs) m' (startA g w)) := by rw [e]; rfl
              have h2 : aF q = aF (itX (doA fs) m (startA g w)) := by rw [e0]; rfl
              rw [← h1, h2]
          obtain ⟨⟨⟨rq, Jq⟩, MQ, KQ'⟩, _⟩ := id hQ
          have hKq := KQ' (aL q) (Nat.le_refl _) tq (by show tq ∈ topK q; rw [ht]; exact List.mem_cons_self ..)
          have hKOq := Jq.2.2.2.1 (aL q) (Nat.le_refl _) [] tq lq ht
          have tq13 : tq.1 < 13 := Classical.byContradiction fun w => by
            obtain ⟨k, y, b, c, p⟩ := tq
            have w : ¬ k < 13 := w
            match k, w, hKq, hKOq.2 with
            | 13, _, hKq, _ => exact hKq.2.2.1 rfl
            | 14, _, hKq, _ => exact hKq.2.2.2 rfl
            | n + 15, _, _, h => exact h
          obtain ⟨eq, heq⟩ := nz_qs ⟨hKq.1, hKq.2.1, hKq.2.2.1, hKq.2.2.2, tq13⟩ hs
          rcases hm with hm | ⟨t, l, hm, hsA⟩
          · exfalso
            rw [hm, same, heq] at A
            cases A
          · have hs' : ¬ silQ (itX (doA fs) m' (startA g w)) tq := fun h => by
              have : nz (itX (doA fs) m' (startA g w)) tq = [] := by
                obtain ⟨k, y, b, c, p⟩ := tq
                rcases h with ⟨h1, h2⟩ | ⟨h1, h2⟩ | h1
                · have h1 : k = 0 := h1
                  subst h1
                  exact nz0.1 h2
                · have h1 : k = 1 := h1
                  subst h1
                  exact (nz12 (Or.inl rfl)).1 h2
                · have h1 : k = 3 := h1
                  subst h1
                  rfl
              rw [same, heq] at this
              cases this
            refine fin (fun _ t' l' h' h0 => ?_) ⟨m' + 1, ?_⟩
            · rw [ht] at h'
              cases h'
              rw [hm] at A
              have A : nz (itX (doA fs) m' (startA g w)) tq ++ er (itX (doA fs) m' (startA g w)) lq = nz (itX (doA fs) m' (startA g w)) t ++ er (itX (doA fs) m' (startA g w)) l := A
              obtain ⟨⟨⟨rk, J⟩, _⟩, _⟩ := hAA m' hEa
              obtain ⟨ea, hea⟩ := nz_act hsA (J.2.2.2.1 _ (Nat.le_refl _) [] t l hm)
              have heq' : nz (itX (doA fs) m' (startA g w)) tq = [eq] := by
                rw [same]
                exact heq
              rw [heq', hea] at A
              have e12 := (List.cons.inj A).1
              have h00 : nz (itX (doA fs) m' (startA g w)) tq = [(0, root (itX (doA fs) m' (startA g w)) tq.2.1, 0, 0, .nil)] := by
                obtain ⟨k, y, b, c, p⟩ := tq
                have h0 : k = 0 := h0
                subst h0
                by_cases c2 : tK (aF (itX (doA fs) m' (startA g w)) (root (itX (doA fs) m' (startA g w)) y)) < 2
                · exact absurd (Or.inl ⟨rfl, c2⟩) hs'
                · exact nz0.2 (Nat.not_lt.mp c2)
              rw [heq'] at h00
              have h01 := (List.cons.inj h00).1
              rw [e12] at h01
              rw [h01] at hea
              obtain ⟨z1, z2⟩ := nz_inv0 hea
              have hw := hW m' hEa t l hm z1
              rw [z2] at hw
              have er' : root q tq.2.1 = root (itX (doA fs) m' (startA g w)) tq.2.1 := by rw [e]; rfl
              rw [er']
              have ep : setK q lq = wk (setK (itX (doA fs) m' (startA g w)) l) (up1 K (aL (itX (doA fs) m' (startA g w))) lq) M := by rw [wk_setK, e, setK_wk]
              rw [ep]
              exact WRx.of hw
            · rw [itX_s]
              exact RRx.act hf (hAA m' hEa) hQ hR2 hEa hm ht hsA hs' (hW m' hEa)
    · exact fin (fun h => absurd h hE) ⟨m, by rw [goX_end hE]; exact hR⟩
/-- ways in range carry over to the other one -/
theorem WRQ.of {fs : List Fn} {g : Tr} {w : List Nat} {N : Nat} (hf : PW fs [] none) (hg : tok fs g) (h40 : w.length ≤ 40) (h100 : ∀ x, x ∈ w → x < 100) (hW : WRA fs g w) (hN : aE (itX (doA fs) N (startA g w)) ≠ 0) : WRQ fs g w := fun n => (sim_all hf hg h40 h100 hW hN (n + 1)).1 n (Nat.lt_succ_self _)
/-- both end alike -/
theorem sim_end {fs : List Fn} {g : Tr} {w : List Nat} {N n : Nat} (hf : PW fs [] none) (hg : tok fs g) (h40 : w.length ≤ 40) (h100 : ∀ x, x ∈ w → x < 100) (hW : WRA fs g w) (hN : aE (itX (doA fs) N (startA g w)) ≠ 0) (hn : aE (itX (doQ fs) n (startA g w)) ≠ 0) : ∃ K M, itX (doQ fs) n (startA g w) = wk (itX (doA fs) N (startA g w)) K M := by
  obtain ⟨_, m, K, M, e, _⟩ := sim_all hf hg h40 h100 hW hN n
  have hm : aE (itX (doA fs) m (startA g w)) ≠ 0 := by
    rw [e] at hn
    exact hn
  refine ⟨K, M, ?_⟩
  have : itX (doA fs) m (startA g w) = itX (doA fs) N (startA g w) := EndsX.eq (d := doA fs) ⟨m, rfl, hm⟩ ⟨N, rfl, hN⟩
  rw [← this]
  exact e
