/-! HOW MUCH THERE IS: what forces is on top -/
def Z0 (s : Ac) : Prop := ∀ t, t ∈ (flX s).tail → t.1 ≠ 0
def tz (new : List Tk) : Prop := ∀ t, t ∈ new.tail → t.1 ≠ 0
theorem tz_all {new : List Tk} (h : ∀ t, t ∈ new → t.1 ≠ 0) : tz new := fun t ht => h t (List.mem_of_mem_tail ht)
theorem tz_one {t : Tk} : tz [t] := fun _ h => (List.not_mem_nil h).elim
theorem tz_nil : tz [] := fun _ h => (List.not_mem_nil h).elim
def shZ (s : Ac) (l : List Tk) (S : Ac) (o : Nat) : Prop := (∃ new, lvs s S l new ∧ tz new) ∨ (∃ q, lvs s q l [] ∧ S = failA q o) ∨ (∃ m e r, l = m ++ e :: r ∧ lvs s S r [])
theorem tz_mt {p q : Option Tr} {y z : Option Nat} {c : Nat} : ∀ t, t ∈ mt1 p y c ++ mt1 q z c → t.1 ≠ 0 := fun t ht => by
  have : t.1 = 4 := (List.mem_append.mp ht).elim mt1_k mt1_k
  omega
theorem shZ_call {fs : List Fn} {s q : Ac} {l : List Tk} {x : Nat} (h : lvs s q l []) : shZ s l (callA fs q x) (tW (aF q x)) := by
  unfold callA
  split
  · exact Or.inr (Or.inl ⟨q, h, rfl⟩)
  · have hd : lvs s (if 1 < (rulf fs (tO (aF q x))).length then decA q (tW (aF q x)) (rulf fs (tO (aF q x))).length else (0, q)).2 l [] := by
      split
      · exact h.dec
      · exact h
    have gen : ∀ d : Nat × Ac, lvs s d.2 l [] → shZ s l (if aE d.2 = 0 then (if aE (stepA d.2) = 0 then takeR (stepA d.2) x ((rulf fs (tO (aF q x))).getD d.1 (none, none, .nil)) else stepA d.2) else d.2) (tW (aF q x)) := fun d hd => by
      split
      · split
        · refine Or.inl ⟨_, lvs.pu (q := takeT (stepA d.2) x _) hd.step, tz_all (fun t ht => ?_)⟩
          rcases List.mem_append.mp ht with ht | ht
          · exact tz_mt t ht
          · rw [List.mem_singleton.mp ht]
            exact (show (6 : Nat) ≠ 0 by decide)
        · exact Or.inl ⟨[], hd.step, tz_nil⟩
      · exact Or.inl ⟨[], hd, tz_nil⟩
    exact gen _ hd
theorem shZ_force {fs : List Fn} {h : Bool} {s q : Ac} {l : List Tk} {x : Nat} (hl : lvs s q l []) (h6 : tK (aF q x) ≠ 6) : shZ s l (forceG fs h q x) (tW (aF q x)) := by
  have so : ∀ (A B : Option Nat) (k1 k2 k3 z v : Nat), k1 ≠ 0 → k2 ≠ 0 → k3 ≠ 0 → tz (oT 1 A ++ oT 1 B ++ (if h = true then [(k1, z, v, x, .nil), (k2, x, 0, 0, .nil)] else [(k3, z, v, x, .nil)])) := fun A B k1 k2 k3 z v h1 h2 h3 => tz_all (fun t ht => by
    rcases List.mem_append.mp ht with ht | ht
    · have : t.1 = 1 := (List.mem_append.mp ht).elim oT_k oT_k
      omega
    · split at ht
      · rcases List.mem_cons.mp ht with e | e
        · rw [e]
          exact h1
        · rw [List.mem_singleton.mp e]
          exact h2
      · rw [List.mem_singleton.mp ht]
        exact h3)
  unfold forceG
  split
  · exact shZ_call hl
  · simp only []
    split
    · split
      · exact Or.inl ⟨_, lvs.pu (q := link _ _ _) hl.dec, tz_one⟩
      · exact Or.inl ⟨[], hl.dec, tz_nil⟩
    · exact Or.inl ⟨[], hl.dec, tz_nil⟩
  · exact Or.inl ⟨_, hl.pu, so _ _ 10 7 13 _ _ (by decide) (by decide) (by decide)⟩
  · exact Or.inl ⟨_, hl.pu, so _ _ 11 8 14 _ _ (by decide) (by decide) (by decide)⟩
  · exact absurd ‹_› h6
  · exact Or.inl ⟨[], hl, tz_nil⟩
theorem shZ_met {fs : List Fn} {s q : Ac} {l : List Tk} {p : Tr} {x c : Nat} (hl : lvs s q l []) : shZ s l (metA fs q p x c) (tW (aF q c)) := by
  unfold metA
  simp only []
  split
  · split
    · exact Or.inl ⟨[], hl, tz_nil⟩
    · exact Or.inl ⟨_, lvs.pu (q := metT q x (tcode p - 10)) hl, tz_all tz_mt⟩
  · split
    · exact Or.inl ⟨_, hl.pu, tz_all tz_mt⟩
    · exact Or.inr (Or.inl ⟨q, hl, rfl⟩)
theorem shZ_end {h : Bool} {s q : Ac} {l : List Tk} {c : Nat} (hl : lvs s q l []) : shZ s l (endG h q c) 0 := by
  unfold endG
  simp only []
  split
  · exact Or.inl ⟨_, lvs.pu (q := link (addT _ _) _ _) hl, tz_one⟩
  · exact Or.inl ⟨[], hl, tz_nil⟩
theorem shZ_bind {s q : Ac} {l : List Tk} {x y o : Nat} (hl : lvs s q l []) : shZ s l (bindA q x y o) o := by
  unfold bindA
  split
  · exact Or.inr (Or.inl ⟨q, hl, rfl⟩)
  · split
    · exact Or.inl ⟨[], hl, tz_nil⟩
    · split
      · exact Or.inl ⟨[], hl, tz_nil⟩
      · exact Or.inl ⟨[], hl, tz_nil⟩
theorem tz_pairs {k : Nat} {s : Ac} {a b u : Nat} (hk : k ≠ 0) : tz (pairs k s a b u) := tz_all (fun t ht => by rw [pairs_k ht]; exact hk)
theorem shZ_unite {s q : Ac} {l : List Tk} {a b u : Nat} (hl : lvs s q l []) : shZ s l (uniteA q a b u) (tW (aF q u)) := by
  unfold uniteA
  split
  · exact Or.inl ⟨[], hl, tz_nil⟩
  · simp only []
    split
    · split
      · rw [aF_step]
        exact shZ_bind hl.step
      · split
        · rw [aF_step]
          exact shZ_bind hl.step
        · split
          · exact Or.inl ⟨_, hl.step.pu, tz_pairs (by decide)⟩
          · exact Or.inr (Or.inl ⟨_, hl.step, by rw [aF_step]⟩)
    · exact Or.inl ⟨[], hl.step, tz_nil⟩
theorem shZ_ask {s q : Ac} {l : List Tk} {a b u : Nat} (hl : lvs s q l []) (hm : EDk 11 8 u l) : shZ s l (askA q a b u) 0 := by
  unfold askA
  split
  · exact Or.inl ⟨[], hl, tz_nil⟩
  · split
    · exact Or.inl ⟨[], hl, tz_nil⟩
    · simp only []
      split
      · split
        · exact Or.inl ⟨_, hl.step.pu, tz_pairs (by decide)⟩
        · obtain ⟨m, r, e1, e2⟩ := hm
          refine Or.inr (Or.inr ⟨m, _, r, e1, ?_⟩)
          have et : topK (stepA q) = l := hl.step.2.2.2
          rw [et, e1, dropA_m rfl e2]
          exact hl.step.setK
      · exact Or.inl ⟨[], hl.step, tz_nil⟩
theorem Z0.low {s : Ac} (h : Z0 s) {t : Tk} {l : List Tk} (ht : topK s = t :: l) : ∀ b, b ∈ restX s l → b.1 ≠ 0 := fun b hb => h b (by rw [flX_cons ht]; exact hb)
theorem Z0.lw {s : Ac} (h : Z0 s) {t : Tk} {l : List Tk} (ht : topK s = t :: l) {L' : Nat} (hL : L' ≤ aL s) : ∀ b, b ∈ lowX (aV s) L' → b.1 ≠ 0 := fun b hb => by
  obtain ⟨A, hA⟩ := lowX_suf (v := aV s) hL
  refine h.low ht b (List.mem_append_right _ ?_)
  rw [hA]
  exact List.mem_append_right _ hb
theorem Z0.new {s S : Ac} {t : Tk} {l r new : List Tk} (h : Z0 s) (ht : topK s = t :: l) (lv : lvs s S r new) (hr : ∀ b, b ∈ r → b ∈ l) (hn : tz new) : Z0 S := fun b hb => by
  rw [flX_lvs lv] at hb
  have hres : ∀ b, b ∈ restX s r → b.1 ≠ 0 := fun b hb => by
    rcases List.mem_append.mp hb with q | q
    · exact h.low ht b (List.mem_append_left _ (hr b q))
    · exact h.low ht b (List.mem_append_right _ q)
  cases new with
  | nil => exact hres b (List.mem_of_mem_tail hb)
  | cons a m =>
    have hb : b ∈ m ++ restX s r := hb
    rcases List.mem_append.mp hb with q | q
    · exact hn b q
    · exact hres b q
theorem Z0.sh {s S : Ac} {t : Tk} {l : List Tk} {o : Nat} (h : Z0 s) (ht : topK s = t :: l) (hs : shZ s l S o) (ho : o ≤ aL s) (h0 : aE S = 0) : Z0 S := by
  rcases hs with ⟨new, lv, nn⟩ | ⟨q, lv, e⟩ | ⟨m, e8, r, el, lv⟩
  · exact h.new ht lv (fun _ h => h) nn
  · rw [e] at h0 ⊢
    obtain ⟨v1, v2, v3, v4⟩ := lv
    unfold failA at h0 ⊢
    by_cases q0 : o = 0
    · rw [if_pos q0] at h0
      exact absurd h0 (show ¬ (2 : Nat) = 0 by decide)
    · rw [if_neg q0] at h0 ⊢
      obtain ⟨L', hL'⟩ : ∃ L', o = L' + 1 := ⟨o - 1, by omega⟩
      cases hb : backA (lD (aV q o)) with
      | nil =>
        intro b hb2
        have fl : flX (sL (data q (lX (aV q o)) 0 none none) (o - 1) (aV q)) = lK (aV s L') ++ lowX (aV s) L' := by
          show lK (aV q (o - 1)) ++ lowX (aV q) (o - 1) = _
          rw [show o - 1 = L' by omega, v3 L' (by omega), lowX_eq (fun j _ _ => v2 j) (fun j hj => v3 j (by omega))]
        have hb2 : b ∈ (flX (sL (data q (lX (aV q o)) 0 none none) (o - 1) (aV q))).tail := hb2
        rw [fl] at hb2
        exact h.lw ht (L' := L' + 1) (by omega) b (List.mem_cons_of_mem _ (List.mem_of_mem_tail hb2))
      | cons d r =>
        obtain ⟨w, n⟩ := d
        rw [hb] at h0
        have h0 : aE (if lU (aV q o) = 20 then sE q 4 else sL q o (up1 (aV q) o (lX (aV q o), lU (aV q o), [], (r.map (fun d => d.1)).reverse ++ [w + 1], [tRun], lZ (aV q o)))) = 0 := h0
        show Z0 (if lU (aV q o) = 20 then sE q 4 else sL q o (up1 (aV q) o (lX (aV q o), lU (aV q o), [], (r.map (fun d => d.1)).reverse ++ [w + 1], [tRun], lZ (aV q o))))
        by_cases h20 : lU (aV q o) = 20
        · rw [if_pos h20] at h0
          exact absurd h0 (show ¬ (4 : Nat) = 0 by decide)
        · rw [if_neg h20]
          have eu : ∀ j, j ≠ o → up1 (aV q) o (lX (aV q o), lU (aV q o), [], (r.map (fun d => d.1)).reverse ++ [w + 1], [tRun], lZ (aV q o)) j = aV q j := fun j hj => up1_ne hj
          have eo : up1 (aV q) o (lX (aV q o), lU (aV q o), [], (r.map (fun d => d.1)).reverse ++ [w + 1], [tRun], lZ (aV q o)) o = (lX (aV q o), lU (aV q o), [], (r.map (fun d => d.1)).reverse ++ [w + 1], [tRun], lZ (aV q o)) := up1_at
          have fl : flX (sL q o (up1 (aV q) o (lX (aV q o), lU (aV q o), [], (r.map (fun d => d.1)).reverse ++ [w + 1], [tRun], lZ (aV q o)))) = tRun :: lowX (aV s) o := by
            show lK (up1 (aV q) o _ o) ++ lowX (up1 (aV q) o _) o = _
            rw [eo]
            show [tRun] ++ lowX (up1 (aV q) o _) o = _
            rw [lowX_eq (v := aV s) (fun j _ hj => ?_) (fun j hj => ?_)]
            · rfl
            · by_cases e : j = o
              · rw [e, eo]
                exact v2 o
              · rw [eu j e]
                exact v2 j
            · rw [eu j (by omega)]
              exact v3 j (by omega)
          intro b hb2
          rw [fl] at hb2
          exact h.lw ht ho b hb2
  · exact h.new ht lv (fun b hb => by rw [el]; exact List.mem_append_right _ (List.mem_cons_of_mem _ hb)) tz_nil
theorem Z0.both {fs : List Fn} {h : Bool} {s : Ac} {rk : Nat → Nat} {k y a b : Nat} {p : Tr} {l : List Tk} (J : JR fs s rk) (Z : Z0 s) (hE : aE s = 0) (ht : topK s = (k, y, a, b, p) :: l) :
    (k = 0 → aE (forceG fs h (setK s l) (root s y)) = 0 → Z0 (forceG fs h (setK s l) (root s y))) ∧
    ((k = 4 ∨ k = 5) → aE (metA fs (setK s l) p (root s y) a) = 0 → Z0 (metA fs (setK s l) p (root s y) a)) ∧
    (k = 6 → aE (endG h (setK s l) y) = 0 → Z0 (endG h (setK s l) y)) ∧
    (k = 8 → aE (failA (setK s l) (tW (aF s y))) = 0 → Z0 (failA (setK s l) (tW (aF s y)))) ∧
    (k = 9 → Z0 (sL (data (setK s l) y 1 none none) (aL s - 1) (aV (setK s l)))) ∧
    (k = 10 → aE (uniteA (setK s l) (root s y) (root s a) b) = 0 → Z0 (uniteA (setK s l) (root s y) (root s a) b)) ∧
    (k = 11 → aE (askA (setK s l) (root s y) (root s a) b) = 0 → Z0 (askA (setK s l) (root s y) (root s a) b)) ∧
    (k = 12 → aE (runA (setK s l)) = 0 → Z0 (runA (setK s l))) ∧
    (∀ S new, lvs s S l new → tz new → Z0 S) := by
  obtain ⟨q1, q2⟩ := J.2.2.2.1 (aL s) (Nat.le_refl _) [] _ l ht
  have lv := lvs_set (s := s) (l := l)
  refine ⟨fun e h0 => ?_, fun e h0 => ?_, fun e h0 => ?_, fun e h0 => ?_, fun e => ?_, fun e h0 => ?_, fun e h0 => ?_, fun e h0 => ?_, fun S new lv2 hn => Z.new ht lv2 (fun _ h => h) hn⟩
  · subst e
    have hy := q1 y (List.mem_cons_self ..)
    by_cases h6 : tK (aF s (root s y)) = 6
    · have e : forceG fs h (setK s l) (root s y) = sL (setK s l) (aL s + 1) (up1 (aV (setK s l)) (aL s + 1) (root s y, 0, [], [], [tRun], 0)) := by
        unfold forceG
        rw [show tK (aF (setK s l) (root s y)) = 6 from h6]
        rfl
      rw [e]
      obtain ⟨v1, v2, v3, v4⟩ := lv
      have eu : ∀ j, j ≠ aL s + 1 → up1 (aV (setK s l)) (aL s + 1) (root s y, 0, [], [], [tRun], 0) j = aV (setK s l) j := fun j hj => up1_ne hj
      have e1 : up1 (aV (setK s l)) (aL s + 1) (root s y, 0, [], [], [tRun], 0) (aL s + 1) = (root s y, 0, [], [], [tRun], 0) := up1_at
      have fl : flX (sL (setK s l) (aL s + 1) (up1 (aV (setK s l)) (aL s + 1) (root s y, 0, [], [], [tRun], 0))) = tRun :: (15, root s y, 0, 0, .nil) :: restX s l := by
        show lK (up1 (aV (setK s l)) (aL s + 1) _ (aL s + 1)) ++ ((15, lX (up1 (aV (setK s l)) (aL s + 1) _ (aL s + 1)), 0, 0, .nil) :: (lK (up1 (aV (setK s l)) (aL s + 1) _ (aL s)) ++ lowX (up1 (aV (setK s l)) (aL s + 1) _) (aL s))) = _
        rw [e1, eu _ (by omega), lowX_eq (v := aV s) (fun j _ hj => ?_) (fun j hj => ?_)]
        · have : lK (aV (setK s l) (aL s)) = l := topK_setK
          rw [this]
          rfl
        · rw [eu j (by omega)]
          exact v2 j
        · rw [eu j (by omega)]
          exact v3 j hj
      intro b hb
      rw [fl] at hb
      rcases List.mem_cons.mp hb with q | q
      · rw [q]
        exact (show (15 : Nat) ≠ 0 by decide)
      · exact Z.low ht b q
    · exact Z.sh ht (shZ_force lv h6) (Nat.le_trans (J.1.own hy.1) hy.2) h0
  · have em : mth (k, y, a, b, p) = [y, a] := by rcases e with e | e <;> subst e <;> rfl
    rw [em] at q1
    exact Z.sh ht (shZ_met lv) (q1 a (List.mem_cons_of_mem _ (List.mem_cons_self ..))).2 h0
  · exact Z.sh ht (shZ_end lv) (Nat.zero_le _) h0
  · subst e
    exact Z.sh ht (Or.inr (Or.inl ⟨_, lv, rfl⟩)) (q1 y (List.mem_cons_self ..)).2 h0
  · subst e
    obtain ⟨v1, v2, v3, v4⟩ := lv
    have hj1 : 1 ≤ aL s := q2.2.1
    obtain ⟨L', hL'⟩ : ∃ L', aL s = L' + 1 := ⟨aL s - 1, by omega⟩
    have fl : flX (sL (data (setK s l) y 1 none none) (aL s - 1) (aV (setK s l))) = lK (aV s L') ++ lowX (aV s) L' := by
      show lK (aV (setK s l) (aL s - 1)) ++ lowX (aV (setK s l)) (aL s - 1) = _
      rw [show aL s - 1 = L' by omega, v3 L' (by omega), lowX_eq (fun j _ _ => v2 j) (fun j hj => v3 j (by omega))]
    intro b hb
    rw [fl] at hb
    exact Z.lw ht (L' := L' + 1) (by omega) b (List.mem_cons_of_mem _ (List.mem_of_mem_tail hb))
  · subst e
    exact Z.sh ht (shZ_unite lv) (q1 b (List.mem_cons_of_mem _ (List.mem_cons_of_mem _ (List.mem_cons_self ..)))).2 h0
  · subst e
    exact Z.sh ht (shZ_ask lv q2.2.2) (Nat.zero_le _) h0
  · subst e
    have hS : ¬ aS s = 100 := fun hs => by
      rw [runA_no (s := setK s l) hs] at h0
      exact absurd h0 (show ¬ (4 : Nat) = 0 by decide)
    have hgo := runA_go (s := setK s l) hS hE rfl
    rw [push_push] at hgo
    have lq : lvs s (sL (addT (sS (setK s l) (aS (setK s l) + 1)) (mkA (aN (setK s l) (tP (aF (setK s l) (lX (aV (setK s l) (aL (setK s l))))))) (aL (setK s l)) (tP (aF (setK s l) (lX (aV (setK s l) (aL (setK s l)))))) (tT (aF (setK s l) (lX (aV (setK s l) (aL (setK s l)))))) (aC (setK s l))).2) (aL (setK s l)) (up1 (aV (setK s l)) (aL (setK s l)) (lX (aV (setK s l) (aL (setK s l))), lU (aV (setK s l) (aL (setK s l))) + 1, [], lG (aV (setK s l) (aL (setK s l))), lK (aV (setK s l) (aL (setK s l))), aR (setK s l) + 1))) l [] := by
      obtain ⟨v1, v2, v3, v4⟩ := lv
      have eu : ∀ j, lX (up1 (aV (setK s l)) (aL s) (lX (aV (setK s l) (aL s)), lU (aV (setK s l) (aL s)) + 1, [], lG (aV (setK s l) (aL s)), lK (aV (setK s l) (aL s)), aR (setK s l) + 1) j) = lX (aV (setK s l) j) ∧ lK (up1 (aV (setK s l)) (aL s) (lX (aV (setK s l) (aL s)), lU (aV (setK s l) (aL s)) + 1, [], lG (aV (setK s l) (aL s)), lK (aV (setK s l) (aL s)), aR (setK s l) + 1) j) = lK (aV (setK s l) j) := fun j => by
        rcases up1_or (f := aV (setK s l)) (x := aL s) (y := j) (v := (lX (aV (setK s l) (aL s)), lU (aV (setK s l) (aL s)) + 1, [], lG (aV (setK s l) (aL s)), lK (aV (setK s l) (aL s)), aR (setK s l) + 1)) with ⟨f1, f2⟩ | ⟨_, f2⟩
        · rw [f2, f1]
          exact ⟨rfl, rfl⟩
        · rw [f2]
          exact ⟨rfl, rfl⟩
      exact ⟨rfl, fun j => (eu j).1.trans (v2 j), fun j hj => (eu j).2.trans (v3 j hj), (eu (aL s)).2.trans v4⟩
    have lS := lq.pu (new := oT 1 (mkA (aN (setK s l) (tP (aF (setK s l) (lX (aV (setK s l) (aL (setK s l))))))) (aL (setK s l)) (tP (aF (setK s l) (lX (aV (setK s l) (aL (setK s l)))))) (tT (aF (setK s l) (lX (aV (setK s l) (aL (setK s l)))))) (aC (setK s l))).1 ++ [(9, lX (aV (setK s l) (aL (setK s l))), 0, 0, .nil)])
    rw [hgo]
    refine Z.new (S := sR (push _ _) _) ht lS (fun _ h => h) (tz_all (fun t ht => ?_))
    rcases List.mem_append.mp ht with q | q
    · rw [oT_k q]
      decide
    · rw [List.mem_singleton.mp q]
      exact (show (9 : Nat) ≠ 0 by decide)
