/-! A RUN WITHIN IS MADE AGAIN: the other turns meanwhile -/
theorem BLK.k6 {fs : List Fn} {j L0 n0 : Nat} {l : List Tk} {b : Ac} {a : Nat} {A : List Tk} {s : Ac} {rk rk' : Nat → Nat} {l' : List Tk} {y c d : Nat} {p : Tr} (hf : PW fs [] none) (h : BLK j L0 n0 l b a A s) (hj : 1 ≤ j) (hjL : j ≤ L0) (ha : a < aC s) (J : JR fs s rk) (hE : aE s = 0) (hW : WR2 fs s) (h8 : ∀ t, t ∈ l → t.1 = 8 → t.2.1 < n0 ∧ j ≤ tW (aF b t.2.1)) (hnd : A ≠ [] ∨ L0 < aL s) (h0 : aE (goX (doA fs) s) = 0) (J' : JR fs (goX (doA fs) s) rk') (E : Ev s (goX (doA fs) s)) (hjj : j ≤ aL (goX (doA fs) s)) (ht : topK s = (6, y, c, d, p) :: l') (tr : TRx j n0 s (6, y, c, d, p)) : ∃ A', BLK j L0 n0 l b a A' (goX (doA fs) s) := by
  rw [goX_cons hE ht] at h0 J' E hjj ⊢
  obtain ⟨q1, q2⟩ := J.2.2.2.1 (aL s) (Nat.le_refl _) [] _ l' ht
  have m1 : ∀ {x : Nat} {l : List Nat}, x ∈ x :: l := fun {x l} => List.mem_cons_self ..
  have hC := h.2.2.2.2.2.2.1
  have kgd : ∀ {S : Ac}, kg s S → ∀ k, j ≤ k → k ≤ L0 → lU (aV S k) = lU (aV s k) ∧ lD (aV S k) = lD (aV s k) ∧ lG (aV S k) = lG (aV s k) := fun kk k _ _ => kk.2 k
  have hy := (q1 y m1).1
  have ry := tr y m1
  obtain ⟨k2, kT⟩ : tK (aF s y) = 2 ∧ tT (aF s y) ≠ .nil := q2
  have hn := h.1
  obtain ⟨z, e1, e2, e3, e4, e5, e6, e7, e8, e9, e10⟩ := end_T hf.1 (J.1.eq (s' := setK s l') rfl rfl rfl) (J.2.2.1.eq (s' := setK s l') rfl rfl rfl rfl) (show y < aC (setK s l') from hy) k2 kT
  have ee : doA fs (setK s l') (6, y, c, d, p) = push (endT (setK s l') y z) [(0, z, 0, 0, .nil)] := by
    show endG false (setK s l') y = _
    unfold endG
    show (match (mkL (opsC (setK s l') y) (tW (aF (setK s l') y)) (tP (aF (setK s l') y)) (tT (aF (setK s l') y))).1 with
      | some y' => push (link (addT (opsC (setK s l') y) (mkL (opsC (setK s l') y) (tW (aF (setK s l') y)) (tP (aF (setK s l') y)) (tT (aF (setK s l') y))).2) y y') [(0, y', 0, 0, .nil)]
      | none => _) = _
    rw [e1]
    rfl
  rw [ee] at J' E hjj ⊢
  obtain ⟨hR, rz⟩ : RgT j n0 L0 s (push (endT (setK s l') y z) [(0, z, 0, 0, .nil)]) ∧ RgS j n0 (push (endT (setK s l') y z) [(0, z, 0, 0, .nil)]) z := RgT.endc (S := push (endT (setK s l') y z) [(0, z, 0, 0, .nil)]) hf.1 hC J hn E ry hy k2 kT e1 rfl rfl rfl
  refine h.lv hj hjL ha J J' E ht hnd (new := [(0, z, 0, 0, .nil)]) (lvs.pu (q := endT (setK s l') y z) lvs_set) hR (kgd (kg_setK.tr (kg_push (s := endT (setK s l') y z)))) (fun x hx => ?_) (fun q => Or.inr ⟨[], _, rfl, ?_⟩)
  · rw [List.mem_singleton.mp hx]
    exact TRx.one rfl rz
  · refine Or.inl ⟨rfl, e2, ?_⟩
    show root _ z = root _ a
    rw [E.rt J.1 J'.1 ha, ← fcs678 (Or.inl rfl) q]
    refine (root_lk J'.1.lk (Nat.lt_of_lt_of_le hy E.1) (x := y) (y := z) ?_ ?_).symm
    · show tK (aF (endT (setK s l') y z) y) = 7
      rw [e10]
    · show tA (aF (endT (setK s l') y z) y) = some z
      rw [e10]
theorem BLK.k7 {fs : List Fn} {j L0 n0 : Nat} {l : List Tk} {b : Ac} {a : Nat} {A : List Tk} {s : Ac} {rk rk' : Nat → Nat} {l' : List Tk} {y c d : Nat} {p : Tr} (hf : PW fs [] none) (h : BLK j L0 n0 l b a A s) (hj : 1 ≤ j) (hjL : j ≤ L0) (ha : a < aC s) (J : JR fs s rk) (hE : aE s = 0) (hW : WR2 fs s) (h8 : ∀ t, t ∈ l → t.1 = 8 → t.2.1 < n0 ∧ j ≤ tW (aF b t.2.1)) (hnd : A ≠ [] ∨ L0 < aL s) (h0 : aE (goX (doA fs) s) = 0) (J' : JR fs (goX (doA fs) s) rk') (E : Ev s (goX (doA fs) s)) (hjj : j ≤ aL (goX (doA fs) s)) (ht : topK s = (7, y, c, d, p) :: l') (tr : TRx j n0 s (7, y, c, d, p)) : ∃ A', BLK j L0 n0 l b a A' (goX (doA fs) s) := by
  rw [goX_cons hE ht] at h0 J' E hjj ⊢
  obtain ⟨q1, q2⟩ := J.2.2.2.1 (aL s) (Nat.le_refl _) [] _ l' ht
  have m1 : ∀ {x : Nat} {l : List Nat}, x ∈ x :: l := fun {x l} => List.mem_cons_self ..
  have hC := h.2.2.2.2.2.2.1
  have kgd : ∀ {S : Ac}, kg s S → ∀ k, j ≤ k → k ≤ L0 → lU (aV S k) = lU (aV s k) ∧ lD (aV S k) = lD (aV s k) ∧ lG (aV S k) = lG (aV s k) := fun kk k _ _ => kk.2 k
  have hy := (q1 y m1).1
  have dm : doA fs (setK s l') (7, y, c, d, p) = data (setK s l') y 1 none none := rfl
  rw [dm] at J' E hjj ⊢
  refine h.lv hj hjL ha J J' E ht hnd (S := data (setK s l') y 1 none none) (lvs_set (s := s) (l := l')) (RgT.dat hC J.1 E (tr y m1) hy rfl rfl rfl) (kgd (kg_setK (s := s) (l := l'))) (fun x hx => (List.not_mem_nil hx).elim) (fun q => Or.inl ?_)
  have k1 : tK (aF (data (setK s l') y 1 none none) y) = 1 := by
    show tK (up1 (aF s) y _ y) = 1
    rw [up1_at]
  rw [E.rt J.1 J'.1 ha, ← fcs678 (Or.inr (Or.inl rfl)) q, root_no (by omega)]
  omega
theorem BLK.k8 {fs : List Fn} {j L0 n0 : Nat} {l : List Tk} {b : Ac} {a : Nat} {A : List Tk} {s : Ac} {rk rk' : Nat → Nat} {l' : List Tk} {y c d : Nat} {p : Tr} (hf : PW fs [] none) (h : BLK j L0 n0 l b a A s) (hj : 1 ≤ j) (hjL : j ≤ L0) (ha : a < aC s) (J : JR fs s rk) (hE : aE s = 0) (hW : WR2 fs s) (h8 : ∀ t, t ∈ l → t.1 = 8 → t.2.1 < n0 ∧ j ≤ tW (aF b t.2.1)) (hnd : A ≠ [] ∨ L0 < aL s) (h0 : aE (goX (doA fs) s) = 0) (J' : JR fs (goX (doA fs) s) rk') (E : Ev s (goX (doA fs) s)) (hjj : j ≤ aL (goX (doA fs) s)) (ht : topK s = (8, y, c, d, p) :: l') (tr : TRx j n0 s (8, y, c, d, p)) : ∃ A', BLK j L0 n0 l b a A' (goX (doA fs) s) := by
  rw [goX_cons hE ht] at h0 J' E hjj ⊢
  obtain ⟨q1, q2⟩ := J.2.2.2.1 (aL s) (Nat.le_refl _) [] _ l' ht
  have m1 : ∀ {x : Nat} {l : List Nat}, x ∈ x :: l := fun {x l} => List.mem_cons_self ..
  have hC := h.2.2.2.2.2.2.1
  have kgd : ∀ {S : Ac}, kg s S → ∀ k, j ≤ k → k ≤ L0 → lU (aV S k) = lU (aV s k) ∧ lD (aV S k) = lD (aV s k) ∧ lG (aV S k) = lG (aV s k) := fun kk k _ _ => kk.2 k
  have hy := q1 y m1
  have dm : doA fs (setK s l') (8, y, c, d, p) = failA (setK s l') (tW (aF s y)) := rfl
  rw [dm] at h0 J' E hjj ⊢
  exact h.fail hj hjL ha J J' E ⟨lvs_set, kg_setK, rfl, rfl, rfl⟩ (hC.ow hy.1 (tr y m1)) hy.2 h0 hjj
theorem BLK.k9 {fs : List Fn} {j L0 n0 : Nat} {l : List Tk} {b : Ac} {a : Nat} {A : List Tk} {s : Ac} {rk rk' : Nat → Nat} {l' : List Tk} {y c d : Nat} {p : Tr} (hf : PW fs [] none) (h : BLK j L0 n0 l b a A s) (hj : 1 ≤ j) (hjL : j ≤ L0) (ha : a < aC s) (J : JR fs s rk) (hE : aE s = 0) (hW : WR2 fs s) (h8 : ∀ t, t ∈ l → t.1 = 8 → t.2.1 < n0 ∧ j ≤ tW (aF b t.2.1)) (hnd : A ≠ [] ∨ L0 < aL s) (h0 : aE (goX (doA fs) s) = 0) (J' : JR fs (goX (doA fs) s) rk') (E : Ev s (goX (doA fs) s)) (hjj : j ≤ aL (goX (doA fs) s)) (ht : topK s = (9, y, c, d, p) :: l') (tr : TRx j n0 s (9, y, c, d, p)) (hl : l ≠ []) : ∃ A', BLK j L0 n0 l b a A' (goX (doA fs) s) := by
  rw [goX_cons hE ht] at h0 J' E hjj ⊢
  obtain ⟨q1, q2⟩ := J.2.2.2.1 (aL s) (Nat.le_refl _) [] _ l' ht
  have m1 : ∀ {x : Nat} {l : List Nat}, x ∈ x :: l := fun {x l} => List.mem_cons_self ..
  have hC := h.2.2.2.2.2.2.1
  have kgd : ∀ {S : Ac}, kg s S → ∀ k, j ≤ k → k ≤ L0 → lU (aV S k) = lU (aV s k) ∧ lD (aV S k) = lD (aV s k) ∧ lG (aV S k) = lG (aV s k) := fun kk k _ _ => kk.2 k
  obtain ⟨z1, z2, z3⟩ := q2
  have dm : doA fs (setK s l') (9, y, c, d, p) = sL (data (setK s l') y 1 none none) (aL s - 1) (aV (setK s l')) := rfl
  rw [dm] at J' E hjj ⊢
  have hL : L0 < aL s := by
    by_cases w : L0 < aL s
    · exact w
    · exfalso
      have e : aL s = L0 := by have := h.2.1; omega
      have hA : A ≠ [] := hnd.resolve_right w
      have e3 : topK s = A ++ l := by rw [← h.2.2.1, ← e]
      rw [ht, z1] at e3
      cases A with
      | nil => exact hA rfl
      | cons t A =>
        have := (List.cons.inj e3).2
        have : A ++ l = [] := this.symm
        exact hl (List.append_eq_nil_iff.mp this).2
  exact h.down hj hjL ha J hL z3 E J'
theorem BLK.k10 {fs : List Fn} {j L0 n0 : Nat} {l : List Tk} {b : Ac} {a : Nat} {A : List Tk} {s : Ac} {rk rk' : Nat → Nat} {l' : List Tk} {y c d : Nat} {p : Tr} (hf : PW fs [] none) (h : BLK j L0 n0 l b a A s) (hj : 1 ≤ j) (hjL : j ≤ L0) (ha : a < aC s) (J : JR fs s rk) (hE : aE s = 0) (hW : WR2 fs s) (h8 : ∀ t, t ∈ l → t.1 = 8 → t.2.1 < n0 ∧ j ≤ tW (aF b t.2.1)) (hnd : A ≠ [] ∨ L0 < aL s) (h0 : aE (goX (doA fs) s) = 0) (J' : JR fs (goX (doA fs) s) rk') (E : Ev s (goX (doA fs) s)) (hjj : j ≤ aL (goX (doA fs) s)) (ht : topK s = (10, y, c, d, p) :: l') (tr : TRx j n0 s (10, y, c, d, p)) : ∃ A', BLK j L0 n0 l b a A' (goX (doA fs) s) := by
  rw [goX_cons hE ht] at h0 J' E hjj ⊢
  obtain ⟨q1, q2⟩ := J.2.2.2.1 (aL s) (Nat.le_refl _) [] _ l' ht
  have m1 : ∀ {x : Nat} {l : List Nat}, x ∈ x :: l := fun {x l} => List.mem_cons_self ..
  have hC := h.2.2.2.2.2.2.1
  have kgd : ∀ {S : Ac}, kg s S → ∀ k, j ≤ k → k ≤ L0 → lU (aV S k) = lU (aV s k) ∧ lD (aV S k) = lD (aV s k) ∧ lG (aV S k) = lG (aV s k) := fun kk k _ _ => kk.2 k
  have hy := (q1 y m1).1
  have hc := (q1 c (List.mem_cons_of_mem _ m1)).1
  have hd := q1 d (List.mem_cons_of_mem _ (List.mem_cons_of_mem _ m1))
  have ra := hC.rt J.1 hy (tr y m1)
  have rb := hC.rt J.1 hc (tr c (List.mem_cons_of_mem _ m1))
  have rd := tr d (List.mem_cons_of_mem _ (List.mem_cons_of_mem _ m1))
  have al := J.1.lt hy
  have bl := J.1.lt hc
  have a7 := J.1.n7 hy
  have b7 := J.1.n7 hc
  have how := hC.ow hd.1 rd
  have dm : doA fs (setK s l') (10, y, c, d, p) = uniteA (setK s l') (root s y) (root s c) d := rfl
  rw [dm, uniteA_f] at h0 J' E hjj ⊢
  by_cases e : root s y = root s c
  · rw [if_pos e] at J' E hjj ⊢
    exact h.lv hj hjL ha J J' E ht hnd lvs_set (RgT.same hC rfl rfl rfl) (kgd kg_setK) (fun x hx => (List.not_mem_nil hx).elim) (fun q => (no_fcs (show (10 : Nat) = 1 ∨ (10 : Nat) = 2 ∨ (10 : Nat) = 3 ∨ (10 : Nat) = 4 ∨ (10 : Nat) = 5 ∨ (10 : Nat) = 9 ∨ (10 : Nat) = 10 ∨ (10 : Nat) = 11 ∨ (10 : Nat) = 12 by decide) q).elim)
  · rw [if_neg e] at h0 J' E hjj ⊢
    by_cases es : aE (stepA (setK s l')) = 0
    · rw [if_pos es] at h0 J' E hjj ⊢
      have sp := stp_step es
      obtain ⟨P, hP⟩ : ∃ P, P = stepA (setK s l') := ⟨_, rfl⟩
      rw [← hP] at h0 J' E hjj sp ⊢
      obtain ⟨lvP, kP, p1, p2, p3⟩ := id sp
      have eP : uni P (root s y) (root s c) d = if tK (aF s (root s y)) = 0 then bindA P (root s y) (root s c) (tW (aF s d)) else if tK (aF s (root s c)) = 0 then bindA P (root s c) (root s y) (tW (aF s d)) else if tO (aF s (root s y)) = tO (aF s (root s c)) then push P (pairs 10 P (root s y) (root s c) d) else failA P (tW (aF s d)) := by
        unfold uni
        rw [p2]
      rw [eP] at h0 J' E hjj ⊢
      have bind : ∀ v w, v < aC s → w < aC s → RgS j n0 s v → RgS j n0 s w → aE (bindA P v w (tW (aF s d))) = 0 → JR fs (bindA P v w (tW (aF s d))) rk' → Ev s (bindA P v w (tW (aF s d))) → j ≤ aL (bindA P v w (tW (aF s d))) → ∃ A', BLK j L0 n0 l b a A' (bindA P v w (tW (aF s d))) := fun v w hv hw rv rw' h0 J' E hjj => by
        unfold bindA at h0 J' E hjj ⊢
        by_cases w1 : Rc P w v
        · rw [if_pos w1] at h0 J' E hjj ⊢
          exact h.fail hj hjL ha J J' E sp how hd.2 h0 hjj
        · rw [if_neg w1] at h0 J' E hjj ⊢
          by_cases w2 : tW (aF P v) = tW (aF s d)
          · rw [if_pos w2] at J' E hjj ⊢
            exact h.lv hj hjL ha J J' E ht hnd (S := link P v w) lvP (RgT.lnk hC J.1 E rv hv rw' hw p1 (by rw [← p2]; rfl) p3) (kgd kP) (fun x hx => (List.not_mem_nil hx).elim) (fun q => (no_fcs (show (10 : Nat) = 1 ∨ (10 : Nat) = 2 ∨ (10 : Nat) = 3 ∨ (10 : Nat) = 4 ∨ (10 : Nat) = 5 ∨ (10 : Nat) = 9 ∨ (10 : Nat) = 10 ∨ (10 : Nat) = 11 ∨ (10 : Nat) = 12 by decide) q).elim)
          · rw [if_neg w2] at h0 J' E hjj ⊢
            by_cases w3 : tK (aF P w) = 0 ∧ tW (aF P w) = tW (aF s d)
            · rw [if_pos w3] at J' E hjj ⊢
              exact h.lv hj hjL ha J J' E ht hnd (S := link P w v) lvP (RgT.lnk hC J.1 E rw' hw rv hv p1 (by rw [← p2]; rfl) p3) (kgd kP) (fun x hx => (List.not_mem_nil hx).elim) (fun q => (no_fcs (show (10 : Nat) = 1 ∨ (10 : Nat) = 2 ∨ (10 : Nat) = 3 ∨ (10 : Nat) = 4 ∨ (10 : Nat) = 5 ∨ (10 : Nat) = 9 ∨ (10 : Nat) = 10 ∨ (10 : Nat) = 11 ∨ (10 : Nat) = 12 by decide) q).elim)
            · rw [if_neg w3] at h0
              exact absurd h0 (show ¬ (3 : Nat) = 0 by decide)
      by_cases k0 : tK (aF s (root s y)) = 0
      · rw [if_pos k0] at h0 J' E hjj ⊢
        exact bind _ _ al bl ra rb h0 J' E hjj
      · rw [if_neg k0] at h0 J' E hjj ⊢
        by_cases k1 : tK (aF s (root s c)) = 0
        · rw [if_pos k1] at h0 J' E hjj ⊢
          exact bind _ _ bl al rb ra h0 J' E hjj
        · rw [if_neg k1] at h0 J' E hjj ⊢
          by_cases ko : tO (aF s (root s y)) = tO (aF s (root s c))
          · rw [if_pos ko] at J' E hjj ⊢
            refine h.lv hj hjL ha J J' E ht hnd lvP.pu (RgT.same hC p1 p2 p3) (kgd (kP.tr kg_push)) (fun x hx => ?_) (fun q => (no_fcs (show (10 : Nat) = 1 ∨ (10 : Nat) = 2 ∨ (10 : Nat) = 3 ∨ (10 : Nat) = 4 ∨ (10 : Nat) = 5 ∨ (10 : Nat) = 9 ∨ (10 : Nat) = 10 ∨ (10 : Nat) = 11 ∨ (10 : Nat) = 12 by decide) q).elim)
            have rg : ∀ v, RgS j n0 s v → RgS j n0 (push P (pairs 10 P (root s y) (root s c) d)) v := fun v hv => by
              unfold RgS at hv ⊢
              show tW (aF P v) < j ∨ n0 ≤ v
              rw [p2]
              exact hv
            unfold pairs at hx
            rw [p2] at hx
            rcases List.mem_append.mp hx with q | q
            · exact TRx.pr (Or.inl rfl) (fun v hv => rg v (hC.ed J.1 al ra (Or.inl hv))) (fun v hv => rg v (hC.ed J.1 bl rb (Or.inl hv))) (rg d rd) x q
            · exact TRx.pr (Or.inl rfl) (fun v hv => rg v (hC.ed J.1 al ra (Or.inr (Or.inl ⟨a7, hv⟩)))) (fun v hv => rg v (hC.ed J.1 bl rb (Or.inr (Or.inl ⟨b7, hv⟩)))) (rg d rd) x q
          · rw [if_neg ko] at h0 J' E hjj ⊢
            exact h.fail hj hjL ha J J' E sp how hd.2 h0 hjj
    · rw [if_neg es] at h0
      exact absurd h0 es
theorem BLK.k11 {fs : List Fn} {j L0 n0 : Nat} {l : List Tk} {b : Ac} {a : Nat} {A : List Tk} {s : Ac} {rk rk' : Nat → Nat} {l' : List Tk} {y c d : Nat} {p : Tr} (hf : PW fs [] none) (h : BLK j L0 n0 l b a A s) (hj : 1 ≤ j) (hjL : j ≤ L0) (ha : a < aC s) (J : JR fs s rk) (hE : aE s = 0) (hW : WR2 fs s) (h8 : ∀ t, t ∈ l → t.1 = 8 → t.2.1 < n0 ∧ j ≤ tW (aF b t.2.1)) (hnd : A ≠ [] ∨ L0 < aL s) (h0 : aE (goX (doA fs) s) = 0) (J' : JR fs (goX (doA fs) s) rk') (E : Ev s (goX (doA fs) s)) (hjj : j ≤ aL (goX (doA fs) s)) (ht : topK s = (11, y, c, d, p) :: l') (tr : TRx j n0 s (11, y, c, d, p)) : ∃ A', BLK j L0 n0 l b a A' (goX (doA fs) s) := by
  rw [goX_cons hE ht] at h0 J' E hjj ⊢
  obtain ⟨q1, q2⟩ := J.2.2.2.1 (aL s) (Nat.le_refl _) [] _ l' ht
  have m1 : ∀ {x : Nat} {l : List Nat}, x ∈ x :: l := fun {x l} => List.mem_cons_self ..
  have hC := h.2.2.2.2.2.2.1
  have kgd : ∀ {S : Ac}, kg s S → ∀ k, j ≤ k → k ≤ L0 → lU (aV S k) = lU (aV s k) ∧ lD (aV S k) = lD (aV s k) ∧ lG (aV S k) = lG (aV s k) := fun kk k _ _ => kk.2 k
  have hy := (q1 y m1).1
  have hc := (q1 c (List.mem_cons_of_mem _ m1)).1
  have hd := q1 d (List.mem_cons_of_mem _ (List.mem_cons_of_mem _ m1))
  have ra := hC.rt J.1 hy (tr y m1)
  have rb := hC.rt J.1 hc (tr c (List.mem_cons_of_mem _ m1))
  have rd := tr d (List.mem_cons_of_mem _ (List.mem_cons_of_mem _ m1))
  have al := J.1.lt hy
  have bl := J.1.lt hc
  have a7 := J.1.n7 hy
  have b7 := J.1.n7 hc
  obtain ⟨_, _, m, r, el, em⟩ := q2
  have dm : doA fs (setK s l') (11, y, c, d, p) = askA (setK s l') (root s y) (root s c) d := rfl
  rw [dm] at h0 J' E hjj ⊢
  unfold askA at h0 J' E hjj ⊢
  by_cases e : root s y = root s c
  · rw [if_pos e] at J' E hjj ⊢
    exact h.lv hj hjL ha J J' E ht hnd lvs_set (RgT.same hC rfl rfl rfl) (kgd kg_setK) (fun x hx => (List.not_mem_nil hx).elim) (fun q => (no_fcs (show (11 : Nat) = 1 ∨ (11 : Nat) = 2 ∨ (11 : Nat) = 3 ∨ (11 : Nat) = 4 ∨ (11 : Nat) = 5 ∨ (11 : Nat) = 9 ∨ (11 : Nat) = 10 ∨ (11 : Nat) = 11 ∨ (11 : Nat) = 12 by decide) q).elim)
  · rw [if_neg e] at h0 J' E hjj ⊢
    by_cases k0 : tK (aF (setK s l') (root s y)) = 0 ∨ tK (aF (setK s l') (root s c)) = 0
    · rw [if_pos k0] at h0
      exact absurd h0 (show ¬ (3 : Nat) = 0 by decide)
    · rw [if_neg k0] at h0 J' E hjj ⊢
      simp only [] at h0 J' E hjj ⊢
      by_cases es : aE (stepA (setK s l')) = 0
      · rw [if_pos es] at h0 J' E hjj ⊢
        have sp := stp_step es
        obtain ⟨P, hP⟩ : ∃ P, P = stepA (setK s l') := ⟨_, rfl⟩
        rw [← hP] at h0 J' E hjj sp ⊢
        obtain ⟨lvP, kP, p1, p2, p3⟩ := id sp
        by_cases ko : tO (aF P (root s y)) = tO (aF P (root s c))
        · rw [if_pos ko] at J' E hjj ⊢
          refine h.lv hj hjL ha J J' E ht hnd lvP.pu (RgT.same hC p1 p2 p3) (kgd (kP.tr kg_push)) (fun x hx => ?_) (fun q => (no_fcs (show (11 : Nat) = 1 ∨ (11 : Nat) = 2 ∨ (11 : Nat) = 3 ∨ (11 : Nat) = 4 ∨ (11 : Nat) = 5 ∨ (11 : Nat) = 9 ∨ (11 : Nat) = 10 ∨ (11 : Nat) = 11 ∨ (11 : Nat) = 12 by decide) q).elim)
          have rg : ∀ v, RgS j n0 s v → RgS j n0 (push P (pairs 11 P (root s y) (root s c) d)) v := fun v hv => by
            unfold RgS at hv ⊢
            show tW (aF P v) < j ∨ n0 ≤ v
            rw [p2]
            exact hv
          unfold pairs at hx
          rw [p2] at hx
          rcases List.mem_append.mp hx with q | q
          · exact TRx.pr (Or.inr rfl) (fun v hv => rg v (hC.ed J.1 al ra (Or.inl hv))) (fun v hv => rg v (hC.ed J.1 bl rb (Or.inl hv))) (rg d rd) x q
          · exact TRx.pr (Or.inr rfl) (fun v hv => rg v (hC.ed J.1 al ra (Or.inr (Or.inl ⟨a7, hv⟩)))) (fun v hv => rg v (hC.ed J.1 bl rb (Or.inr (Or.inl ⟨b7, hv⟩)))) (rg d rd) x q
        · rw [if_neg ko] at J' E hjj ⊢
          have et : topK P = l' := lvP.2.2.2
          have el : l' = m ++ (8, d, 0, 0, .nil) :: r := el
          rw [et, el, dropA_m rfl em] at J' E hjj ⊢
          have hF : aF (data (setK P r) d 1 none none) = up1 (aF s) d (1, 1, none, none, tW (aF s d), tP (aF s d), tT (aF s d)) := by
            rw [← p2]
            rfl
          refine h.drop hj hjL ha J J' E ht hnd el (S := data (setK P r) d 1 none none) lvP.setK (kP.tr (kg_setK (s := P) (l := r))) (RgT.dat hC J.1 E rd hd.1 p1 hF p3) rd ?_ h8
          rw [hF, up1_at]
      · rw [if_neg es] at h0
        exact absurd h0 es
theorem BLK.k12 {fs : List Fn} {j L0 n0 : Nat} {l : List Tk} {b : Ac} {a : Nat} {A : List Tk} {s : Ac} {rk rk' : Nat → Nat} {l' : List Tk} {y c d : Nat} {p : Tr} (hf : PW fs [] none) (h : BLK j L0 n0 l b a A s) (hj : 1 ≤ j) (hjL : j ≤ L0) (ha : a < aC s) (J : JR fs s rk) (hE : aE s = 0) (hW : WR2 fs s) (h8 : ∀ t, t ∈ l → t.1 = 8 → t.2.1 < n0 ∧ j ≤ tW (aF b t.2.1)) (hnd : A ≠ [] ∨ L0 < aL s) (h0 : aE (goX (doA fs) s) = 0) (J' : JR fs (goX (doA fs) s) rk') (E : Ev s (goX (doA fs) s)) (hjj : j ≤ aL (goX (doA fs) s)) (ht : topK s = (12, y, c, d, p) :: l') (tr : TRx j n0 s (12, y, c, d, p)) (hl : l ≠ []) : ∃ A', BLK j L0 n0 l b a A' (goX (doA fs) s) := by
  rw [goX_cons hE ht] at h0 J' E hjj ⊢
  obtain ⟨q1, q2⟩ := J.2.2.2.1 (aL s) (Nat.le_refl _) [] _ l' ht
  have m1 : ∀ {x : Nat} {l : List Nat}, x ∈ x :: l := fun {x l} => List.mem_cons_self ..
  have hC := h.2.2.2.2.2.2.1
  have kgd : ∀ {S : Ac}, kg s S → ∀ k, j ≤ k → k ≤ L0 → lU (aV S k) = lU (aV s k) ∧ lD (aV S k) = lD (aV s k) ∧ lG (aV S k) = lG (aV s k) := fun kk k _ _ => kk.2 k
  obtain ⟨z1, _, z3, _, z5⟩ := q2
  have hn := h.1
  have hL : L0 < aL s := by
    by_cases w : L0 < aL s
    · exact w
    · exfalso
      have e : aL s = L0 := by have := h.2.1; omega
      have hA : A ≠ [] := hnd.resolve_right w
      have e3 : topK s = A ++ l := by rw [← h.2.2.1, ← e]
      rw [ht, z1] at e3
      cases A with
      | nil => exact hA rfl
      | cons t A =>
        have := (List.cons.inj e3).2
        have : A ++ l = [] := this.symm
        exact hl (List.append_eq_nil_iff.mp this).2
  have dm : doA fs (setK s l') (12, y, c, d, p) = runA (setK s l') := rfl
  rw [dm] at h0 J' E hjj ⊢
  obtain ⟨b1, b2, b3, _⟩ := J.2.2.2.2 (aL s) z3 (Nat.le_refl _)
  have rX := (h.2.2.2.2.2.2.2.2.2.2.1 (aL s) hL (Nat.le_refl _)).2
  obtain ⟨x, hx⟩ : ∃ x, x = lX (aV s (aL s)) := ⟨_, rfl⟩
  rw [← hx] at b1 b2 b3 rX
  have hS : ¬ aS (setK s l') = 100 := fun e => by
    rw [runA_no e] at h0
    exact absurd h0 (show ¬ (4 : Nat) = 0 by decide)
  have eX : lX (aV (setK s l') (aL (setK s l'))) = x := by
    rw [hx]
    exact (lvs_set (s := s) (l := l')).2.1 _
  obtain ⟨X, hX⟩ : ∃ X, X = mkA (aN s (tP (aF s x))) (aL s) (tP (aF s x)) (tT (aF s x)) (aC s) := ⟨_, rfl⟩
  have gp := runA_go (s := setK s l') (r := X) hS hE (by rw [eX, hX]; rfl)
  obtain ⟨S, hSS⟩ : ∃ S, S = runA (setK s l') := ⟨_, rfl⟩
  rw [← hSS] at gp J' E hjj ⊢
  rw [push_push, eX] at gp
  have FP : aF S = app (aF s) (aC s) X.2 := by rw [gp]; rfl
  have NP : aN S = aN s := by rw [gp]; rfl
  have CP : aC S = aC s + X.2.length := by rw [gp]; rfl
  have hR : RgT j n0 L0 s S := RgT.run hf.1 (x := x) (o := aL s) hC J hn E rX b1 b2 hL (L := X.2) (by rw [hX]) CP FP NP
  have lv : lvs s S l' (oT 1 X.1 ++ [(9, x, 0, 0, .nil)]) := by
    rw [gp]
    obtain ⟨v1, v2, v3, v4⟩ := lvs_set (s := s) (l := l')
    refine lvs.pu (q := sL (addT (sS (setK s l') (aS (setK s l') + 1)) X.2) (aL (setK s l')) (up1 (aV (setK s l')) (aL (setK s l')) (x, lU (aV (setK s l') (aL (setK s l'))) + 1, [], lG (aV (setK s l') (aL (setK s l'))), lK (aV (setK s l') (aL (setK s l'))), aR (setK s l') + 1))) ?_
    have eu : ∀ i, lX (up1 (aV (setK s l')) (aL (setK s l')) (x, lU (aV (setK s l') (aL (setK s l'))) + 1, [], lG (aV (setK s l') (aL (setK s l'))), lK (aV (setK s l') (aL (setK s l'))), aR (setK s l') + 1) i) = lX (aV (setK s l') i) ∧ lK (up1 (aV (setK s l')) (aL (setK s l')) (x, lU (aV (setK s l') (aL (setK s l'))) + 1, [], lG (aV (setK s l') (aL (setK s l'))), lK (aV (setK s l') (aL (setK s l'))), aR (setK s l') + 1) i) = lK (aV (setK s l') i) := fun i => by
      rcases up1_or (f := aV (setK s l')) (x := aL (setK s l')) (y := i) (v := (x, lU (aV (setK s l') (aL (setK s l'))) + 1, [], lG (aV (setK s l') (aL (setK s l'))), lK (aV (setK s l') (aL (setK s l'))), aR (setK s l') + 1)) with ⟨f1, f2⟩ | ⟨_, f2⟩
      · rw [f2, f1]
        exact ⟨eX.symm, rfl⟩
      · rw [f2]
        exact ⟨rfl, rfl⟩
    exact ⟨rfl, fun i => (eu i).1.trans (v2 i), fun i hi => (eu i).2.trans (v3 i hi), (eu (aL s)).2.trans v4⟩
  have hw := (J.2.2.1.1 x b1).2.2.2.2.2.2 b2
  obtain ⟨y2, h1, h2⟩ := mkA_nm (g := aN s (tP (aF s x))) (o := aL s) (p := tP (aF s x)) hw.1 hw.2.2.2 (aC s)
  refine h.lv hj hjL ha J J' E ht hnd lv hR (fun k k1 k2 => ?_) (fun z hz => ?_) (fun q => (no_fcs (show (12 : Nat) = 1 ∨ (12 : Nat) = 2 ∨ (12 : Nat) = 3 ∨ (12 : Nat) = 4 ∨ (12 : Nat) = 5 ∨ (12 : Nat) = 9 ∨ (12 : Nat) = 10 ∨ (12 : Nat) = 11 ∨ (12 : Nat) = 12 by decide) q).elim)
  · have e : aV S k = aV s k := by
      rw [gp]
      show up1 (up1 (up1 (aV s) (aL s) _) (aL s) _) (aL s) _ k = _
      rw [up1_ne (by omega), up1_ne (by omega), up1_ne (by omega)]
    rw [e]
    exact ⟨rfl, rfl, rfl⟩
  · rcases List.mem_append.mp hz with q | q
    · refine TRx.oT (fun v hv => ?_) z q
      have e : v = y2 := by
        rw [hX, h1] at hv
        exact (Option.some.inj hv).symm
      rw [e]
      rcases h2 with ⟨k, q⟩ | ⟨q, _⟩
      · have he : Ed s x y2 := Or.inr (Or.inr ⟨Or.inl b2, k, q⟩)
        exact (hC.ed J.1 b1 rX he).ev E ((J.1 x b1).2 y2 he).1
      · exact Or.inr (by omega)
    · rw [List.mem_singleton.mp q]
      exact fun v hv => (List.not_mem_nil hv).elim
theorem BLK.k13 {fs : List Fn} {j L0 n0 : Nat} {l : List Tk} {b : Ac} {a : Nat} {A : List Tk} {s : Ac} {rk rk' : Nat → Nat} {l' : List Tk} {y c d : Nat} {p : Tr} (hf : PW fs [] none) (h : BLK j L0 n0 l b a A s) (hj : 1 ≤ j) (hjL : j ≤ L0) (ha : a < aC s) (J : JR fs s rk) (hE : aE s = 0) (hW : WR2 fs s) (h8 : ∀ t, t ∈ l → t.1 = 8 → t.2.1 < n0 ∧ j ≤ tW (aF b t.2.1)) (hnd : A ≠ [] ∨ L0 < aL s) (h0 : aE (goX (doA fs) s) = 0) (J' : JR fs (goX (doA fs) s) rk') (E : Ev s (goX (doA fs) s)) (hjj : j ≤ aL (goX (doA fs) s)) (ht : topK s = (13, y, c, d, p) :: l') (tr : TRx j n0 s (13, y, c, d, p)) : ∃ A', BLK j L0 n0 l b a A' (goX (doA fs) s) := by
  rw [goX_cons hE ht] at h0 J' E hjj ⊢
  obtain ⟨q1, q2⟩ := J.2.2.2.1 (aL s) (Nat.le_refl _) [] _ l' ht
  have m1 : ∀ {x : Nat} {l : List Nat}, x ∈ x :: l := fun {x l} => List.mem_cons_self ..
  have hC := h.2.2.2.2.2.2.1
  have kgd : ∀ {S : Ac}, kg s S → ∀ k, j ≤ k → k ≤ L0 → lU (aV S k) = lU (aV s k) ∧ lD (aV S k) = lD (aV s k) ∧ lG (aV S k) = lG (aV s k) := fun kk k _ _ => kk.2 k
  have r1 := tr y m1
  have r2 := tr c (List.mem_cons_of_mem _ m1)
  have r3 := tr d (List.mem_cons_of_mem _ (List.mem_cons_of_mem _ m1))
  refine h.lv hj hjL ha J J' E ht hnd (new := [(10, y, c, d, .nil), (7, d, 0, 0, .nil)]) lvs_set.pu (RgT.same (S := push (setK s l') [(10, y, c, d, .nil), (7, d, 0, 0, .nil)]) hC rfl rfl rfl) (kgd (kg_setK.tr kg_push)) (fun x hx => ?_) (fun q => Or.inr ⟨[(10, y, c, d, .nil)], _, rfl, Or.inr (Or.inl ⟨Or.inr (Or.inl rfl), fcs134 (Or.inl rfl) q⟩)⟩)
  rcases List.mem_cons.mp hx with e | e
  · rw [e]
    exact TRx.thr rfl r1 r2 r3
  · rw [List.mem_singleton.mp e]
    exact TRx.one rfl r3
theorem BLK.k14 {fs : List Fn} {j L0 n0 : Nat} {l : List Tk} {b : Ac} {a : Nat} {A : List Tk} {s : Ac} {rk rk' : Nat → Nat} {l' : List Tk} {y c d : Nat} {p : Tr} (hf : PW fs [] none) (h : BLK j L0 n0 l b a A s) (hj : 1 ≤ j) (hjL : j ≤ L0) (ha : a < aC s) (J : JR fs s rk) (hE : aE s = 0) (hW : WR2 fs s) (h8 : ∀ t, t ∈ l → t.1 = 8 → t.2.1 < n0 ∧ j ≤ tW (aF b t.2.1)) (hnd : A ≠ [] ∨ L0 < aL s) (h0 : aE (goX (doA fs) s) = 0) (J' : JR fs (goX (doA fs) s) rk') (E : Ev s (goX (doA fs) s)) (hjj : j ≤ aL (goX (doA fs) s)) (ht : topK s = (14, y, c, d, p) :: l') (tr : TRx j n0 s (14, y, c, d, p)) : ∃ A', BLK j L0 n0 l b a A' (goX (doA fs) s) := by
  rw [goX_cons hE ht] at h0 J' E hjj ⊢
  obtain ⟨q1, q2⟩ := J.2.2.2.1 (aL s) (Nat.le_refl _) [] _ l' ht
  have m1 : ∀ {x : Nat} {l : List Nat}, x ∈ x :: l := fun {x l} => List.mem_cons_self ..
  have hC := h.2.2.2.2.2.2.1
  have kgd : ∀ {S : Ac}, kg s S → ∀ k, j ≤ k → k ≤ L0 → lU (aV S k) = lU (aV s k) ∧ lD (aV S k) = lD (aV s k) ∧ lG (aV S k) = lG (aV s k) := fun kk k _ _ => kk.2 k
  have r1 := tr y m1
  have r2 := tr c (List.mem_cons_of_mem _ m1)
  have r3 := tr d (List.mem_cons_of_mem _ (List.mem_cons_of_mem _ m1))
  refine h.lv hj hjL ha J J' E ht hnd (new := [(11, y, c, d, .nil), (8, d, 0, 0, .nil)]) lvs_set.pu (RgT.same (S := push (setK s l') [(11, y, c, d, .nil), (8, d, 0, 0, .nil)]) hC rfl rfl rfl) (kgd (kg_setK.tr kg_push)) (fun x hx => ?_) (fun q => Or.inr ⟨[(11, y, c, d, .nil)], _, rfl, Or.inr (Or.inl ⟨Or.inr (Or.inr rfl), fcs134 (Or.inr rfl) q⟩)⟩)
  rcases List.mem_cons.mp hx with e | e
  · rw [e]
    exact TRx.thr rfl r1 r2 r3
  · rw [List.mem_singleton.mp e]
    exact TRx.one rfl r3
theorem BLK.go {fs : List Fn} {j L0 n0 : Nat} {l : List Tk} {b : Ac} {a : Nat} {A : List Tk} {s : Ac} (hf : PW fs [] none) (h : BLK j L0 n0 l b a A s) (hj : 1 ≤ j) (hjL : j ≤ L0) (ha : a < aC s) (hE : aE s = 0) (hW : WR2 fs s) (h8 : ∀ t, t ∈ l → t.1 = 8 → t.2.1 < n0 ∧ j ≤ tW (aF b t.2.1)) (hnd : A ≠ [] ∨ L0 < aL s) (h0 : aE (goX (doA fs) s) = 0) (hjj : j ≤ aL (goX (doA fs) s)) (As : AA fs s) (hl : l ≠ []) : ∃ A', BLK j L0 n0 l b a A' (goX (doA fs) s) := by
  obtain ⟨As', E⟩ := As.go hf hE hW h0
  obtain ⟨⟨⟨rk, J⟩, _⟩, _⟩ := id As
  obtain ⟨⟨⟨rk', J'⟩, _⟩, _⟩ := id As'
  cases ht : topK s with
  | nil =>
    unfold goX at h0
    rw [if_pos hE, ht] at h0
    exact absurd h0 (show ¬ (1 : Nat) = 0 by decide)
  | cons t l' =>
    have kd := As.kd ht
    have tr : TRx j n0 s t := by
      by_cases w : L0 < aL s
      · refine (h.2.2.2.2.2.2.2.2.2.2.1 (aL s) w (Nat.le_refl _)).1 t ?_
        show t ∈ topK s
        rw [ht]
        exact List.mem_cons_self ..
      · have e : aL s = L0 := by have := h.2.1; omega
        have hA : A ≠ [] := hnd.resolve_right w
        have e3 : topK s = A ++ l := by rw [← h.2.2.1, ← e]
        cases A with
        | nil => exact absurd rfl hA
        | cons t0 A =>
          rw [ht] at e3
          rw [(List.cons.inj e3).1]
          exact h.2.2.2.2.2.2.2.2.2.1 t0 (List.mem_cons_self ..)
    obtain ⟨k, y, c, d, p⟩ := t
    match k, ht, tr, kd with
    | 0, ht, tr, _ => exact BLK.k0 hf h hj hjL ha J hE hW h8 hnd h0 J' E hjj ht tr
    | 1, ht, tr, _ => exact BLK.k1 hf h hj hjL ha J hE hW h8 hnd h0 J' E hjj ht tr
    | 2, ht, tr, _ => exact BLK.k2 hf h hj hjL ha J hE hW h8 hnd h0 J' E hjj ht tr
    | 3, ht, tr, _ => exact BLK.k3 hf h hj hjL ha J hE hW h8 hnd h0 J' E hjj ht tr
    | 4, ht, tr, _ => exact BLK.k4 hf h hj hjL ha J hE hW h8 hnd h0 J' E hjj ht tr
    | 5, ht, tr, _ => exact BLK.k5 hf h hj hjL ha J hE hW h8 hnd h0 J' E hjj ht tr
    | 6, ht, tr, _ => exact BLK.k6 hf h hj hjL ha J hE hW h8 hnd h0 J' E hjj ht tr
    | 7, ht, tr, _ => exact BLK.k7 hf h hj hjL ha J hE hW h8 hnd h0 J' E hjj ht tr
    | 8, ht, tr, _ => exact BLK.k8 hf h hj hjL ha J hE hW h8 hnd h0 J' E hjj ht tr
    | 9, ht, tr, _ => exact BLK.k9 hf h hj hjL ha J hE hW h8 hnd h0 J' E hjj ht tr hl
    | 10, ht, tr, _ => exact BLK.k10 hf h hj hjL ha J hE hW h8 hnd h0 J' E hjj ht tr
    | 11, ht, tr, _ => exact BLK.k11 hf h hj hjL ha J hE hW h8 hnd h0 J' E hjj ht tr
    | 12, ht, tr, _ => exact BLK.k12 hf h hj hjL ha J hE hW h8 hnd h0 J' E hjj ht tr hl
    | 13, ht, tr, _ => exact BLK.k13 hf h hj hjL ha J hE hW h8 hnd h0 J' E hjj ht tr
    | 14, ht, tr, _ => exact BLK.k14 hf h hj hjL ha J hE hW h8 hnd h0 J' E hjj ht tr
    | n + 15, _, _, kd => exact absurd (show n + 15 < 15 from kd) (by omega)
