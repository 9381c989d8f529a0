/-! A RUN WITHIN IS MADE AGAIN: asking and uniting -/
theorem ew_11 {s : Ac} : ∀ {m : List Tk}, (∀ t, t ∈ m → t.1 = 11) → ∀ (e : Tk) (r : List Tk), e.1 = 8 → dropA (ew s (m ++ e :: r)) = ew s r
  | [], _, e, r, he => by
    obtain ⟨k, y, a, b, p⟩ := e
    have he : k = 8 := he
    subst he
    exact (if_neg (show ¬ (8 : Nat) = 11 by decide)).trans (if_pos rfl)
  | t :: m, h, e, r, he => by
    have ht := h t (List.mem_cons_self ..)
    obtain ⟨k, y, a, b, p⟩ := t
    have ht : k = 11 := ht
    subst ht
    exact (if_pos rfl).trans (ew_11 (fun z hz => h z (List.mem_cons_of_mem _ hz)) e r he)
theorem trx_k {Dm : Nat → Prop} {be : Nat → Nat} {t : Tk} : (trx Dm be t).1 = t.1 := by
  obtain ⟨k, y, a, b, p⟩ := t
  match k with
  | 0 => rfl
  | 1 => rfl
  | 2 => rfl
  | 3 => rfl
  | 4 => rfl
  | 5 => rfl
  | 6 => rfl
  | 7 => rfl
  | 8 => rfl
  | 9 => rfl
  | 10 => rfl
  | 11 => rfl
  | 12 => rfl
  | 13 => rfl
  | 14 => rfl
  | n + 15 => rfl
/-- tails of tasks, the heads being for the same -/
theorem SYw.tl {j : Nat} {Dm : Nat → Prop} {be : Nat → Nat} {p q : Ac} {tp tq : Tk} {lp lq : List Tk} (h : SYw j Dm be p q) (htp : topK p = tp :: lp) (htq : topK q = tq :: lq) (hh : nw q (trx Dm be tp) = nw q tq) : ew q (lp.map (trx Dm be)) = ew q lq := by
  have h2 := (h.1.2 (aL p) h.2.2 (Nat.lt_succ_self _)).2.1
  have e1 : lK (aV p (aL p)) = tp :: lp := htp
  have e2 : lK (aV q (aL p)) = tq :: lq := by rw [← h.2.1]; exact htq
  rw [e1, e2] at h2
  have h2 : ew q (trx Dm be tp :: lp.map (trx Dm be)) = ew q (tq :: lq) := h2
  rw [ew_cons, ew_cons, hh] at h2
  exact List.append_cancel_left h2
theorem ew_pr {j k : Nat} {Dm : Nat → Prop} {be : Nat → Nat} {p q P Q : Ac} {a b a' b' u : Nat} (hk : k = 10 ∨ k = 11) (hu : Dm u) (fP : aF P = aF p) (fQ : aF Q = aF q) (hA : RO j Dm be p q (tA (aF p a)) (tA (aF q a'))) (hB : RO j Dm be p q (tB (aF p a)) (tB (aF q a'))) (hA' : RO j Dm be p q (tA (aF p b)) (tA (aF q b'))) (hB' : RO j Dm be p q (tB (aF p b)) (tB (aF q b'))) : ew q ((pairs k P a b u).map (trx Dm be)) = ew q (pairs k Q a' b' (be u)) ∧ ∀ t, t ∈ pairs k P a b u → TOw j Dm p t := by
  have one : ∀ (x x' y y' : Option Nat), RO j Dm be p q x x' → RO j Dm be p q y y' → ew q ((pr1 k x y u).map (trx Dm be)) = ew q (pr1 k x' y' (be u)) ∧ ∀ t, t ∈ pr1 k x y u → TOw j Dm p t := fun x x' y y' h1 h2 => by
    cases x with
    | none =>
      cases x' with
      | some z => exact h1.elim
      | none => exact ⟨rfl, fun t ht => (List.not_mem_nil ht).elim⟩
    | some x =>
      cases x' with
      | none => exact h1.elim
      | some x' =>
        cases y with
        | none =>
          cases y' with
          | some z => exact h2.elim
          | none => exact ⟨rfl, fun t ht => (List.not_mem_nil ht).elim⟩
        | some y =>
          cases y' with
          | none => exact h2.elim
          | some y' =>
            have h1 : RR j Dm be p q x x' := h1
            have h2 : RR j Dm be p q y y' := h2
            have m3 : ∀ v, v ∈ [x, y, u] → Dm v ∨ tW (aF p v) < j := fun v hv => by
              rcases List.mem_cons.mp hv with e | e
              · rw [e]
                exact h1.2.2.1
              · rcases List.mem_cons.mp e with e | e
                · rw [e]
                  exact h2.2.2.1
                · rw [List.mem_singleton.mp e]
                  exact Or.inl hu
            refine ⟨?_, fun t ht => ?_⟩
            · rcases hk with e | e <;> subst e
              · show [((10, root q (bhx Dm be x), root q (bhx Dm be y), bhx Dm be u, .nil) : Tk)] = [(10, root q x', root q y', be u, .nil)]
                rw [h1.2.2.2, h2.2.2.2, bhx_i hu]
              · show [((11, root q (bhx Dm be x), root q (bhx Dm be y), bhx Dm be u, .nil) : Tk)] = [(11, root q x', root q y', be u, .nil)]
                rw [h1.2.2.2, h2.2.2.2, bhx_i hu]
            · have e : t = (k, x, y, u, .nil) := List.mem_singleton.mp ht
              rw [e]
              rcases hk with e | e <;> subst e <;> exact ⟨m3, hu⟩
  unfold pairs
  rw [fP, fQ]
  obtain ⟨o1, o2⟩ := one _ _ _ _ hA hA'
  obtain ⟨o3, o4⟩ := one _ _ _ _ hB hB'
  refine ⟨by rw [List.map_append, ew_app, ew_app, o1, o3], fun t ht => ?_⟩
  rcases List.mem_append.mp ht with q | q
  · exact o2 t q
  · exact o4 t q
theorem L_ask {fs : List Fn} {j : Nat} {Dm : Nat → Prop} {be : Nat → Nat} {p q : Ac} {rp rq rq' : Nat → Nat} {tp tq : Tk} {lp lq : List Tk} {x y u x' y' : Nat} (h : SYw j Dm be p q) (h1 : 1 ≤ j) (Jp : JR fs p rp) (Jq : JR fs q rq) (E : Ev p q) (h1p : aS p ≤ 100)
  (htp : topK p = tp :: lp) (htq : topK q = tq :: lq) (hh : nw q (trx Dm be tp) = nw q tq) (Du : Dm u) (rx : RR j Dm be p q x x') (ry : RR j Dm be p q y y') (kx : tK (aF p (root p x)) < 2) (ky : tK (aF p (root p y)) < 2) (dp : EDk 11 8 u lp) (dq : EDk 11 8 (be u) lq)
  (h0 : aE (askA (setK p lp) (root p x) (root p y) u) = 0) (h0' : aE (askA (setK q lq) (root q x') (root q y') (be u)) = 0) (Ep : Ev p (askA (setK p lp) (root p x) (root p y) u)) (Eq : Ev q (askA (setK q lq) (root q x') (root q y') (be u))) (gq' : GR (askA (setK q lq) (root q x') (root q y') (be u)) rq') : SYw j Dm be (askA (setK p lp) (root p x) (root p y) u) (askA (setK q lq) (root q x') (root q y') (be u)) := by
  have C := h.1.1
  have dx := rx.kd C E Jp.1 Jq.1
  have dy := ry.kd C E Jp.1 Jq.1
  obtain ⟨a, ha⟩ : ∃ a, a = root p x := ⟨_, rfl⟩
  obtain ⟨b, hb⟩ : ∃ b, b = root p y := ⟨_, rfl⟩
  obtain ⟨a', ha'⟩ : ∃ a, a = root q x' := ⟨_, rfl⟩
  obtain ⟨b', hb'⟩ : ∃ b, b = root q y' := ⟨_, rfl⟩
  have hsame : a = b → a' = b' := fun e => by
    rw [ha', hb']
    exact rx.same ry C E Jp.1 Jq.1 (by rw [← ha, ← hb]; exact e)
  have hap : a' = b' → (Dm a ∨ Dm b) → a = b := fun e hd => by
    rw [ha, hb]
    exact rx.apart ry C E Jp.1 Jq.1 (by rw [← ha', ← hb']; exact e) (by rw [← ha, ← hb]; exact hd)
  have rota := rx.rot C E Jp.1 Jq.1
  have rotb := ry.rot C E Jp.1 Jq.1
  rw [← ha, ← ha'] at dx rota
  rw [← hb, ← hb'] at dy rotb
  rw [← ha] at kx
  rw [← hb] at ky
  have al : a < aC p := by rw [ha]; exact Jp.1.lt rx.1
  have bl : b < aC p := by rw [hb]; exact Jp.1.lt ry.1
  rw [← ha, ← hb] at h0 Ep ⊢
  rw [← ha', ← hb'] at h0' Eq gq' ⊢
  unfold askA at h0 h0' Ep Eq gq' ⊢
  by_cases e : a = b
  · rw [if_pos e, if_pos (hsame e)]
    exact L_lay (np := []) (nq := []) h h1 Jp Jq E htp htq hh lvs_set lvs_set kg_setK kg_setK rfl rfl rfl rfl rfl rfl (fun t ht => (List.not_mem_nil ht).elim) rfl
  · rw [if_neg e] at h0 Ep ⊢
    by_cases k0 : tK (aF (setK p lp) a) = 0 ∨ tK (aF (setK p lp) b) = 0
    · rw [if_pos k0] at h0
      exact absurd h0 (show ¬ (3 : Nat) = 0 by decide)
    · rw [if_neg k0] at h0 Ep ⊢
      have k0 : ¬ (tK (aF p a) = 0 ∨ tK (aF p b) = 0) := k0
      obtain ⟨a1, a2, a3, a4⟩ := dx.2.2 (by omega)
      obtain ⟨b1, b2, b3, b4⟩ := dy.2.2 (by omega)
      have e' : ¬ a' = b' := fun q => by
        by_cases w : Dm a ∨ Dm b
        · exact e (hap q w)
        · rcases rota with ⟨v, _⟩ | ⟨_, _, v⟩
          · exact w (Or.inl v)
          · rcases rotb with ⟨z, _⟩ | ⟨_, _, z⟩
            · exact w (Or.inr z)
            · have za := (E.2 a al).2.2.1 (by omega)
              have zb := (E.2 b bl).2.2.1 (by omega)
              rw [root_no (by omega)] at v z
              exact e (by rw [← v, ← z, q])
      rw [if_neg e'] at h0' Eq gq' ⊢
      rw [if_neg (show ¬ (tK (aF (setK q lq) a') = 0 ∨ tK (aF (setK q lq) b') = 0) by show ¬ (tK (aF q a') = 0 ∨ tK (aF q b') = 0); omega)] at h0' Eq gq' ⊢
      simp only [] at h0 h0' Ep Eq gq' ⊢
      by_cases es : aE (stepA (setK p lp)) = 0
      · rw [if_pos es] at h0 Ep ⊢
        by_cases es' : aE (stepA (setK q lq)) = 0
        · rw [if_pos es'] at h0' Eq gq' ⊢
          have ek := stepA_k es
          have ek' := stepA_k es'
          obtain ⟨P, hP⟩ : ∃ P, P = stepA (setK p lp) := ⟨_, rfl⟩
          obtain ⟨Q, hQ⟩ : ∃ Q, Q = stepA (setK q lq) := ⟨_, rfl⟩
          have lvP : lvs p P lp [] := by rw [hP]; exact lvs.step lvs_set
          have lvQ : lvs q Q lq [] := by rw [hQ]; exact lvs.step lvs_set
          have kP : kg p P := by rw [hP]; exact kg_setK.tr kg_step
          have kQ : kg q Q := by rw [hQ]; exact kg_setK.tr kg_step
          have p1 : aC P = aC p := by rw [hP, ek]; rfl
          have p2 : aF P = aF p := by rw [hP, ek]; rfl
          have p3 : aN P = aN p := by rw [hP, ek]; rfl
          have q1 : aC Q = aC q := by rw [hQ, ek']; rfl
          have q2 : aF Q = aF q := by rw [hQ, ek']; rfl
          have q3 : aN Q = aN q := by rw [hQ, ek']; rfl
          rw [← hP] at Ep ⊢
          rw [← hQ] at Eq gq' ⊢
          by_cases ko : tO (aF P a) = tO (aF P b)
          · rw [if_pos ko] at Ep ⊢
            have ko' : tO (aF Q a') = tO (aF Q b') := by
              rw [q2, a2, b2, ← p2]
              exact ko
            rw [if_pos ko'] at Eq gq' ⊢
            obtain ⟨w1, w2⟩ := ew_pr (a := a) (b := b) (a' := a') (b' := b') (Or.inr rfl) Du p2 q2 a3 a4 b3 b4
            exact L_lay h h1 Jp Jq E htp htq hh lvP.pu lvQ.pu (kP.tr kg_push) (kQ.tr kg_push) p1 p2 p3 q1 q2 q3 w2 w1
          · rw [if_neg ko] at Ep ⊢
            have ko' : ¬ tO (aF Q a') = tO (aF Q b') := by
              rw [q2, a2, b2, ← p2]
              exact ko
            rw [if_neg ko'] at Eq gq' ⊢
            obtain ⟨mp, rp', ep, mp11⟩ := dp
            obtain ⟨mq, rq2, eq, mq11⟩ := dq
            have tP : topK P = lp := lvP.2.2.2
            have tQ : topK Q = lq := lvQ.2.2.2
            rw [tP, ep, dropA_m rfl mp11] at Ep ⊢
            rw [tQ, eq, dropA_m rfl mq11] at Eq gq' ⊢
            have hT := h.tl htp htq hh
            rw [ep, eq, List.map_append] at hT
            have hT : ew q (mp.map (trx Dm be) ++ trx Dm be (8, u, 0, 0, .nil) :: rp'.map (trx Dm be)) = ew q (mq ++ (8, be u, 0, 0, .nil) :: rq2) := hT
            have hT2 := congrArg dropA hT
            rw [ew_11 (fun t ht => by
              obtain ⟨v, hv, ev⟩ := List.mem_map.mp ht
              rw [← ev, trx_k]
              exact mp11 v hv) _ _ rfl, ew_11 mq11 _ _ rfl] at hT2
            have C' : SC j Dm be (data (setK P rp') u 1 none none) (data (setK Q rq2) (be u) 1 none none) := C.dat E Ep Eq Jp Jq gq' Du p1 (by rw [← p2]; rfl) p3 q1 (by rw [← q2]; rfl) q3
            have l1 : lvs p (data (setK P rp') u 1 none none) rp' [] := lvP.setK
            have l2 : lvs q (data (setK Q rq2) (be u) 1 none none) rq2 [] := lvQ.setK
            refine h.mk2 h1 Jp Jq E Ep Eq gq' (fun t ht => ?_) (fun t ht => ?_) hT2 l1 l2 (fun _ _ q => q) (fun _ _ q => ⟨q, rfl⟩) C' (fun t ht => (List.not_mem_nil ht).elim) rfl (h.dt.kg (kP.tr (kg_setK (s := P) (l := rp'))) (kQ.tr (kg_setK (s := Q) (l := rq2))))
            · rw [htp, ep]
              exact List.mem_cons_of_mem _ (List.mem_append_right _ (List.mem_cons_of_mem _ ht))
            · rw [htq, eq]
              exact List.mem_cons_of_mem _ (List.mem_append_right _ (List.mem_cons_of_mem _ ht))
        · rw [if_neg es'] at h0'
          exact absurd h0' es'
      · rw [if_neg es] at h0
        exact absurd h0 es
