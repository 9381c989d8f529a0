/-! A RUN WITHIN IS MADE AGAIN: patterns -/
theorem SC.nmd {j : Nat} {Dm : Nat → Prop} {be : Nat → Nat} {p q : Ac} (C : SC j Dm be p q) {a : Nat} (da : Dm a) (h : Nmd (aF p a)) : Nmd (aF q (be a)) := by
  obtain ⟨_, _, _, b1, _, _, b4, _⟩ := C.1 a da
  unfold Nmd at h ⊢
  rw [b1, b4]
  exact h
theorem L_name {fs : List Fn} {j : Nat} {Dm : Nat → Prop} {be : Nat → Nat} {p q : Ac} {rp rq rq' : Nat → Nat} {tp tq : Tk} {lp lq : List Tk} {c k y y' : Nat} (h : SYw j Dm be p q) (h1 : 1 ≤ j) (Jp : JR fs p rp) (Jq : JR fs q rq) (E : Ev p q)
  (htp : topK p = tp :: lp) (htq : topK q = tq :: lq) (hh : nw q (trx Dm be tp) = nw q tq) (Dc : Dm c) (k2 : tK (aF p c) = 2) (kT : tT (aF p c) ≠ .nil) (ry : RR j Dm be p q y y')
  (gq' : GR (nameA (setK q lq) (be c) k y') rq') : SYw j Dm be (nameA (setK p lp) c k y) (nameA (setK q lq) (be c) k y') := by
  have C := h.1.1
  obtain ⟨c1, c2, c3, m1, m2, m3, m4, m5, m6, m7⟩ := C.1 c Dc
  have k2' : tK (aF q (be c)) = 2 := m1.trans k2
  have kT' : tT (aF q (be c)) ≠ .nil := by rw [m4]; exact kT
  have Ep : Ev p (nameA (setK p lp) c k y) := Ev.same (Nat.le_refl _) (fun _ _ => rfl)
  have Eq : Ev q (nameA (setK q lq) (be c) k y') := Ev.same (Nat.le_refl _) (fun _ _ => rfl)
  have C' : SC j Dm be (nameA (setK p lp) c k y) (nameA (setK q lq) (be c) k y') := by
    refine C.step E Ep Eq Jp.1 Jq.1 gq' (fun x _ q => ⟨q, rfl⟩) (fun _ x _ _ q _ => q) (fun a da => ?_) C.2
    obtain ⟨a1, a2, a3, b1, b2, b3, b4, b5, b6, b7⟩ := C.1 a da
    by_cases e : a = c
    · subst e
      refine Or.inr ⟨a1, a2, a3, b1, b2, b3, b4, ?_, fun h7 => ?_, fun hN v => ?_⟩
      · exact b5.mono C E Ep Eq Jq.1 gq' (fun _ _ q => q) (fun _ _ q => ⟨q, rfl⟩)
      · exact (b6 h7).mono C E Ep Eq Jq.1 gq' (fun _ _ q => q) (fun _ _ q => ⟨q, rfl⟩)
      · show RO j Dm be _ _ (up1 (aN p) (tP (aF p a)) (up1 (aN p (tP (aF p a))) k (some y)) (tP (aF p a)) v) (up1 (aN q) (tP (aF q (be a))) (up1 (aN q (tP (aF q (be a)))) k (some y')) (tP (aF q (be a))) v)
        rw [up1_at, up1_at]
        by_cases w : v = k
        · rw [w, up1_at, up1_at]
          exact ry.mono C E Ep Eq Jq.1 gq' (fun q => q) (fun q => ⟨q, rfl⟩)
        · rw [up1_ne w, up1_ne w]
          exact (b7 hN v).mono C E Ep Eq Jq.1 gq' (fun _ _ q => q) (fun _ _ q => ⟨q, rfl⟩)
    · have e2 : be a ≠ be c := fun q => e (C.2 _ _ da Dc q)
      refine Or.inl ⟨a1, rfl, rfl, fun hN => ?_⟩
      have n1 : tP (aF p a) ≠ tP (aF p c) := fun q => e (Jp.2.2.1.2.1 c a c1 a1 k2 kT hN q)
      have n2 : tP (aF q (be a)) ≠ tP (aF q (be c)) := fun q => e2 (Jq.2.2.1.2.1 (be c) (be a) c2 a2 k2' kT' (C.nmd da hN) q)
      exact ⟨up1_ne n1, up1_ne n2⟩
  have l1 : lvs p (nameA (setK p lp) c k y) lp [] := lvs_set (s := p) (l := lp)
  have l2 : lvs q (nameA (setK q lq) (be c) k y') lq [] := lvs_set (s := q) (l := lq)
  exact h.mk' h1 Jp Jq E Ep Eq gq' htp htq hh l1 l2 (fun _ _ q => q) (fun _ _ q => ⟨q, rfl⟩) C' (fun t ht => (List.not_mem_nil ht).elim) rfl (h.dt.kg (kg_setK (s := p) (l := lp)) (kg_setK (s := q) (l := lq)))
theorem tw_mt {j : Nat} {Dm : Nat → Prop} {be : Nat → Nat} {p q : Ac} {P : Option Tr} {A A' : Option Nat} {c : Nat} (h : RO j Dm be p q A A') (hc : Dm c) : ∀ t, t ∈ mt1 P A c → TOw j Dm p t := fun t ht => by
  cases P with
  | none => exact (List.not_mem_nil ht).elim
  | some P =>
    cases A with
    | none => exact (List.not_mem_nil ht).elim
    | some z =>
      obtain ⟨_, _, r⟩ := h.sm.1 z rfl
      rw [List.mem_singleton.mp ht]
      refine ⟨fun v hv => ?_, hc⟩
      rcases List.mem_cons.mp hv with e | e
      · rw [e]
        exact r.2.2.1
      · rw [List.mem_singleton.mp e]
        exact Or.inl hc
/-- the data of a pattern is met, and nothing fails -/
theorem L_met {fs : List Fn} {j : Nat} {Dm : Nat → Prop} {be : Nat → Nat} {p q : Ac} {rp rq rq' : Nat → Nat} {tp tq : Tk} {lp lq : List Tk} {c y y' : Nat} {pt : Tr} (h : SYw j Dm be p q) (h1 : 1 ≤ j) (Jp : JR fs p rp) (Jq : JR fs q rq) (E : Ev p q)
  (htp : topK p = tp :: lp) (htq : topK q = tq :: lq) (hh : nw q (trx Dm be tp) = nw q tq) (Dc : Dm c) (ry : RR j Dm be p q y y') (hk : tK (aF p (root p y)) < 2)
  (hf : tK (aF p (root p y)) = 1 → tO (aF p (root p y)) = tcode pt - 10)
  (h0 : aE (metA fs (setK p lp) pt (root p y) c) = 0) (h0' : aE (metA fs (setK q lq) pt (root q y') (be c)) = 0) (Ep : Ev p (metA fs (setK p lp) pt (root p y) c)) (Eq : Ev q (metA fs (setK q lq) pt (root q y') (be c))) (gq' : GR (metA fs (setK q lq) pt (root q y') (be c)) rq') : ∃ Dm' be', SYw j Dm' be' (metA fs (setK p lp) pt (root p y) c) (metA fs (setK q lq) pt (root q y') (be c)) := by
  have C := h.1.1
  obtain ⟨c1, c2, c3, m1, m2, m3, m4, m5, m6, m7⟩ := C.1 c Dc
  have al := Jp.1.lt ry.1
  have kd := ry.kd C E Jp.1 Jq.1
  obtain ⟨a, ha⟩ : ∃ a, a = root p y := ⟨_, rfl⟩
  obtain ⟨b, hb⟩ : ∃ b, b = root q y' := ⟨_, rfl⟩
  have rot := ry.rot C E Jp.1 Jq.1
  have bl := Jq.1.lt ry.2.1
  rw [← ha] at h0 Ep hk hf al
  rw [← hb] at h0' Eq gq' bl
  rw [← ha, ← hb] at kd rot ⊢
  by_cases k0 : tK (aF p a) = 0
  · -- it is unbound
    have ep : metA fs (setK p lp) pt a c = if ((fs[tO (aF p c)]?.map (fun y => y.2.1)).getD false = true) ∨ tW (aF p a) ≠ tW (aF p c) then sE (setK p lp) 3 else push (metT (setK p lp) a (tcode pt - 10)) (mt1 (kid1 pt) (if 2 ≤ tcode pt - 10 then some (aC p) else none) c ++ mt1 (kid2 pt) (if 4 ≤ tcode pt - 10 then some (aC p + 1) else none) c) := if_pos k0
    rw [ep] at h0 Ep ⊢
    by_cases wr : ((fs[tO (aF p c)]?.map (fun y => y.2.1)).getD false = true) ∨ tW (aF p a) ≠ tW (aF p c)
    · rw [if_pos wr] at h0
      exact absurd h0 (show ¬ (3 : Nat) = 0 by decide)
    · rw [if_neg wr] at Ep ⊢
      have wa : tW (aF p a) = tW (aF p c) := Classical.byContradiction fun q => wr (Or.inr q)
      have da : Dm a ∧ b = be a := by
        rcases rot with q | ⟨_, q, _⟩
        · exact q
        · omega
      obtain ⟨da, eb⟩ := da
      obtain ⟨a1, a2, a3, b1, b2, b3, b4, b5, b6, b7⟩ := C.1 a da
      rw [eb] at h0' Eq gq' ⊢
      have k0' : tK (aF q (be a)) = 0 := b1.trans k0
      have eq : metA fs (setK q lq) pt (be a) (be c) = if ((fs[tO (aF q (be c))]?.map (fun y => y.2.1)).getD false = true) ∨ tW (aF q (be a)) ≠ tW (aF q (be c)) then sE (setK q lq) 3 else push (metT (setK q lq) (be a) (tcode pt - 10)) (mt1 (kid1 pt) (if 2 ≤ tcode pt - 10 then some (aC q) else none) (be c) ++ mt1 (kid2 pt) (if 4 ≤ tcode pt - 10 then some (aC q + 1) else none) (be c)) := if_pos k0'
      rw [eq, m2, m3, b3, if_neg wr] at Eq gq' ⊢
      obtain ⟨kk, hkk⟩ : ∃ kk, kk = tcode pt - 10 := ⟨_, rfl⟩
      rw [← hkk] at Ep Eq gq' ⊢
      obtain ⟨P, hP⟩ : ∃ P, P = push (metT (setK p lp) a kk) (mt1 (kid1 pt) (if 2 ≤ kk then some (aC p) else none) c ++ mt1 (kid2 pt) (if 4 ≤ kk then some (aC p + 1) else none) c) := ⟨_, rfl⟩
      obtain ⟨Q, hQ⟩ : ∃ Q, Q = push (metT (setK q lq) (be a) kk) (mt1 (kid1 pt) (if 2 ≤ kk then some (aC q) else none) (be c) ++ mt1 (kid2 pt) (if 4 ≤ kk then some (aC q + 1) else none) (be c)) := ⟨_, rfl⟩
      obtain ⟨L, hL⟩ : ∃ L, L = List.replicate (kk / 2) (tOpen (tW (aF p a))) := ⟨_, rfl⟩
      have len : L.length = kk / 2 := by rw [hL, List.length_replicate]
      have FP : aF P = up1 (app (aF p) (aC p) L) a (1, kk, (if 2 ≤ kk then some (aC p) else none), (if 4 ≤ kk then some (aC p + 1) else none), tW (app (aF p) (aC p) L a), tP (app (aF p) (aC p) L a), tT (app (aF p) (aC p) L a)) := by
        rw [hP, hL]
        rfl
      have FQ : aF Q = up1 (app (aF q) (aC q) L) (be a) (1, kk, (if 2 ≤ kk then some (aC q) else none), (if 4 ≤ kk then some (aC q + 1) else none), tW (app (aF q) (aC q) L (be a)), tP (app (aF q) (aC q) L (be a)), tT (app (aF q) (aC q) L (be a))) := by
        rw [hQ, hL, ← b3]
        rfl
      have CP : aC P = aC p + L.length := by
        rw [hP, hL]
        rfl
      have CQ : aC Q = aC q + L.length := by
        rw [hQ, hL, ← b3]
        rfl
      have NP : aN P = aN p := by rw [hP]; rfl
      have NQ : aN Q = aN q := by rw [hQ]; rfl
      have l1 : lvs p P lp (mt1 (kid1 pt) (if 2 ≤ kk then some (aC p) else none) c ++ mt1 (kid2 pt) (if 4 ≤ kk then some (aC p + 1) else none) c) := by
        rw [hP]
        exact lvs.pu (q := metT (setK p lp) a kk) lvs_set
      have l2 : lvs q Q lq (mt1 (kid1 pt) (if 2 ≤ kk then some (aC q) else none) (be c) ++ mt1 (kid2 pt) (if 4 ≤ kk then some (aC q + 1) else none) (be c)) := by
        rw [hQ]
        exact lvs.pu (q := metT (setK q lq) (be a) kk) lvs_set
      have kP : kg p P := by
        rw [hP]
        exact kg_setK.tr (kg_push (s := metT (setK p lp) a kk))
      have kQ : kg q Q := by
        rw [hQ]
        exact kg_setK.tr (kg_push (s := metT (setK q lq) (be a) kk))
      rw [← hP] at Ep ⊢
      rw [← hQ] at Eq gq' ⊢
      have nw1 : ∀ i, i < L.length → RR j (DmN Dm (aC p) L.length) (beN be (aC p) (aC q)) P Q (aC p + i) (aC q + i) := fun i hi => RR_new hi (by omega) (by omega)
      have r1 : RO j (DmN Dm (aC p) L.length) (beN be (aC p) (aC q)) P Q (if 2 ≤ kk then some (aC p) else none) (if 2 ≤ kk then some (aC q) else none) := by
        by_cases w : 2 ≤ kk
        · rw [if_pos w, if_pos w]
          exact nw1 0 (by omega)
        · rw [if_neg w, if_neg w]
          trivial
      have r2 : RO j (DmN Dm (aC p) L.length) (beN be (aC p) (aC q)) P Q (if 4 ≤ kk then some (aC p + 1) else none) (if 4 ≤ kk then some (aC q + 1) else none) := by
        by_cases w : 4 ≤ kk
        · rw [if_pos w, if_pos w]
          exact nw1 1 (by omega)
        · rw [if_neg w, if_neg w]
          trivial
      have pa : app (aF p) (aC p) L a = aF p a := app_lt a1
      have qa : app (aF q) (aC q) L (be a) = aF q (be a) := app_lt a2
      have C' : SC j (DmN Dm (aC p) L.length) (beN be (aC p) (aC q)) P Q := by
        refine C.step E Ep Eq Jp.1 Jq.1 gq' (fun x hx q => ⟨q.resolve_right (by omega), beN_o hx⟩) (fun _ x _ _ q _ => Or.inl q) (fun x hx => ?_) (beN_inj C)
        by_cases xn : x < aC p
        · have dx : Dm x := hx.resolve_right (by omega)
          obtain ⟨x1, x2, _⟩ := C.1 x dx
          by_cases e : x = a
          · subst e
            refine Or.inr ⟨by omega, by rw [beN_o xn]; omega, by rw [FP, up1_at, pa]; exact a3, ?_⟩
            have f1 : aF P x = (1, kk, (if 2 ≤ kk then some (aC p) else none), (if 4 ≤ kk then some (aC p + 1) else none), tW (aF p x), tP (aF p x), tT (aF p x)) := by rw [FP, up1_at, pa]
            have f2 : aF Q (beN be (aC p) (aC q) x) = (1, kk, (if 2 ≤ kk then some (aC q) else none), (if 4 ≤ kk then some (aC q + 1) else none), tW (aF q (be x)), tP (aF q (be x)), tT (aF q (be x))) := by rw [beN_o xn, FQ, up1_at, qa]
            unfold TM
            rw [f1, f2]
            refine ⟨rfl, rfl, b3, b4, r1, fun _ => r2, fun hN => ?_⟩
            rcases hN with w | ⟨w, _⟩
            · exact absurd w (show ¬ (1 : Nat) = 6 by decide)
            · exact absurd w (show ¬ (1 : Nat) = 2 by decide)
          · have e2 : be x ≠ be a := fun q => e (C.2 _ _ dx da q)
            exact Or.inl ⟨xn, by rw [FP, up1_ne e, app_lt xn], by rw [FQ, up1_ne e2, app_lt x2], fun _ => by rw [NP, NQ]; exact ⟨rfl, rfl⟩⟩
        · have hr := hx.resolve_left (fun q => xn (C.1 x q).1)
          obtain ⟨i, rfl⟩ := Nat.le.dest (show aC p ≤ x by omega)
          have hi : i < L.length := by omega
          have lo : ∀ i (hi : i < L.length), L[i] = tOpen (tW (aF p a)) := fun i hi => List.eq_of_mem_replicate (by rw [← hL]; exact List.getElem_mem hi)
          refine Or.inr ?_
          rw [beN_n]
          have g1 : aF P (aC p + i) = tOpen (tW (aF p a)) := by rw [FP, up1_ne (by omega), app_at (List.getElem?_eq_getElem hi), lo i hi]
          have g2 : aF Q (aC q + i) = tOpen (tW (aF p a)) := by rw [FQ, up1_ne (by omega), app_at (List.getElem?_eq_getElem hi), lo i hi]
          refine ⟨by omega, by omega, by rw [g1]; exact a3, ?_⟩
          unfold TM
          rw [g1, g2]
          refine ⟨rfl, rfl, rfl, rfl, trivial, fun _ => trivial, fun hN => ?_⟩
          rcases hN with w | ⟨w, _⟩
          · exact absurd w (show ¬ (0 : Nat) = 6 by decide)
          · exact absurd w (show ¬ (0 : Nat) = 2 by decide)
      have Dc' : DmN Dm (aC p) L.length c := Or.inl Dc
      have ebc : beN be (aC p) (aC q) c = be c := beN_o c1
      refine ⟨DmN Dm (aC p) L.length, beN be (aC p) (aC q), h.mk' h1 Jp Jq E Ep Eq gq' htp htq hh l1 l2 (fun _ _ q => Or.inl q) (fun x hx q => ⟨q.resolve_right (by omega), beN_o hx⟩) C' (fun t ht => ?_) ?_ (h.dt.kg kP kQ)⟩
      · rcases List.mem_append.mp ht with q | q
        · exact tw_mt r1 Dc' t q
        · exact tw_mt r2 Dc' t q
      · rw [List.map_append, ew_app, ew_app, ew_mt r1 Dc', ew_mt r2 Dc', ebc]
  · -- it is data
    have k1 : tK (aF p a) = 1 := by omega
    obtain ⟨d1, d2, d3, d4⟩ := kd.2.2 k1
    have ht1 := hf k1
    have ep : metA fs (setK p lp) pt a c = push (setK p lp) (mt1 (kid1 pt) (tA (aF p a)) c ++ mt1 (kid2 pt) (tB (aF p a)) c) := (if_neg k0).trans (if_pos ht1)
    have eq : metA fs (setK q lq) pt b (be c) = push (setK q lq) (mt1 (kid1 pt) (tA (aF q b)) (be c) ++ mt1 (kid2 pt) (tB (aF q b)) (be c)) := (if_neg (by show ¬ tK (aF q b) = 0; omega)).trans (if_pos (d2.trans ht1))
    rw [ep, eq]
    refine ⟨Dm, be, L_lay h h1 Jp Jq E htp htq hh lvs_set.pu lvs_set.pu (kg_setK.tr kg_push) (kg_setK.tr kg_push) rfl rfl rfl rfl rfl rfl (fun t ht => ?_) ?_⟩
    · rcases List.mem_append.mp ht with q | q
      · exact tw_mt d3 Dc t q
      · exact tw_mt d4 Dc t q
    · rw [List.map_append, ew_app, ew_app, ew_mt d3 Dc, ew_mt d4 Dc]
