/-! A RUN WITHIN IS MADE AGAIN: uniting -/
def RcP (s : Ac) (b a : Nat) : Prop := tK (aF s b) = 1 ∧ ∃ w, Pa s b w ∧ Rc s w a
/-- what is reached is reached, things of others' being what they have become -/
theorem RR.rco {j : Nat} {Dm : Nat → Prop} {be : Nat → Nat} {p q : Ac} {rp rq : Nat → Nat} (C : SC j Dm be p q) (E : Ev p q) (gp : GR p rp) (gq : GR q rq) {a : Nat} (ha : ¬ Dm a) : ∀ (d x y : Nat), rp x < d → RR j Dm be p q x y → Rc p x a → Rc q y (root q a) := by
  intro d
  induction d with
  | zero => intro x y h1; omega
  | succ d ih =>
    intro x y h1 h hr
    have hl := gp.lt h.1
    have hle := gp.le h.1
    rcases hr.uncons with z | ⟨z1, u, z2, z3⟩
    · rcases h.rot C E gp gq with ⟨w, _⟩ | ⟨_, _, e⟩
      · rw [z] at ha
        exact absurd w ha
      · rw [z, ← e]
        exact Rc.self
    · obtain ⟨k1, _, k3, k4⟩ := (h.kd C E gp gq).2.2 z1
      have hv : ∃ v, Pa q (root q y) v ∧ RR j Dm be p q u v := by
        rcases z2 with w | w
        · obtain ⟨v, e1, e2⟩ := k3.sm.1 u w
          exact ⟨v, Or.inl e1, e2⟩
        · obtain ⟨v, e1, e2⟩ := k4.sm.1 u w
          exact ⟨v, Or.inr e1, e2⟩
      obtain ⟨v, v1, v2⟩ := hv
      have := (gp.pa hl (by omega) z2).2.1
      exact Rc.cons k1 v1 (ih u v (by omega) v2 z3)
theorem RcP.of {s : Ac} {y a : Nat} (h : Rc s y a) (hne : a ≠ root s y) : RcP s (root s y) a := by
  rcases h.uncons with z | ⟨z1, u, z2, z3⟩
  · exact absurd z hne
  · exact ⟨z1, u, z2, z3⟩
theorem Rc_st {s S : Ac} (e1 : aC S = aC s) (e2 : aF S = aF s) {y z : Nat} : Rc S y z ↔ Rc s y z := by
  have er : ∀ z, root S z = root s z := fun z => by unfold root; rw [e1, e2]
  unfold Rc
  rw [e2, er]
  refine ⟨fun ⟨n, p, p0, p1, p2⟩ => ⟨n, p, p0, p1, fun i hi => ?_⟩, fun ⟨n, p, p0, p1, p2⟩ => ⟨n, p, p0, p1, fun i hi => ?_⟩⟩
  · obtain ⟨r1, w', r2, r3⟩ := p2 i hi
    exact ⟨r1, w', r2, r3.trans (er _)⟩
  · obtain ⟨r1, w', r2, r3⟩ := p2 i hi
    exact ⟨r1, w', r2, r3.trans (er _).symm⟩
theorem Rc_rr {s : Ac} {y z : Nat} (e : root s (root s y) = root s y) : Rc s (root s y) z ↔ Rc s y z := by
  unfold Rc
  rw [e]
/-- a step that is done alike, but for things -/
def stp (p P : Ac) (lp : List Tk) : Prop := lvs p P lp [] ∧ kg p P ∧ aC P = aC p ∧ aF P = aF p ∧ aN P = aN p
theorem stp_step {p : Ac} {lp : List Tk} (h : aE (stepA (setK p lp)) = 0) : stp p (stepA (setK p lp)) lp := by
  have ek := stepA_k h
  refine ⟨lvs.step lvs_set, kg_setK.tr kg_step, ?_, ?_, ?_⟩ <;> rw [ek] <;> rfl
theorem L_lnk {fs : List Fn} {j : Nat} {Dm : Nat → Prop} {be : Nat → Nat} {p q P Q : Ac} {rp rq rq' : Nat → Nat} {tp tq : Tk} {lp lq : List Tk} {v w w' : Nat} (h : SYw j Dm be p q) (h1 : 1 ≤ j) (Jp : JR fs p rp) (Jq : JR fs q rq) (E : Ev p q)
  (htp : topK p = tp :: lp) (htq : topK q = tq :: lq) (hh : nw q (trx Dm be tp) = nw q tq) (sp : stp p P lp) (sq : stp q Q lq) (Dv : Dm v) (rw' : RR j Dm be p q w w')
  (Ep : Ev p (link P v w)) (Eq : Ev q (link Q (be v) w')) (gq' : GR (link Q (be v) w') rq') : SYw j Dm be (link P v w) (link Q (be v) w') := by
  obtain ⟨lvP, kP, p1, p2, p3⟩ := sp
  obtain ⟨lvQ, kQ, q1, q2, q3⟩ := sq
  have C' : SC j Dm be (link P v w) (link Q (be v) w') := h.1.1.lnk E Ep Eq Jp Jq gq' Dv rw' p1 (by rw [← p2]; rfl) p3 q1 (by rw [← q2]; rfl) q3
  exact h.mk' h1 Jp Jq E Ep Eq gq' htp htq hh (p' := link P v w) (q' := link Q (be v) w') lvP lvQ (fun _ _ q => q) (fun _ _ q => ⟨q, rfl⟩) C' (fun t ht => (List.not_mem_nil ht).elim) rfl (h.dt.kg kP kQ)
/-- how uniting goes on behind its step -/
noncomputable def uni (s : Ac) (a b u : Nat) : Ac := if tK (aF s a) = 0 then bindA s a b (tW (aF s u)) else if tK (aF s b) = 0 then bindA s b a (tW (aF s u)) else if tO (aF s a) = tO (aF s b) then push s (pairs 10 s a b u) else failA s (tW (aF s u))
theorem uniteA_f {s : Ac} {a b u : Nat} : uniteA s a b u = if a = b then s else if aE (stepA s) = 0 then uni (stepA s) a b u else stepA s := rfl
theorem L_uni {fs : List Fn} {j : Nat} {Dm : Nat → Prop} {be : Nat → Nat} {p q : Ac} {rp rq : Nat → Nat} {tp tq : Tk} {lp lq : List Tk} {x y u x' y' : Nat} (h : SYw j Dm be p q) (h1 : 1 ≤ j) (Jp : JR fs p rp) (Jq : JR fs q rq) (E : Ev p q)
  (htp : topK p = tp :: lp) (htq : topK q = tq :: lq) (hh : nw q (trx Dm be tp) = nw q tq) (Du : Dm u) (rx : RR j Dm be p q x x') (ry : RR j Dm be p q y y') (kx : tK (aF p (root p x)) < 2) (ky : tK (aF p (root p y)) < 2)
  (h0 : aE (uniteA (setK p lp) (root p x) (root p y) u) = 0) (h0' : aE (uniteA (setK q lq) (root q x') (root q y') (be u)) = 0) (Ep : Ev p (uniteA (setK p lp) (root p x) (root p y) u)) (Eq : Ev q (uniteA (setK q lq) (root q x') (root q y') (be u))) (gq' : ∃ rq', GR (uniteA (setK q lq) (root q x') (root q y') (be u)) rq') :
  SYw j Dm be (uniteA (setK p lp) (root p x) (root p y) u) (uniteA (setK q lq) (root q x') (root q y') (be u)) ∨
  (∃ P Q, stp p P lp ∧ stp q Q lq ∧ uniteA (setK p lp) (root p x) (root p y) u = failA P (tW (aF p u)) ∧ uniteA (setK q lq) (root q x') (root q y') (be u) = failA Q (tW (aF p u))) ∨
  (∃ P, stp p P lp ∧ uniteA (setK p lp) (root p x) (root p y) u = failA P (tW (aF p u)) ∧ (RcP q (root q y') (root q x') ∨ RcP q (root q x') (root q y'))) := by
  have C := h.1.1
  obtain ⟨u1, u2, u3, _, _, um, _⟩ := C.1 u Du
  have dx := rx.kd C E Jp.1 Jq.1
  have dy := ry.kd C E Jp.1 Jq.1
  obtain ⟨a, ha⟩ : ∃ a, a = root p x := ⟨_, rfl⟩
  obtain ⟨b, hb⟩ : ∃ b, b = root p y := ⟨_, rfl⟩
  obtain ⟨a', ha'⟩ : ∃ a, a = root q x' := ⟨_, rfl⟩
  obtain ⟨b', hb'⟩ : ∃ b, b = root q y' := ⟨_, rfl⟩
  have hsame : a = b → a' = b' := fun e => by
    rw [ha', hb']
    exact rx.same ry C E Jp.1 Jq.1 (by rw [← ha, ← hb]; exact e)
  have hap : a' = b' → (Dm a ∨ Dm b) → a = b := fun e hd => by
    rw [ha, hb]
    exact rx.apart ry C E Jp.1 Jq.1 (by rw [← ha', ← hb']; exact e) (by rw [← ha, ← hb]; exact hd)
  have rota := rx.rot C E Jp.1 Jq.1
  have rotb := ry.rot C E Jp.1 Jq.1
  have rra := rx.rr C E Jp.1 Jq.1
  have rrb := ry.rr C E Jp.1 Jq.1
  have al : a < aC p := by rw [ha]; exact Jp.1.lt rx.1
  have bl : b < aC p := by rw [hb]; exact Jp.1.lt ry.1
  have al' : a' < aC q := by rw [ha']; exact Jq.1.lt rx.2.1
  have bl' : b' < aC q := by rw [hb']; exact Jq.1.lt ry.2.1
  have rca : ∀ c, Dm c → (Rc p a c ↔ Rc q a' (be c)) := fun c dc => by
    rw [ha, ha']
    exact RR.rc C E Jp.1 Jq.1 dc _ _ _ (Nat.lt_succ_self _) rra
  have rcb : ∀ c, Dm c → (Rc p b c ↔ Rc q b' (be c)) := fun c dc => by
    rw [hb, hb']
    exact RR.rc C E Jp.1 Jq.1 dc _ _ _ (Nat.lt_succ_self _) rrb
  have oa : ∀ c, ¬ Dm c → Rc p a c → Rc q a' (root q c) := fun c dc hr => by
    rw [ha']
    rw [ha] at hr
    exact RR.rco C E Jp.1 Jq.1 dc _ _ _ (Nat.lt_succ_self _) rra hr
  have ob : ∀ c, ¬ Dm c → Rc p b c → Rc q b' (root q c) := fun c dc hr => by
    rw [hb']
    rw [hb] at hr
    exact RR.rco C E Jp.1 Jq.1 dc _ _ _ (Nat.lt_succ_self _) rrb hr
  have ra : root p a = a := by rw [ha]; exact Jp.1.rr rx.1
  have rb : root p b = b := by rw [hb]; exact Jp.1.rr ry.1
  have ra' : root q a' = a' := by rw [ha']; exact Jq.1.rr rx.2.1
  have rb' : root q b' = b' := by rw [hb']; exact Jq.1.rr ry.2.1
  have na' : tK (aF q a') ≠ 7 := by rw [ha']; exact Jq.1.n7 rx.2.1
  rw [← ha, ← ha'] at dx rota rra
  rw [← hb, ← hb'] at dy rotb rrb
  rw [← ha] at kx
  rw [← hb] at ky
  rw [← ha, ← hb] at h0 Ep ⊢
  rw [← ha', ← hb'] at h0' Eq gq' ⊢
  -- what is reached below another thing is lower
  have low : ∀ {c d : Nat}, c < aC q → tK (aF q c) ≠ 7 → RcP q c d → c ≠ d := fun {c d} hc h7 hr e => by
    obtain ⟨_, w, w1, w2⟩ := hr
    obtain ⟨g1, g2, _⟩ := Jq.1.pa hc h7 w1
    have := (Rc.lt Jq.1 g1 w2).2.1
    rw [e] at g2
    omega
  rw [uniteA_f] at h0 h0' Ep Eq gq' ⊢
  rw [uniteA_f]
  by_cases e : a = b
  · rw [if_pos e, if_pos (hsame e)]
    exact Or.inl (L_lay (np := []) (nq := []) h h1 Jp Jq E htp htq hh lvs_set lvs_set kg_setK kg_setK rfl rfl rfl rfl rfl rfl (fun t ht => (List.not_mem_nil ht).elim) rfl)
  · rw [if_neg e] at h0 Ep ⊢
    by_cases es : aE (stepA (setK p lp)) = 0
    · rw [if_pos es] at h0 Ep ⊢
      have sp := stp_step es
      obtain ⟨P, hP⟩ : ∃ P, P = stepA (setK p lp) := ⟨_, rfl⟩
      rw [← hP] at h0 Ep sp ⊢
      obtain ⟨lvP, kP, p1, p2, p3⟩ := id sp
      -- the hole: what is unbound and no own thing is within what it shall be
      have holeA : ¬ Dm a → Rc p b a → RcP q b' a' := fun da hr => by
        have hr2 := RcP.of (s := p) (y := b) hr (by rw [rb]; exact e)
        rw [rb] at hr2
        obtain ⟨k1, w, w1, w2⟩ := hr2
        have := ob a da hr
        have ea : root q a = a' := by
          rcases rota with ⟨v, _⟩ | ⟨_, _, v⟩
          · exact absurd v da
          · exact v.symm
        rw [ea] at this
        obtain ⟨kk1, _, kk3, kk4⟩ := dy.2.2 k1
        have hv : ∃ v, Pa q b' v ∧ RR j Dm be p q w v := by
          rcases w1 with z | z
          · obtain ⟨v, e1, e2⟩ := kk3.sm.1 w z
            exact ⟨v, Or.inl e1, e2⟩
          · obtain ⟨v, e1, e2⟩ := kk4.sm.1 w z
            exact ⟨v, Or.inr e1, e2⟩
        obtain ⟨v, v1, v2⟩ := hv
        refine ⟨kk1, v, v1, ?_⟩
        rw [← ea]
        exact RR.rco C E Jp.1 Jq.1 da _ _ _ (Nat.lt_succ_self _) v2 w2
      have holeB : ¬ Dm b → Rc p a b → RcP q a' b' := fun db hr => by
        have hr2 := RcP.of (s := p) (y := a) hr (by rw [ra]; exact fun q => e q.symm)
        rw [ra] at hr2
        obtain ⟨k1, w, w1, w2⟩ := hr2
        have eb : root q b = b' := by
          rcases rotb with ⟨v, _⟩ | ⟨_, _, v⟩
          · exact absurd v db
          · exact v.symm
        obtain ⟨kk1, _, kk3, kk4⟩ := dx.2.2 k1
        have hv : ∃ v, Pa q a' v ∧ RR j Dm be p q w v := by
          rcases w1 with z | z
          · obtain ⟨v, e1, e2⟩ := kk3.sm.1 w z
            exact ⟨v, Or.inl e1, e2⟩
          · obtain ⟨v, e1, e2⟩ := kk4.sm.1 w z
            exact ⟨v, Or.inr e1, e2⟩
        obtain ⟨v, v1, v2⟩ := hv
        refine ⟨kk1, v, v1, ?_⟩
        rw [← eb]
        exact RR.rco C E Jp.1 Jq.1 db _ _ _ (Nat.lt_succ_self _) v2 w2
      have eP : uni P a b u = if tK (aF p a) = 0 then bindA P a b (tW (aF p u)) else if tK (aF p b) = 0 then bindA P b a (tW (aF p u)) else if tO (aF p a) = tO (aF p b) then push P (pairs 10 P a b u) else failA P (tW (aF p u)) := by
        unfold uni
        rw [p2]
      rw [eP] at h0 Ep ⊢
      have bPf : ∀ v w, Rc p w v → bindA P v w (tW (aF p u)) = failA P (tW (aF p u)) := fun v w c => by
        unfold bindA
        rw [if_pos ((Rc_st p1 p2).mpr c)]
      have bPn : ∀ v w, ¬ Rc p w v → bindA P v w (tW (aF p u)) = if tW (aF p v) = tW (aF p u) then link P v w else if tK (aF p w) = 0 ∧ tW (aF p w) = tW (aF p u) then link P w v else sE P 3 := fun v w c => by
        unfold bindA
        rw [if_neg (fun z => c ((Rc_st p1 p2).mp z)), p2]
      -- p fails, with no hole behind: q's things are apart
      have apq : (¬ a' = b') ∨ (∃ P, stp p P lp ∧ (if tK (aF p a) = 0 then bindA P a b (tW (aF p u)) else if tK (aF p b) = 0 then bindA P b a (tW (aF p u)) else if tO (aF p a) = tO (aF p b) then push P (pairs 10 P a b u) else failA P (tW (aF p u))) = failA P (tW (aF p u)) ∧ False) := by
        refine Or.inl (fun q => ?_)
        by_cases w : Dm a ∨ Dm b
        · exact e (hap q w)
        · have da : ¬ Dm a := fun z => w (Or.inl z)
          have db : ¬ Dm b := fun z => w (Or.inr z)
          have wa : tW (aF p a) < j := by
            rcases rota with ⟨v, _⟩ | ⟨_, v, _⟩
            · exact absurd v da
            · exact v
          have wb : tW (aF p b) < j := by
            rcases rotb with ⟨v, _⟩ | ⟨_, v, _⟩
            · exact absurd v db
            · exact v
          by_cases k0 : tK (aF p a) = 0
          · rw [if_pos k0] at h0
            by_cases w1 : Rc p b a
            · have := holeA da w1
              exact low bl' (by rw [this.1]; decide) this q.symm
            · rw [bPn _ _ w1, if_neg (by omega), if_neg (by omega)] at h0
              exact absurd h0 (show ¬ (3 : Nat) = 0 by decide)
          · rw [if_neg k0] at h0
            by_cases k1 : tK (aF p b) = 0
            · rw [if_pos k1] at h0
              by_cases w1 : Rc p a b
              · have := holeB db w1
                exact low al' (by rw [this.1]; decide) this q
              · rw [bPn _ _ w1, if_neg (by omega), if_neg (by omega)] at h0
                exact absurd h0 (show ¬ (3 : Nat) = 0 by decide)
            · have za := (E.2 a al).2.2.1 (by omega)
              have zb := (E.2 b bl).2.2.1 (by omega)
              have va : a' = a := by
                rcases rota with ⟨v, _⟩ | ⟨_, _, v⟩
                · exact absurd v da
                · rw [v]
                  exact root_no (by omega)
              have vb : b' = b := by
                rcases rotb with ⟨v, _⟩ | ⟨_, _, v⟩
                · exact absurd v db
                · rw [v]
                  exact root_no (by omega)
              exact e (by rw [← va, ← vb, q])
      have e' : ¬ a' = b' := apq.elim id (fun ⟨_, _, _, z⟩ => z.elim)
      rw [if_neg e'] at h0' Eq gq' ⊢
      by_cases es' : aE (stepA (setK q lq)) = 0
      · rw [if_pos es'] at h0' Eq gq' ⊢
        have sq := stp_step es'
        obtain ⟨Q, hQ⟩ : ∃ Q, Q = stepA (setK q lq) := ⟨_, rfl⟩
        rw [← hQ] at h0' Eq gq' sq ⊢
        obtain ⟨lvQ, kQ, q1, q2, q3⟩ := id sq
        have eQ : uni Q a' b' (be u) = if tK (aF q a') = 0 then bindA Q a' b' (tW (aF p u)) else if tK (aF q b') = 0 then bindA Q b' a' (tW (aF p u)) else if tO (aF q a') = tO (aF q b') then push Q (pairs 10 Q a' b' (be u)) else failA Q (tW (aF p u)) := by
          unfold uni
          rw [q2, um]
        rw [eQ] at h0' Eq gq' ⊢
        have bQf : ∀ v w, Rc q w v → bindA Q v w (tW (aF p u)) = failA Q (tW (aF p u)) := fun v w c => by
          unfold bindA
          rw [if_pos ((Rc_st q1 q2).mpr c)]
        have bQn : ∀ v w, ¬ Rc q w v → bindA Q v w (tW (aF p u)) = if tW (aF q v) = tW (aF p u) then link Q v w else if tK (aF q w) = 0 ∧ tW (aF q w) = tW (aF p u) then link Q w v else sE Q 3 := fun v w c => by
          unfold bindA
          rw [if_neg (fun z => c ((Rc_st q1 q2).mp z)), q2]
        obtain ⟨rq', gq'⟩ := gq'
        by_cases k0 : tK (aF p a) = 0
        · rw [if_pos k0] at h0 Ep ⊢
          by_cases w1 : Rc p b a
          · rw [bPf _ _ w1] at h0 Ep ⊢
            by_cases da : Dm a
            · have ea : a' = be a := by
                rcases rota with ⟨_, v⟩ | ⟨v, _⟩
                · exact v
                · exact absurd da v
              have ka : tK (aF q a') = 0 := (dx.1 da).trans k0
              have rq1 : Rc q b' a' := by
                rw [ea]
                exact (rcb a da).mp w1
              refine Or.inr (Or.inl ⟨P, Q, sp, sq, rfl, ?_⟩)
              rw [if_pos ka, bQf _ _ rq1]
            · exact Or.inr (Or.inr ⟨P, sp, rfl, Or.inl (holeA da w1)⟩)
          · rw [bPn _ _ w1] at h0 Ep ⊢
            by_cases w2 : tW (aF p a) = tW (aF p u)
            · rw [if_pos w2] at h0 Ep ⊢
              obtain ⟨da, ea⟩ : Dm a ∧ a' = be a := by
                rcases rota with v | ⟨_, v, _⟩
                · exact v
                · omega
              have ka : tK (aF q a') = 0 := (dx.1 da).trans k0
              have rq1 : ¬ Rc q b' a' := fun z => w1 ((rcb a da).mpr (by rw [← ea]; exact z))
              have wa : tW (aF q a') = tW (aF p u) := by
                obtain ⟨_, _, _, _, _, v, _⟩ := C.1 a da
                rw [ea, v]
                exact w2
              rw [if_pos ka, bQn _ _ rq1, if_pos wa] at h0' Eq gq' ⊢
              rw [ea] at Eq gq' ⊢
              exact Or.inl (L_lnk h h1 Jp Jq E htp htq hh sp sq da rrb Ep Eq gq')
            · rw [if_neg w2] at h0 Ep ⊢
              by_cases w3 : tK (aF p b) = 0 ∧ tW (aF p b) = tW (aF p u)
              · rw [if_pos w3] at h0 Ep ⊢
                obtain ⟨db, eb⟩ : Dm b ∧ b' = be b := by
                  rcases rotb with v | ⟨_, v, _⟩
                  · exact v
                  · omega
                have kb : tK (aF q b') = 0 := (dy.1 db).trans w3.1
                have wb : tW (aF q b') = tW (aF p u) := by
                  obtain ⟨_, _, _, _, _, v, _⟩ := C.1 b db
                  rw [eb, v]
                  exact w3.2
                have nr : ¬ Rc q b' a' := fun z => by
                  rcases z.uncons with v | ⟨v, _⟩
                  · rw [rb'] at v
                    exact e' v
                  · rw [rb'] at v
                    omega
                have key : (if tK (aF q a') = 0 then bindA Q a' b' (tW (aF p u)) else if tK (aF q b') = 0 then bindA Q b' a' (tW (aF p u)) else if tO (aF q a') = tO (aF q b') then push Q (pairs 10 Q a' b' (be u)) else failA Q (tW (aF p u))) = link Q b' a' := by
                  by_cases ka : tK (aF q a') = 0
                  · rw [if_pos ka, bQn _ _ nr]
                    have wa : ¬ tW (aF q a') = tW (aF p u) := fun z => by
                      rcases rota with ⟨v, v2⟩ | ⟨v, v2, v3⟩
                      · obtain ⟨_, _, _, _, _, v4, _⟩ := C.1 a v
                        rw [v2, v4] at z
                        exact w2 z
                      · have := SC.kq (j := j) (Dm := Dm) (be := be) E Jq.1 al v2
                        rw [← v3] at this
                        omega
                    rw [if_neg wa, if_pos ⟨kb, wb⟩]
                  · have da : ¬ Dm a := fun v => ka ((dx.1 v).trans k0)
                    have wa : tW (aF q a') < j := by
                      rcases rota with ⟨v, _⟩ | ⟨v, v2, v3⟩
                      · exact absurd v da
                      · have := SC.kq (j := j) (Dm := Dm) (be := be) E Jq.1 al v2
                        rw [← v3] at this
                        exact this
                    have nr2 : ¬ Rc q a' b' := fun z => by
                      have := (Rc.lt Jq.1 al' z).2.2
                      omega
                    rw [if_neg ka, if_pos kb, bQn _ _ nr2, if_pos wb]
                rw [key] at h0' Eq gq' ⊢
                rw [eb] at Eq gq' ⊢
                exact Or.inl (L_lnk h h1 Jp Jq E htp htq hh sp sq db rra Ep Eq gq')
              · rw [if_neg w3] at h0
                exact absurd h0 (show ¬ (3 : Nat) = 0 by decide)
        · rw [if_neg k0] at h0 Ep ⊢
          have ka1 : tK (aF p a) = 1 := by omega
          obtain ⟨x1, x2, x3, x4⟩ := dx.2.2 ka1
          have ka' : ¬ tK (aF q a') = 0 := by omega
          by_cases k1 : tK (aF p b) = 0
          · rw [if_pos k1] at h0 Ep ⊢
            by_cases w1 : Rc p a b
            · rw [bPf _ _ w1] at h0 Ep ⊢
              by_cases db : Dm b
              · have eb : b' = be b := by
                  rcases rotb with ⟨_, v⟩ | ⟨v, _⟩
                  · exact v
                  · exact absurd db v
                have kb : tK (aF q b') = 0 := (dy.1 db).trans k1
                have rq1 : Rc q a' b' := by
                  rw [eb]
                  exact (rca b db).mp w1
                refine Or.inr (Or.inl ⟨P, Q, sp, sq, rfl, ?_⟩)
                rw [if_neg ka', if_pos kb, bQf _ _ rq1]
              · exact Or.inr (Or.inr ⟨P, sp, rfl, Or.inr (holeB db w1)⟩)
            · rw [bPn _ _ w1] at h0 Ep ⊢
              by_cases w2 : tW (aF p b) = tW (aF p u)
              · rw [if_pos w2] at h0 Ep ⊢
                obtain ⟨db, eb⟩ : Dm b ∧ b' = be b := by
                  rcases rotb with v | ⟨_, v, _⟩
                  · exact v
                  · omega
                have kb : tK (aF q b') = 0 := (dy.1 db).trans k1
                have rq1 : ¬ Rc q a' b' := fun z => w1 ((rca b db).mpr (by rw [← eb]; exact z))
                have wb : tW (aF q b') = tW (aF p u) := by
                  obtain ⟨_, _, _, _, _, v, _⟩ := C.1 b db
                  rw [eb, v]
                  exact w2
                rw [if_neg ka', if_pos kb, bQn _ _ rq1, if_pos wb] at h0' Eq gq' ⊢
                rw [eb] at Eq gq' ⊢
                exact Or.inl (L_lnk h h1 Jp Jq E htp htq hh sp sq db rra Ep Eq gq')
              · rw [if_neg w2, if_neg (by omega)] at h0
                exact absurd h0 (show ¬ (3 : Nat) = 0 by decide)
          · rw [if_neg k1] at h0 Ep ⊢
            obtain ⟨y1, y2, y3, y4⟩ := dy.2.2 (by omega)
            have kb' : ¬ tK (aF q b') = 0 := by omega
            rw [if_neg ka', if_neg kb'] at h0' Eq gq' ⊢
            by_cases ko : tO (aF p a) = tO (aF p b)
            · rw [if_pos ko] at h0 Ep ⊢
              rw [if_pos (by rw [x2, y2]; exact ko)] at h0' Eq gq' ⊢
              obtain ⟨z1, z2⟩ := ew_pr (a := a) (b := b) (a' := a') (b' := b') (Or.inl rfl) Du p2 q2 x3 x4 y3 y4
              exact Or.inl (L_lay h h1 Jp Jq E htp htq hh lvP.pu lvQ.pu (kP.tr kg_push) (kQ.tr kg_push) p1 p2 p3 q1 q2 q3 z2 z1)
            · rw [if_neg ko] at h0 Ep ⊢
              rw [if_neg (by rw [x2, y2]; exact ko)] at h0' Eq gq' ⊢
              exact Or.inr (Or.inl ⟨P, Q, sp, sq, rfl, rfl⟩)
      · rw [if_neg es'] at h0'
        exact absurd h0' es'
    · rw [if_neg es] at h0
      exact absurd h0 es
