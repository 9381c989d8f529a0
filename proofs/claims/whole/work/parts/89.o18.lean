/-! A RUN WITHIN IS MADE AGAIN: while the later run unites in vain -/
def DWn (j o : Nat) (Dm : Nat → Prop) (be : Nat → Nat) (p q : Ac) : Prop := SC j Dm be p q ∧ (∀ a, Dm a → tW (aF p a) < o) ∧ (∀ k, j ≤ k → k < o → SVl j Dm be p q k) ∧ j < o ∧ o ≤ aL p ∧ o ≤ aL q ∧ (Dm (lX (aV p o)) ∧ lX (aV q o) = be (lX (aV p o))) ∧ lU (aV q o) = lU (aV p o) ∧ lD (aV q o) = lD (aV p o) ∧ DMx q o
theorem SVl.cut {fs : List Fn} {j o k : Nat} {Dm : Nat → Prop} {be : Nat → Nat} {p q : Ac} {rp rq : Nat → Nat} (h : SVl j Dm be p q k) (C : SC j Dm be p q) (h1 : 1 ≤ j) (hj : j ≤ k) (Jp : JR fs p rp) (Jq : JR fs q rq) (E : Ev p q) (hk : k < o) (hp : k ≤ aL p) (hq : k ≤ aL q) : SVl j (fun x => Dm x ∧ tW (aF p x) < o) be p q k := by
  obtain ⟨a1, a2, a3⟩ := Jp.lev hp
  obtain ⟨b1, _, _⟩ := Jq.lev hq
  exact h.keep C E (Ev.same (Nat.le_refl _) (fun _ _ => rfl)) (Ev.same (Nat.le_refl _) (fun _ _ => rfl)) Jq.1 Jq.1 a1 (fun t ht q => (a2 t ht q).2) (fun t ht y hy => (b1 t ht y hy).1) (a3 (by omega)) (fun x hx q hw => ⟨q, by omega⟩) (fun x hx q => ⟨q.1, rfl⟩) rfl rfl rfl rfl h.2.2.1 (fun hk => (h.2.2.2.1 hk).2.2)
theorem DWn.of {fs : List Fn} {j : Nat} {Dm : Nat → Prop} {be : Nat → Nat} {p q P' : Ac} {rp rq : Nat → Nat} {tq : Tk} {lp lq : List Tk} (h : SYw j Dm be p q) (h1 : 1 ≤ j) (Jp : JR fs p rp) (Jq : JR fs q rq) (E : Ev p q) (htq : topK q = tq :: lq) (hD : Doom j p q tq lp P') : ∃ o P Dm', DWn j o Dm' be p q ∧ stp p P lp ∧ P' = failA P o := by
  obtain ⟨P, o, sp, d1, d2, d3, d4, d5, d6⟩ := hD
  obtain ⟨⟨C, hl⟩, e1, e2⟩ := h
  have sl := hl o (by omega) (by omega)
  obtain ⟨x1, x2, x3, x4⟩ := sl.2.2.2.1 d1
  have hX := (Jp.2.2.2.2 o (by omega) d2)
  refine ⟨o, P, fun x => Dm x ∧ tW (aF p x) < o, ⟨?_, fun a ha => ha.2, fun k k1 k2 => (hl k k1 (by omega)).cut C h1 k1 Jp Jq E k2 (by omega) (by omega), d1, d2, by omega, ⟨⟨x1, hX.2.2.1⟩, x2⟩, x3, sl.2.2.1, ?_⟩, sp, d3⟩
  · have Ei : Ev p p := Ev.same (Nat.le_refl _) (fun _ _ => rfl)
    have Ej : Ev q q := Ev.same (Nat.le_refl _) (fun _ _ => rfl)
    refine C.step (Dm' := fun x => Dm x ∧ tW (aF p x) < o) (be' := be) E Ei Ej Jp.1 Jq.1 Jq.1 (fun x _ q => ⟨q.1, rfl⟩) (fun a x _ ha hx hw => ⟨hx, by have := ha.2; omega⟩) (fun a ha => ?_) (fun a a' ha ha' e => C.2 a a' ha.1 ha'.1 e)
    exact Or.inl ⟨(C.1 a ha.1).1, rfl, rfl, fun _ => ⟨rfl, rfl⟩⟩
  · obtain ⟨k, x, y, u, pt⟩ := tq
    have d4 : k = 10 := d4
    subst d4
    have d5 : tW (aF q u) = o := d5
    rw [← d5]
    exact DMx.of Jq htq d6
theorem DWn.go {fs : List Fn} {j o : Nat} {Dm : Nat → Prop} {be : Nat → Nat} {p q : Ac} {rp : Nat → Nat} (hf : PW fs [] none) (h : DWn j o Dm be p q) (h1 : 1 ≤ j) (Jp : JR fs p rp) (Aq : AA fs q) (E : Ev p q) (hE : aE q = 0) (hW : WR2 fs q) (h0 : aE (goX (doA fs) q) = 0) (E' : Ev p (goX (doA fs) q)) : (DWn j o Dm be p (goX (doA fs) q) ∧ ∀ k, lG (aV (goX (doA fs) q) k) = lG (aV q k)) ∨ ∃ Q lq, stp q Q lq ∧ goX (doA fs) q = failA Q o := by
  obtain ⟨C, hb, hl, hj, hop, hoq, hx, hU, hD, hM⟩ := h
  obtain ⟨Aq', Eq⟩ := Aq.go hf hE hW h0
  obtain ⟨⟨⟨rq, Jq⟩, _⟩, _⟩ := id Aq
  obtain ⟨⟨⟨rq', Jq'⟩, _⟩, _⟩ := id Aq'
  obtain ⟨t, l, ht, t10, hh⟩ := hM.go Aq hE h0
  rcases hh with ⟨new, lv, kk, eN, eC, eF, hM'⟩ | ⟨Q, sq, e⟩
  · obtain ⟨Q, hQ⟩ : ∃ Q, Q = goX (doA fs) q := ⟨_, rfl⟩
    rw [← hQ] at lv kk eN eC eF hM' Eq E' ⊢
    have Jq' : GR Q rq' := by rw [hQ]; exact Jq'.1
    have Ei : Ev p p := Ev.same (Nat.le_refl _) (fun _ _ => rfl)
    have C' : SC j Dm be p Q := by
      refine C.step E Ei Eq Jp.1 Jq.1 Jq' (fun x _ q => ⟨q, rfl⟩) (fun _ x _ _ q _ => q) (fun a ha => ?_) C.2
      obtain ⟨a1, a2, a3, b1, b2, b3, _⟩ := C.1 a ha
      have := hb a ha
      exact Or.inl ⟨a1, rfl, eF _ a2 (by omega), fun _ => by rw [eN]; exact ⟨rfl, rfl⟩⟩
    refine Or.inl ⟨⟨C', hb, fun k k1 k2 => ?_, hj, hop, by rw [lv.1]; exact hoq, ⟨hx.1, by rw [lv.2.1]; exact hx.2⟩, by rw [(kk.2 o).1]; exact hU, by rw [(kk.2 o).2.1]; exact hD, hM'⟩, fun k => (kk.2 k).2.2⟩
    obtain ⟨a1, a2, a3⟩ := Jp.lev (k := k) (by omega)
    obtain ⟨b1, _, _⟩ := Jq.lev (k := k) (by omega)
    have sl := hl k k1 k2
    exact sl.keep C E Ei Eq Jq.1 Jq' a1 (fun t ht q => (a2 t ht q).2) (fun t ht y hy => (b1 t ht y hy).1) (a3 (by omega)) (fun x hx q hw => q) (fun x hx q => ⟨q, rfl⟩) rfl (lv.2.2.1 k (by omega)) rfl (lv.2.1 k) (by rw [(kk.2 k).2.1]; exact sl.2.2.1) (fun hk => by rw [(kk.2 k).1, (kk.2 k).2.2]; exact (sl.2.2.2.1 hk).2.2)
  · exact Or.inr ⟨Q, l, sq, e⟩
theorem DWn.end {fs : List Fn} {j o : Nat} {Dm : Nat → Prop} {be : Nat → Nat} {p q P Q : Ac} {rp rq rq' : Nat → Nat} {lp lq : List Tk} (h : DWn j o Dm be p q) (h1 : 1 ≤ j) (Jp : JR fs p rp) (Jq : JR fs q rq) (E : Ev p q) (sp : stp p P lp) (sq : stp q Q lq)
  (h0 : aE (failA P o) = 0) (h0' : aE (failA Q o) = 0) (Ep : Ev p (failA P o)) (Eq : Ev q (failA Q o)) (gq' : GR (failA Q o) rq') : SYw j Dm be (failA P o) (failA Q o) := by
  obtain ⟨C, hb, hl, hj, hop, hoq, hx, hU, hD, hM⟩ := h
  exact L_fail C hl h1 hj Jp Jq E (sp.q hop) (sq.q hoq) hop hoq hx hU hD h0 h0' Ep Eq gq'
