/-- a whole tree is laid -/
theorem x_tree {nf : Nat} {fp : Nat → Nat} {nds : List Tr} {e n : Nat} {v2 : Int32} (hnf : nf ≤ 8) (he : 714 ≤ e) (hn : n ≤ 12) {t : Tr} (hw : twf nf fp t) : ∀ (lo ly hi i : Nat) (m : Mm) (K : Option Value ⊕ String → Mm → Prop), St m → CN m nds → isExp m e n → mS m (e + 7) = (13, n) → hi < n → hi + 1 = lo + tsz t → mI m (e + 7) hi = nn i → nds[i]? = some t → mI m (e + 6) hi = nn ly →
    (∀ m', Fr (Rg e lo hi) m m' → Pc m' e t lo ly → V m0_init 104 [some (.ref e), some (.ref 1), some (.int v2), some (.ref (e + 7)), some (.int (nn lo + -1)), none, none, none] [] m' K) →
    V m0_init 104 [some (.ref e), some (.ref 1), some (.int v2), some (.ref (e + 7)), some (.int (nn hi)), none, none, none] [] m K := by
  have ext : ∀ {m m1 : Mm} {lo hi : Nat}, Fr (Rg e lo hi) m m1 → CN m nds → isExp m e n → mS m (e + 7) = (13, n) → CN m1 nds ∧ isExp m1 e n ∧ mS m1 (e + 7) = (13, n) := by
    intro m m1 lo hi f hc hx hs
    refine ⟨hc.fr f (fun a j q => by unfold Rg at q; omega), ?_, ?_⟩
    · unfold isExp
      rw [f.s, f.r]
      exact hx
    · rw [f.s]
      exact hs
  refine tr_ind (nf := nf) (fp := fp) (P := fun t => ∀ (lo ly hi i : Nat) (m : Mm) (K : Option Value ⊕ String → Mm → Prop), St m → CN m nds → isExp m e n → mS m (e + 7) = (13, n) → hi < n → hi + 1 = lo + tsz t → mI m (e + 7) hi = nn i → nds[i]? = some t → mI m (e + 6) hi = nn ly →
    (∀ m', Fr (Rg e lo hi) m m' → Pc m' e t lo ly → V m0_init 104 [some (.ref e), some (.ref 1), some (.int v2), some (.ref (e + 7)), some (.int (nn lo + -1)), none, none, none] [] m' K) →
    V m0_init 104 [some (.ref e), some (.ref 1), some (.int v2), some (.ref (e + 7)), some (.int (nn hi)), none, none, none] [] m K) ?_ ?_ ?_ (tsz t) t (Nat.le_refl _) hw
  · intro c q1 q2 lo ly hi i m K hm hc hx hs hhi hlo h1 h2 h3 hK
    refine x_root hnf (twf_lf.mpr ⟨q1, q2⟩) hm hc he hx hs hn hhi hlo h1 h2 h3 (fun m1 f nd _ _ => ?_)
    rw [tsz_lf] at hlo
    have e1 : lo = hi := by omega
    subst e1
    exact hK m1 f (Pc_lf.mpr nd)
  · intro c a q1 q2 qa ih lo ly hi i m K hm hc hx hs hhi hlo h1 h2 h3 hK
    obtain ⟨n1, n2, n3, n4, n5, n6⟩ := hc.2.2 i _ h2
    obtain ⟨j, hj1, hj2, hj3⟩ := n3
    have hpa := tsz_pos qa
    refine x_root hnf (twf_un.mpr ⟨q1, q2, qa⟩) hm hc he hx hs hn hhi hlo h1 h2 h3 (fun m1 f nd _ r1 => ?_)
    obtain ⟨r2, r3⟩ := r1 rfl
    rw [tsz_un] at hlo
    obtain ⟨c1, x1, s1⟩ := ext f hc hx hs
    have e0 : hi - 1 - szo (kid2 (tun c a)) = hi - 1 := rfl
    rw [e0] at r2 r3
    rw [nn_prd (by omega)]
    refine ih lo _ (hi - 1) _ m1 K (f.st hm) c1 x1 s1 (by omega) (by omega) (r2.trans hj2) hj3 r3 (fun m2 f2 p2 => ?_)
    refine hK m2 (f.trans (f2.mono (fun a j q => by unfold Rg at *; omega))) (Pc_un.mpr ⟨?_, p2⟩)
    have e1 : lo + tsz a = hi := by omega
    rw [e1]
    refine Nd.eq (m := m1) nd (fun k k1 k2 => f2.i (by unfold Rg; omega))
  · intro c a b q1 q2 qa qb iha ihb lo ly hi i m K hm hc hx hs hhi hlo h1 h2 h3 hK
    obtain ⟨n1, n2, n3, n4, n5, n6⟩ := hc.2.2 i _ h2
    obtain ⟨j, hj1, hj2, hj3⟩ := n3
    obtain ⟨jb, hb1, hb2, hb3⟩ := n4
    have hpa := tsz_pos qa
    have hpb := tsz_pos qb
    refine x_root hnf (twf_bi.mpr ⟨q1, q2, qa, qb⟩) hm hc he hx hs hn hhi hlo h1 h2 h3 (fun m1 f nd rb r1 => ?_)
    obtain ⟨r2, r3⟩ := r1 rfl
    obtain ⟨b2, b3⟩ := rb rfl
    rw [tsz_bi] at hlo
    obtain ⟨c1, x1, s1⟩ := ext f hc hx hs
    have e0 : hi - 1 - szo (kid2 (tbi c a b)) = lo + tsz a - 1 := by
      show hi - 1 - tsz b = _
      omega
    rw [e0] at r2 r3 nd
    rw [nn_prd (by omega)]
    refine ihb (lo + tsz a) _ (hi - 1) _ m1 K (f.st hm) c1 x1 s1 (by omega) (by omega) (b2.trans hb2) hb3 b3 (fun m2 f2 p2 => ?_)
    obtain ⟨c2, x2, s2⟩ := ext f2 c1 x1 s1
    rw [nn_prd (by omega)]
    refine iha lo _ (lo + tsz a - 1) _ m2 K (f2.st (f.st hm)) c2 x2 s2 (by omega) (by omega) ((f2.i (by unfold Rg; omega)).trans (r2.trans hj2)) hj3 ((f2.i (by unfold Rg; omega)).trans r3) (fun m3 f3 p3 => ?_)
    refine hK m3 ((f.trans (f2.mono (fun a j q => by unfold Rg at *; omega))).trans (f3.mono (fun a j q => by unfold Rg at *; omega))) (Pc_bi.mpr ⟨?_, p3, ?_⟩)
    · have e1 : lo + tsz a + tsz b = hi := by omega
      rw [e1, show hi - 1 = hi - 1 from rfl]
      refine Nd.eq (m := m1) nd (fun k k1 k2 => ?_)
      rw [f3.i (by unfold Rg; omega), f2.i (by unfold Rg; omega)]
    · exact p2.eq qb (fun k j k1 k2 j1 j2 => f3.i (by unfold Rg; omega))
/-- an expression object that holds a tree -/
def ExpT (m : Mm) (e : Nat) (t : Tr) : Prop := 714 ≤ e ∧ e + 8 ≤ mN m ∧ isExp m e (tsz t) ∧ mI m e 0 = nn (tsz t) ∧ Pc m e t 0 0
