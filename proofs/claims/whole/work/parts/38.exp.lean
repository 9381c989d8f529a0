/-! EXPRESSIONS, IN THE CLASS: a piece for each node, its root last -/
theorem V.weak {y : Mi} {pc : Nat} {L L' : List (Option Value)} {st : List Value} {m : Mm} {K : Option Value ⊕ String → Mm → Prop} (hl : L'.length = L.length) (h : ∀ (i : Nat) (v : Value), L'[i]? = some (some v) → L[i]? = some (some v)) (k : V y pc L' st m K) : V y pc L st m K := by
  refine V.lift (fun o m' w => ?_) k
  obtain ⟨h1, h2, h3, h4⟩ := w
  refine ⟨h1, h2, h3, ?_⟩
  intro D dA A ad ad0 n0 p l e R s mid args below meth c H locs cells slots ls X Y ha hn hl0 hL oL oS hc hz
  exact h4 D dA A ad ad0 n0 p l e R s mid args below meth c H locs cells slots ls X Y ha hn ⟨by rw [hl0.1, hl], hl0.2.1, fun i v q => hl0.2.2 i v (h i v q)⟩ (by rw [hl, hL]) (fun i v q => oL i v (h i v q)) oS hc hz
theorem V.drop3 {y : Mi} {pc : Nat} {a b c d e : Option Value} {x1 x2 x3 : Option Value} {m : Mm} {K : Option Value ⊕ String → Mm → Prop} (k : V y pc [a, b, c, d, e, none, none, none] [] m K) : V y pc [a, b, c, d, e, x1, x2, x3] [] m K := by
  refine V.weak (L' := [a, b, c, d, e, none, none, none]) rfl (fun i v q => ?_) k
  rcases i with _ | _ | _ | _ | _ | _ | _ | _ | i
  all_goals first | exact q | cases q
def Nd (m : Mm) (e r c lo ly : Nat) (l rr : Int32) : Prop := mI m (e + 1) r = nn (ctg c) ∧ mI m (e + 2) r = nn (cwh c) ∧ mI m (e + 3) r = l ∧ mI m (e + 4) r = rr ∧ mI m (e + 5) r = nn lo ∧ mI m (e + 6) r = nn ly
def lyr (c ly : Nat) : Nat := if c = 33 then ly + 1 else ly
/-- the rows of e hold this tree from lo on, ly SOMEs being around it -/
def Pc (m : Mm) (e : Nat) : Tr → Nat → Nat → Prop
  | .tag c .nil, lo, ly => Nd m e lo c lo ly (-1) (-1)
  | .tag c (.nest _ a), lo, ly => Nd m e (lo + tsz a) c lo ly (nn (lo + tsz a - 1)) (-1) ∧ Pc m e a lo (lyr c ly)
  | .tag c (.append a b), lo, ly => Nd m e (lo + tsz a + tsz b) c lo ly (nn (lo + tsz a - 1)) (nn (lo + tsz a + tsz b - 1)) ∧ Pc m e a lo (lyr c ly) ∧ Pc m e b (lo + tsz a) (lyr c ly)
  | _, _, _ => False
theorem Pc_lf {m : Mm} {e c lo ly : Nat} : Pc m e (tlf c) lo ly ↔ Nd m e lo c lo ly (-1) (-1) := by
  unfold tlf
  rw [Pc]
theorem Pc_un {m : Mm} {e c lo ly : Nat} {a : Tr} : Pc m e (tun c a) lo ly ↔ Nd m e (lo + tsz a) c lo ly (nn (lo + tsz a - 1)) (-1) ∧ Pc m e a lo (lyr c ly) := by
  unfold tun
  rw [Pc]
theorem Pc_bi {m : Mm} {e c lo ly : Nat} {a b : Tr} : Pc m e (tbi c a b) lo ly ↔ Nd m e (lo + tsz a + tsz b) c lo ly (nn (lo + tsz a - 1)) (nn (lo + tsz a + tsz b - 1)) ∧ Pc m e a lo (lyr c ly) ∧ Pc m e b (lo + tsz a) (lyr c ly) := by
  unfold tbi
  rw [Pc]
theorem Nd.eq {m m1 : Mm} {e r c lo ly : Nat} {l rr : Int32} (h : Nd m e r c lo ly l rr) (he : ∀ k, 1 ≤ k → k < 7 → mI m1 (e + k) r = mI m (e + k) r) : Nd m1 e r c lo ly l rr := by
  unfold Nd at *
  rw [he 1 (by decide) (by decide), he 2 (by decide) (by decide), he 3 (by decide) (by decide), he 4 (by decide) (by decide), he 5 (by decide) (by decide), he 6 (by decide) (by decide)]
  exact h
theorem Pc.eq {nf : Nat} {fp : Nat → Nat} {m m1 : Mm} {e : Nat} {t : Tr} (hw : twf nf fp t) {lo ly : Nat} (h : Pc m e t lo ly) (he : ∀ k j, 1 ≤ k → k < 7 → lo ≤ j → j < lo + tsz t → mI m1 (e + k) j = mI m (e + k) j) : Pc m1 e t lo ly := by
  revert lo ly
  refine tr_ind (nf := nf) (fp := fp) (P := fun t => ∀ {lo ly : Nat}, Pc m e t lo ly → (∀ k j, 1 ≤ k → k < 7 → lo ≤ j → j < lo + tsz t → mI m1 (e + k) j = mI m (e + k) j) → Pc m1 e t lo ly) ?_ ?_ ?_ (tsz t) t (Nat.le_refl _) hw
  · intro c _ _ lo ly h he
    rw [tsz_lf] at he
    exact Pc_lf.mpr ((Pc_lf.mp h).eq (fun k h1 h2 => he k lo h1 h2 (by omega) (by omega)))
  · intro c a _ _ hwa ih lo ly h he
    rw [tsz_un] at he
    have h1 := Pc_un.mp h
    exact Pc_un.mpr ⟨h1.1.eq (fun k q1 q2 => he k _ q1 q2 (by omega) (by omega)), ih h1.2 (fun k j q1 q2 q3 q4 => he k j q1 q2 q3 (by omega))⟩
  · intro c a b _ _ hwa hwb iha ihb lo ly h he
    rw [tsz_bi] at he
    have h1 := Pc_bi.mp h
    exact Pc_bi.mpr ⟨h1.1.eq (fun k q1 q2 => he k _ q1 q2 (by omega) (by omega)), iha h1.2.1 (fun k j q1 q2 q3 q4 => he k j q1 q2 q3 (by omega)), ihb h1.2.2 (fun k j q1 q2 q3 q4 => he k j q1 q2 (by omega) (by omega))⟩
def Rg (e lo hi a j : Nat) : Prop := e + 1 ≤ a ∧ a ≤ e + 7 ∧ lo ≤ j ∧ j ≤ hi
theorem ctg6 {nf c : Nat} (h : cok nf c) (hn : nf ≤ 8) : nn (ctg c) = 6 ↔ c = 33 := by
  have hb : ctg c < 7 := by
    unfold ctg
    unfold cok at h
    split
    · omega
    · split
      · omega
      · split <;> omega
  rw [show (6 : Int32) = nn 6 from rfl, nn_eq (by omega) (by decide)]
  unfold ctg
  unfold cok at h
  split
  · omega
  · split
    · omega
    · split <;> omega
theorem kid_nget {nds : List Tr} {n : Nat} {x : Int32} {k : Option Tr} (hn : n < 1000000) (h : kidOf nds n x k) : nget nds x = k := by
  cases k with
  | none =>
    have h1 : x = -1 := h
    rw [h1]
    rfl
  | some t =>
    obtain ⟨i, h1, h2, h3⟩ := h
    rw [h2, nget_nn (by omega), h3]
/-- one node is laid -/
theorem x_root {nf : Nat} {fp : Nat → Nat} {nds : List Tr} {e n hi lo ly i : Nat} {t : Tr} {v2 : Int32} {m : Mm} {K : Option Value ⊕ String → Mm → Prop} (hnf : nf ≤ 8) (hw : twf nf fp t) (hm : St m) (hc : CN m nds) (he : 714 ≤ e) (hx : isExp m e n) (hs : mS m (e + 7) = (13, n)) (hn : n ≤ 12) (hhi : hi < n) (hlo : hi + 1 = lo + tsz t) (h1 : mI m (e + 7) hi = nn i) (h2 : nds[i]? = some t) (h3 : mI m (e + 6) hi = nn ly)
    (hK : ∀ m1, Fr (Rg e lo hi) m m1 → Nd m1 e hi (tcode t) lo ly (if (kid1 t).isSome = true then nn (hi - 1 - szo (kid2 t)) else -1) (if (kid2 t).isSome = true then nn (hi - 1) else -1) → ((kid2 t).isSome = true → mI m1 (e + 7) (hi - 1) = mI m 5 i ∧ mI m1 (e + 6) (hi - 1) = nn (lyr (tcode t) ly)) → ((kid1 t).isSome = true → mI m1 (e + 7) (hi - 1 - szo (kid2 t)) = mI m 4 i ∧ mI m1 (e + 6) (hi - 1 - szo (kid2 t)) = nn (lyr (tcode t) ly)) → V m0_init 104 [some (.ref e), some (.ref 1), some (.int v2), some (.ref (e + 7)), some (.int (nn hi + -1)), none, none, none] [] m1 K) :
    V m0_init 104 [some (.ref e), some (.ref 1), some (.int v2), some (.ref (e + 7)), some (.int (nn hi)), none, none, none] [] m K := by
  obtain ⟨n1, n2, n3, n4, n5, n6⟩ := hc.2.2 i t h2
  have hN := hc.2.1
  have hi80 : i < nds.length := (List.getElem?_eq_some_iff.mp h2).1
  have hin : vp_in (nn hi) n := nn_in (by omega) hhi
  have hin8 : vp_in (nn i) 80 := nn_in (by omega) (by omega)
  have hcok : cok nf (tcode t) := by
    rcases tr_cases hw with ⟨c, rfl, q, -⟩ | ⟨c, a, rfl, q, -⟩ | ⟨c, a, b, rfl, q, -⟩ <;> exact q
  have hzk : tsz t = 1 + szo (kid1 t) + szo (kid2 t) := by
    rcases tr_cases hw with ⟨c, rfl, q, -⟩ | ⟨c, a, rfl, q, -⟩ | ⟨c, a, b, rfl, q, -⟩
    · exact tsz_lf c
    · exact tsz_un c a
    · exact tsz_bi c a b
  have hp1 : (kid1 t).isSome = true → 1 ≤ szo (kid1 t) := by
    intro w
    rcases tr_cases hw with ⟨c, rfl, q, -⟩ | ⟨c, a, rfl, q, -, qa⟩ | ⟨c, a, b, rfl, q, -, qa, -⟩
    · cases w
    · exact tsz_pos qa
    · exact tsz_pos qa
  have hp2 : (kid2 t).isSome = true → 1 ≤ szo (kid2 t) := by
    intro w
    rcases tr_cases hw with ⟨c, rfl, q, -⟩ | ⟨c, a, rfl, q, -, qa⟩ | ⟨c, a, b, rfl, q, -, -, qb⟩
    · cases w
    · cases w
    · exact tsz_pos qb
  have hz1 : (kid1 t).isSome = false → szo (kid1 t) = 0 := by
    intro w
    cases e : kid1 t with
    | none => rfl
    | some a =>
      rw [e] at w
      cases w
  have hz2 : (kid2 t).isSome = false → szo (kid2 t) = 0 := by
    intro w
    cases e : kid2 t with
    | none => rfl
    | some a =>
      rw [e] at w
      cases w
  have k4 := kid_nget (by omega) n3
  have k5 := kid_nget (by omega) n4
  refine w0_init_104 hm hx hs ⟨fun q => absurd q (nn_neg (by omega)), fun _ => ⟨hin, ?_⟩⟩
  rw [nn_tn (by omega), h1]
  refine w0_init_115 hm hx hs ?_
  rw [nn_tn (show hi < 2147483648 by omega), nn_tn (show i < 2147483648 by omega), n1]
  generalize hA : mSetI m (e + 1) hi (nn (ctg (tcode t))) = A
  have a3 : mI A 3 i = nn (cwh (tcode t)) := by rw [← hA, mI_set, if_neg (by omega)]; exact n2
  rw [a3]
  generalize hB : mSetI A (e + 2) hi (nn (cwh (tcode t))) = B
  have b6 : mI B 6 i = nn (tsz t) := by rw [← hB, mI_set, if_neg (by omega), ← hA, mI_set, if_neg (by omega)]; exact n5
  rw [b6, nn_one, nn_sub (by omega), show hi + 1 - tsz t = lo by omega]
  generalize hD : mSetI B (e + 5) hi (nn lo) = D
  have fD : Fr (Rg e hi hi) m D := by
    rw [← hD, ← hB, ← hA]
    exact ((Fr.refl.set ⟨by omega, by omega, by omega, by omega⟩).set ⟨by omega, by omega, by omega, by omega⟩).set ⟨by omega, by omega, by omega, by omega⟩
  have d1 : mI D (e + 1) hi = nn (ctg (tcode t)) := by rw [← hD, ← hB, ← hA]; simp [mI_set]
  have d2 : mI D (e + 2) hi = nn (cwh (tcode t)) := by rw [← hD, ← hB]; simp [mI_set]
  have d5 : mI D (e + 5) hi = nn lo := by rw [← hD]; simp [mI_set]
  have d6 : mI D (e + 6) hi = nn ly := by rw [← hD, ← hB, ← hA]; simp [mI_set, h3]
  have d7 : mI D (e + 7) hi = nn i := by rw [← hD, ← hB, ← hA]; simp [mI_set, h1]
  have sD := fD.st hm
  have cD : CN D nds := hc.fr fD (fun a j q => by unfold Rg at q; omega)
  have xD : isExp D e n := by
    unfold isExp
    rw [fD.s, fD.r]
    exact hx
  have s7 : mS D (e + 7) = (13, n) := by rw [fD.s]; exact hs
  rw [d1, d6]
  have key : V m0_init 195 [some (.ref e), some (.ref 1), some (.int v2), some (.ref (e + 7)), some (.int (nn hi)), some (.int (nn i)), some (.int (nn (lyr (tcode t) ly))), none] [] D K := by
    refine w0_init_195 sD xD s7 ⟨hin8, ?_⟩
    rw [nn_tn (by omega)]
    refine C.mono (s4_sizeOf sD cD (mI D 5 i)) ?_
    rintro o m' ⟨rfl, rfl⟩
    refine ⟨_, rfl, sD, ?_⟩
    have e5 : mI m' 5 i = mI m 5 i := fD.i (by unfold Rg; omega)
    have e4 : mI m' 4 i = mI m 4 i := fD.i (by unfold Rg; omega)
    rw [e5, k5]
    have st2 : ∀ rr : Int32, rr = (if (kid2 t).isSome = true then nn (hi - 1) else -1) → V m0_init 228 [some (.ref e), some (.ref 1), some (.int v2), some (.ref (e + 7)), some (.int (nn hi)), some (.int (nn i)), some (.int (nn (lyr (tcode t) ly))), some (.int (nn (szo (kid2 t))))] [] (mSetI m' (e + 4) hi rr) K := by
      intro rr hrr
      generalize hE : mSetI m' (e + 4) hi rr = E
      have fE : Fr (Rg e hi hi) m E := by
        rw [← hE]
        exact fD.set ⟨by omega, by omega, by omega, by omega⟩
      have g1 : mI E (e + 1) hi = nn (ctg (tcode t)) := by rw [← hE]; simp [mI_set, d1]
      have g2 : mI E (e + 2) hi = nn (cwh (tcode t)) := by rw [← hE]; simp [mI_set, d2]
      have g4 : mI E (e + 4) hi = rr := by rw [← hE]; simp [mI_set]
      have g5 : mI E (e + 5) hi = nn lo := by rw [← hE]; simp [mI_set, d5]
      have g6 : mI E (e + 6) hi = nn ly := by rw [← hE]; simp [mI_set, d6]
      have sE := fE.st hm
      have cE : CN E nds := hc.fr fE (fun a j q => by unfold Rg at q; omega)
      have xE : isExp E e n := by
        unfold isExp
        rw [fE.s, fE.r]
        exact hx
      have s7E : mS E (e + 7) = (13, n) := by rw [fE.s]; exact hs
      refine w0_init_228 sE xE s7E ⟨hin8, ?_⟩
      rw [nn_tn (by omega)]
      refine C.mono (s4_sizeOf sE cE (mI E 4 i)) ?_
      rintro o m2 ⟨rfl, rfl⟩
      refine ⟨_, rfl, sE, ?_⟩
      have e4E : mI m2 4 i = mI m 4 i := fE.i (by unfold Rg; omega)
      have e5E : mI m2 5 i = mI m 5 i := fE.i (by unfold Rg; omega)
      rw [e4E, k4]
      have st3 : ∀ ll : Int32, ll = (if (kid1 t).isSome = true then nn (hi - 1 - szo (kid2 t)) else -1) → V m0_init 260 [some (.ref e), some (.ref 1), some (.int v2), some (.ref (e + 7)), some (.int (nn hi)), some (.int (nn i)), some (.int (nn (lyr (tcode t) ly))), some (.int (nn (szo (kid2 t))))] [] (mSetI m2 (e + 3) hi ll) K := by
        intro ll hll
        generalize hG : mSetI m2 (e + 3) hi ll = G
        have fG : Fr (Rg e hi hi) m G := by
          rw [← hG]
          exact fE.set ⟨by omega, by omega, by omega, by omega⟩
        have nG : Nd G e hi (tcode t) lo ly ll rr := by
          refine ⟨?_, ?_, ?_, ?_, ?_, ?_⟩
          · rw [← hG]; simp [mI_set, g1]
          · rw [← hG]; simp [mI_set, g2]
          · rw [← hG]; simp [mI_set]
          · rw [← hG]; simp [mI_set, g4]
          · rw [← hG]; simp [mI_set, g5]
          · rw [← hG]; simp [mI_set, g6]
        have sG := fG.st hm
        have xG : isExp G e n := by
          unfold isExp
          rw [fG.s, fG.r]
          exact hx
        have s7G : mS G (e + 7) = (13, n) := by rw [fG.s]; exact hs
        have e4G : mI G 4 i = mI m 4 i := fG.i (by unfold Rg; omega)
        have e5G : mI G 5 i = mI m 5 i := fG.i (by unfold Rg; omega)
        have st4 : ∀ G2, Fr (Rg e lo hi) m G2 → Nd G2 e hi (tcode t) lo ly ll rr → ((kid2 t).isSome = true → mI G2 (e + 7) (hi - 1) = mI m 5 i ∧ mI G2 (e + 6) (hi - 1) = nn (lyr (tcode t) ly)) → V m0_init 300 [some (.ref e), some (.ref 1), some (.int v2), some (.ref (e + 7)), some (.int (nn hi)), some (.int (nn i)), some (.int (nn (lyr (tcode t) ly))), some (.int (nn (szo (kid2 t))))] [] G2 K := by
          intro G2 f2 nG2 r2
          have s2 := f2.st hm
          have x2 : isExp G2 e n := by
            unfold isExp
            rw [f2.s, f2.r]
            exact hx
          have s72 : mS G2 (e + 7) = (13, n) := by rw [f2.s]; exact hs
          refine w0_init_300 s2 x2 s72 ⟨hin, ?_⟩
          rw [nn_tn (show hi < 2147483648 by omega), nG2.2.2.1, hll]
          cases w : (kid1 t).isSome with
          | false =>
            rw [if_neg (by decide)]
            refine ⟨fun _ => ?_, fun q => absurd (by decide) q⟩
            refine w0_init_340 s2 x2 s72 ?_
            refine V.drop3 (hK G2 f2 ?_ r2 (fun q => ?_))
            · rw [← hll, ← hrr]
              exact nG2
            · rw [w] at q
              cases q
          | true =>
            have z1 := hp1 w
            rw [if_pos rfl]
            refine ⟨fun q => absurd q (nn_neg (by omega)), fun _ => ?_⟩
            have i4 : mI G2 4 i = mI m 4 i := f2.i (by unfold Rg; omega)
            rw [nn_tn (show i < 2147483648 by omega), nn_tn (show hi - 1 - szo (kid2 t) < 2147483648 by omega), i4]
            have u1 : mI (mSetI G2 (e + 7) (hi - 1 - szo (kid2 t)) (mI m 4 i)) (e + 3) hi = nn (hi - 1 - szo (kid2 t)) := by
              rw [mI_set, if_neg (by omega), nG2.2.2.1, hll, w, if_pos rfl]
            rw [u1, nn_tn (show hi - 1 - szo (kid2 t) < 2147483648 by omega)]
            refine ⟨hin, hin8, nn_in (by omega) (by omega), hin, nn_in (by omega) (by omega), ?_⟩
            generalize hP : mSetI (mSetI G2 (e + 7) (hi - 1 - szo (kid2 t)) (mI m 4 i)) (e + 6) (hi - 1 - szo (kid2 t)) (nn (lyr (tcode t) ly)) = P
            have fP : Fr (Rg e lo hi) m P := by
              rw [← hP]
              exact (f2.set ⟨by omega, by omega, by omega, by omega⟩).set ⟨by omega, by omega, by omega, by omega⟩
            have sP := fP.st hm
            have xP : isExp P e n := by
              unfold isExp
              rw [fP.s, fP.r]
              exact hx
            have s7P : mS P (e + 7) = (13, n) := by rw [fP.s]; exact hs
            refine w0_init_340 sP xP s7P ?_
            refine V.drop3 (hK P fP ?_ (fun q => ?_) (fun _ => ⟨?_, ?_⟩))
            · rw [w, if_pos rfl, ← hrr]
              refine Nd.eq (m := G2) ?_ (fun k q1 q2 => ?_)
              · rw [w, if_pos rfl] at hll
                rw [← hll]
                exact nG2
              · rw [← hP, mI_set, if_neg (by omega), mI_set, if_neg (by omega)]
            · have r3 := r2 q
              have z2 := hp2 q
              refine ⟨?_, ?_⟩
              · rw [← hP, mI_set, if_neg (by omega), mI_set, if_neg (by omega)]
                exact r3.1
              · rw [← hP, mI_set, if_neg (by omega), mI_set, if_neg (by omega)]
                exact r3.2
            · rw [← hP]; simp [mI_set]
            · rw [← hP]; simp [mI_set]
        refine w0_init_260 sG xG s7G ⟨hin, ?_⟩
        rw [nn_tn (show hi < 2147483648 by omega), nG.2.2.2.1]
        cases w : (kid2 t).isSome with
        | false =>
          rw [w, if_neg (by decide)] at hrr
          rw [hrr]
          refine ⟨fun _ => ?_, fun q => absurd (by decide) q⟩
          refine st4 G (fG.mono (fun a j q => by unfold Rg at *; omega)) nG (fun q => ?_)
          rw [w] at q
          cases q
        | true =>
          have z2 := hp2 w
          rw [w, if_pos rfl] at hrr
          rw [hrr]
          refine ⟨fun q => absurd q (nn_neg (by omega)), fun _ => ?_⟩
          rw [nn_tn (show i < 2147483648 by omega), nn_tn (show hi - 1 < 2147483648 by omega), e5G]
          have u1 : mI (mSetI G (e + 7) (hi - 1) (mI m 5 i)) (e + 4) hi = nn (hi - 1) := by
            rw [mI_set, if_neg (by omega), nG.2.2.2.1, hrr]
          rw [u1, nn_tn (show hi - 1 < 2147483648 by omega)]
          refine ⟨hin, hin8, nn_in (by omega) (by omega), hin, nn_in (by omega) (by omega), ?_⟩
          generalize hP : mSetI (mSetI G (e + 7) (hi - 1) (mI m 5 i)) (e + 6) (hi - 1) (nn (lyr (tcode t) ly)) = P
          have fP : Fr (Rg e lo hi) m P := by
            rw [← hP]
            exact ((fG.mono (fun a j q => by unfold Rg at *; omega)).set ⟨by omega, by omega, by omega, by omega⟩).set ⟨by omega, by omega, by omega, by omega⟩
          refine st4 P fP ?_ (fun _ => ⟨?_, ?_⟩)
          · refine Nd.eq (m := G) nG (fun k q1 q2 => ?_)
            rw [← hP, mI_set, if_neg (by omega), mI_set, if_neg (by omega)]
          · rw [← hP]; simp [mI_set]
          · rw [← hP]; simp [mI_set]
      have l0 : nn (szo (kid1 t)) ≤ 0 ↔ szo (kid1 t) ≤ 0 := nn_le (b := 0) (by omega) (by decide)
      rw [l0, nn_tn (show hi < 2147483648 by omega)]
      refine ⟨fun q => ⟨xE, hin, st3 _ ?_⟩, fun q => ⟨xE, hin, st3 _ ?_⟩⟩
      · cases w : (kid1 t).isSome with
        | false => rfl
        | true =>
          have := hp1 w
          omega
      · cases w : (kid1 t).isSome with
        | false =>
          have := hz1 w
          omega
        | true =>
          rw [if_pos rfl, nn_pred (by omega), nn_sub (by omega)]
    refine w0_init_208 sD xD s7 ?_
    have l0 : nn (szo (kid2 t)) ≤ 0 ↔ szo (kid2 t) ≤ 0 := nn_le (b := 0) (by omega) (by decide)
    rw [l0, nn_tn (show hi < 2147483648 by omega)]
    refine ⟨fun q => ⟨hin, st2 _ ?_⟩, fun q => ⟨hin, st2 _ ?_⟩⟩
    · cases w : (kid2 t).isSome with
      | false => rfl
      | true =>
        have := hp2 w
        omega
    · cases w : (kid2 t).isSome with
      | false =>
        have := hz2 w
        omega
      | true =>
        rw [if_pos rfl, nn_pred (by omega)]
  refine ⟨hin8, hin, hin8, hin, hin8, hin, hin, fun q => ⟨hin, ?_⟩, fun q => ⟨hin, ?_⟩⟩
  · rw [ctg6 hcok hnf] at q
    have ely : lyr (tcode t) ly = ly := if_neg q
    rw [ely] at key
    exact key
  · rw [ctg6 hcok hnf] at q
    have ely : lyr (tcode t) ly = ly + 1 := if_pos q
    rw [ely] at key
    rw [nn_one]
    exact key
