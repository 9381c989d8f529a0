/-! MANY, IN THE MODEL: ends, names, right sides -/
theorem TC_lf {m : Mm} {q c : Nat} : TC m q (tlf c) → mI m 676 q = nn c := fun h => by
  have := h 0 c (by rw [tenc_lf]; rfl)
  exact this
theorem TC_un {m : Mm} {q c : Nat} {a : Tr} (h : TC m q (tun c a)) : mI m 676 q = nn c ∧ TC m (q + 1) a := by
  refine ⟨h 0 c (by rw [tenc_un]; rfl), fun k d hk => ?_⟩
  rw [show q + 1 + k = q + (k + 1) by omega]
  exact h (k + 1) d (by rw [tenc_un]; exact hk)
theorem TC_bi {m : Mm} {q c : Nat} {a b : Tr} (h : TC m q (tbi c a b)) : mI m 676 q = nn c ∧ TC m (q + 1) a ∧ TC m (q + 1 + tsz a) b := by
  refine ⟨h 0 c (by rw [tenc_bi]; rfl), fun k d hk => ?_, fun k d hk => ?_⟩
  · rw [show q + 1 + k = q + (k + 1) by omega]
    refine h (k + 1) d ?_
    rw [tenc_bi]
    show (tenc a ++ tenc b)[k]? = some d
    rw [List.getElem?_append_left (List.getElem?_eq_some_iff.mp hk).1]
    exact hk
  · rw [show q + 1 + tsz a + k = q + (tsz a + k + 1) by omega]
    refine h (tsz a + k + 1) d ?_
    rw [tenc_bi]
    show (tenc a ++ tenc b)[tsz a + k]? = some d
    rw [List.getElem?_append_right (by rw [tenc_len]; omega), tenc_len, show tsz a + k - tsz a = k by omega]
    exact hk
theorem TC_root {nf : Nat} {fp : Nat → Nat} {m : Mm} {q : Nat} {t : Tr} (hw : twf nf fp t) (h : TC m q t) : mI m 676 q = nn (tcode t) ∧ cok nf (tcode t) := by
  rcases tr_cases hw with ⟨c, rfl, r, -⟩ | ⟨c, a, rfl, r, -⟩ | ⟨c, a, b, rfl, r, -⟩
  · exact ⟨TC_lf h, r⟩
  · exact ⟨(TC_un h).1, r⟩
  · exact ⟨(TC_bi h).1, r⟩
theorem eo_tree {fs : List Fn} {m : Mm} {K : Option Value ⊕ String → Mm → Prop} {v1 : Int32} (hm : St m) (h0 : MF0 m fs) {t : Tr} (hw : twf fs.length (fpf fs) t) : ∀ (q p : Nat), q + tsz t ≤ 876 → p + tsz t ≤ 1000 → TC m q t →
    V m12_endOf 4 [some (.ref 668), some (.int v1), some (.int (nn p)), some (.int (nn (q + tsz t)))] [] m K →
    V m12_endOf 4 [some (.ref 668), some (.int v1), some (.int (nn (p + 1))), some (.int (nn q))] [] m K := by
  refine tr_ind (nf := fs.length) (fp := fpf fs) (P := fun t => ∀ (q p : Nat), q + tsz t ≤ 876 → p + tsz t ≤ 1000 → TC m q t →
    V m12_endOf 4 [some (.ref 668), some (.int v1), some (.int (nn p)), some (.int (nn (q + tsz t)))] [] m K →
    V m12_endOf 4 [some (.ref 668), some (.int v1), some (.int (nn (p + 1))), some (.int (nn q))] [] m K) ?_ ?_ ?_ (tsz t) t (Nat.le_refl _) hw
  · intro c q1 q2 q p hq hp h k
    rw [tsz_lf] at hq hp k
    have l0 : nn (p + 1) ≤ 0 ↔ p + 1 ≤ 0 := nn_le (b := 0) (by omega) (by decide)
    refine w12_endOf_4 hm ?_
    rw [l0, nn_tn (by omega), TC_lf h, nn_one]
    refine ⟨fun w => by omega, fun _ => ⟨nn_in (by omega) (by omega), C.mono (s12_partsOf hm h0 q1) ?_⟩⟩
    rintro o m' ⟨rfl, rfl⟩
    refine ⟨_, rfl, hm, ?_⟩
    rw [q2, show nn (p + 1) + (nn 0 - 1) = nn p by rw [show nn 0 - 1 = -1 from rfl, nn_prd (by omega), Nat.add_sub_cancel]]
    exact k
  · intro c a q1 q2 qa ih q p hq hp h k
    rw [tsz_un] at hq hp k
    obtain ⟨h1, h2⟩ := TC_un h
    have l0 : nn (p + 1) ≤ 0 ↔ p + 1 ≤ 0 := nn_le (b := 0) (by omega) (by decide)
    refine w12_endOf_4 hm ?_
    rw [l0, nn_tn (by omega), h1, nn_one]
    refine ⟨fun w => by omega, fun _ => ⟨nn_in (by omega) (by omega), C.mono (s12_partsOf hm h0 q1) ?_⟩⟩
    rintro o m' ⟨rfl, rfl⟩
    refine ⟨_, rfl, hm, ?_⟩
    rw [q2, show nn (p + 1) + (nn 1 - 1) = nn (p + 1) by rw [nn_pred (by omega), nn_add]]
    exact ih (q + 1) p (by omega) (by omega) h2 (by rw [show q + 1 + tsz a = q + (1 + tsz a) by omega]; exact k)
  · intro c a b q1 q2 qa qb iha ihb q p hq hp h k
    rw [tsz_bi] at hq hp k
    obtain ⟨h1, h2, h3⟩ := TC_bi h
    have l0 : nn (p + 1) ≤ 0 ↔ p + 1 ≤ 0 := nn_le (b := 0) (by omega) (by decide)
    refine w12_endOf_4 hm ?_
    rw [l0, nn_tn (by omega), h1, nn_one]
    refine ⟨fun w => by omega, fun _ => ⟨nn_in (by omega) (by omega), C.mono (s12_partsOf hm h0 q1) ?_⟩⟩
    rintro o m' ⟨rfl, rfl⟩
    refine ⟨_, rfl, hm, ?_⟩
    rw [q2, show nn (p + 1) + (nn 2 - 1) = nn (p + 1 + 1) by rw [nn_pred (by omega), nn_add]]
    have hpa := tsz_pos qa
    exact iha (q + 1) (p + 1) (by omega) (by omega) h2 (ihb (q + 1 + tsz a) p (by omega) (by omega) h3 (by rw [show q + 1 + tsz a + tsz b = q + (1 + tsz a + tsz b) by omega]; exact k))
theorem s12_endOf {fs : List Fn} {m : Mm} {q : Nat} {t : Tr} (hm : St m) (h0 : MF0 m fs) (hw : twf fs.length (fpf fs) t) (hq : q + tsz t ≤ 876) (h : TC m q t) : C m12_endOf [.ref 668, .int (nn q)] m (fun o m' => m' = m ∧ o = .inl (some (.int (nn (q + tsz t))))) := by
  refine C.of (by decide +kernel) (Nat.le_of_ble_eq_true rfl) rfl (w12_endOf hm ?_)
  exact eo_tree (K := fun o m' => m' = m ∧ o = .inl (some (.int (nn (q + tsz t))))) hm h0 hw q 0 hq (by omega) h (w12_endOf_4 hm ⟨fun _ => ⟨rfl, rfl⟩, fun w => absurd (by decide) w⟩)
/-- names of codes -/
def nl : List Nat → Nat → Nat
  | [], s => s
  | c :: l, s => nl l (if c < 10 then s ||| 1 <<< c else s)
theorem nl_app : ∀ (l l' : List Nat) (s : Nat), nl (l ++ l') s = nl l' (nl l s)
  | [], _, _ => rfl
  | c :: l, l', s => nl_app l l' (if c < 10 then s ||| 1 <<< c else s)
theorem nl_or : ∀ (l : List Nat) (s u : Nat), nl l (s ||| u) = s ||| nl l u
  | [], _, _ => rfl
  | c :: l, s, u => by
    show nl l (if c < 10 then (s ||| u) ||| 1 <<< c else s ||| u) = s ||| nl l (if c < 10 then u ||| 1 <<< c else u)
    by_cases h : c < 10
    · rw [if_pos h, if_pos h, Nat.or_assoc, nl_or l s (u ||| 1 <<< c)]
    · rw [if_neg h, if_neg h, nl_or l s u]
theorem pl_nl : ∀ (l : List Nat) (s s' : Nat), pl l s = some s' → nl l s = s'
  | [], s, s', h => by cases h; rfl
  | c :: l, s, s', h => by
    have h1 : (if c < 20 ∧ (10 ≤ c ∨ s.testBit c = false) then pl l (if c < 10 then s ||| 1 <<< c else s) else none) = some s' := h
    split at h1
    · exact pl_nl l _ s' h1
    · cases h1
theorem nl_lt : ∀ (l : List Nat) (s : Nat), (∀ c, c ∈ l → c < 10 → c < 6) → s < 64 → nl l s < 64
  | [], _, _, h => h
  | c :: l, s, hc, h => by
    show nl l (if c < 10 then s ||| 1 <<< c else s) < 64
    refine nl_lt l _ (fun d hd => hc d (List.mem_cons_of_mem _ hd)) ?_
    split
    · rename_i w
      exact or64 s h c (hc c List.mem_cons_self w)
    · exact h
theorem tenc_cok {nf : Nat} {fp : Nat → Nat} {t : Tr} (hw : twf nf fp t) : ∀ c, c ∈ tenc t → cok nf c := by
  refine tr_ind (nf := nf) (fp := fp) (P := fun u => ∀ c, c ∈ tenc u → cok nf c) ?_ ?_ ?_ (tsz t) t (Nat.le_refl _) hw
  · intro c q1 _ d hd
    rw [tenc_lf] at hd
    cases List.mem_singleton.mp hd
    exact q1
  · intro c a q1 _ _ ih d hd
    rw [tenc_un] at hd
    rcases List.mem_cons.mp hd with e | e
    · rw [e]
      exact q1
    · exact ih d e
  · intro c a b q1 _ _ _ iha ihb d hd
    rw [tenc_bi] at hd
    rcases List.mem_cons.mp hd with e | e
    · rw [e]
      exact q1
    · rcases List.mem_append.mp e with e | e
      · exact iha d e
      · exact ihb d e
theorem s12_namesAt {fs : List Fn} {m : Mm} {q : Nat} {t : Tr} (hm : St m) (h0 : MF0 m fs) (hw : twf fs.length (fpf fs) t) (hq : q + tsz t ≤ 876) (h : TC m q t) : C m12_namesAt [.ref 668, .int (nn q)] m (fun o m' => m' = m ∧ o = .inl (some (.int (nn (nl (tenc t) 0))))) := by
  refine C.of (by decide +kernel) (Nat.le_of_ble_eq_true rfl) rfl (w12_namesAt hm (C.mono (s12_endOf hm h0 hw hq h) ?_))
  rintro o m' ⟨rfl, rfl⟩
  refine ⟨_, rfl, hm, ?_⟩
  have ck := tenc_cok hw
  have loop : ∀ (d k s : Nat), k + d = tsz t → s < 64 → ∀ {K : Option Value ⊕ String → Mm → Prop}, K (.inl (some (.int (nn (nl ((tenc t).drop k) s))))) m' → V m12_namesAt 11 [some (.ref 668), some (.int (nn q)), some (.int (nn s)), some (.int (nn (q + tsz t))), some (.int (nn (q + k)))] [] m' K := by
    intro d
    induction d with
    | zero =>
      intro k s hk hs K hK
      rw [List.drop_eq_nil_of_le (by rw [tenc_len]; omega)] at hK
      refine w12_namesAt_11 hm ⟨fun _ => hK, fun w => ?_⟩
      rw [nn_le (by omega) (by omega)] at w
      omega
    | succ d ih =>
      intro k s hk hs K hK
      have hkl : k < (tenc t).length := by rw [tenc_len]; omega
      have hc := List.getElem?_eq_getElem hkl
      rw [List.drop_eq_getElem_cons hkl] at hK
      generalize (tenc t)[k]'hkl = c at hc hK
      have hcok := ck c (List.mem_of_getElem? hc)
      have n4 := h k c hc
      have hc34 : c < 38 := by
        have := h0.2.1
        unfold cok at hcok
        omega
      have l10 : (10 : Int32) ≤ nn c ↔ 10 ≤ c := nn_le (a := 10) (by decide) (by omega)
      have v : vp_in (nn (q + k)) 876 := nn_in (by omega) (by omega)
      refine w12_namesAt_11 hm ?_
      rw [nn_tn (by omega), n4, l10, or0, nn_one, nn_le (by omega) (by omega)]
      refine ⟨fun w => by omega, fun _ => ⟨v, fun w => ?_, fun w => ⟨v, ?_⟩⟩⟩
      · rw [show nl (c :: (tenc t).drop (k + 1)) s = nl ((tenc t).drop (k + 1)) (if c < 10 then s ||| 1 <<< c else s) from rfl, if_neg (by omega)] at hK
        exact ih (k + 1) s (by omega) hs hK
      · have c6 : c < 6 := by
          unfold cok at hcok
          omega
        obtain ⟨-, b2, -⟩ := bt8 s (by omega) c (by omega)
        rw [b2]
        rw [show nl (c :: (tenc t).drop (k + 1)) s = nl ((tenc t).drop (k + 1)) (if c < 10 then s ||| 1 <<< c else s) from rfl, if_pos (by omega)] at hK
        exact ih (k + 1) _ (by omega) (or64 s hs c c6) hK
  exact loop (tsz t) 0 0 (by omega) (by decide) (K := fun o m1 => m1 = m' ∧ o = .inl (some (.int (nn (nl (tenc t) 0))))) ⟨rfl, rfl⟩
theorem or_nn : ∀ a, a < 64 → ∀ b, b < 64 → nn a ||| nn b = nn (a ||| b) := by decide +kernel
theorem zz_or : ∀ a, a < 64 → ∀ b, b < 64 → (a ||| b) < 64 := by decide +kernel
/-- the names of a rule's patterns -/
theorem rnm_nl {fs : List Fn} {p : Nat} {R : Rl} (h : rok fs p R) : rnm R = (match R.1 with
    | some t => nl (tenc t) 0
    | none => 0) ||| (match R.2.1 with
    | some t => nl (tenc t) 0
    | none => 0) := by
  have h1 := h.2.2.2
  have hA := h.1.1
  have hB := h.1.2.1
  unfold rnm
  unfold rset at *
  obtain ⟨A, B, t⟩ := R
  simp only at *
  cases A with
  | none =>
    cases B with
    | none => rfl
    | some u =>
      have e : pno (some u) (pno none (some 0)) = pn u 0 := rfl
      rw [e] at h1 ⊢
      cases e2 : pn u 0 with
      | none =>
        rw [e2] at h1
        cases h1
      | some s =>
        have := pl_nl (tenc u) 0 s (by rw [pl_pn (hB u rfl).1]; exact e2)
        show s = 0 ||| nl (tenc u) 0
        rw [this]
        simp
  | some w =>
    cases e3 : pn w 0 with
    | none =>
      have e : pno B (pno (some w) (some 0)) = none := by
        show pno B (pn w 0) = none
        rw [e3]
        cases B <;> rfl
      rw [e] at h1
      cases h1
    | some s1 =>
      have n1 := pl_nl (tenc w) 0 s1 (by rw [pl_pn (hA w rfl).1]; exact e3)
      cases B with
      | none =>
        have e : pno none (pno (some w) (some 0)) = some s1 := e3
        rw [e]
        show s1 = nl (tenc w) 0 ||| 0
        rw [n1]
        simp
      | some u =>
        have e : pno (some u) (pno (some w) (some 0)) = pn u s1 := by
          show pno (some u) (pn w 0) = _
          rw [e3]
          rfl
        rw [e] at h1 ⊢
        cases e2 : pn u s1 with
        | none =>
          rw [e2] at h1
          cases h1
        | some s =>
          have n2 := pl_nl (tenc u) s1 s (by rw [pl_pn (hB u rfl).1]; exact e2)
          show s = nl (tenc w) 0 ||| nl (tenc u) 0
          rw [n1]
          have n3 := nl_or (tenc u) s1 0
          rw [Nat.or_zero, n2] at n3
          exact n3
