/-! THE OTHER ONE: pairs, what is asked -/
/-- parts of data are there -/
def DKx (s : Ac) (x : Nat) : Prop := tK (aF s x) = 1 → tO (aF s x) < 6 ∧ (tA (aF s x)).isSome = decide (2 ≤ tO (aF s x)) ∧ (tB (aF s x)).isSome = decide (4 ≤ tO (aF s x))
theorem DKx.none1 {s : Ac} {x : Nat} (h : DKx s x) (hk : tK (aF s x) = 1) (w : tO (aF s x) < 2) : tA (aF s x) = none := by
  cases e : tA (aF s x) with
  | none => rfl
  | some y =>
    have := (h hk).2.1
    rw [e] at this
    have := of_decide_eq_true this.symm
    omega
theorem DKx.none2 {s : Ac} {x : Nat} (h : DKx s x) (hk : tK (aF s x) = 1) (w : tO (aF s x) < 4) : tB (aF s x) = none := by
  cases e : tB (aF s x) with
  | none => rfl
  | some y =>
    have := (h hk).2.2
    rw [e] at this
    have := of_decide_eq_true this.symm
    omega
theorem DKx.some1 {s : Ac} {x : Nat} (h : DKx s x) (hk : tK (aF s x) = 1) (w : 2 ≤ tO (aF s x)) : ∃ y, tA (aF s x) = some y := Option.isSome_iff_exists.mp (by rw [(h hk).2.1]; exact decide_eq_true w)
theorem DKx.some2 {s : Ac} {x : Nat} (h : DKx s x) (hk : tK (aF s x) = 1) (w : 4 ≤ tO (aF s x)) : ∃ y, tB (aF s x) = some y := Option.isSome_iff_exists.mp (by rw [(h hk).2.2]; exact decide_eq_true w)
theorem s3_pushPairs {fs : List Fn} {m : Mm} {s : Ac} {rh : Nat → Nat} {x y u k : Nat} {act : Int32} (hm : St m) (h : HM m s rh False) (hE : aE s = 0) (hO : QOK fs s) (hc : cn3 (allK s) ≤ 4980) (hx : x < aC s) (hy : y < aC s) (hu : u < aC s) (hk : (k = 10 ∧ act = 4) ∨ (k = 11 ∧ act = 6)) (hkx : tK (aF s x) = 1) (hky : tK (aF s y) = 1) (he : tO (aF s x) = tO (aF s y)) (hdx : DKx s x) (hdy : DKx s y) : C m3_pushPairs [.ref 12, .int act, .int (nn (rh x)), .int (nn (rh y)), .int (nn (rh u))] m (fun r m' => r = .inl none ∧ Fr SKc m m' ∧ HM m' (push s (pairs k s x y u)) rh False) := by
  refine C.of (by decide +kernel) (Nat.le_of_ble_eq_true rfl) rfl (w3_pushPairs hm ?_)
  obtain ⟨f1, f2, f3, f4, f5, f6, f7, f8⟩ := h.all hE
  have hrx := f1.2.1 x hx
  have hry := f1.2.1 y hy
  have b1 := hO.1
  have q6 := (hO.2.2.2.2.2.2.1 x hx).2.2.2.2.2
  have p6 := (hO.2.2.2.2.2.2.1 y hy).2.2.2.2.2
  have hi := nn_in (a := rh x) (n := 3500) (by omega) (by omega)
  have hj := nn_in (a := rh y) (n := 3500) (by omega) (by omega)
  obtain ⟨⟨t1, t2, t3, t4, t5⟩, -⟩ := f1.2.2.2 x hx
  obtain ⟨⟨v1, v2, v3, v4, v5⟩, -⟩ := f1.2.2.2 y hy
  rw [nn_tn (a := rh x) (by omega), nn_tn (a := rh y) (by omega), t2 (Or.inl hkx)]
  have h6 := (hdx hkx).1
  refine ⟨hi, C.mono (s11_pok hm h6) ?_⟩
  rintro o m1 ⟨rfl, rfl⟩
  have l1 : nn (tO (aF s x) / 2) ≤ 1 ↔ tO (aF s x) / 2 ≤ 1 := nn_le (b := 1) (by omega) (by decide)
  have l0 : nn (tO (aF s x) / 2) ≤ 0 ↔ tO (aF s x) / 2 ≤ 0 := nn_le (b := 0) (by omega) (by decide)
  refine ⟨_, rfl, hm, ?_⟩
  rw [l1, l0, t3, t4, v3, v4]
  unfold pairs
  refine ⟨fun w => ⟨fun w0 => ?_, fun w0 => ⟨hi, hj, ?_⟩⟩, fun w => ⟨hi, hj, ?_⟩⟩
  · rw [hdx.none1 hkx (by omega), hdx.none2 hkx (by omega)]
    refine ⟨rfl, Fr.refl, ?_⟩
    have : push s (pr1 k none (tA (aF s y)) u ++ pr1 k none (tB (aF s y)) u) = s := by
      show setK s ([] ++ topK s) = s
      rw [List.nil_append, setK_self]
    rw [this]
    exact h
  · obtain ⟨a, ha⟩ := hdx.some1 hkx (by omega)
    obtain ⟨b, hb⟩ := hdy.some1 hky (by omega)
    rw [hdx.none2 hkx (by omega), ha, hb]
    refine C.mono (s9_push3 (k := k) (x := a) (y := b) (u := u) hm h hE hO (by omega) hk) ?_
    rintro o2 m2 ⟨rfl, fr2, R2⟩
    exact ⟨rfl, fr2.st hm, rfl, fr2, R2⟩
  · obtain ⟨a, ha⟩ := hdx.some1 hkx (by omega)
    obtain ⟨b, hb⟩ := hdy.some1 hky (by omega)
    obtain ⟨a2, ha2⟩ := hdx.some2 hkx (by omega)
    obtain ⟨b2, hb2⟩ := hdy.some2 hky (by omega)
    rw [ha, hb, ha2, hb2]
    refine C.mono (s9_push3 (k := k) (x := a2) (y := b2) (u := u) hm h hE hO (by omega) hk) ?_
    rintro o2 m2 ⟨rfl, fr2, R2⟩
    refine ⟨rfl, fr2.st hm, fun w0 => by omega, fun _ => ⟨hi, hj, ?_⟩⟩
    rw [fr2.i (a := 16) (by unfold SKc; omega), fr2.i (a := 16) (by unfold SKc; omega), t3, ha, v3, hb]
    have hO2 : QOK fs (push s [(k, a2, b2, u, .nil)]) := hO.push (by
      show (if k = 3 then cn3 (allK s) else cn3 (allK s) + 1) ≤ 4985
      rw [if_neg (by omega)]
      omega) (fun t ht => by
      rw [List.mem_singleton.mp ht]
      refine ⟨fun q => ?_, fun v hv => ?_⟩
      · have : k = 4 := q
        omega
      · have hv2 : v ∈ [a2, b2, u] := by
          rcases hk with ⟨rfl, -⟩ | ⟨rfl, -⟩ <;> exact hv
        simp only [List.mem_cons, List.not_mem_nil, or_false] at hv2
        rcases hv2 with rfl | rfl | rfl
        · exact q6.2 _ ha2
        · exact p6.2 _ hb2
        · exact hu)
    refine C.mono (s9_push3 (k := k) (x := a) (y := b) (u := u) (fr2.st hm) R2 hE hO2 (by
      rw [allK_push]
      show (if k = 3 then cn3 (allK s) else cn3 (allK s) + 1) < 5000
      rw [if_neg (by omega)]
      omega) hk) ?_
    rintro o3 m3 ⟨rfl, fr3, R3⟩
    rw [push_push] at R3
    exact ⟨rfl, (fr2.trans fr3).st hm, rfl, fr2.trans fr3, R3⟩
theorem dropA_eq : ∀ {l : List Tk} {u : Tk} {r : List Tk}, (∀ t, t ∈ l → t.1 = 11) → u.1 = 8 → dropA (l ++ u :: r) = r
  | [], u, r, _, hu => by
    show (if u.1 = 11 then dropA r else if u.1 = 8 then r else u :: r) = r
    rw [if_neg (by omega), if_pos hu]
  | t :: l, u, r, h, hu => by
    show (if t.1 = 11 then dropA (l ++ u :: r) else if t.1 = 8 then l ++ u :: r else t :: (l ++ u :: r)) = r
    rw [if_pos (h t List.mem_cons_self)]
    exact dropA_eq (fun z hz => h z (List.mem_cons_of_mem _ hz)) hu
theorem s3_dropAsking {fs : List Fn} {m : Mm} {s : Ac} {rh : Nat → Nat} {l r : List Tk} {u : Tk} (hm : St m) (h : HM m s rh False) (hE : aE s = 0) (hO : QOK fs s) (hk : topK s = l ++ u :: r) (hl : ∀ t, t ∈ l → t.1 = 11) (hu : u.1 = 8) : C m3_dropAsking [.ref 12] m (fun z m' => z = .inl none ∧ Fr SKc m m' ∧ HM m' (setK s (dropA (topK s))) rh False) := by
  refine C.of (by decide +kernel) (Nat.le_of_ble_eq_true rfl) rfl (w3_dropAsking hm ?_)
  obtain ⟨f1, f2, f3, f4, f5, f6, f7, f8⟩ := h.all hE
  rw [f4]
  have hA : allK s = l ++ u :: (r ++ flatB (aV s) (aL s)) := by
    show topK s ++ flatB (aV s) (aL s) = _
    rw [hk, List.append_assoc]
    rfl
  have hb := hO.2.2.2.1
  have loop : ∀ (l2 l1 : List Tk), l = l1 ++ l2 → V m3_dropAsking 8 [some (.ref 12), some (.int (nn (cn3 (l2 ++ u :: (r ++ flatB (aV s) (aL s))))))] [] m (fun z m' => z = .inl none ∧ Fr SKc m m' ∧ HM m' (setK s (dropA (topK s))) rh False) := by
    intro l2
    induction l2 with
    | nil =>
      intro l1 e1
      have hq : HQ m rh (u :: (r ++ flatB (aV s) (aL s))) := by
        have : HQ m rh (l ++ u :: (r ++ flatB (aV s) (aL s))) := by
          rw [← hA]
          exact f5
        exact this.drop
      have hle : cn3 (l ++ u :: (r ++ flatB (aV s) (aL s))) ≤ 4985 := by
        rw [← hA]
        exact hb
      rw [cn3_app] at hle
      have hc : cn3 (u :: (r ++ flatB (aV s) (aL s))) = cn3 (r ++ flatB (aV s) (aL s)) + 1 := if_neg (by omega)
      have hk8 : mI m 24 (cn3 (r ++ flatB (aV s) (aL s))) = 7 := by
        have := hq.1 (by omega)
        unfold HK at this
        rw [hu] at this
        exact this.1
      show V m3_dropAsking 8 [some (.ref 12), some (.int (nn (cn3 (u :: (r ++ flatB (aV s) (aL s))))))] [] m _
      rw [hc] at hle ⊢
      generalize hn : cn3 (r ++ flatB (aV s) (aL s)) = n at hle hk8
      have l0 : nn (n + 1) ≤ 0 ↔ n + 1 ≤ 0 := nn_le (b := 0) (by omega) (by decide)
      have hp : nn (n + 1) - 1 = nn n := nn_pred (by omega)
      have hp2 : nn (n + 1) + (-1) = nn n := by
        rw [← hp, Int32.sub_eq_add_neg]
      refine w3_dropAsking_8 hm ?_
      rw [l0, hp, hp2, nn_tn (by omega), hk8]
      have hi := nn_in (a := n) (n := 5000) (by omega) (by omega)
      refine ⟨fun q => by omega, fun _ => ⟨hi, fun _ => ⟨fun q => by omega, fun _ => ⟨hi, fun q => (q rfl).elim, fun _ => ?_⟩⟩, fun q => absurd q (by decide)⟩⟩
      have fr : Fr SKc m (mSetI m 23 4 (nn n)) := Fr.refl.set (Or.inr ⟨rfl, rfl⟩)
      refine ⟨rfl, fr, ?_⟩
      rw [hk, dropA_eq hl hu]
      refine h.k hE hO fr ?_ ?_
      · rw [mI_set, if_pos ⟨rfl, rfl⟩, hn]
      · exact hq.2.fe2 (fun t ht => (hO.2.2.2.2.2.2.2.2.2.1 t (by
          rw [hA]
          exact List.mem_append_right _ (List.mem_cons_of_mem _ ht))).1) (SKc_zr fr).up (fun a a1 a2 => mI_fn (by omega)) rfl rfl
    | cons t l2 ih =>
      intro l1 e1
      have hq : HQ m rh (t :: (l2 ++ u :: (r ++ flatB (aV s) (aL s)))) := by
        have : HQ m rh (l1 ++ (t :: (l2 ++ u :: (r ++ flatB (aV s) (aL s))))) := by
          have e : allK s = l1 ++ (t :: (l2 ++ u :: (r ++ flatB (aV s) (aL s)))) := by
            rw [hA, e1]
            simp
          rw [← e]
          exact f5
        exact this.drop
      have hle : cn3 (l ++ u :: (r ++ flatB (aV s) (aL s))) ≤ 4985 := by
        rw [← hA]
        exact hb
      have ht : t.1 = 11 := hl t (by rw [e1]; exact List.mem_append_right _ List.mem_cons_self)
      rw [e1, List.append_assoc, cn3_app, List.cons_append] at hle
      have hc : cn3 (t :: (l2 ++ u :: (r ++ flatB (aV s) (aL s)))) = cn3 (l2 ++ u :: (r ++ flatB (aV s) (aL s))) + 1 := if_neg (by omega)
      have hk8 : mI m 24 (cn3 (l2 ++ u :: (r ++ flatB (aV s) (aL s)))) = 6 := by
        have := hq.1 (by omega)
        unfold HK at this
        rw [ht] at this
        exact this.1
      show V m3_dropAsking 8 [some (.ref 12), some (.int (nn (cn3 (t :: (l2 ++ u :: (r ++ flatB (aV s) (aL s)))))))] [] m _
      have nx := ih (l1 ++ [t]) (by rw [e1]; simp)
      rw [hc] at hle ⊢
      generalize hn : cn3 (l2 ++ u :: (r ++ flatB (aV s) (aL s))) = n at hle hk8 nx
      have l0 : nn (n + 1) ≤ 0 ↔ n + 1 ≤ 0 := nn_le (b := 0) (by omega) (by decide)
      have hp : nn (n + 1) - 1 = nn n := nn_pred (by omega)
      have hp2 : nn (n + 1) + (-1) = nn n := by
        rw [← hp, Int32.sub_eq_add_neg]
      refine w3_dropAsking_8 hm ?_
      rw [l0, hp, hp2, nn_tn (by omega), hk8]
      have hi := nn_in (a := n) (n := 5000) (by omega) (by omega)
      exact ⟨fun q => by omega, fun _ => ⟨hi, fun q => (q rfl).elim, fun _ => nx⟩⟩
  have := loop l [] rfl
  rw [← hA] at this
  exact this
theorem s3_ask {fs : List Fn} {m : Mm} {s : Ac} {rh : Nat → Nat} {x y u : Nat} {l r : List Tk} {e : Tk} (hm : St m) (h : HM m s rh False) (hE : aE s = 0) (hO : QOK fs s) (hc : cn3 (allK s) ≤ 4980) (hx : x < aC s) (hy : y < aC s) (hu : u < aC s) (hkx : tK (aF s x) < 2) (hky : tK (aF s y) < 2) (hdx : DKx s x) (hdy : DKx s y) (hsg : ∀ j, 1 ≤ j → j ≤ aL s → lX (aV s j) < aC s) (hk : topK s = l ++ e :: r) (hl : ∀ t, t ∈ l → t.1 = 11) (he : e.1 = 8) (hr : r.head?.map (fun t => t.1) ≠ some 12) : C m3_ask [.ref 12, .int (nn (rh x)), .int (nn (rh y)), .int (nn (rh u))] m (PQ m (askA s x y u) rh) := by
  refine C.of (by decide +kernel) (Nat.le_of_ble_eq_true rfl) rfl (w3_ask hm ?_)
  obtain ⟨f1, f2, f3, f4, f5, f6, f7, f8⟩ := h.all hE
  have hrx := f1.2.1 x hx
  have hry := f1.2.1 y hy
  have b1 := hO.1
  have hi := nn_in (a := rh x) (n := 3500) (by omega) (by omega)
  have hj := nn_in (a := rh y) (n := 3500) (by omega) (by omega)
  have exy : nn (rh x) = nn (rh y) ↔ x = y := (nn_eq (by omega) (by omega)).trans ⟨fun q => f1.2.2.1 x y hx hy q, fun q => by rw [q]⟩
  obtain ⟨⟨t1, t2, t3, t4, t5⟩, -⟩ := f1.2.2.2 x hx
  obtain ⟨⟨v1, v2, v3, v4, v5⟩, -⟩ := f1.2.2.2 y hy
  have npd : ¬ pdT s := by
    unfold pdT
    rw [hk]
    cases l with
    | nil =>
      intro q
      have : e.1 = 12 := Option.some.inj q
      omega
    | cons t l =>
      intro q
      have : t.1 = 12 := Option.some.inj q
      have := hl t List.mem_cons_self
      omega
  rw [nn_tn (a := rh x) (by omega), nn_tn (a := rh y) (by omega), t1, v1, tg7 (by omega), tg7 (by omega), exy]
  have flo : (tK (aF s x) = 0 ∨ tK (aF s y) = 0) → x ≠ y → PQ m (askA s x y u) rh (.inl none) (mSetI m 12 12 2) := by
    intro w0 ne
    have : askA s x y u = sE s 3 := by
      unfold askA
      rw [if_neg ne, if_pos w0]
    rw [this]
    have fr : Fr (fun a j => a = 12 ∧ j = 12) m (mSetI m 12 12 2) := Fr.refl.set ⟨rfl, rfl⟩
    exact ⟨rfl, fr.zr (fun a j q => by omega), fr.st hm, (h.sE (by decide) (by decide) (by rw [mI_set, if_pos ⟨rfl, rfl⟩]; rfl) (fun a a1 a2 => mI_fn (by omega))).fin (fun w => absurd w (show ¬ 3 < 2 by decide))⟩
  refine ⟨fun ne => ⟨hi, fun w0 => flo (Or.inl w0) ne, fun w0 => ⟨hj, fun w1 => ?_, fun w1 => flo (Or.inr w1) ne⟩⟩, fun eq => ⟨rfl, Zr.refl, hm, ?_⟩⟩
  · have kx : tK (aF s x) = 1 := by omega
    have ky : tK (aF s y) = 1 := by omega
    have hf : askA s x y u = if aE (stepA s) = 0 then (if tO (aF (stepA s) x) = tO (aF (stepA s) y) then push (stepA s) (pairs 11 (stepA s) x y u) else data (setK (stepA s) (dropA (topK (stepA s)))) u 1 none none) else stepA s := by
      unfold askA
      rw [if_neg ne, if_neg (by omega)]
    refine C.mono (s3_doStep hm h hE hO) ?_
    rintro o1 m1 ⟨fr1, R1, rfl⟩
    have s1 := fr1.st hm
    have z1 : Zr m m1 := fr1.zr (fun a j q => by omega)
    have hO1 := hO.step
    have hs : aC (stepA s) = aC s ∧ aF (stepA s) = aF s ∧ aL (stepA s) = aL s ∧ aV (stepA s) = aV s := by
      unfold stepA
      split <;> exact ⟨rfl, rfl, rfl, rfl⟩
    obtain ⟨e1, e2, e3, e4⟩ := hs
    have eK : allK (stepA s) = allK s := by
      show lK (aV (stepA s) (aL (stepA s))) ++ flatB (aV (stepA s)) (aL (stepA s)) = _
      rw [e3, e4]
      rfl
    have eT : topK (stepA s) = topK s := by
      show lK (aV (stepA s) (aL (stepA s))) = _
      rw [e3, e4]
    refine ⟨_, rfl, s1, fun w => ?_, fun w => ⟨rfl, z1, s1, ?_⟩⟩
    · have hD : aE (stepA s) = 0 := by
        by_cases q : aE (stepA s) = 0
        · exact q
        · rw [if_neg q] at w
          exact (w rfl).elim
      rw [if_pos hD] at hf
      obtain ⟨g1, -⟩ := R1.all hD
      have i15 : mI m1 15 = mI m 15 := fr1.fn (fun j q => by omega)
      have eo : nn (tO (aF s x)) = nn (tO (aF s y)) ↔ tO (aF s x) = tO (aF s y) := nn_eq (by have := (hdx kx).1; omega) (by have := (hdy ky).1; omega)
      rw [i15, t2 (Or.inl kx), v2 (Or.inl ky), eo]
      have hsg1 : ∀ j, 1 ≤ j → j ≤ aL (stepA s) → lX (aV (stepA s) j) < aC (stepA s) := by
        rw [e1, e3, e4]
        exact hsg
      have hdx1 : DKx (stepA s) x := by
        unfold DKx
        rw [e2]
        exact hdx
      have hdy1 : DKx (stepA s) y := by
        unfold DKx
        rw [e2]
        exact hdy
      refine ⟨hi, hj, fun w2 => ?_, fun w2 => ?_⟩
      · rw [e2, if_neg w2] at hf
        refine C.mono (s3_dropAsking (l := l) (r := r) (u := e) s1 R1 hD hO1 (by rw [eT]; exact hk) hl he) ?_
        rintro o2 m2 ⟨rfl, fr2, R2⟩
        have hO2 : QOK fs (setK (stepA s) (dropA (topK (stepA s)))) := by
          have hA : allK (stepA s) = (l ++ [e]) ++ (r ++ flatB (aV s) (aL s)) := by
            rw [eK]
            show topK s ++ flatB (aV s) (aL s) = _
            rw [hk]
            simp
          have hA2 : allK (setK (stepA s) (dropA (topK (stepA s)))) = r ++ flatB (aV s) (aL s) := by
            rw [allK_setK, eT, hk, dropA_eq hl he, e3, e4]
          obtain ⟨c1, c2, c3, c4, c5, c6, c7, c8, c9, c10, c11⟩ := hO1
          rw [hA, cn3_app] at c4
          refine ⟨c1, c2, c3, by rw [hA2]; omega, c5, c6, c7, c8, c9, ?_, fun j hj => ?_⟩
          · rw [hA2]
            intro t ht
            refine c10 t ?_
            rw [hA]
            exact List.mem_append_right _ ht
          · have := c11 j hj
            show lU (up1 (aV (stepA s)) (aL (stepA s)) _ j) ≤ 20 ∧ lX (up1 (aV (stepA s)) (aL (stepA s)) _ j) < aC (stepA s) + 1 ∧ lZ (up1 (aV (stepA s)) (aL (stepA s)) _ j) ≤ 1000 ∧ (∀ d, d ∈ lD (up1 (aV (stepA s)) (aL (stepA s)) _ j) → d.1 < d.2 ∧ d.2 < 100) ∧ (lD (up1 (aV (stepA s)) (aL (stepA s)) _ j)).length + (lG (up1 (aV (stepA s)) (aL (stepA s)) _ j)).length ≤ 40 ∧ ∀ w, w ∈ lG (up1 (aV (stepA s)) (aL (stepA s)) _ j) → w < 100
            by_cases e : j = aL (stepA s)
            · subst e
              rw [up1_at]
              exact this
            · rw [up1_ne e]
              exact this
        have hsg2 : ∀ j, 1 ≤ j → j ≤ aL (setK (stepA s) (dropA (topK (stepA s)))) → lX (aV (setK (stepA s) (dropA (topK (stepA s)))) j) < aC (setK (stepA s) (dropA (topK (stepA s)))) := fun j j1 j2 => by
          show lX (up1 (aV (stepA s)) (aL (stepA s)) _ j) < _
          by_cases e : j = aL (stepA s)
          · subst e
            rw [up1_at]
            exact hsg1 _ j1 j2
          · rw [up1_ne e]
            exact hsg1 j j1 j2
        refine ⟨rfl, fr2.st s1, C.mono (s10_data (x := u) (k := 1) (a := none) (b := none) (fr2.st s1) R2 hD hO2 (by show u < aC (stepA s); rw [e1]; exact hu) hsg2 rfl rfl) ?_⟩
        rintro o3 m3 ⟨rfl, fr3, R3⟩
        refine ⟨rfl, fr3.st (fr2.st s1), rfl, (z1.trans (SKc_zr fr2)).trans (STc_zr fr3), fr3.st (fr2.st s1), ?_⟩
        rw [hf]
        refine R3.fin (fun _ => ?_)
        unfold pdT
        show ¬ (topK (setK (stepA s) (dropA (topK (stepA s))))).head?.map (fun t => t.1) = some 12
        rw [topK_setK, eT, hk, dropA_eq hl he]
        exact hr
      · rw [e2, if_pos w2] at hf
        refine C.mono (s3_pushPairs (k := 11) (x := x) (y := y) (u := u) s1 R1 hD hO1 (by rw [eK]; exact hc) (by rw [e1]; exact hx) (by rw [e1]; exact hy) (by rw [e1]; exact hu) (Or.inr ⟨rfl, rfl⟩) (by rw [e2]; exact kx) (by rw [e2]; exact ky) (by rw [e2]; exact w2) hdx1 hdy1) ?_
        rintro o3 m3 ⟨rfl, fr3, R3⟩
        refine ⟨rfl, fr3.st s1, rfl, z1.trans (SKc_zr fr3), fr3.st s1, ?_⟩
        rw [hf]
        refine R3.fin (fun _ => ?_)
        unfold pdT
        rw [topK_push, eT]
        unfold pairs pr1
        rw [e2]
        split <;> split <;> first | exact (fun q => absurd (Option.some.inj q) (show ¬ (11 : Nat) = 12 by decide)) | exact npd
    · have hD : ¬ aE (stepA s) = 0 := by
        intro q
        rw [if_pos q] at w
        exact absurd w (by decide)
      rw [hf, if_neg hD]
      exact R1.fin (fun q => by have := stepA_E hE hD; omega)
  · have : askA s x y u = s := if_pos eq
    rw [this]
    exact h.fin (fun _ => npd)
