/-! A RUN WITHIN IS MADE AGAIN: what is made meanwhile -/
theorem RgT.met {fs : List Fn} {j n0 L0 : Nat} {s S : Ac} {rk : Nat → Nat} {x kk : Nat} (hC : RgC j n0 L0 s) (J : JR fs s rk) (hn : n0 ≤ aC s) (E : Ev s S) (hx : RgS j n0 s x) (xl : x < aC s) (hS : aC S = aC (metT s x kk)) (hF : aF S = aF (metT s x kk)) (hN : aN S = aN s) : RgT j n0 L0 s S := by
  obtain ⟨L, hL⟩ : ∃ L, L = List.replicate (kk / 2) (tOpen (tW (aF s x))) := ⟨_, rfl⟩
  have e1 : aC S = aC s + L.length := by
    rw [hS, hL]
    rfl
  have e2 : aF S = up1 (app (aF s) (aC s) L) x (1, kk, (if 2 ≤ kk then some (aC s) else none), (if 4 ≤ kk then some (aC s + 1) else none), tW (app (aF s) (aC s) L x), tP (app (aF s) (aC s) L x), tT (app (aF s) (aC s) L x)) := by
    rw [hF, hL]
    rfl
  have px : app (aF s) (aC s) L x = aF s x := app_lt xl
  refine RgT.mk hC E (fun v vl hv => ?_) (fun _ _ _ _ => by rw [hN]) (fun v v1 v2 => ?_) (fun a b ha h => ((J.1 a ha).2 b h).1)
  · rw [e2, up1_ne (fun q => hv (by rw [q]; exact hx)), app_lt vl]
  · by_cases w : v = x
    · subst w
      have f : aF S v = (1, kk, (if 2 ≤ kk then some (aC s) else none), (if 4 ≤ kk then some (aC s + 1) else none), tW (aF s v), tP (aF s v), tT (aF s v)) := by rw [e2, up1_at, px]
      refine Or.inr ⟨by rw [f]; exact hC.ow xl hx, fun y hy => ?_⟩
      unfold Ed at hy
      rw [f] at hy
      rcases hy with q | ⟨_, q⟩ | ⟨q | ⟨q, _⟩, _⟩
      · by_cases c : 2 ≤ kk
        · rw [show tA (1, kk, (if 2 ≤ kk then some (aC s) else none), (if 4 ≤ kk then some (aC s + 1) else none), tW (aF s v), tP (aF s v), tT (aF s v)) = (if 2 ≤ kk then some (aC s) else none) from rfl, if_pos c] at q
          cases q
          exact Or.inr hn
        · rw [show tA (1, kk, (if 2 ≤ kk then some (aC s) else none), (if 4 ≤ kk then some (aC s + 1) else none), tW (aF s v), tP (aF s v), tT (aF s v)) = (if 2 ≤ kk then some (aC s) else none) from rfl, if_neg c] at q
          cases q
      · by_cases c : 4 ≤ kk
        · rw [show tB (1, kk, (if 2 ≤ kk then some (aC s) else none), (if 4 ≤ kk then some (aC s + 1) else none), tW (aF s v), tP (aF s v), tT (aF s v)) = (if 4 ≤ kk then some (aC s + 1) else none) from rfl, if_pos c] at q
          cases q
          exact Or.inr (by omega)
        · rw [show tB (1, kk, (if 2 ≤ kk then some (aC s) else none), (if 4 ≤ kk then some (aC s + 1) else none), tW (aF s v), tP (aF s v), tT (aF s v)) = (if 4 ≤ kk then some (aC s + 1) else none) from rfl, if_neg c] at q
          cases q
      · exact absurd q (show ¬ (1 : Nat) = 6 by decide)
      · exact absurd q (show ¬ (1 : Nat) = 2 by decide)
    · by_cases vn : v < aC s
      · exact Or.inl ⟨vn, by rw [e2, up1_ne w, app_lt vn], fun _ k y hy => Or.inl (by rw [hN] at hy; exact hy)⟩
      · obtain ⟨i, rfl⟩ := Nat.le.dest (show aC s ≤ v by omega)
        have hi : i < L.length := by omega
        have lo : L[i] = tOpen (tW (aF s x)) := List.eq_of_mem_replicate (by rw [← hL]; exact List.getElem_mem hi)
        have f : aF S (aC s + i) = tOpen (tW (aF s x)) := by rw [e2, up1_ne w, app_at (List.getElem?_eq_getElem hi), lo]
        refine Or.inr ⟨by rw [f]; exact hC.ow xl hx, fun y hy => ?_⟩
        unfold Ed at hy
        rw [f] at hy
        rcases hy with q | ⟨_, q⟩ | ⟨q | ⟨q, _⟩, _⟩
        · cases q
        · cases q
        · exact absurd q (show ¬ (0 : Nat) = 6 by decide)
        · exact absurd q (show ¬ (0 : Nat) = 2 by decide)
theorem RgT.run {fs : List Fn} (hf8 : fs.length ≤ 8) {j n0 L0 : Nat} {s S : Ac} {rk : Nat → Nat} {x o : Nat} (hC : RgC j n0 L0 s) (J : JR fs s rk) (hn : n0 ≤ aC s) (E : Ev s S) (hx : RgS j n0 s x) (xl : x < aC s) (k6 : tK (aF s x) = 6) (ho : L0 < o) {L : List Th} (hL : L = (mkA (aN s (tP (aF s x))) o (tP (aF s x)) (tT (aF s x)) (aC s)).2) (hS : aC S = aC s + L.length) (hF : aF S = app (aF s) (aC s) L) (hN : aN S = aN s) : RgT j n0 L0 s S := by
  have hw := (J.2.2.1.1 x xl).2.2.2.2.2.2 k6
  refine RgT.mk hC E (fun v vl hv => by rw [hF, app_lt vl]) (fun _ _ _ _ => by rw [hN]) (fun v v1 v2 => ?_) (fun a b ha h => ((J.1 a ha).2 b h).1)
  by_cases vn : v < aC s
  · exact Or.inl ⟨vn, by rw [hF, app_lt vn], fun _ k y hy => Or.inl (by rw [hN] at hy; exact hy)⟩
  · obtain ⟨i, rfl⟩ := Nat.le.dest (show aC s ≤ v by omega)
    have hi : i < L.length := by omega
    have hu : (mkA (aN s (tP (aF s x))) o (tP (aF s x)) (tT (aF s x)) (aC s)).2[i]? = some L[i] := by
      rw [← hL]
      exact List.getElem?_eq_getElem hi
    obtain ⟨a1, a2, a3⟩ := mkA_ed hf8 hw.1 hw.2.2.2 hu
    have f : aF S (aC s + i) = L[i] := by rw [hF, app_at (List.getElem?_eq_getElem hi)]
    have nm : ∀ k z, aN s (tP (aF s x)) k = some z → RgS j n0 S z := fun k z hz => by
      have he : Ed s x z := Or.inr (Or.inr ⟨Or.inl k6, k, hz⟩)
      exact (hC.ed J.1 xl hx he).ev E ((J.1 x xl).2 z he).1
    have pt : ∀ z, (tA L[i] = some z ∨ tB L[i] = some z) → RgS j n0 S z := fun z hz => by
      rcases a2 z hz with ⟨k, q⟩ | q
      · exact nm k z q
      · exact Or.inr (by omega)
    refine Or.inr ⟨by rw [f, a1]; exact Or.inr ho, fun y hy => ?_⟩
    unfold Ed at hy
    rw [f] at hy
    rcases hy with q | ⟨_, q⟩ | ⟨q, k, q2⟩
    · exact pt y (Or.inl q)
    · exact pt y (Or.inr q)
    · rw [a3 q, hN] at q2
      exact nm k y q2
theorem RgT.endc {fs : List Fn} (hf8 : fs.length ≤ 8) {j n0 L0 : Nat} {s S : Ac} {rk : Nat → Nat} {c y : Nat} (hC : RgC j n0 L0 s) (J : JR fs s rk) (hn : n0 ≤ aC s) (E : Ev s S) (hc : RgS j n0 s c) (cl : c < aC s) (k2 : tK (aF s c) = 2) (kT : tT (aF s c) ≠ .nil) (hy : (mkL (opsC s c) (tW (aF s c)) (tP (aF s c)) (tT (aF s c))).1 = some y) (hS : aC S = aC (endT s c y)) (hF : aF S = aF (endT s c y)) (hN : aN S = aN (endT s c y)) : RgT j n0 L0 s S ∧ RgS j n0 S y := by
  have hw := ((J.2.2.1.1 c cl).2.2.2.2.1 k2).2 kT
  obtain ⟨j2, g2, n2, f2, N2⟩ := ops_T J.1 J.2.2.1 cl k2 kT
  obtain ⟨G, hG⟩ : ∃ G, G = opG (tW (aF s c)) (ksA (tT (aF s c))) (aC s) (aN s (tP (aF s c))) := ⟨_, rfl⟩
  obtain ⟨L, hL⟩ : ∃ L, L = (mkL (opsC s c) (tW (aF s c)) (tP (aF s c)) (tT (aF s c))).2 := ⟨_, rfl⟩
  have nO : aN (opsC s c) (tP (aF s c)) = G.1 := by
    rw [hG]
    exact up1_at
  have cO : aC (opsC s c) = aC s + G.2.length := by
    rw [hG]
    rfl
  have e1 : aC S = aC s + G.2.length + L.length := by
    rw [hS, hL, hG]
    rfl
  have e3 : aN S = up1 (aN s) (tP (aF s c)) G.1 := by
    rw [hN, hG]
    rfl
  have e2 : aF S = up1 (app (app (aF s) (aC s) G.2) (aC s + G.2.length) L) c (7, tO (app (app (aF s) (aC s) G.2) (aC s + G.2.length) L c), some y, tB (app (app (aF s) (aC s) G.2) (aC s + G.2.length) L c), tW (app (app (aF s) (aC s) G.2) (aC s + G.2.length) L c), tP (app (app (aF s) (aC s) G.2) (aC s + G.2.length) L c), tT (app (app (aF s) (aC s) G.2) (aC s + G.2.length) L c)) := by
    rw [hF, hL, hG]
    rfl
  have pc : app (app (aF s) (aC s) G.2) (aC s + G.2.length) L c = aF s c := by rw [app_lt (by omega), app_lt cl]
  have nm : ∀ k z, G.1 k = some z → RgS j n0 S z := fun k z hz => by
    rw [hG] at hz
    rcases opG_or _ _ _ k z hz with q | q
    · have he : Ed s c z := Or.inr (Or.inr ⟨Or.inr ⟨k2, kT⟩, k, q⟩)
      exact (hC.ed J.1 cl hc he).ev E ((J.1 c cl).2 z he).1
    · exact Or.inr (by omega)
  have ry : RgS j n0 S y := by
    obtain ⟨y2, h1, h2⟩ := mkA_nm (g := aN (opsC s c) (tP (aF s c))) (o := tW (aF s c)) (p := tP (aF s c)) hw.1 N2 (aC (opsC s c))
    have : y2 = y := Option.some.inj (h1.symm.trans hy)
    subst this
    rcases h2 with ⟨k, q⟩ | ⟨q, _⟩
    · rw [nO] at q
      exact nm k y2 q
    · exact Or.inr (by omega)
  refine ⟨RgT.mk hC E (fun v vl hv => ?_) (fun v vl hv hN2 => ?_) (fun v v1 v2 => ?_) (fun a b ha h => ((J.1 a ha).2 b h).1), ry⟩
  · rw [e2, up1_ne (fun q => hv (by rw [q]; exact hc)), app_lt (by omega), app_lt vl]
  · have : tP (aF s v) ≠ tP (aF s c) := fun q => hv (by rw [J.2.2.1.2.1 c v cl vl k2 kT hN2 q]; exact hc)
    rw [e3, up1_ne this]
  · by_cases w : v = c
    · subst w
      have f : aF S v = (7, tO (aF s v), some y, tB (aF s v), tW (aF s v), tP (aF s v), tT (aF s v)) := by rw [e2, up1_at, pc]
      refine Or.inr ⟨by rw [f]; exact hC.ow cl hc, fun z hz => ?_⟩
      unfold Ed at hz
      rw [f] at hz
      rcases hz with q | ⟨q, _⟩ | ⟨q | ⟨q, _⟩, _⟩
      · cases q
        exact ry
      · exact absurd rfl q
      · exact absurd q (show ¬ (7 : Nat) = 6 by decide)
      · exact absurd q (show ¬ (7 : Nat) = 2 by decide)
    · by_cases vn : v < aC s
      · refine Or.inl ⟨vn, by rw [e2, up1_ne w, app_lt (by omega), app_lt vn], fun hN2 k z hz => ?_⟩
        by_cases wp : tP (aF s v) = tP (aF s c)
        · exact absurd (J.2.2.1.2.1 c v cl vn k2 kT hN2 wp) w
        · rw [e3, up1_ne wp] at hz
          exact Or.inl hz
      · obtain ⟨i, rfl⟩ := Nat.le.dest (show aC s ≤ v by omega)
        by_cases ig : i < G.2.length
        · have f : aF S (aC s + i) = tOpen (tW (aF s c)) := by
            rw [e2, up1_ne w, app_lt (by omega), app_at (List.getElem?_eq_getElem ig)]
            refine opG_op (ksA (tT (aF s c))) (aC s) (aN s (tP (aF s c))) _ ?_
            rw [← hG]
            exact List.getElem_mem ig
          refine Or.inr ⟨by rw [f]; exact hC.ow cl hc, fun z hz => ?_⟩
          unfold Ed at hz
          rw [f] at hz
          rcases hz with q | ⟨_, q⟩ | ⟨q | ⟨q, _⟩, _⟩
          · cases q
          · cases q
          · exact absurd q (show ¬ (0 : Nat) = 6 by decide)
          · exact absurd q (show ¬ (0 : Nat) = 2 by decide)
        · obtain ⟨i', rfl⟩ := Nat.le.dest (show G.2.length ≤ i by omega)
          have il : i' < L.length := by omega
          have hu : (mkA (aN (opsC s c) (tP (aF s c))) (tW (aF s c)) (tP (aF s c)) (tT (aF s c)) (aC (opsC s c))).2[i']? = some L[i'] := by
            have : (mkA (aN (opsC s c) (tP (aF s c))) (tW (aF s c)) (tP (aF s c)) (tT (aF s c)) (aC (opsC s c))).2 = L := hL.symm
            rw [this]
            exact List.getElem?_eq_getElem il
          obtain ⟨a1, a2, a3⟩ := mkA_ed hf8 hw.1 N2 hu
          have f : aF S (aC s + (G.2.length + i')) = L[i'] := by
            rw [e2, up1_ne w, ← Nat.add_assoc, app_at (List.getElem?_eq_getElem il)]
          have pt : ∀ z, (tA L[i'] = some z ∨ tB L[i'] = some z) → RgS j n0 S z := fun z hz => by
            rcases a2 z hz with ⟨k, q⟩ | q
            · rw [nO] at q
              exact nm k z q
            · exact Or.inr (by omega)
          refine Or.inr ⟨by rw [f, a1]; exact hC.ow cl hc, fun z hz => ?_⟩
          unfold Ed at hz
          rw [f] at hz
          rcases hz with q | ⟨_, q⟩ | ⟨q, k, q2⟩
          · exact pt z (Or.inl q)
          · exact pt z (Or.inr q)
          · rw [a3 q, e3, up1_at] at q2
            exact nm k z q2
