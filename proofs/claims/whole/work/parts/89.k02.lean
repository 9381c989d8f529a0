/-! HOW MUCH THERE IS: bounds that a turn keeps -/
def NB (s : Ac) : Prop := aC s + sL1 pc (flX s) + 22 * (aR s - 1) ≤ 12 + 34 * aS s ∧ aP s + aR s ≤ 2 + aS s ∧ 1 ≤ aR s ∧ aS s ≤ 100 ∧ (aL s ≤ aR s ∧ (liv s (aL s) → aL s + 1 ≤ aR s)) ∧ (∀ x, x < aC s → tW (aF s x) ≤ 101) ∧ sW (aF s) (aC s) + sL1 pp (flX s) ≤ 22 + 32 * aS s ∧ SUx (aF s) (aS s) (flX s)
/-- the same of what is laid upon a rest of which this is known -/
def SUn (f : Nat → Th) (k C V T U : Nat) : List Tk → Prop
  | [] => True
  | t :: l => (ct t + sL1 ct l + C ≤ vv f t + sL1 (vv f) l + V + 1 ∧ c10 t + sL1 c10 l + T ≤ c78 t + sL1 c78 l + U + k) ∧ SUn f k C V T U l
theorem SUn.to {f : Nat → Th} {k C V T U : Nat} {K : List Tk} (hC : C = sL1 ct K) (hV : V = sL1 (vv f) K) (hT : T = sL1 c10 K) (hU : U = sL1 c78 K) (hK : SUx f k K) : ∀ {l : List Tk}, SUn f k C V T U l → SUx f k (l ++ K)
  | [], _ => hK
  | t :: l, h => by
    refine ⟨?_, SUn.to hC hV hT hU hK h.2⟩
    show ct t + sL1 ct (l ++ K) ≤ vv f t + sL1 (vv f) (l ++ K) + 1 ∧ c10 t + sL1 c10 (l ++ K) ≤ c78 t + sL1 c78 (l ++ K) + k
    have := h.1
    rw [sL1_app, sL1_app, sL1_app, sL1_app]
    omega
theorem flX_cons {s : Ac} {t : Tk} {l : List Tk} (ht : topK s = t :: l) : flX s = t :: restX s l := by
  show topK s ++ lowX (aV s) (aL s) = _
  rw [ht]
  rfl
theorem flX_lvs {s S : Ac} {l new : List Tk} (lv : lvs s S l new) : flX S = new ++ restX s l := by
  obtain ⟨v1, v2, v3, v4⟩ := lv
  show topK S ++ lowX (aV S) (aL S) = _
  rw [v4, v1, lowX_eq (fun j _ _ => v2 j) v3, List.append_assoc]
  rfl
theorem NB.op {s S : Ac} {t : Tk} {l new : List Tk} (N : NB s) (ht : topK s = t :: l) (h12 : t.1 ≠ 12) (lv : lvs s S l new) (hu : ∀ f, f ∈ restX s l → ∀ u, u ∈ frs f → aF S u = aF s u)
  (h1 : aC S + sL1 pc new ≤ aC s + pc t + 34 * (aS S - aS s)) (hS : aS s ≤ aS S) (hS2 : aS S ≤ 100) (h2 : aP S ≤ aP s + (aS S - aS s)) (hR : aR S = aR s) (h6 : ∀ x, x < aC S → tW (aF S x) ≤ 101)
  (h7 : sW (aF S) (aC S) + sL1 pp new ≤ sW (aF s) (aC s) + pp t + 32 * (aS S - aS s))
  (h8 : ∀ C V T U, C ≤ V + 1 → ct t + C ≤ vv (aF s) t + V + 1 → T ≤ U + aS s → c10 t + T ≤ c78 t + U + aS s → SUn (aF S) (aS S) C V T U new) : NB S := by
  obtain ⟨n1, n2, n3, n4, n5, n6, n7, n8⟩ := N
  have e1 := flX_cons ht
  have e2 := flX_lvs lv
  rw [e1] at n1 n7 n8
  have n1 : aC s + (pc t + sL1 pc (restX s l)) + 22 * (aR s - 1) ≤ 12 + 34 * aS s := n1
  have n7 : sW (aF s) (aC s) + (pp t + sL1 pp (restX s l)) ≤ 22 + 32 * aS s := n7
  unfold NB
  rw [e2, sL1_app, sL1_app, hR, lv.1]
  refine ⟨by omega, by omega, n3, hS2, ⟨n5.1, fun _ => n5.2 (fun q => ?_)⟩, h6, by omega, ?_⟩
  · have : lK (aV s (aL s)) = t :: l := ht
    rw [this] at q
    exact h12 (by simpa using q)
  · have hh := n8.2.hd
    have h0 := n8.1
    refine SUn.to rfl (sv_eq hu).symm rfl rfl (n8.2.eq hS hu) (h8 _ _ _ _ hh.1 h0.1 hh.2 h0.2)
/-- a task that only goes -/
theorem NB.pop {s S : Ac} {t : Tk} {l : List Tk} (N : NB s) (ht : topK s = t :: l) (h12 : t.1 ≠ 12) (lv : lvs s S l []) (hu : ∀ f, f ∈ restX s l → ∀ u, u ∈ frs f → aF S u = aF s u) (e1 : aC S = aC s) (e2 : aS s ≤ aS S) (e3 : aS S ≤ 100) (e4 : aP S = aP s) (e5 : aR S = aR s) (h6 : ∀ x, x < aC s → tW (aF S x) = tW (aF s x)) (h7 : sW (aF S) (aC S) ≤ sW (aF s) (aC s)) : NB S := by
  have n6 := N.2.2.2.2.2.1
  exact N.op ht h12 lv hu (by rw [e1]; show aC s + 0 ≤ _; omega) e2 e3 (by omega) e5 (fun x hx => by rw [e1] at hx; rw [h6 x hx]; exact n6 x hx) (by show _ + 0 ≤ _; omega) (fun _ _ _ _ _ _ _ _ => trivial)
theorem sW_le {f : Nat → Th} {x n : Nat} {v : Th} (hx : x < n) (h : wx v ≤ wx (f x)) : sW (up1 f x v) n ≤ sW f n := by
  have := sW_up (f := f) (v := v) hx
  omega
theorem sL1_suf {g : Tk → Nat} {A B : List Tk} : sL1 g B ≤ sL1 g (A ++ B) := by
  rw [sL1_app]
  omega
theorem wx_d0 {k w p : Nat} {t : Tr} : wx (1, k, none, none, w, p, t) = 0 := rfl
/-- something fails -/
theorem NB.fail {fs : List Fn} {s q : Ac} {rk : Nat → Nat} {t : Tk} {l : List Tk} {o : Nat} (J : JR fs s rk) (N : NB s) (ht : topK s = t :: l) (h12 : t.1 ≠ 12) (lv : lvs s q l []) (e1 : aC q = aC s) (e2 : aF q = aF s) (e4 : aP q = aP s) (e5 : aR q = aR s) (e6 : aS s ≤ aS q) (e7 : aS q ≤ 100) (ho : o ≤ aL s) (h0 : aE (failA q o) = 0) : NB (failA q o) := by
  obtain ⟨v1, v2, v3, v4⟩ := lv
  obtain ⟨n1, n2, n3, n4, n5, n6, n7, n8⟩ := N
  have hl : liv s (aL s) := fun q => by
    have : lK (aV s (aL s)) = t :: l := ht
    rw [this] at q
    exact h12 (by simpa using q)
  have n5 := n5.2 hl
  unfold failA at h0 ⊢
  by_cases q0 : o = 0
  · rw [if_pos q0] at h0
    exact absurd h0 (show ¬ (2 : Nat) = 0 by decide)
  · rw [if_neg q0] at h0 ⊢
    obtain ⟨L', hL'⟩ : ∃ L', o = L' + 1 := ⟨o - 1, by omega⟩
    obtain ⟨A, hA⟩ := lowX_suf (v := aV s) (L' := L' + 1) (L := aL s) (by omega)
    have eB : lowX (aV s) (L' + 1) = (15, lX (aV s (L' + 1)), 0, 0, .nil) :: (lK (aV s L') ++ lowX (aV s) L') := rfl
    have ef : flX s = (topK s ++ A) ++ (15, lX (aV s (L' + 1)), 0, 0, .nil) :: (lK (aV s L') ++ lowX (aV s) L') := by
      show topK s ++ lowX (aV s) (aL s) = _
      rw [hA, eB, List.append_assoc]
    obtain ⟨b1, b2, b3, b4⟩ := J.2.2.2.2 o (by omega) ho
    have su := n8
    rw [ef] at su n1 n7
    have su2 := SUx.app su
    have su3 := su2.2
    have hd3 := su3.hd
    have p1 : sL1 pc (lK (aV s L') ++ lowX (aV s) L') ≤ sL1 pc ((topK s ++ A) ++ (15, lX (aV s (L' + 1)), 0, 0, .nil) :: (lK (aV s L') ++ lowX (aV s) L')) := by
      have h := sL1_app (g := pc) (topK s ++ A) ((15, lX (aV s (L' + 1)), 0, 0, .nil) :: (lK (aV s L') ++ lowX (aV s) L'))
      have h2 : sL1 pc ((15, lX (aV s (L' + 1)), 0, 0, .nil) :: (lK (aV s L') ++ lowX (aV s) L')) = pc (15, lX (aV s (L' + 1)), 0, 0, .nil) + sL1 pc (lK (aV s L') ++ lowX (aV s) L') := rfl
      omega
    have p2 : sL1 pp (lK (aV s L') ++ lowX (aV s) L') ≤ sL1 pp ((topK s ++ A) ++ (15, lX (aV s (L' + 1)), 0, 0, .nil) :: (lK (aV s L') ++ lowX (aV s) L')) := by
      have h := sL1_app (g := pp) (topK s ++ A) ((15, lX (aV s (L' + 1)), 0, 0, .nil) :: (lK (aV s L') ++ lowX (aV s) L'))
      have h2 : sL1 pp ((15, lX (aV s (L' + 1)), 0, 0, .nil) :: (lK (aV s L') ++ lowX (aV s) L')) = pp (15, lX (aV s (L' + 1)), 0, 0, .nil) + sL1 pp (lK (aV s L') ++ lowX (aV s) L') := rfl
      omega
    cases hb : backA (lD (aV q o)) with
    | nil =>
      show NB (sL (data q (lX (aV q o)) 0 none none) (o - 1) (aV q))
      have fl : flX (sL (data q (lX (aV q o)) 0 none none) (o - 1) (aV q)) = lK (aV s L') ++ lowX (aV s) L' := by
        show lK (aV q (o - 1)) ++ lowX (aV q) (o - 1) = _
        rw [show o - 1 = L' by omega, v3 L' (by omega), lowX_eq (fun j _ _ => v2 j) (fun j hj => v3 j (by omega))]
      have hch : ∀ z, z ≠ lX (aV s o) → aF (sL (data q (lX (aV q o)) 0 none none) (o - 1) (aV q)) z = aF s z := fun z hz => by
        rw [← e2]
        refine up1_ne ?_
        rw [v2]
        exact hz
      have hfr : ∀ f, f ∈ lK (aV s L') ++ lowX (aV s) L' → ∀ u, u ∈ frs f → aF (sL (data q (lX (aV q o)) 0 none none) (o - 1) (aV q)) u = aF s u := fun f hf u hu => hch u (fun e => by
        have od := J.2.1.low (L' := L' + 1) (by omega)
        have := (List.pairwise_cons.mp od).1 f hf u hu (lX (aV s (L' + 1))) (List.mem_singleton.mpr rfl)
        rw [← hL', e] at this
        omega)
      unfold NB
      rw [fl]
      refine ⟨?_, ?_, ?_, e7, ⟨?_, fun _ => ?_⟩, fun x hx => ?_, ?_, su3.eq e6 hfr⟩
      · show aC q + _ + 22 * (aR q - 1) ≤ 12 + 34 * aS q
        rw [e1, e5]
        omega
      · show aP q + aR q ≤ 2 + aS q
        omega
      · show 1 ≤ aR q
        omega
      · show o - 1 ≤ aR q
        omega
      · show o - 1 + 1 ≤ aR q
        omega
      · have hx : x < aC q := hx
        by_cases w : x = lX (aV s o)
        · rw [w]
          show tW (up1 (aF q) (lX (aV q o)) _ (lX (aV s o))) ≤ 101
          rw [v2, up1_at, e2]
          exact n6 _ b1
        · rw [hch x w]
          exact n6 x (by omega)
      · show sW (up1 (aF q) (lX (aV q o)) _) (aC q) + _ ≤ 22 + 32 * aS q
        rw [v2, e2, e1]
        have := sW_le (f := aF s) (x := lX (aV s o)) (v := (1, 0, none, none, tW (aF s (lX (aV s o))), tP (aF s (lX (aV s o))), tT (aF s (lX (aV s o))))) b1 (by rw [wx_d0]; exact Nat.zero_le _)
        omega
    | cons d r =>
      obtain ⟨w, n⟩ := d
      rw [hb] at h0
      have h0 : aE (if lU (aV q o) = 20 then sE q 4 else sL q o (up1 (aV q) o (lX (aV q o), lU (aV q o), [], (r.map (fun d => d.1)).reverse ++ [w + 1], [tRun], lZ (aV q o)))) = 0 := h0
      show NB (if lU (aV q o) = 20 then sE q 4 else sL q o (up1 (aV q) o (lX (aV q o), lU (aV q o), [], (r.map (fun d => d.1)).reverse ++ [w + 1], [tRun], lZ (aV q o))))
      by_cases h20 : lU (aV q o) = 20
      · rw [if_pos h20] at h0
        exact absurd h0 (show ¬ (4 : Nat) = 0 by decide)
      · rw [if_neg h20]
        have eu : ∀ j, j ≠ o → up1 (aV q) o (lX (aV q o), lU (aV q o), [], (r.map (fun d => d.1)).reverse ++ [w + 1], [tRun], lZ (aV q o)) j = aV q j := fun j hj => up1_ne hj
        have eo : up1 (aV q) o (lX (aV q o), lU (aV q o), [], (r.map (fun d => d.1)).reverse ++ [w + 1], [tRun], lZ (aV q o)) o = (lX (aV q o), lU (aV q o), [], (r.map (fun d => d.1)).reverse ++ [w + 1], [tRun], lZ (aV q o)) := up1_at
        have fl : flX (sL q o (up1 (aV q) o (lX (aV q o), lU (aV q o), [], (r.map (fun d => d.1)).reverse ++ [w + 1], [tRun], lZ (aV q o)))) = tRun :: (15, lX (aV s (L' + 1)), 0, 0, .nil) :: (lK (aV s L') ++ lowX (aV s) L') := by
          show lK (up1 (aV q) o _ o) ++ lowX (up1 (aV q) o _) o = _
          rw [eo]
          show [tRun] ++ lowX (up1 (aV q) o _) o = _
          rw [hL', ← eB, ← hL', lowX_eq (v := aV s) (fun j _ hj => ?_) (fun j hj => ?_)]
          · rfl
          · by_cases e : j = o
            · rw [e, eo]
              exact v2 o
            · rw [eu j e]
              exact v2 j
          · rw [eu j (by omega)]
            exact v3 j (by omega)
        unfold NB
        rw [fl]
        refine ⟨?_, ?_, ?_, e7, ⟨?_, fun hl => ?_⟩, fun x hx => ?_, ?_, ?_⟩
        · show aC q + (0 + (0 + _)) + 22 * (aR q - 1) ≤ 12 + 34 * aS q
          rw [e1, e5]
          omega
        · show aP q + aR q ≤ 2 + aS q
          omega
        · show 1 ≤ aR q
          omega
        · show o ≤ aR q
          omega
        · exfalso
          refine hl ?_
          show (lK (up1 (aV q) o _ o)).head?.map (fun t => t.1) = some 12
          rw [eo]
          rfl
        · show tW (aF q x) ≤ 101
          rw [e2]
          exact n6 x (by rw [← e1]; exact hx)
        · show sW (aF q) (aC q) + (0 + (0 + _)) ≤ 22 + 32 * aS q
          rw [e2, e1]
          omega
        · have s2 := su2.eq (f' := aF q) e6 (fun t _ u _ => by rw [e2])
          refine ⟨?_, s2⟩
          have e3 : sL1 (vv (aF q)) (lK (aV s L') ++ lowX (aV s) L') = sL1 (vv (aF s)) (lK (aV s L') ++ lowX (aV s) L') := sv_eq (fun t _ u _ => by rw [e2])
          show 1 + (0 + sL1 ct (lK (aV s L') ++ lowX (aV s) L')) ≤ 0 + (2 + sL1 (vv (aF q)) (lK (aV s L') ++ lowX (aV s) L')) + 1 ∧ 0 + (0 + sL1 c10 (lK (aV s L') ++ lowX (aV s) L')) ≤ 0 + (0 + sL1 c78 (lK (aV s L') ++ lowX (aV s) L')) + aS q
          rw [e3]
          omega
