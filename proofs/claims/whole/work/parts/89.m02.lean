/-! BOTH MACHINES ALIKE: steps -/
/-- tasks of one behind a step, and of the other one -/
def SHP (p : Ac) (K1 : Nat → List Tk) (S : Ac) (K' : Nat → List Tk) : Prop := ∀ j, j ≤ aL S → ∃ nq na mq ma, K' j = nq ++ mq ∧ lK (aV S j) = na ++ ma ∧ er S nq = er S na ∧ ((j ≤ aL p ∧ er p mq = er p ma ∧ (∀ t, t ∈ mq → t ∈ K1 j) ∧ ∀ t, t ∈ ma → t ∈ lK (aV p j)) ∨ (mq = [] ∧ ma = []))
def AL0 (p : Ac) (K1 : Nat → List Tk) : Prop := ∀ j, j ≤ aL p → er p (K1 j) = er p (lK (aV p j))
/-- a step done alike -/
def SAME (p : Ac) (K1 : Nat → List Tk) (M : Nat → Nat) (Sq Sa : Ac) : Prop := ∃ K', Sq = wk Sa K' M ∧ (aE Sa = 0 → SHP p K1 Sa K')
theorem SHP.keep {p S : Ac} {K1 : Nat → List Tk} (A : AL0 p K1) (hL : aL S ≤ aL p) (hK : ∀ j, j ≤ aL S → lK (aV S j) = lK (aV p j)) : SHP p K1 S K1 := fun j hj => ⟨[], [], K1 j, lK (aV p j), rfl, by rw [hK j hj]; rfl, rfl, Or.inl ⟨by omega, A j (by omega), fun _ h => h, fun _ h => h⟩⟩
theorem SHP.pu {p X : Ac} {K1 : Nat → List Tk} {nq na : List Tk} (A : AL0 p K1) (hL : aL X = aL p) (hK : ∀ j, j ≤ aL p → lK (aV X j) = lK (aV p j)) (hn : er X nq = er X na) : SHP p K1 (push X na) (up1 K1 (aL p) (nq ++ K1 (aL p))) := fun j hj => by
  have hj : j ≤ aL p := by
    rw [← hL]
    exact hj
  have e : er (push X na) nq = er (push X na) na := by
    rw [er_eq (s := X) (S := push X na) rfl rfl, er_eq (s := X) (S := push X na) rfl rfl]
    exact hn
  by_cases w : j = aL p
  · subst w
    refine ⟨nq, na, K1 (aL p), lK (aV p (aL p)), up1_at, ?_, e, Or.inl ⟨Nat.le_refl _, A _ (Nat.le_refl _), fun _ h => h, fun _ h => h⟩⟩
    have : topK (push X na) = na ++ topK X := topK_push
    have h2 : lK (aV (push X na) (aL p)) = na ++ lK (aV X (aL p)) := by
      have : lK (aV (push X na) (aL X)) = na ++ lK (aV X (aL X)) := this
      rw [hL] at this
      exact this
    rw [h2, hK _ (Nat.le_refl _)]
  · refine ⟨[], [], K1 j, lK (aV p j), by rw [up1_ne w]; rfl, ?_, rfl, Or.inl ⟨hj, A j hj, fun _ h => h, fun _ h => h⟩⟩
    show lK (up1 (aV X) (aL X) _ j) = _
    rw [up1_ne (by omega)]
    exact hK j hj
theorem SAME.pu {p X Xq : Ac} {K1 : Nat → List Tk} {M : Nat → Nat} {nq na : List Tk} (A : AL0 p K1) (e : Xq = wk X K1 M) (hL : aL X = aL p) (hK : ∀ j, j ≤ aL p → lK (aV X j) = lK (aV p j)) (hn : er X nq = er X na) : SAME p K1 M (push Xq nq) (push X na) := by
  refine ⟨up1 K1 (aL p) (nq ++ K1 (aL p)), ?_, fun _ => SHP.pu A hL hK hn⟩
  rw [e, push_wk, wk_push, hL]
theorem SAME.keep {p X Xq : Ac} {K1 : Nat → List Tk} {M : Nat → Nat} (A : AL0 p K1) (e : Xq = wk X K1 M) (hL : aE X = 0 → aL X ≤ aL p ∧ ∀ j, j ≤ aL X → lK (aV X j) = lK (aV p j)) : SAME p K1 M Xq X := ⟨K1, e, fun h0 => SHP.keep A (hL h0).1 (hL h0).2⟩
theorem SAME.fail {p X Xq : Ac} {K1 : Nat → List Tk} {M : Nat → Nat} {o : Nat} (A : AL0 p K1) (e : Xq = wk X K1 M) (hL : aL X = aL p) (hK : ∀ j, j ≤ aL p → lK (aV X j) = lK (aV p j)) (ho : o ≤ aL p) : SAME p K1 M (failA Xq o) (failA X o) := by
  rw [e]
  rcases failA_wk (a := X) (K := K1) (M := M) (o := o) with ⟨h1, h2⟩ | ⟨h1, h2, h3, h4⟩
  · refine ⟨K1, h1, fun h0 => ?_⟩
    have hl : aL (failA X o) ≤ aL p := by
      unfold failA at h0 ⊢
      by_cases w : o = 0
      · rw [if_pos w]
        exact Nat.le_of_eq hL
      · rw [if_neg w] at h0 ⊢
        split
        · show o - 1 ≤ aL p
          omega
        · split
          · exact Nat.le_of_eq hL
          · exact ho
    exact SHP.keep A hl (fun j hj => by rw [h2 h0 j, hK j (by omega)])
  · refine ⟨_, h1, fun h0 j hj => ?_⟩
    rw [h3] at hj
    by_cases w : j = o
    · subst w
      exact ⟨[tRun], [tRun], [], [], by rw [up1_at]; rfl, by rw [h2]; rfl, rfl, Or.inr ⟨rfl, rfl⟩⟩
    · exact ⟨[], [], K1 j, lK (aV p j), by rw [up1_ne w]; rfl, by rw [h4 j w, hK j (by omega)]; rfl, rfl, Or.inl ⟨by omega, A j (by omega), fun _ h => h, fun _ h => h⟩⟩
theorem SAME.call {fs : List Fn} {p : Ac} {K1 : Nat → List Tk} {M : Nat → Nat} {x : Nat} (A : AL0 p K1) (ho : tW (aF p x) ≤ aL p) : SAME p K1 M (callA fs (wk p K1 M) x) (callA fs p x) := by
  unfold callA
  rw [show tO (aF (wk p K1 M) x) = tO (aF p x) from rfl, show tW (aF (wk p K1 M) x) = tW (aF p x) from rfl]
  by_cases hn : (rulf fs (tO (aF p x))).length = 0
  · rw [if_pos hn, if_pos hn]
    exact SAME.fail A rfl rfl (fun _ _ => rfl) ho
  · rw [if_neg hn, if_neg hn]
    have gen : ∀ d : Nat × Ac, aL d.2 = aL p → (∀ j, lK (aV d.2 j) = lK (aV p j)) → SAME p K1 M (if aE (wk d.2 K1 M) = 0 then (if aE (stepA (wk d.2 K1 M)) = 0 then takeR (stepA (wk d.2 K1 M)) x ((rulf fs (tO (aF p x))).getD d.1 (none, none, .nil)) else stepA (wk d.2 K1 M)) else wk d.2 K1 M) (if aE d.2 = 0 then (if aE (stepA d.2) = 0 then takeR (stepA d.2) x ((rulf fs (tO (aF p x))).getD d.1 (none, none, .nil)) else stepA d.2) else d.2) := fun d hL hK => by
      rw [show aE (wk d.2 K1 M) = aE d.2 from rfl, stepA_wk, show aE (wk (stepA d.2) K1 M) = aE (stepA d.2) from rfl]
      have sL : aL (stepA d.2) = aL p ∧ ∀ j, lK (aV (stepA d.2) j) = lK (aV p j) := by
        unfold stepA
        split
        · exact ⟨hL, hK⟩
        · exact ⟨hL, hK⟩
      by_cases e1 : aE d.2 = 0
      · rw [if_pos e1, if_pos e1]
        by_cases e2 : aE (stepA d.2) = 0
        · rw [if_pos e2, if_pos e2]
          exact SAME.pu (X := takeT (stepA d.2) x ((rulf fs (tO (aF p x))).getD d.1 (none, none, .nil))) (Xq := takeT (wk (stepA d.2) K1 M) x ((rulf fs (tO (aF p x))).getD d.1 (none, none, .nil))) A rfl sL.1 (fun j _ => sL.2 j) rfl
        · rw [if_neg e2, if_neg e2]
          exact SAME.keep A rfl (fun _ => ⟨Nat.le_of_eq sL.1, fun j _ => sL.2 j⟩)
      · rw [if_neg e1, if_neg e1]
        exact SAME.keep A rfl (fun _ => ⟨Nat.le_of_eq hL, fun j _ => hK j⟩)
    by_cases w : 1 < (rulf fs (tO (aF p x))).length
    · rw [if_pos w, if_pos w, decA_wk]
      have t := decA_t (s := p) (o := tW (aF p x)) (n := (rulf fs (tO (aF p x))).length)
      exact gen (decA p (tW (aF p x)) (rulf fs (tO (aF p x))).length) t.2.2.2.2.2.1 t.2.2.2.2.2.2.2
    · rw [if_neg w, if_neg w]
      exact gen (0, p) rfl (fun _ => rfl)
theorem er_one {s : Ac} {t : Tk} : er s [t] = nz s t := List.append_nil _
theorem SAME.force {fs : List Fn} {p : Ac} {rk : Nat → Nat} {K1 : Nat → List Tk} {M : Nat → Nat} {x : Nat} (A : AL0 p K1) (g : GR p rk) (hx : x < aC p) (hl : ∀ y, tA (aF p x) = some y ∨ tB (aF p x) = some y → ∃ rk', GR (link p x y) rk') (ho : tW (aF p x) ≤ aL p) : SAME p K1 M (forceG fs true (wk p K1 M) x) (forceG fs false p x) := by
  have ek : tK (aF (wk p K1 M) x) = tK (aF p x) := rfl
  unfold forceG
  rw [ek]
  split
  · exact SAME.call A ho
  · rename_i k3
    simp only []
    rw [show tW (aF (wk p K1 M) x) = tW (aF p x) from rfl, decA_wk]
    have t := decA_t (s := p) (o := tW (aF p x)) (n := 2)
    by_cases e1 : aE (decA p (tW (aF p x)) 2).2 = 0
    · rw [if_pos e1, if_pos (show aE (wk (decA p (tW (aF p x)) 2).2 K1 M) = 0 from e1)]
      rw [show tA (aF (wk p K1 M) x) = tA (aF p x) from rfl, show tB (aF (wk p K1 M) x) = tB (aF p x) from rfl]
      cases e : (if (decA p (tW (aF p x)) 2).1 = 0 then tA (aF p x) else tB (aF p x)) with
      | none => exact SAME.keep A rfl (fun _ => ⟨Nat.le_of_eq t.2.2.2.2.2.1, fun j _ => t.2.2.2.2.2.2.2 j⟩)
      | some y =>
        refine SAME.pu (X := link (decA p (tW (aF p x)) 2).2 x y) (Xq := link (wk (decA p (tW (aF p x)) 2).2 K1 M) x y) A rfl t.2.2.2.2.2.1 (fun j _ => t.2.2.2.2.2.2.2 j) ?_
        obtain ⟨rk', g'⟩ := hl y (by
          split at e
          · exact Or.inl e
          · exact Or.inr e)
        have gl : GR (link (decA p (tW (aF p x)) 2).2 x y) rk' := g'.eq t.1 (by show up1 (aF (decA p (tW (aF p x)) 2).2) x _ = up1 (aF p) x _; rw [t.2.1]) t.2.2.2.2.1
        have er' : root (link (decA p (tW (aF p x)) 2).2 x y) x = root (link (decA p (tW (aF p x)) 2).2 x y) y := root_lk gl.lk (by show x < aC (decA p (tW (aF p x)) 2).2; rw [t.1]; exact hx) (by show tK (up1 _ x _ x) = 7; rw [up1_at]) (by show tA (up1 _ x _ x) = some y; rw [up1_at])
        rw [er_one, er_one]
        show nz (link (decA p (tW (aF p x)) 2).2 x y) (0, x, 0, 0, .nil) = nz (link (decA p (tW (aF p x)) 2).2 x y) (0, y, 0, 0, .nil)
        by_cases w : tK (aF (link (decA p (tW (aF p x)) 2).2 x y) (root (link (decA p (tW (aF p x)) 2).2 x y) y)) < 2
        · rw [nz0.1 w, nz0.1 (by rw [er']; exact w)]
        · rw [(nz0 (y := x)).2 (by rw [er']; exact Nat.not_lt.mp w), (nz0 (y := y)).2 (Nat.not_lt.mp w), er']
    · rw [if_neg e1, if_neg (show ¬ aE (wk (decA p (tW (aF p x)) 2).2 K1 M) = 0 from e1)]
      exact SAME.keep A rfl (fun h => absurd h e1)
  · refine SAME.pu (X := p) A rfl rfl (fun _ _ => rfl) ?_
    rw [er_app, er_app, er_app (oT 1 _ ++ oT 1 _), er_app]
    rfl
  · refine SAME.pu (X := p) A rfl rfl (fun _ _ => rfl) ?_
    rw [er_app, er_app, er_app (oT 1 _ ++ oT 1 _), er_app]
    rfl
  · refine ⟨up1 K1 (aL p + 1) [tRun], ?_, fun _ j hj => ?_⟩
    · have : up1 (fun j => pTk (aV p j) (K1 j)) (aL p + 1) (x, 0, [], [], [tRun], 0) = fun j => pTk (up1 (aV p) (aL p + 1) (x, 0, [], [], [tRun], 0) j) (up1 K1 (aL p + 1) [tRun] j) := by
        funext j
        by_cases e : j = aL p + 1
        · subst e
          rw [up1_at, up1_at, up1_at]
          rfl
        · rw [up1_ne e, up1_ne e, up1_ne e]
      show (p.1, M, p.2.2.1, (aL p + 1, up1 (fun j => pTk (aV p j) (K1 j)) (aL p + 1) (x, 0, [], [], [tRun], 0)), p.2.2.2.2) = _
      rw [this]
      rfl
    · have hj : j ≤ aL p + 1 := hj
      by_cases w : j = aL p + 1
      · subst w
        exact ⟨[tRun], [tRun], [], [], by rw [up1_at]; rfl, by show lK (up1 (aV p) (aL p + 1) _ (aL p + 1)) = _; rw [up1_at]; rfl, rfl, Or.inr ⟨rfl, rfl⟩⟩
      · exact ⟨[], [], K1 j, lK (aV p j), by rw [up1_ne w]; rfl, by show lK (up1 (aV p) (aL p + 1) _ j) = _; rw [up1_ne w]; rfl, rfl, Or.inl ⟨by omega, A j (by omega), fun _ h => h, fun _ h => h⟩⟩
  · exact SAME.keep A rfl (fun _ => ⟨Nat.le_refl _, fun _ _ => rfl⟩)
theorem SAME.met {fs : List Fn} {p : Ac} {K1 : Nat → List Tk} {M : Nat → Nat} {x c : Nat} {t : Tr} (A : AL0 p K1) (ho : tW (aF p c) ≤ aL p) : SAME p K1 M (metA fs (wk p K1 M) t x c) (metA fs p t x c) := by
  unfold metA
  simp only []
  rw [show aF (wk p K1 M) = aF p from rfl, show aC (wk p K1 M) = aC p from rfl]
  split
  · split
    · exact SAME.keep A rfl (fun h => absurd h (show ¬ (3 : Nat) = 0 by decide))
    · exact SAME.pu (X := metT p x (tcode t - 10)) (Xq := metT (wk p K1 M) x (tcode t - 10)) A rfl rfl (fun _ _ => rfl) rfl
  · split
    · exact SAME.pu (X := p) A rfl rfl (fun _ _ => rfl) rfl
    · exact SAME.fail A rfl rfl (fun _ _ => rfl) ho
