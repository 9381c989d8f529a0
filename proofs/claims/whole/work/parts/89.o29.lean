/-! A RUN WITHIN IS MADE AGAIN: what is sought stays as it is -/
def K6 (s S : Ac) : Prop := ∀ x, x < aC s → tK (aF s x) = 6 → tK (aF S x) = 6 → aF S x = aF s x ∧ aN S (tP (aF s x)) = aN s (tP (aF s x))
theorem K6.same {s S : Ac} (e2 : aF S = aF s) (e3 : aN S = aN s) : K6 s S := fun x _ _ _ => by
  rw [e2, e3]
  exact ⟨rfl, rfl⟩
theorem K6.of {s S : Ac} (z : Nat) (h1 : ∀ v, v < aC s → v ≠ z → aF S v = aF s v) (h2 : tK (aF S z) ≠ 6) (h3 : ∀ x, x < aC s → tK (aF s x) = 6 → aN S (tP (aF s x)) = aN s (tP (aF s x))) : K6 s S := fun x hx h6 h6' => by
  by_cases w : x = z
  · rw [w] at h6'
    exact absurd h6' h2
  · exact ⟨h1 x hx w, h3 x hx h6⟩
theorem K6.dat {s S : Ac} {x k : Nat} (e2 : aF S = up1 (aF s) x (1, k, none, none, tW (aF s x), tP (aF s x), tT (aF s x))) (e3 : aN S = aN s) : K6 s S := K6.of x (fun v _ hv => by rw [e2, up1_ne hv]) (by rw [e2, up1_at]; exact (show (1 : Nat) ≠ 6 by decide)) (fun _ _ _ => by rw [e3])
theorem K6.lnk {s S : Ac} {x z : Nat} (e2 : aF S = up1 (aF s) x (7, tO (aF s x), some z, tB (aF s x), tW (aF s x), tP (aF s x), tT (aF s x))) (e3 : aN S = aN s) : K6 s S := K6.of x (fun v _ hv => by rw [e2, up1_ne hv]) (by rw [e2, up1_at]; exact (show (7 : Nat) ≠ 6 by decide)) (fun _ _ _ => by rw [e3])
theorem K6.fl {s Q : Ac} {l : List Tk} {o : Nat} (sq : stp s Q l) (h0 : aE (failA Q o) = 0) : K6 s (failA Q o) := by
  obtain ⟨_, _, p1, p2, p3⟩ := sq
  by_cases w : o = 0
  · subst w
    exact absurd h0 (show ¬ (2 : Nat) = 0 by decide)
  · unfold failA at h0 ⊢
    rw [if_neg w] at h0 ⊢
    cases hb : backA (lD (aV Q o)) with
    | nil =>
      show K6 s (sL (data Q (lX (aV Q o)) 0 none none) (o - 1) (aV Q))
      exact K6.dat (x := lX (aV Q o)) (k := 0) (by rw [← p2]; rfl) p3
    | cons d r =>
      obtain ⟨w, n⟩ := d
      show K6 s (if lU (aV Q o) = 20 then sE Q 4 else sL Q o (up1 (aV Q) o (lX (aV Q o), lU (aV Q o), [], (r.map (fun d => d.1)).reverse ++ [w + 1], [tRun], lZ (aV Q o))))
      split
      · exact K6.same p2 p3
      · exact K6.same p2 p3
theorem K6.call {fs : List Fn} {s : Ac} {rk : Nat → Nat} {l : List Tk} {x : Nat} (J : JR fs s rk) (k2 : tK (aF s x) = 2) (h0 : aE (callA fs (setK s l) x) = 0) : K6 s (callA fs (setK s l) x) := by
  unfold callA at h0 ⊢
  by_cases hn : (rulf fs (tO (aF (setK s l) x))).length = 0
  · rw [if_pos hn] at h0 ⊢
    exact K6.fl (l := l) ⟨lvs_set, kg_setK, rfl, rfl, rfl⟩ h0
  · rw [if_neg hn] at h0 ⊢
    obtain ⟨d, hd⟩ : ∃ d, d = (if 1 < (rulf fs (tO (aF (setK s l) x))).length then decA (setK s l) (tW (aF (setK s l) x)) (rulf fs (tO (aF (setK s l) x))).length else (0, setK s l)) := ⟨_, rfl⟩
    simp only [] at h0 ⊢
    rw [← hd] at h0 ⊢
    by_cases e1 : aE d.2 = 0
    · rw [if_pos e1] at h0 ⊢
      by_cases e2 : aE (stepA d.2) = 0
      · rw [if_pos e2] at h0 ⊢
        have hq : aF d.2 = aF s ∧ aN d.2 = aN s ∧ aP d.2 = aP s := by
          by_cases w : 1 < (rulf fs (tO (aF (setK s l) x))).length
          · rw [if_pos w] at hd
            rw [hd] at e1 ⊢
            obtain ⟨_, z2, z3, z4⟩ := Ev.dec e1
            exact ⟨z2, z3, z4⟩
          · rw [if_neg w] at hd
            rw [hd]
            exact ⟨rfl, rfl, rfl⟩
        obtain ⟨f1, f2, f3⟩ := hq
        obtain ⟨R, hR⟩ : ∃ R, R = (rulf fs (tO (aF (setK s l) x))).getD d.1 (none, none, .nil) := ⟨_, rfl⟩
        rw [← hR]
        have es : stepA d.2 = sS d.2 (aS d.2 + 1) := stepA_k e2
        have eF : aF (takeR (stepA d.2) x R) = up1 (aF s) x (tK (aF s x), tO (aF s x), tA (aF s x), tB (aF s x), tW (aF s x), aP s, R.2.2) := by
          rw [es, ← f1, ← f3]
          rfl
        have eN : aN (takeR (stepA d.2) x R) = up1 (aN s) (aP s) (fun _ => none) := by
          rw [es, ← f2, ← f3]
          rfl
        refine K6.of x (fun v _ hv => by rw [eF, up1_ne hv]) (by rw [eF, up1_at]; show tK (aF s x) ≠ 6; omega) (fun v hv h6 => ?_)
        have := J.pl hv (Or.inl h6)
        rw [eN, up1_ne (by omega)]
      · rw [if_neg e2] at h0
        exact absurd h0 e2
    · rw [if_neg e1] at h0
      exact absurd h0 e1
theorem K6.unite {s : Ac} {l : List Tk} {a b u : Nat} (h0 : aE (uniteA (setK s l) a b u) = 0) : K6 s (uniteA (setK s l) a b u) := by
  rw [uniteA_f] at h0 ⊢
  by_cases e : a = b
  · rw [if_pos e]
    exact K6.same rfl rfl
  · rw [if_neg e] at h0 ⊢
    by_cases es : aE (stepA (setK s l)) = 0
    · rw [if_pos es] at h0 ⊢
      have sp := stp_step es
      obtain ⟨P, hP⟩ : ∃ P, P = stepA (setK s l) := ⟨_, rfl⟩
      rw [← hP] at h0 sp ⊢
      obtain ⟨lvP, kP, p1, p2, p3⟩ := id sp
      have bind : ∀ v w, aE (bindA P v w (tW (aF P u))) = 0 → K6 s (bindA P v w (tW (aF P u))) := fun v w h0 => by
        unfold bindA at h0 ⊢
        by_cases w1 : Rc P w v
        · rw [if_pos w1] at h0 ⊢
          exact K6.fl sp h0
        · rw [if_neg w1] at h0 ⊢
          by_cases w2 : tW (aF P v) = tW (aF P u)
          · rw [if_pos w2]
            exact K6.lnk (x := v) (z := w) (by rw [← p2]; rfl) p3
          · rw [if_neg w2] at h0 ⊢
            by_cases w3 : tK (aF P w) = 0 ∧ tW (aF P w) = tW (aF P u)
            · rw [if_pos w3]
              exact K6.lnk (x := w) (z := v) (by rw [← p2]; rfl) p3
            · rw [if_neg w3] at h0
              exact absurd h0 (show ¬ (3 : Nat) = 0 by decide)
      unfold uni at h0 ⊢
      by_cases k0 : tK (aF P a) = 0
      · rw [if_pos k0] at h0 ⊢
        exact bind _ _ h0
      · rw [if_neg k0] at h0 ⊢
        by_cases k1 : tK (aF P b) = 0
        · rw [if_pos k1] at h0 ⊢
          exact bind _ _ h0
        · rw [if_neg k1] at h0 ⊢
          by_cases ko : tO (aF P a) = tO (aF P b)
          · rw [if_pos ko]
            exact K6.same p2 p3
          · rw [if_neg ko] at h0 ⊢
            exact K6.fl sp h0
    · rw [if_neg es] at h0
      exact absurd h0 es
theorem K6.go {fs : List Fn} {s : Ac} {rk : Nat → Nat} (J : JR fs s rk) (hf8 : fs.length ≤ 8) (hE : aE s = 0) (h0 : aE (goX (doA fs) s) = 0) : K6 s (goX (doA fs) s) := by
  cases ht : topK s with
  | nil =>
    unfold goX at h0
    rw [if_pos hE, ht] at h0
    exact absurd h0 (show ¬ (1 : Nat) = 0 by decide)
  | cons t l =>
    rw [goX_cons hE ht] at h0 ⊢
    obtain ⟨q1, q2⟩ := J.2.2.2.1 (aL s) (Nat.le_refl _) [] t l ht
    have m1 : ∀ {x : Nat} {l : List Nat}, x ∈ x :: l := fun {x l} => List.mem_cons_self ..
    obtain ⟨k, y, c, d, p⟩ := t
    match k, ht, q1, q2, h0 with
    | 0, ht, q1, _, h0 =>
      have dm : doA fs (setK s l) (0, y, c, d, p) = forceG fs false (setK s l) (root s y) := rfl
      rw [dm] at h0 ⊢
      have rl := J.1.lt (q1 y m1).1
      by_cases k2 : tK (aF s (root s y)) = 2
      · have e : forceG fs false (setK s l) (root s y) = callA fs (setK s l) (root s y) := by
          unfold forceG
          rw [show tK (aF (setK s l) (root s y)) = 2 from k2]
          rfl
        rw [e] at h0 ⊢
        exact K6.call J k2 h0
      · by_cases k3 : tK (aF s (root s y)) = 3
        · obtain ⟨dd, hdd⟩ : ∃ dd, dd = decA (setK s l) (tW (aF s (root s y))) 2 := ⟨_, rfl⟩
          have ef : forceG fs false (setK s l) (root s y) = if aE dd.2 = 0 then (match (if dd.1 = 0 then tA (aF s (root s y)) else tB (aF s (root s y))) with
            | some z => push (link dd.2 (root s y) z) [(0, z, 0, 0, .nil)]
            | none => dd.2) else dd.2 := by
            unfold forceG
            rw [show tK (aF (setK s l) (root s y)) = 3 from k3, hdd]
            rfl
          rw [ef] at h0 ⊢
          by_cases g1 : aE dd.2 = 0
          · rw [if_pos g1]
            obtain ⟨_, z2, z3, _⟩ : aC dd.2 = aC s ∧ aF dd.2 = aF s ∧ aN dd.2 = aN s ∧ aP dd.2 = aP s := by
              rw [hdd]
              exact Ev.dec (s := setK s l) (by rw [← hdd]; exact g1)
            split
            · exact K6.lnk (x := root s y) (by rw [← z2]; rfl) z3
            · exact K6.same z2 z3
          · rw [if_neg g1] at h0
            exact absurd h0 g1
        · by_cases k4 : tK (aF s (root s y)) = 4
          · unfold forceG
            rw [show tK (aF (setK s l) (root s y)) = 4 from k4]
            exact K6.same rfl rfl
          · by_cases k5 : tK (aF s (root s y)) = 5
            · unfold forceG
              rw [show tK (aF (setK s l) (root s y)) = 5 from k5]
              exact K6.same rfl rfl
            · by_cases k6 : tK (aF s (root s y)) = 6
              · unfold forceG
                rw [show tK (aF (setK s l) (root s y)) = 6 from k6]
                exact K6.same rfl rfl
              · have n7 := J.1.n7 (q1 y m1).1
                have k8 := (J.2.2.1.1 _ rl).1
                unfold forceG
                rcases (show tK (aF (setK s l) (root s y)) = 0 ∨ tK (aF (setK s l) (root s y)) = 1 by show tK (aF s (root s y)) = 0 ∨ tK (aF s (root s y)) = 1; omega) with q | q <;> rw [q] <;> exact K6.same rfl rfl
    | 1, _, _, _, _ => exact K6.same (S := push (setK s l) [(0, y, 0, 0, .nil), (2, y, 0, 0, .nil)]) rfl rfl
    | 2, _, _, _, _ =>
      by_cases w : tK (aF s (root s y)) = 1 ∧ aM s (root s y) = 0
      · have e : doA fs (setK s l) (2, y, c, d, p) = push (setK s l) (oT 1 (tA (aF s (root s y))) ++ oT 1 (tB (aF s (root s y))) ++ [(3, root s y, 0, 0, .nil)]) := if_pos w
        rw [e]
        exact K6.same rfl rfl
      · have e : doA fs (setK s l) (2, y, c, d, p) = setK s l := if_neg w
        rw [e]
        exact K6.same rfl rfl
    | 3, _, _, _, _ => exact K6.same (S := sM (setK s l) (up1 (aM s) y 1)) rfl rfl
    | 4, ht, q1, q2, _ =>
      by_cases w : tcode p < 10
      · have e : doA fs (setK s l) (4, y, c, d, p) = nameA (setK s l) c (tcode p) y := if_pos w
        rw [e]
        have hc := (q1 c (List.mem_cons_of_mem _ m1)).1
        obtain ⟨s1, s2, s3, s4⟩ := q2
        obtain ⟨l1, l2, el⟩ := List.append_of_mem s3
        obtain ⟨k2, kT⟩ : tK (aF s c) = 2 ∧ tT (aF s c) ≠ .nil := (J.2.2.2.1 (aL s) (Nat.le_refl _) ((4, y, c, d, p) :: l1) _ l2 (by
          show topK s = _
          rw [ht, el]
          rfl)).2
        intro x hx h6 _
        have : tP (aF s x) ≠ tP (aF s c) := fun q => by
          have := J.2.2.1.2.1 c x hc hx k2 kT (Or.inl h6) q
          rw [this] at h6
          omega
        exact ⟨rfl, up1_ne this⟩
      · have e : doA fs (setK s l) (4, y, c, d, p) = push (setK s l) [(0, y, 0, 0, .nil), (5, y, c, d, p)] := if_neg w
        rw [e]
        exact K6.same rfl rfl
    | 5, _, q1, _, h0 =>
      have dm : doA fs (setK s l) (5, y, c, d, p) = metA fs (setK s l) p (root s y) c := rfl
      rw [dm] at h0 ⊢
      unfold metA at h0 ⊢
      by_cases k0 : tK (aF (setK s l) (root s y)) = 0
      · rw [if_pos k0] at h0 ⊢
        by_cases wr : ((fs[tO (aF (setK s l) c)]?.map (fun y => y.2.1)).getD false = true) ∨ tW (aF (setK s l) (root s y)) ≠ tW (aF (setK s l) c)
        · rw [if_pos wr]
          exact K6.same rfl rfl
        · rw [if_neg wr]
          refine K6.of (root s y) (fun v hv hvx => ?_) ?_ (fun _ _ _ => rfl)
          · show aF (metT (setK s l) (root s y) (tcode p - 10)) v = _
            have : aF (metT (setK s l) (root s y) (tcode p - 10)) v = app (aF s) (aC s) (List.replicate ((tcode p - 10) / 2) (tOpen (tW (aF s (root s y))))) v := up1_ne hvx
            rw [this, app_lt hv]
          · show tK (aF (metT (setK s l) (root s y) (tcode p - 10)) (root s y)) ≠ 6
            have : tK (aF (metT (setK s l) (root s y) (tcode p - 10)) (root s y)) = 1 := by
              show tK (up1 _ (root s y) _ (root s y)) = 1
              rw [up1_at]
            omega
      · rw [if_neg k0] at h0 ⊢
        by_cases w1 : tO (aF (setK s l) (root s y)) = tcode p - 10
        · rw [if_pos w1]
          exact K6.same rfl rfl
        · rw [if_neg w1] at h0 ⊢
          exact K6.fl (l := l) ⟨lvs_set, kg_setK, rfl, rfl, rfl⟩ h0
    | 6, ht, q1, q2, h0 =>
      have hy := (q1 y m1).1
      obtain ⟨k2, kT⟩ : tK (aF s y) = 2 ∧ tT (aF s y) ≠ .nil := q2
      obtain ⟨z, e1, e2, e3, e4, e5, e6, e7, e8, e9, e10⟩ := end_T hf8 (J.1.eq (s' := setK s l) rfl rfl rfl) (J.2.2.1.eq (s' := setK s l) rfl rfl rfl rfl) (show y < aC (setK s l) from hy) k2 kT
      have ee : doA fs (setK s l) (6, y, c, d, p) = push (endT (setK s l) y z) [(0, z, 0, 0, .nil)] := by
        show endG false (setK s l) y = _
        unfold endG
        show (match (mkL (opsC (setK s l) y) (tW (aF (setK s l) y)) (tP (aF (setK s l) y)) (tT (aF (setK s l) y))).1 with
          | some y' => push (link (addT (opsC (setK s l) y) (mkL (opsC (setK s l) y) (tW (aF (setK s l) y)) (tP (aF (setK s l) y)) (tT (aF (setK s l) y))).2) y y') [(0, y', 0, 0, .nil)]
          | none => _) = _
        rw [e1]
        rfl
      rw [ee]
      refine K6.of y (fun v hv hvy => e7 v hv hvy) ?_ (fun x hx h6 => ?_)
      · show tK (aF (endT (setK s l) y z) y) ≠ 6
        rw [e10]
        exact (show (7 : Nat) ≠ 6 by decide)
      · have : tP (aF s x) ≠ tP (aF s y) := fun q => by
          have := J.2.2.1.2.1 y x hy hx k2 kT (Or.inl h6) q
          rw [this] at h6
          omega
        exact up1_ne this
    | 7, _, _, _, _ => exact K6.dat (x := y) (k := 1) (S := data (setK s l) y 1 none none) rfl rfl
    | 8, _, _, _, h0 => exact K6.fl (l := l) ⟨lvs_set, kg_setK, rfl, rfl, rfl⟩ h0
    | 9, _, _, _, _ => exact K6.dat (x := y) (k := 1) (S := sL (data (setK s l) y 1 none none) (aL s - 1) (aV (setK s l))) rfl rfl
    | 10, _, _, _, h0 => exact K6.unite h0
    | 11, _, _, _, h0 =>
      have dm : doA fs (setK s l) (11, y, c, d, p) = askA (setK s l) (root s y) (root s c) d := rfl
      rw [dm] at h0 ⊢
      unfold askA at h0 ⊢
      by_cases e : root s y = root s c
      · rw [if_pos e]
        exact K6.same rfl rfl
      · rw [if_neg e] at h0 ⊢
        by_cases k0 : tK (aF (setK s l) (root s y)) = 0 ∨ tK (aF (setK s l) (root s c)) = 0
        · rw [if_pos k0]
          exact K6.same rfl rfl
        · rw [if_neg k0] at h0 ⊢
          simp only [] at h0 ⊢
          by_cases es : aE (stepA (setK s l)) = 0
          · rw [if_pos es]
            obtain ⟨_, _, p1, p2, p3⟩ := stp_step es
            split
            · exact K6.same p2 p3
            · exact K6.dat (x := d) (k := 1) (by rw [← p2]; rfl) p3
          · rw [if_neg es] at h0
            exact absurd h0 es
    | 12, _, _, _, h0 =>
      have dm : doA fs (setK s l) (12, y, c, d, p) = runA (setK s l) := rfl
      rw [dm] at h0 ⊢
      have hS : ¬ aS (setK s l) = 100 := fun e => by
        rw [runA_no e] at h0
        exact absurd h0 (show ¬ (4 : Nat) = 0 by decide)
      have gp := runA_go (s := setK s l) hS hE rfl
      rw [gp]
      exact fun x hx _ _ => ⟨app_lt hx, rfl⟩
    | 13, _, _, _, _ => exact K6.same (S := push (setK s l) [(10, y, c, d, .nil), (7, d, 0, 0, .nil)]) rfl rfl
    | 14, _, _, _, _ => exact K6.same (S := push (setK s l) [(11, y, c, d, .nil), (8, d, 0, 0, .nil)]) rfl rfl
    | n + 15, _, _, q2, _ => exact q2.elim
