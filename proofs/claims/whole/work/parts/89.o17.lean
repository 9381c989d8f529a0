/-! A RUN WITHIN IS MADE AGAIN: what is united in vain -/
def vnd (k : Nat) (A B : Tr) : Tr := .tag k (.append A B)
def vop (V : Nat → Tr) (x : Option Nat) : Tr := match x with
  | none => .nil
  | some y => .nest 0 (V y)
/-- trees for things, data being what it is -/
def VAL (s : Ac) (V : Nat → Tr) : Prop := ∀ x, x < aC s → (∀ y, tK (aF s x) = 7 → tA (aF s x) = some y → V x = V y) ∧ (tK (aF s x) = 1 → V x = vnd (tO (aF s x)) (vop V (tA (aF s x))) (vop V (tB (aF s x))))
def SATx (s : Ac) (E : List Tk) : Prop := ∃ V, VAL s V ∧ ∀ t, t ∈ E → V t.2.1 = V t.2.2.1
theorem VAL.rt0 {s : Ac} {V : Nat → Tr} {rk : Nat → Nat} (h : VAL s V) (g : GR s rk) : ∀ (d x : Nat), rk x < d → x < aC s → V (root s x) = V x := by
  intro d
  induction d with
  | zero => intro x h1; omega
  | succ d ih =>
    intro x h1 hx
    by_cases e : tK (aF s x) = 7
    · obtain ⟨y, h2, h3, h4⟩ := g.lk x hx e
      rw [root_lk g.lk hx e h2, (h x hx).1 y e h2]
      exact ih y (by omega) h3
    · rw [root_no e]
theorem VAL.rt {s : Ac} {V : Nat → Tr} {rk : Nat → Nat} (h : VAL s V) (g : GR s rk) {x : Nat} (hx : x < aC s) : V (root s x) = V x := h.rt0 g _ x (Nat.lt_succ_self _) hx
theorem vnd_in {k : Nat} {A B : Tr} {V : Nat → Tr} {x y : Option Nat} {w : Nat} (hA : A = vop V x) (hB : B = vop V y) (h : x = some w ∨ y = some w) : SizeOf.sizeOf (V w) < SizeOf.sizeOf (vnd k A B) := by
  have e : SizeOf.sizeOf (vnd k A B) = 1 + SizeOf.sizeOf k + (1 + SizeOf.sizeOf A + SizeOf.sizeOf B) := rfl
  have en : ∀ z, SizeOf.sizeOf (vop V (some z)) = 1 + SizeOf.sizeOf (0 : Int) + SizeOf.sizeOf (V z) := fun z => rfl
  rw [e, hA, hB]
  rcases h with q | q
  · rw [q, en]
    omega
  · rw [q, en]
    omega
/-- what is reached is no greater -/
theorem VAL.rc {s : Ac} {V : Nat → Tr} {rk : Nat → Nat} (h : VAL s V) (g : GR s rk) {a : Nat} : ∀ (d x : Nat), rk x < d → x < aC s → Rc s x a → SizeOf.sizeOf (V a) ≤ SizeOf.sizeOf (V x) := by
  intro d
  induction d with
  | zero => intro x h1; omega
  | succ d ih =>
    intro x h1 hx hr
    have hl := g.lt hx
    have hle := g.le hx
    rcases hr.uncons with z | ⟨z1, w, z2, z3⟩
    · rw [z, h.rt g hx]
      exact Nat.le_refl _
    · obtain ⟨g1, g2, _⟩ := g.pa hl (by omega) z2
      have i := ih w (by omega) g1 z3
      have e := (h (root s x) hl).2 z1
      have := vnd_in (k := tO (aF s (root s x))) (A := vop V (tA (aF s (root s x)))) (B := vop V (tB (aF s (root s x)))) rfl rfl z2
      rw [← e, h.rt g hx] at this
      omega
theorem VAL.ne {s : Ac} {V : Nat → Tr} {rk : Nat → Nat} (h : VAL s V) (g : GR s rk) {a b : Nat} (hb : b < aC s) (hr : RcP s b a) : V a ≠ V b := fun q => by
  obtain ⟨k1, w, w1, w2⟩ := hr
  obtain ⟨g1, g2, _⟩ := g.pa hb (by omega) w1
  have i := h.rc g _ w (Nat.lt_succ_self _) g1 w2
  have e := (h b hb).2 k1
  have := vnd_in (k := tO (aF s b)) (A := vop V (tA (aF s b))) (B := vop V (tB (aF s b))) rfl rfl w1
  rw [← e, ← q] at this
  omega
/-! there are such trees -/
def vf (f : Nat → Th) : Nat → Nat → Tr
  | 0, _ => .nil
  | d + 1, x => if tK (f x) = 7 then (match tA (f x) with
    | some y => vf f d y
    | none => .nil) else if tK (f x) = 1 then vnd (tO (f x)) (vop (vf f d) (tA (f x))) (vop (vf f d) (tB (f x))) else .nil
theorem vf_fuel {s : Ac} {rk : Nat → Nat} (g : GR s rk) : ∀ (d d' x : Nat), x < aC s → rk x < d → rk x < d' → vf (aF s) d x = vf (aF s) d' x := by
  intro d
  induction d with
  | zero => intro d' x _ h1; omega
  | succ d ih =>
    intro d' x hx h1 h2
    obtain ⟨k, rfl⟩ : ∃ k, d' = k + 1 := ⟨d' - 1, by omega⟩
    show (if tK (aF s x) = 7 then (match tA (aF s x) with
      | some y => vf (aF s) d y
      | none => .nil) else if tK (aF s x) = 1 then vnd (tO (aF s x)) (vop (vf (aF s) d) (tA (aF s x))) (vop (vf (aF s) d) (tB (aF s x))) else .nil) = (if tK (aF s x) = 7 then (match tA (aF s x) with
      | some y => vf (aF s) k y
      | none => .nil) else if tK (aF s x) = 1 then vnd (tO (aF s x)) (vop (vf (aF s) k) (tA (aF s x))) (vop (vf (aF s) k) (tB (aF s x))) else .nil)
    by_cases k7 : tK (aF s x) = 7
    · rw [if_pos k7, if_pos k7]
      obtain ⟨y, hy, g1, g2⟩ := g.lk x hx k7
      rw [hy]
      exact ih k y g1 (by omega) (by omega)
    · rw [if_neg k7, if_neg k7]
      by_cases k1 : tK (aF s x) = 1
      · rw [if_pos k1, if_pos k1]
        have one : ∀ o : Option Nat, (∀ w, o = some w → Pa s x w) → vop (vf (aF s) d) o = vop (vf (aF s) k) o := fun o ho => by
          cases o with
          | none => rfl
          | some w =>
            obtain ⟨g1, g2, _⟩ := g.pa hx k7 (ho w rfl)
            show Std.Format.nest 0 (vf (aF s) d w) = Std.Format.nest 0 (vf (aF s) k w)
            rw [ih k w g1 (by omega) (by omega)]
        rw [one _ (fun w hw => Or.inl hw), one _ (fun w hw => Or.inr hw)]
      · rw [if_neg k1, if_neg k1]
theorem VAL.is {s : Ac} {rk : Nat → Nat} (g : GR s rk) : ∃ V, VAL s V := by
  obtain ⟨M, hM⟩ := rk_bd rk (aC s)
  refine ⟨vf (aF s) (M + 1), fun x hx => ⟨fun y k7 hy => ?_, fun k1 => ?_⟩⟩
  · obtain ⟨y', hy', g1, g2⟩ := g.lk x hx k7
    rw [hy] at hy'
    cases hy'
    have e : vf (aF s) (M + 1) x = vf (aF s) M y := by
      show (if tK (aF s x) = 7 then (match tA (aF s x) with
        | some y => vf (aF s) M y
        | none => .nil) else _) = _
      rw [if_pos k7, hy]
    have := hM x hx
    rw [e]
    exact vf_fuel g _ _ y g1 (by omega) (by omega)
  · have e : vf (aF s) (M + 1) x = vnd (tO (aF s x)) (vop (vf (aF s) M) (tA (aF s x))) (vop (vf (aF s) M) (tB (aF s x))) := by
      show (if tK (aF s x) = 7 then _ else if tK (aF s x) = 1 then vnd (tO (aF s x)) (vop (vf (aF s) M) (tA (aF s x))) (vop (vf (aF s) M) (tB (aF s x))) else .nil) = _
      rw [if_neg (by omega), if_pos k1]
    have hx2 := hM x hx
    have one : ∀ o : Option Nat, (∀ w, o = some w → Pa s x w) → vop (vf (aF s) M) o = vop (vf (aF s) (M + 1)) o := fun o ho => by
      cases o with
      | none => rfl
      | some w =>
        obtain ⟨g1, g2, _⟩ := g.pa hx (by omega) (ho w rfl)
        show Std.Format.nest 0 (vf (aF s) M w) = Std.Format.nest 0 (vf (aF s) (M + 1) w)
        rw [vf_fuel g M (M + 1) w g1 (by omega) (by omega)]
    rw [e, one _ (fun w hw => Or.inl hw), one _ (fun w hw => Or.inr hw)]
/-- what is on top can't be united -/
def DMx (s : Ac) (o : Nat) : Prop := ∃ E u r, topK s = E ++ (7, u, 0, 0, .nil) :: r ∧ (∀ t, t ∈ E → t.1 = 10 ∧ t.2.2.2.1 = u) ∧ tW (aF s u) = o ∧ ¬ SATx s E
theorem VAL.st {s S : Ac} {V : Nat → Tr} (e1 : aC S = aC s) (e2 : aF S = aF s) (h : VAL S V) : VAL s V := fun x hx => by
  have := h x (by rw [e1]; exact hx)
  rw [e2] at this
  exact this
theorem VAL.un {s : Ac} {V : Nat → Tr} {x z : Nat} (hk : tK (aF s x) = 0) (hx : x < aC s) (h : VAL (link s x z) V) : VAL s V ∧ V x = V z := by
  have ef : ∀ v, v ≠ x → aF (link s x z) v = aF s v := fun v hv => up1_ne hv
  have ex : aF (link s x z) x = (7, tO (aF s x), some z, tB (aF s x), tW (aF s x), tP (aF s x), tT (aF s x)) := up1_at
  refine ⟨fun v hv => ?_, ?_⟩
  · by_cases e : v = x
    · subst e
      exact ⟨fun y k7 => by omega, fun k1 => by omega⟩
    · have := h v hv
      rw [ef v e] at this
      exact this
  · have := (h x hx).1 z (by rw [ex]) (by rw [ex])
    exact this
/-- a turn of what is united in vain -/
theorem DMx.go {fs : List Fn} {s : Ac} {o : Nat} (hA : AA fs s) (hE : aE s = 0) (h : DMx s o) (h0 : aE (goX (doA fs) s) = 0) : ∃ t l, topK s = t :: l ∧ t.1 = 10 ∧ ((∃ new, lvs s (goX (doA fs) s) l new ∧ kg s (goX (doA fs) s) ∧ aN (goX (doA fs) s) = aN s ∧ aC (goX (doA fs) s) = aC s ∧ (∀ x, x < aC s → tW (aF s x) ≠ o → aF (goX (doA fs) s) x = aF s x) ∧ DMx (goX (doA fs) s) o) ∨ ∃ Q, stp s Q l ∧ goX (doA fs) s = failA Q o) := by
  obtain ⟨⟨⟨rk, J⟩, _⟩, _⟩ := hA
  obtain ⟨E, u, r, hK, hT, hW, hS⟩ := h
  cases E with
  | nil =>
    obtain ⟨V, hV⟩ := VAL.is J.1
    exact absurd ⟨V, hV, fun t ht => (List.not_mem_nil ht).elim⟩ hS
  | cons t E =>
    have ht : topK s = t :: (E ++ (7, u, 0, 0, .nil) :: r) := hK
    obtain ⟨t1, t2⟩ := hT t (List.mem_cons_self ..)
    have hT' : ∀ z, z ∈ E → z.1 = 10 ∧ z.2.2.2.1 = u := fun z hz => hT z (List.mem_cons_of_mem _ hz)
    refine ⟨t, _, ht, t1, ?_⟩
    rw [goX_cons hE ht] at h0 ⊢
    obtain ⟨k, x, y, b, pt⟩ := t
    have t1 : k = 10 := t1
    have t2 : b = u := t2
    subst t1
    subst t2
    obtain ⟨q1, q2⟩ := J.2.2.2.1 (aL s) (Nat.le_refl _) [] _ _ ht
    have hx := (q1 x (List.mem_cons_self ..)).1
    have hy := (q1 y (List.mem_cons_of_mem _ (List.mem_cons_self ..))).1
    have xl := J.1.lt hx
    have yl := J.1.lt hy
    have kx : tK (aF s (root s x)) < 2 := q2.1.elim (fun q => (Cl_iff.mp q).1) (fun ⟨t, ht, _⟩ => (List.not_mem_nil ht).elim)
    have ky : tK (aF s (root s y)) < 2 := q2.2.1.elim (fun q => (Cl_iff.mp q).1) (fun ⟨t, ht, _⟩ => (List.not_mem_nil ht).elim)
    obtain ⟨l, hl⟩ : ∃ l, l = E ++ (7, b, 0, 0, .nil) :: r := ⟨_, rfl⟩
    rw [← hl] at h0 ⊢
    have du : doA fs (setK s l) (10, x, y, b, pt) = uniteA (setK s l) (root s x) (root s y) b := rfl
    rw [du, uniteA_f] at h0 ⊢
    by_cases e : root s x = root s y
    · rw [if_pos e]
      refine Or.inl ⟨[], lvs_set, kg_setK, rfl, rfl, fun _ _ _ => rfl, E, b, r, ?_, hT', hW, fun ⟨V, v1, v2⟩ => hS ⟨V, v1.st (s := s) rfl rfl, fun z hz => ?_⟩⟩
      · rw [topK_setK, hl]
      · rcases List.mem_cons.mp hz with q | q
        · have v1 : VAL s V := v1.st (s := s) rfl rfl
          rw [q]
          show V x = V y
          rw [← v1.rt J.1 hx, ← v1.rt J.1 hy, e]
        · exact v2 z q
    · rw [if_neg e] at h0 ⊢
      by_cases es : aE (stepA (setK s l)) = 0
      · rw [if_pos es] at h0 ⊢
        have sp := stp_step es
        obtain ⟨P, hP⟩ : ∃ P, P = stepA (setK s l) := ⟨_, rfl⟩
        rw [← hP] at h0 sp ⊢
        obtain ⟨lvP, kP, p1, p2, p3⟩ := id sp
        have eP : uni P (root s x) (root s y) b = if tK (aF s (root s x)) = 0 then bindA P (root s x) (root s y) o else if tK (aF s (root s y)) = 0 then bindA P (root s y) (root s x) o else if tO (aF s (root s x)) = tO (aF s (root s y)) then push P (pairs 10 P (root s x) (root s y) b) else failA P o := by
          unfold uni
          rw [p2, hW]
        rw [eP] at h0 ⊢
        have tPk : topK P = E ++ (7, b, 0, 0, .nil) :: r := by
          rw [← hl]
          exact lvP.2.2.2
        have lnk : ∀ v w, v < aC s → tK (aF s v) = 0 → tW (aF s v) = o → (∀ V, VAL s V → V v = V w → V x = V y) → (∃ new, lvs s (link P v w) l new ∧ kg s (link P v w) ∧ aN (link P v w) = aN s ∧ aC (link P v w) = aC s ∧ (∀ z, z < aC s → tW (aF s z) ≠ o → aF (link P v w) z = aF s z) ∧ DMx (link P v w) o) := fun v w hv k0 hw hh => by
          refine ⟨[], lvP, kP, p3, p1, fun z _ hz => ?_, E, b, r, tPk, hT', ?_, fun ⟨V, v1, v2⟩ => ?_⟩
          · have zv : z ≠ v := fun q => hz (by rw [q]; exact hw)
            show up1 (aF P) v _ z = _
            rw [up1_ne zv, p2]
          · show tW (up1 (aF P) v (7, tO (aF P v), some w, tB (aF P v), tW (aF P v), tP (aF P v), tT (aF P v)) b) = o
            rcases up1_or (f := aF P) (x := v) (y := b) (v := (7, tO (aF P v), some w, tB (aF P v), tW (aF P v), tP (aF P v), tT (aF P v))) with ⟨f1, f2⟩ | ⟨_, f2⟩
            · rw [f2]
              show tW (aF P v) = o
              rw [p2]
              exact hw
            · rw [f2, p2]
              exact hW
          · obtain ⟨v3, v4⟩ := v1.un (s := P) (by rw [p2]; exact k0) (by rw [p1]; exact hv)
            have v3 : VAL s V := v3.st (s := s) p1 p2
            refine hS ⟨V, v3, fun z hz => ?_⟩
            rcases List.mem_cons.mp hz with q | q
            · rw [q]
              exact hh V v3 v4
            · exact v2 z q
        have vr : ∀ V, VAL s V → V (root s x) = V (root s y) → V x = V y := fun V v1 q => by
          rw [← v1.rt J.1 hx, ← v1.rt J.1 hy, q]
        have bind : ∀ v w, v < aC s → w < aC s → tK (aF s v) = 0 → (∀ V, VAL s V → V v = V w → V x = V y) → aE (bindA P v w o) = 0 → ((∃ new, lvs s (bindA P v w o) l new ∧ kg s (bindA P v w o) ∧ aN (bindA P v w o) = aN s ∧ aC (bindA P v w o) = aC s ∧ (∀ z, z < aC s → tW (aF s z) ≠ o → aF (bindA P v w o) z = aF s z) ∧ DMx (bindA P v w o) o) ∨ ∃ Q, stp s Q l ∧ bindA P v w o = failA Q o) := fun v w hv hw k0 hh hb0 => by
          unfold bindA at hb0 ⊢
          by_cases w1 : Rc P w v
          · rw [if_pos w1]
            exact Or.inr ⟨P, sp, rfl⟩
          · rw [if_neg w1] at hb0 ⊢
            by_cases w2 : tW (aF P v) = o
            · rw [if_pos w2]
              exact Or.inl (lnk v w hv k0 (by rw [← p2]; exact w2) hh)
            · rw [if_neg w2] at hb0 ⊢
              by_cases w3 : tK (aF P w) = 0 ∧ tW (aF P w) = o
              · rw [if_pos w3]
                rw [p2] at w3
                exact Or.inl (lnk w v hw w3.1 w3.2 (fun V v1 q => hh V v1 q.symm))
              · rw [if_neg w3] at hb0
                exact absurd hb0 (show ¬ (3 : Nat) = 0 by decide)
        by_cases k0 : tK (aF s (root s x)) = 0
        · rw [if_pos k0] at h0 ⊢
          exact bind _ _ xl yl k0 vr h0
        · rw [if_neg k0] at h0 ⊢
          by_cases k1 : tK (aF s (root s y)) = 0
          · rw [if_pos k1] at h0 ⊢
            exact bind _ _ yl xl k1 (fun V v1 q => vr V v1 q.symm) h0
          · rw [if_neg k1] at h0 ⊢
            by_cases ko : tO (aF s (root s x)) = tO (aF s (root s y))
            · rw [if_pos ko]
              refine Or.inl ⟨_, lvP.pu, kP.tr kg_push, p3, p1, fun z _ _ => by show aF P z = _; rw [p2], pairs 10 P (root s x) (root s y) b ++ E, b, r, ?_, fun z hz => ?_, by show tW (aF P b) = o; rw [p2]; exact hW, fun ⟨V, v1, v2⟩ => ?_⟩
              · rw [topK_push, tPk, List.append_assoc]
              · rcases List.mem_append.mp hz with q | q
                · have one : ∀ (X Y : Option Nat), z ∈ pr1 10 X Y b → z.1 = 10 ∧ z.2.2.2.1 = b := fun X Y hh => by
                    cases X with
                    | none => exact (List.not_mem_nil hh).elim
                    | some X =>
                      cases Y with
                      | none => exact (List.not_mem_nil hh).elim
                      | some Y =>
                        have : z = (10, X, Y, b, .nil) := List.mem_singleton.mp hh
                        rw [this]
                        exact ⟨rfl, rfl⟩
                  rcases List.mem_append.mp q with q | q
                  · exact one _ _ q
                  · exact one _ _ q
                · exact hT' z q
              · have v1 : VAL s V := v1.st (s := s) p1 p2
                refine hS ⟨V, v1, fun z hz => ?_⟩
                rcases List.mem_cons.mp hz with q | q
                · rw [q]
                  refine vr V v1 ?_
                  have d1 := (J.2.2.1.1 _ xl).2.2.2.1 (by omega)
                  have d2 := (J.2.2.1.1 _ yl).2.2.2.1 (by omega)
                  rw [(v1 _ xl).2 (by omega), (v1 _ yl).2 (by omega), ko]
                  have op : ∀ (X Y : Option Nat), X.isSome = Y.isSome → (∀ z, z ∈ pr1 10 X Y b → V z.2.1 = V z.2.2.1) → vop V X = vop V Y := fun X Y h1 h2 => by
                    cases X with
                    | none =>
                      cases Y with
                      | none => rfl
                      | some Y => cases h1
                    | some X =>
                      cases Y with
                      | none => cases h1
                      | some Y =>
                        have := h2 (10, X, Y, b, .nil) (List.mem_cons_self ..)
                        show Std.Format.nest 0 (V X) = Std.Format.nest 0 (V Y)
                        have this : V X = V Y := this
                        rw [this]
                  have hpr : ∀ z, z ∈ pairs 10 P (root s x) (root s y) b → V z.2.1 = V z.2.2.1 := fun z hz => v2 z (List.mem_append_left _ hz)
                  unfold pairs at hpr
                  rw [p2] at hpr
                  rw [op (tA (aF s (root s x))) (tA (aF s (root s y))) (by rw [d1.2.1, d2.2.1, ko]) (fun z hz => hpr z (List.mem_append_left _ hz)), op (tB (aF s (root s x))) (tB (aF s (root s y))) (by rw [d1.2.2, d2.2.2, ko]) (fun z hz => hpr z (List.mem_append_right _ hz))]
                · exact v2 z (List.mem_append_right _ q)
            · rw [if_neg ko]
              exact Or.inr ⟨P, sp, rfl⟩
      · rw [if_neg es] at h0
        exact absurd h0 es
theorem first7 {u v : Nat} {r r' : List Tk} : ∀ {m m' : List Tk}, (∀ t, t ∈ m → t.1 = 10) → (∀ t, t ∈ m' → t.1 = 10) → m ++ (7, u, 0, 0, .nil) :: r = m' ++ (7, v, 0, 0, .nil) :: r' → u = v
  | [], [], _, _, e => by
    have := (List.cons.inj e).1
    cases this
    rfl
  | [], t :: m', _, h, e => by
    have e1 := (List.cons.inj e).1
    have := h t (List.mem_cons_self ..)
    rw [← e1] at this
    exact absurd this (show ¬ (7 : Nat) = 10 by decide)
  | t :: m, [], h, _, e => by
    have e1 := (List.cons.inj e).1
    have := h t (List.mem_cons_self ..)
    rw [e1] at this
    exact absurd this (show ¬ (7 : Nat) = 10 by decide)
  | t :: m, t' :: m', h, h', e => first7 (fun z hz => h z (List.mem_cons_of_mem _ hz)) (fun z hz => h' z (List.mem_cons_of_mem _ hz)) (List.cons.inj e).2
/-- what is to be united is so in vain -/
theorem DMx.of {fs : List Fn} {s : Ac} {rk : Nat → Nat} {x y u : Nat} {pt : Tr} {l : List Tk} (J : JR fs s rk) (ht : topK s = (10, x, y, u, pt) :: l) (hr : RcP s (root s y) (root s x) ∨ RcP s (root s x) (root s y)) : DMx s (tW (aF s u)) := by
  obtain ⟨q1, q2⟩ := J.2.2.2.1 (aL s) (Nat.le_refl _) [] _ _ ht
  have hx := (q1 x (List.mem_cons_self ..)).1
  have hy := (q1 y (List.mem_cons_of_mem _ (List.mem_cons_self ..))).1
  have xl := J.1.lt hx
  have yl := J.1.lt hy
  obtain ⟨m, r, el, em⟩ := q2.2.2.1
  have el : l = m ++ (7, u, 0, 0, .nil) :: r := el
  refine ⟨(10, x, y, u, pt) :: m, u, r, by rw [ht, el]; rfl, fun t hm => ?_, rfl, fun ⟨V, v1, v2⟩ => ?_⟩
  · rcases List.mem_cons.mp hm with e | e
    · rw [e]
      exact ⟨rfl, rfl⟩
    · have t10 := em t e
      refine ⟨t10, ?_⟩
      obtain ⟨m1, m2, e2⟩ := List.append_of_mem e
      have k := (J.2.2.2.1 (aL s) (Nat.le_refl _) ((10, x, y, u, pt) :: m1) t (m2 ++ (7, u, 0, 0, .nil) :: r) (by
        show topK s = _
        rw [ht, el, e2]
        simp)).2
      obtain ⟨k', x', y', u', p'⟩ := t
      have t10 : k' = 10 := t10
      subst t10
      obtain ⟨m', r', e3, em'⟩ := k.2.2.1
      exact (first7 (fun z hz => em z (by rw [e2]; exact List.mem_append_right _ (List.mem_cons_of_mem _ hz))) em' e3).symm
  · have h1 : V x = V y := v2 _ (List.mem_cons_self ..)
    rcases hr with q | q
    · have := v1.ne J.1 yl q
      rw [v1.rt J.1 hx, v1.rt J.1 hy] at this
      exact this h1
    · have := v1.ne J.1 xl q
      rw [v1.rt J.1 hx, v1.rt J.1 hy] at this
      exact this h1.symm
