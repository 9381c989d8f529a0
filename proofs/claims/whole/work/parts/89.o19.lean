/-! A RUN WITHIN IS MADE AGAIN: what belongs to lower owners, or is made meanwhile -/
def RgS (j n0 : Nat) (s : Ac) (x : Nat) : Prop := tW (aF s x) < j ∨ n0 ≤ x
def RgC (j n0 L0 : Nat) (s : Ac) : Prop := ∀ x, n0 ≤ x → x < aC s → (tW (aF s x) < j ∨ L0 < tW (aF s x)) ∧ ∀ y, Ed s x y → RgS j n0 s y
def TRx (j n0 : Nat) (s : Ac) (t : Tk) : Prop := ∀ y, y ∈ mth t → RgS j n0 s y
def RgT (j n0 L0 : Nat) (s S : Ac) : Prop := RgC j n0 L0 S ∧ (∀ x, x < aC s → ¬ RgS j n0 s x → aF S x = aF s x) ∧ ∀ x, x < aC s → ¬ RgS j n0 s x → Nmd (aF s x) → aN S (tP (aF s x)) = aN s (tP (aF s x))
theorem RgS.ev {j n0 : Nat} {s S : Ac} {x : Nat} (h : RgS j n0 s x) (E : Ev s S) (hx : x < aC s) : RgS j n0 S x := by
  unfold RgS at h ⊢
  rw [(E.2 x hx).1]
  exact h
/-- what leads on stays within -/
theorem RgC.ed {j n0 L0 : Nat} {s : Ac} {rk : Nat → Nat} (h : RgC j n0 L0 s) (g : GR s rk) {x y : Nat} (hx : x < aC s) (hr : RgS j n0 s x) (he : Ed s x y) : RgS j n0 s y := by
  by_cases w : n0 ≤ x
  · exact (h x w hx).2 y he
  · have h1 : tW (aF s x) < j := hr.resolve_right w
    have h2 := ((g x hx).2 y he).2.2
    exact Or.inl (by omega)
theorem RgC.rt0 {j n0 L0 : Nat} {s : Ac} {rk : Nat → Nat} (h : RgC j n0 L0 s) (g : GR s rk) : ∀ (d x : Nat), rk x < d → x < aC s → RgS j n0 s x → RgS j n0 s (root s x) := by
  intro d
  induction d with
  | zero => intro x h1; omega
  | succ d ih =>
    intro x h1 hx hr
    by_cases e : tK (aF s x) = 7
    · obtain ⟨y, h2, h3, h4⟩ := g.lk x hx e
      rw [root_lk g.lk hx e h2]
      exact ih y (by omega) h3 (h.ed g hx hr (Or.inl h2))
    · rw [root_no e]
      exact hr
theorem RgC.rt {j n0 L0 : Nat} {s : Ac} {rk : Nat → Nat} (h : RgC j n0 L0 s) (g : GR s rk) {x : Nat} (hx : x < aC s) (hr : RgS j n0 s x) : RgS j n0 s (root s x) := h.rt0 g _ x (Nat.lt_succ_self _) hx hr
/-- the owner of what is within -/
theorem RgC.ow {j n0 L0 : Nat} {s : Ac} (h : RgC j n0 L0 s) {x : Nat} (hx : x < aC s) (hr : RgS j n0 s x) : tW (aF s x) < j ∨ L0 < tW (aF s x) := by
  by_cases w : n0 ≤ x
  · exact (h x w hx).1
  · exact Or.inl (hr.resolve_right w)
theorem RgT.mk {j n0 L0 : Nat} {s S : Ac} (hC : RgC j n0 L0 s) (E : Ev s S)
  (h1 : ∀ x, x < aC s → ¬ RgS j n0 s x → aF S x = aF s x) (h2 : ∀ x, x < aC s → ¬ RgS j n0 s x → Nmd (aF s x) → aN S (tP (aF s x)) = aN s (tP (aF s x)))
  (h3 : ∀ x, n0 ≤ x → x < aC S → (x < aC s ∧ aF S x = aF s x ∧ (Nmd (aF s x) → ∀ k y, aN S (tP (aF s x)) k = some y → aN s (tP (aF s x)) k = some y ∨ RgS j n0 S y)) ∨ ((tW (aF S x) < j ∨ L0 < tW (aF S x)) ∧ ∀ y, Ed S x y → RgS j n0 S y))
  (hb : ∀ x y, x < aC s → Ed s x y → y < aC s) : RgT j n0 L0 s S := by
  refine ⟨fun x x1 x2 => ?_, h1, h2⟩
  rcases h3 x x1 x2 with ⟨a1, a2, a3⟩ | a
  · obtain ⟨c1, c2⟩ := hC x x1 a1
    rw [a2]
    refine ⟨c1, fun y hy => ?_⟩
    have old : ∀ y, Ed s x y → RgS j n0 S y := fun y q => (c2 y q).ev E (hb x y a1 q)
    unfold Ed at hy
    rw [a2] at hy
    rcases hy with q | q | ⟨q, k, q2⟩
    · exact old y (Or.inl q)
    · exact old y (Or.inr (Or.inl q))
    · rcases a3 q k y q2 with z | z
      · exact old y (Or.inr (Or.inr ⟨q, k, z⟩))
      · exact z
  · exact a
/-- nothing of things changes -/
theorem RgT.same {j n0 L0 : Nat} {s S : Ac} (hC : RgC j n0 L0 s) (e1 : aC S = aC s) (e2 : aF S = aF s) (e3 : aN S = aN s) : RgT j n0 L0 s S := by
  refine ⟨fun x x1 x2 => ?_, fun _ _ _ => by rw [e2], fun _ _ _ _ => by rw [e3]⟩
  rw [e1] at x2
  obtain ⟨c1, c2⟩ := hC x x1 x2
  unfold Ed RgS at *
  rw [e2, e3]
  exact ⟨c1, c2⟩
theorem RgT.lnk {j n0 L0 : Nat} {s S : Ac} {rk : Nat → Nat} {x z : Nat} (hC : RgC j n0 L0 s) (g : GR s rk) (E : Ev s S) (hx : RgS j n0 s x) (xl : x < aC s) (hz : RgS j n0 s z) (zl : z < aC s) (e1 : aC S = aC s) (e2 : aF S = up1 (aF s) x (7, tO (aF s x), some z, tB (aF s x), tW (aF s x), tP (aF s x), tT (aF s x))) (e3 : aN S = aN s) : RgT j n0 L0 s S := by
  refine RgT.mk hC E (fun v _ hv => ?_) (fun _ _ _ _ => by rw [e3]) (fun v v1 v2 => ?_) (fun a b ha h => ((g a ha).2 b h).1)
  · rw [e2, up1_ne (fun q => hv (by rw [q]; exact hx))]
  · rw [e1] at v2
    by_cases w : v = x
    · subst w
      have f : aF S v = (7, tO (aF s v), some z, tB (aF s v), tW (aF s v), tP (aF s v), tT (aF s v)) := by rw [e2, up1_at]
      refine Or.inr ⟨by rw [f]; exact hC.ow xl hx, fun y hy => ?_⟩
      unfold Ed at hy
      rw [f] at hy
      rcases hy with q | ⟨q, _⟩ | ⟨q | ⟨q, _⟩, _⟩
      · cases q
        exact hz.ev E zl
      · exact absurd rfl q
      · exact absurd q (show ¬ (7 : Nat) = 6 by decide)
      · exact absurd q (show ¬ (7 : Nat) = 2 by decide)
    · exact Or.inl ⟨v2, by rw [e2, up1_ne w], fun _ k y hy => Or.inl (by rw [e3] at hy; exact hy)⟩
theorem RgT.dat {j n0 L0 : Nat} {s S : Ac} {rk : Nat → Nat} {x k : Nat} (hC : RgC j n0 L0 s) (g : GR s rk) (E : Ev s S) (hx : RgS j n0 s x) (xl : x < aC s) (e1 : aC S = aC s) (e2 : aF S = up1 (aF s) x (1, k, none, none, tW (aF s x), tP (aF s x), tT (aF s x))) (e3 : aN S = aN s) : RgT j n0 L0 s S := by
  refine RgT.mk hC E (fun v _ hv => ?_) (fun _ _ _ _ => by rw [e3]) (fun v v1 v2 => ?_) (fun a b ha h => ((g a ha).2 b h).1)
  · rw [e2, up1_ne (fun q => hv (by rw [q]; exact hx))]
  · rw [e1] at v2
    by_cases w : v = x
    · subst w
      have f : aF S v = (1, k, none, none, tW (aF s v), tP (aF s v), tT (aF s v)) := by rw [e2, up1_at]
      refine Or.inr ⟨by rw [f]; exact hC.ow xl hx, fun y hy => ?_⟩
      unfold Ed at hy
      rw [f] at hy
      rcases hy with q | ⟨_, q⟩ | ⟨q | ⟨q, _⟩, _⟩
      · cases q
      · cases q
      · exact absurd q (show ¬ (1 : Nat) = 6 by decide)
      · exact absurd q (show ¬ (1 : Nat) = 2 by decide)
    · exact Or.inl ⟨v2, by rw [e2, up1_ne w], fun _ k y hy => Or.inl (by rw [e3] at hy; exact hy)⟩
theorem JR.pl {fs : List Fn} {s : Ac} {rk : Nat → Nat} (J : JR fs s rk) {z : Nat} (hz : z < aC s) (hN : Nmd (aF s z)) : tP (aF s z) < aP s := by
  have w := J.2.2.1.1 z hz
  rcases hN with q | ⟨q, q2⟩
  · exact (w.2.2.2.2.2.2 q).2.2.1
  · exact ((w.2.2.2.2.1 q).2 q2).2.2
/-- a rule is taken for a call -/
theorem RgT.tak {fs : List Fn} {j n0 L0 : Nat} {s S : Ac} {rk : Nat → Nat} {x : Nat} {tt : Tr} (hC : RgC j n0 L0 s) (J : JR fs s rk) (E : Ev s S) (hx : RgS j n0 s x) (xl : x < aC s) (k2 : tK (aF s x) = 2) (e1 : aC S = aC s) (e2 : aF S = up1 (aF s) x (tK (aF s x), tO (aF s x), tA (aF s x), tB (aF s x), tW (aF s x), aP s, tt)) (e3 : aN S = up1 (aN s) (aP s) (fun _ => none)) : RgT j n0 L0 s S := by
  refine RgT.mk hC E (fun v _ hv => ?_) (fun v hv _ hN => ?_) (fun v v1 v2 => ?_) (fun a b ha h => ((J.1 a ha).2 b h).1)
  · rw [e2, up1_ne (fun q => hv (by rw [q]; exact hx))]
  · have := J.pl hv hN
    rw [e3, up1_ne (by omega)]
  · rw [e1] at v2
    by_cases w : v = x
    · subst w
      have f : aF S v = (tK (aF s v), tO (aF s v), tA (aF s v), tB (aF s v), tW (aF s v), aP s, tt) := by rw [e2, up1_at]
      refine Or.inr ⟨by rw [f]; exact hC.ow xl hx, fun y hy => ?_⟩
      have old : ∀ y, Ed s v y → RgS j n0 S y := fun y q => (hC.ed J.1 xl hx q).ev E ((J.1 v xl).2 y q).1
      unfold Ed at hy
      rw [f] at hy
      rcases hy with q | ⟨q1, q⟩ | ⟨_, k, q⟩
      · exact old y (Or.inl q)
      · exact old y (Or.inr (Or.inl ⟨q1, q⟩))
      · rw [e3] at q
        have q : up1 (aN s) (aP s) (fun _ => none) (aP s) k = some y := q
        rw [up1_at] at q
        cases q
    · refine Or.inl ⟨v2, by rw [e2, up1_ne w], fun hN k y hy => Or.inl ?_⟩
      have := J.pl v2 hN
      rw [e3, up1_ne (by omega)] at hy
      exact hy
theorem RgT.nam {fs : List Fn} {j n0 L0 : Nat} {s S : Ac} {rk : Nat → Nat} {c k y : Nat} (hC : RgC j n0 L0 s) (J : JR fs s rk) (E : Ev s S) (hc : RgS j n0 s c) (cl : c < aC s) (k2 : tK (aF s c) = 2) (kT : tT (aF s c) ≠ .nil) (hy : RgS j n0 s y) (yl : y < aC s) (e1 : aC S = aC s) (e2 : aF S = aF s) (e3 : aN S = up1 (aN s) (tP (aF s c)) (up1 (aN s (tP (aF s c))) k (some y))) : RgT j n0 L0 s S := by
  refine RgT.mk hC E (fun v _ hv => by rw [e2]) (fun v hv hv2 hN => ?_) (fun v v1 v2 => ?_) (fun a b ha h => ((J.1 a ha).2 b h).1)
  · have : tP (aF s v) ≠ tP (aF s c) := fun q => hv2 (by rw [J.2.2.1.2.1 c v cl hv k2 kT hN q]; exact hc)
    rw [e3, up1_ne this]
  · rw [e1] at v2
    refine Or.inl ⟨v2, by rw [e2], fun hN i z hz => ?_⟩
    rw [e3] at hz
    by_cases w : tP (aF s v) = tP (aF s c)
    · rw [w, up1_at] at hz
      by_cases wi : i = k
      · rw [wi, up1_at] at hz
        cases hz
        exact Or.inr (hy.ev E yl)
      · rw [up1_ne wi] at hz
        rw [w]
        exact Or.inl hz
    · rw [up1_ne w] at hz
      exact Or.inl hz
/-- things of a text are of its names, or new -/
theorem mkA_ed {fs : List Fn} (hf8 : fs.length ≤ 8) {g : Nat → Option Nat} {o p b : Nat} {t : Tr} (hw : twf fs.length (fpf fs) t) (hN : NmO g b t) {n : Nat} {i : Nat} {u : Th} (h : (mkA g o p t n).2[i]? = some u) : tW u = o ∧ (∀ z, (tA u = some z ∨ tB u = some z) → (∃ k, g k = some z) ∨ n ≤ z) ∧ (Nmd u → tP u = p) := by
  obtain ⟨a1, a2, a3, a4, a5, a6, a7, a8, a9⟩ := mkA_spec hf8 hw hN n i u h
  refine ⟨a1, fun z hz => ?_, fun hN => ?_⟩
  · rcases a5 z hz with q | q
    · exact Or.inl q
    · exact Or.inr (by omega)
  · rcases hN with q | ⟨q, q2⟩
    · exact (a9 q).1
    · exact absurd (a7 q).1 q2
