/-! HOW MUCH THERE IS: bounds -/
def sD (f : Nat → Th) : List Nat → Nat
  | [] => 0
  | u :: l => wx (f u) + sD f l
theorem sD_app {f : Nat → Th} : ∀ l l' : List Nat, sD f (l ++ l') = sD f l + sD f l'
  | [], l' => (Nat.zero_add _).symm
  | u :: l, l' => by
    show wx (f u) + sD f (l ++ l') = wx (f u) + sD f l + sD f l'
    rw [sD_app l l']
    omega
theorem sD_le {f : Nat → Th} : ∀ (n : Nat) (l : List Nat), l.Nodup → (∀ u, u ∈ l → u < n) → sD f l ≤ sW f n ∧ l.length ≤ n := by
  intro n
  induction n with
  | zero =>
    intro l _ h
    cases l with
    | nil => exact ⟨Nat.le_refl _, Nat.le_refl _⟩
    | cons u l => exact absurd (h u (List.mem_cons_self ..)) (Nat.not_lt_zero _)
  | succ n ih =>
    intro l hn h
    by_cases e : n ∈ l
    · obtain ⟨a, b, rfl⟩ := List.append_of_mem e
      have hn2 : (a ++ b).Nodup ∧ n ∉ a ++ b := by
        rw [List.nodup_append] at hn
        obtain ⟨h1, h2, h3⟩ := hn
        rw [List.nodup_cons] at h2
        refine ⟨List.nodup_append.mpr ⟨h1, h2.2, fun x hx y hy => h3 x hx y (List.mem_cons_of_mem _ hy)⟩, fun q => ?_⟩
        rcases List.mem_append.mp q with q | q
        · exact h3 n q n (List.mem_cons_self ..) rfl
        · exact h2.1 q
      obtain ⟨i1, i2⟩ := ih (a ++ b) hn2.1 (fun u hu => by
        have h1 : u < n + 1 := by
          refine h u ?_
          rcases List.mem_append.mp hu with q | q
          · exact List.mem_append_left _ q
          · exact List.mem_append_right _ (List.mem_cons_of_mem _ q)
        have : u ≠ n := fun q => hn2.2 (q ▸ hu)
        omega)
      rw [sD_app] at i1
      rw [sD_app, List.length_append, List.length_cons]
      rw [List.length_append] at i2
      refine ⟨?_, by omega⟩
      show sD f a + (wx (f n) + sD f b) ≤ sW f n + wx (f n)
      omega
    · obtain ⟨i1, i2⟩ := ih l hn (fun u hu => by
        have := h u hu
        have : u ≠ n := fun q => e (q ▸ hu)
        omega)
      refine ⟨?_, by omega⟩
      show sD f l ≤ sW f n + wx (f n)
      omega
/-- what is under way but runs within -/
def frl : List Tk → List Nat
  | [] => []
  | t :: l => (if t.1 = 15 then [] else frs t) ++ frl l
theorem frl_mem : ∀ {l : List Tk} {u : Nat}, u ∈ frl l → ∃ t, t ∈ l ∧ u ∈ frs t
  | [], u, h => (List.not_mem_nil h).elim
  | t :: l, u, h => by
    rcases List.mem_append.mp h with q | q
    · split at q
      · exact (List.not_mem_nil q).elim
      · exact ⟨t, List.mem_cons_self .., q⟩
    · obtain ⟨t', h1, h2⟩ := frl_mem q
      exact ⟨t', List.mem_cons_of_mem _ h1, h2⟩
theorem frs_mr {t : Tk} {u : Nat} (h : u ∈ frs t) : u ∈ mr t ∧ (frs t).length ≤ 1 := by
  obtain ⟨k, y, a, b, p⟩ := t
  match k, h with
  | 0, h => exact (List.not_mem_nil h).elim
  | 1, h => exact (List.not_mem_nil h).elim
  | 2, h => exact (List.not_mem_nil h).elim
  | 3, h => exact ⟨h, Nat.le_refl _⟩
  | 4, h => exact (List.not_mem_nil h).elim
  | 5, h => exact (List.not_mem_nil h).elim
  | 6, h => exact ⟨h, Nat.le_refl _⟩
  | 7, h => exact ⟨h, Nat.le_refl _⟩
  | 8, h => exact ⟨h, Nat.le_refl _⟩
  | 9, h => exact (List.not_mem_nil h).elim
  | 10, h => exact (List.not_mem_nil h).elim
  | 11, h => exact (List.not_mem_nil h).elim
  | 12, h => exact (List.not_mem_nil h).elim
  | 13, h => exact ⟨h, Nat.le_refl _⟩
  | 14, h => exact ⟨h, Nat.le_refl _⟩
  | 15, h => exact ⟨h, Nat.le_refl _⟩
  | n + 16, h => exact (List.not_mem_nil h).elim
theorem frs_nd {t : Tk} : (frs t).Nodup := by
  obtain ⟨k, y, a, b, p⟩ := t
  have one : ∀ z : Nat, [z].Nodup := fun z => List.nodup_cons.mpr ⟨List.not_mem_nil, List.nodup_nil⟩
  match k with
  | 0 => exact List.nodup_nil
  | 1 => exact List.nodup_nil
  | 2 => exact List.nodup_nil
  | 3 => exact one y
  | 4 => exact List.nodup_nil
  | 5 => exact List.nodup_nil
  | 6 => exact one y
  | 7 => exact one y
  | 8 => exact one y
  | 9 => exact List.nodup_nil
  | 10 => exact List.nodup_nil
  | 11 => exact List.nodup_nil
  | 12 => exact List.nodup_nil
  | 13 => exact one b
  | 14 => exact one b
  | 15 => exact one y
  | n + 16 => exact List.nodup_nil
theorem frl_nd {rk : Nat → Nat} : ∀ {l : List Tk}, List.Pairwise (orR rk) l → (frl l).Nodup
  | [], _ => List.nodup_nil
  | t :: l, h => by
    obtain ⟨h1, h2⟩ := List.pairwise_cons.mp h
    refine List.nodup_append.mpr ⟨?_, frl_nd h2, fun x hx y hy e => ?_⟩
    · split
      · exact List.nodup_nil
      · exact frs_nd
    · split at hx
      · exact (List.not_mem_nil hx).elim
      · obtain ⟨f, f1, f2⟩ := frl_mem hy
        have := h1 f f1 y f2 x (frs_mr hx).1
        rw [e] at this
        omega
theorem JR.rngl {fs : List Fn} {s : Ac} {rk : Nat → Nat} (J : JR fs s rk) : (frl (flX s)).Nodup ∧ ∀ u, u ∈ frl (flX s) → u < aC s :=
  ⟨frl_nd J.2.1, fun u hu => by
    obtain ⟨t, h1, h2⟩ := frl_mem hu
    exact (J.rng h1 h2).1⟩
/-- kinds of tasks that there are -/
theorem JR.kinds {fs : List Fn} {s : Ac} {rk : Nat → Nat} (J : JR fs s rk) {t : Tk} (ht : t ∈ flX s) : t.1 = 15 ∨ ∃ j l1 l2, j ≤ aL s ∧ lK (aV s j) = l1 ++ t :: l2 ∧ KO fs s j l1 t l2 := by
  have lw : ∀ L, L ≤ aL s → t ∈ lowX (aV s) L → t.1 = 15 ∨ ∃ j l1 l2, j ≤ aL s ∧ lK (aV s j) = l1 ++ t :: l2 ∧ KO fs s j l1 t l2 := by
    intro L
    induction L with
    | zero => exact fun _ h => (List.not_mem_nil h).elim
    | succ L ih =>
      intro hL h
      rcases List.mem_cons.mp h with e | h
      · rw [e]
        exact Or.inl rfl
      · rcases List.mem_append.mp h with h | h
        · obtain ⟨l1, l2, e⟩ := List.append_of_mem h
          exact Or.inr ⟨L, l1, l2, by omega, e, J.2.2.2.1 L (by omega) l1 t l2 e⟩
        · exact ih (by omega) h
  rcases List.mem_append.mp ht with h | h
  · obtain ⟨l1, l2, e⟩ := List.append_of_mem h
    exact Or.inr ⟨aL s, l1, l2, Nat.le_refl _, e, J.2.2.2.1 _ (Nat.le_refl _) l1 t l2 e⟩
  · exact lw _ (Nat.le_refl _) h
def c0 (t : Tk) : Nat := if t.1 = 0 then 1 else 0
def c15 (t : Tk) : Nat := if t.1 = 15 then 1 else 0
theorem cn3_bd {fs : List Fn} {f : Nat → Th} : ∀ {l : List Tk}, (∀ t, t ∈ l → (t.1 ≤ 15) ∧ ((t.1 = 4 ∨ t.1 = 5) → 1 ≤ lfs t.2.2.2.2) ∧ ((t.1 = 7 ∨ t.1 = 8) → tK (f t.2.1) = 4 ∨ tK (f t.2.1) = 5)) → cn3 l ≤ sL1 ct l + sL1 c10 l + sL1 c0 l + sL1 c15 l ∧ sL1 (vv f) l + sL1 c78 l ≤ sD f (frl l) + 2 * sL1 c15 l ∧ l.length ≤ cn3 l + (frl l).length
  | [], _ => ⟨Nat.le_refl _, Nat.le_refl _, Nat.le_refl _⟩
  | t :: l, h => by
    obtain ⟨i1, i2, i3⟩ := cn3_bd (fs := fs) (f := f) (l := l) (fun z hz => h z (List.mem_cons_of_mem _ hz))
    obtain ⟨h1, h2, h3⟩ := h t (List.mem_cons_self ..)
    show (if t.1 = 3 then cn3 l else cn3 l + 1) ≤ (ct t + sL1 ct l) + (c10 t + sL1 c10 l) + (c0 t + sL1 c0 l) + (c15 t + sL1 c15 l) ∧ (vv f t + sL1 (vv f) l) + (c78 t + sL1 c78 l) ≤ sD f ((if t.1 = 15 then [] else frs t) ++ frl l) + 2 * (c15 t + sL1 c15 l) ∧ (t :: l).length ≤ (if t.1 = 3 then cn3 l else cn3 l + 1) + ((if t.1 = 15 then [] else frs t) ++ frl l).length
    rw [sD_app, List.length_cons, List.length_append]
    have w1 : ∀ x, wp x ≤ wx x := fun x => Nat.le_add_right _ _
    obtain ⟨k, y, a, b, p⟩ := t
    have key : (k = 3 ∨ 1 ≤ ct (k, y, a, b, p) + c10 (k, y, a, b, p) + c0 (k, y, a, b, p) + c15 (k, y, a, b, p)) ∧ vv f (k, y, a, b, p) + c78 (k, y, a, b, p) ≤ sD f (if k = 15 then [] else frs (k, y, a, b, p)) + 2 * c15 (k, y, a, b, p) ∧ (k = 3 → 1 ≤ (if k = 15 then [] else frs (k, y, a, b, p)).length) := by
      have h1 : k ≤ 15 := h1
      have h2 : (k = 4 ∨ k = 5) → 1 ≤ lfs p := h2
      have h3 : (k = 7 ∨ k = 8) → tK (f y) = 4 ∨ tK (f y) = 5 := h3
      have w4 : (k = 7 ∨ k = 8) → wp (f y) + 1 ≤ wx (f y) := fun q => by
        unfold wx
        rw [if_pos (h3 q)]
        exact Nat.le_refl _
      match k, h1, h2, w4 with
      | 0, _, _, _ => exact ⟨Or.inr (by show 1 ≤ 0 + 0 + 1 + 0; omega), Nat.zero_le _, fun q => by cases q⟩
      | 1, _, _, _ => exact ⟨Or.inr (by show 1 ≤ 1 + 0 + 0 + 0; omega), Nat.zero_le _, fun q => by cases q⟩
      | 2, _, _, _ => exact ⟨Or.inr (by show 1 ≤ 1 + 0 + 0 + 0; omega), Nat.zero_le _, fun q => by cases q⟩
      | 3, _, _, _ => exact ⟨Or.inl rfl, by show wp (f y) + 0 ≤ wx (f y) + 0 + 0; have := w1 (f y); omega, fun _ => Nat.le_refl _⟩
      | 4, _, h2, _ => exact ⟨Or.inr (by show 1 ≤ lfs p + 0 + 0 + 0; have := h2 (Or.inl rfl); omega), Nat.zero_le _, fun q => by cases q⟩
      | 5, _, h2, _ => exact ⟨Or.inr (by show 1 ≤ lfs p + 0 + 0 + 0; have := h2 (Or.inr rfl); omega), Nat.zero_le _, fun q => by cases q⟩
      | 6, _, _, _ => exact ⟨Or.inr (by show 1 ≤ 1 + 0 + 0 + 0; omega), by show wp (f y) + 0 ≤ wx (f y) + 0 + 0; have := w1 (f y); omega, fun q => by cases q⟩
      | 7, _, _, w4 => exact ⟨Or.inr (by show 1 ≤ 1 + 0 + 0 + 0; omega), by show wp (f y) + 1 ≤ wx (f y) + 0 + 0; have := w4 (Or.inl rfl); omega, fun q => by cases q⟩
      | 8, _, _, w4 => exact ⟨Or.inr (by show 1 ≤ 1 + 0 + 0 + 0; omega), by show wp (f y) + 1 ≤ wx (f y) + 0 + 0; have := w4 (Or.inr rfl); omega, fun q => by cases q⟩
      | 9, _, _, _ => exact ⟨Or.inr (by show 1 ≤ 1 + 0 + 0 + 0; omega), Nat.zero_le _, fun q => by cases q⟩
      | 10, _, _, _ => exact ⟨Or.inr (by show 1 ≤ 0 + 1 + 0 + 0; omega), Nat.zero_le _, fun q => by cases q⟩
      | 11, _, _, _ => exact ⟨Or.inr (by show 1 ≤ 0 + 1 + 0 + 0; omega), Nat.zero_le _, fun q => by cases q⟩
      | 12, _, _, _ => exact ⟨Or.inr (by show 1 ≤ 1 + 0 + 0 + 0; omega), Nat.zero_le _, fun q => by cases q⟩
      | 13, _, _, _ => exact ⟨Or.inr (by show 1 ≤ 1 + 0 + 0 + 0; omega), by show wp (f b) + 0 ≤ wx (f b) + 0 + 0; have := w1 (f b); omega, fun q => by cases q⟩
      | 14, _, _, _ => exact ⟨Or.inr (by show 1 ≤ 1 + 0 + 0 + 0; omega), by show wp (f b) + 0 ≤ wx (f b) + 0 + 0; have := w1 (f b); omega, fun q => by cases q⟩
      | 15, _, _, _ => exact ⟨Or.inr (by show 1 ≤ 0 + 0 + 0 + 1; omega), by show 2 + 0 ≤ 0 + 2 * 1; omega, fun q => by cases q⟩
      | n + 16, h1, _, _ => omega
    obtain ⟨k1, k2, k3⟩ := key
    refine ⟨?_, ?_, ?_⟩
    · show (if k = 3 then cn3 l else cn3 l + 1) ≤ _
      split
      · omega
      · rcases k1 with e | e
        · omega
        · omega
    · have k2' : vv f (k, y, a, b, p) + c78 (k, y, a, b, p) ≤ sD f (if (k, y, a, b, p).1 = 15 then [] else frs (k, y, a, b, p)) + 2 * c15 (k, y, a, b, p) := k2
      omega
    · show l.length + 1 ≤ (if k = 3 then cn3 l else cn3 l + 1) + ((if k = 15 then [] else frs (k, y, a, b, p)).length + (frl l).length)
      split
      · have := k3 ‹_›
        omega
      · omega
theorem flX_all {s : Ac} : cn3 (flX s) = cn3 (allK s) + aL s ∧ (flX s).length = (allK s).length + aL s ∧ sL1 c15 (flX s) = sL1 c15 (allK s) + aL s := by
  have lw : ∀ L, cn3 (lowX (aV s) L) = cn3 (flatB (aV s) L) + L ∧ (lowX (aV s) L).length = (flatB (aV s) L).length + L ∧ sL1 c15 (lowX (aV s) L) = sL1 c15 (flatB (aV s) L) + L := by
    intro L
    induction L with
    | zero => exact ⟨rfl, rfl, rfl⟩
    | succ L ih =>
      show cn3 (lK (aV s L) ++ lowX (aV s) L) + 1 = cn3 (lK (aV s L) ++ flatB (aV s) L) + (L + 1) ∧ (lK (aV s L) ++ lowX (aV s) L).length + 1 = (lK (aV s L) ++ flatB (aV s) L).length + (L + 1) ∧ 1 + sL1 c15 (lK (aV s L) ++ lowX (aV s) L) = sL1 c15 (lK (aV s L) ++ flatB (aV s) L) + (L + 1)
      rw [cn3_app, cn3_app, List.length_append, List.length_append, sL1_app, sL1_app]
      omega
  obtain ⟨l1, l2, l3⟩ := lw (aL s)
  show cn3 (topK s ++ lowX (aV s) (aL s)) = cn3 (topK s ++ flatB (aV s) (aL s)) + aL s ∧ (topK s ++ lowX (aV s) (aL s)).length = (topK s ++ flatB (aV s) (aL s)).length + aL s ∧ sL1 c15 (topK s ++ lowX (aV s) (aL s)) = sL1 c15 (topK s ++ flatB (aV s) (aL s)) + aL s
  rw [cn3_app, cn3_app, List.length_append, List.length_append, sL1_app, sL1_app]
  omega
theorem sL1_0 {g : Tk → Nat} : ∀ {l : List Tk}, (∀ t, t ∈ l → g t = 0) → sL1 g l = 0
  | [], _ => rfl
  | t :: l, h => by
    show g t + sL1 g l = 0
    rw [h t (List.mem_cons_self ..), sL1_0 (fun z hz => h z (List.mem_cons_of_mem _ hz))]
/-- all bounds -/
theorem NB.all {fs : List Fn} {s : Ac} {rk : Nat → Nat} (J : JR fs s rk) (N : NB s) (Z : Z0 s) : aC s ≤ 3412 ∧ aP s ≤ 101 ∧ aR s ≤ 102 ∧ aL s ≤ 101 ∧ (liv s (aL s) → aL s ≤ 100) ∧ cn3 (allK s) ≤ 3600 ∧ (allK s).length ≤ 7100 := by
  obtain ⟨n1, n2, n3, n4, n5, n6, n7, n8⟩ := N
  have hP : 1 ≤ aL s → 1 ≤ aP s := fun h => by
    obtain ⟨b1, b2, _⟩ := J.2.2.2.2 1 (Nat.le_refl _) h
    have := ((J.2.2.1.1 _ b1).2.2.2.2.2.2 b2).2.2.1
    omega
  obtain ⟨r1, r2⟩ := J.rngl
  obtain ⟨d1, d2⟩ := sD_le (f := aF s) (aC s) _ r1 r2
  have bd := cn3_bd (fs := fs) (f := aF s) (l := flX s) (fun t ht => by
    rcases J.kinds ht with e | ⟨j, l1, l2, hj, e, q1, q2⟩
    · exact ⟨by omega, fun q => by omega, fun q => by omega⟩
    · obtain ⟨k, y, a, b, p⟩ := t
      refine ⟨Classical.byContradiction fun w => ?_, fun q => ?_, fun q => ?_⟩
      · have w : ¬ k ≤ 15 := w
        match k, w, q2 with
        | n + 16, _, q2 => exact q2
      · rcases q with q | q
        · have q : k = 4 := q
          subst q
          exact (lfs_sz q2.1.1).1
        · have q : k = 5 := q
          subst q
          exact (lfs_sz q2.1.1).1
      · rcases q with q | q
        · have q : k = 7 := q
          subst q
          exact Or.inl q2
        · have q : k = 8 := q
          subst q
          exact Or.inr q2)
  obtain ⟨e1, e2, e3⟩ := bd
  obtain ⟨h1, h2⟩ := n8.hd
  obtain ⟨f1, f2, f3⟩ := flX_all (s := s)
  have z0 : sL1 c0 (flX s) ≤ 1 := by
    have hz := Z
    unfold Z0 at hz
    cases e : flX s with
    | nil => exact Nat.zero_le _
    | cons t l =>
      rw [e] at hz
      have : sL1 c0 l = 0 := sL1_0 (fun z hz2 => by
        unfold c0
        rw [if_neg (hz z hz2)])
      show c0 t + sL1 c0 l ≤ 1
      rw [this]
      unfold c0
      split <;> omega
  have z15 : sL1 c15 (allK s) = 0 := sL1_0 (fun z hz => by
    unfold c15
    have : z.1 ≠ 15 := fun q => by
      have mk : ∀ j, j ≤ aL s → z ∈ lK (aV s j) → False := fun j hj h => by
        obtain ⟨l1, l2, e⟩ := List.append_of_mem h
        have := (J.2.2.2.1 j hj l1 z l2 e).2
        rw [q] at this
        exact this
      have fb : ∀ L, L ≤ aL s → z ∈ flatB (aV s) L → False := by
        intro L
        induction L with
        | zero => exact fun _ h => (List.not_mem_nil h).elim
        | succ L ih =>
          intro hL h
          rcases List.mem_append.mp h with h | h
          · exact mk L (by omega) h
          · exact ih (by omega) h
      rcases List.mem_append.mp hz with h | h
      · exact mk _ (Nat.le_refl _) h
      · exact fb _ (Nat.le_refl _) h
    rw [if_neg this])
  have hL : aL s ≤ 101 := by
    by_cases w : 1 ≤ aL s
    · have := hP w
      omega
    · omega
  refine ⟨by omega, by omega, by omega, hL, fun hl => ?_, by omega, by omega⟩
  have := n5.2 hl
  by_cases w : 1 ≤ aL s
  · have := hP w
    omega
  · omega
