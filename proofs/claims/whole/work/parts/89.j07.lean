/-! WHAT HOLDS IN EVERY RUN: the things of an expression -/
def mdS (fs : List Fn) (g : Nat → Option Nat) (o p n len : Nat) (t : Tr) (i : Nat) (u : Th) : Prop := tW u = o ∧ 1 ≤ tK u ∧ tK u < 7 ∧ tO u < 100 ∧ (∀ z, (tA u = some z ∨ tB u = some z) → (∃ k, g k = some z) ∨ (n + i < z ∧ z < n + len)) ∧ (tK u = 1 → tO u < 6 ∧ (tA u).isSome = decide (2 ≤ tO u) ∧ (tB u).isSome = decide (4 ≤ tO u)) ∧ (tK u = 2 → tT u = .nil ∧ ∃ xf, fs[tO u]? = some xf ∧ (1 ≤ xf.1 → (tA u).isSome = true) ∧ (2 ≤ xf.1 → (tB u).isSome = true)) ∧ (3 ≤ tK u → tK u ≤ 5 → (tA u).isSome = true ∧ (tB u).isSome = true) ∧ (tK u = 6 → tP u = p ∧ twf fs.length (fpf fs) (tT u) ∧ tsz (tT u) ≤ tsz t ∧ ∀ c, c ∈ tenc (tT u) → c ∈ tenc t)
theorem mdS.sub {fs : List Fn} {g : Nat → Option Nat} {o p n n' len len' i i' : Nat} {t t' : Tr} {u : Th} (h : mdS fs g o p n len t i u) (h1 : n + i = n' + i') (h2 : n + len ≤ n' + len') (h3 : tsz t ≤ tsz t') (h4 : ∀ c, c ∈ tenc t → c ∈ tenc t') : mdS fs g o p n' len' t' i' u := by
  obtain ⟨a1, a2, a3, a4, a5, a6, a7, a8, a9⟩ := h
  refine ⟨a1, a2, a3, a4, fun z hz => ?_, a6, a7, a8, fun q => ?_⟩
  · rcases a5 z hz with q | q
    · exact Or.inl q
    · exact Or.inr (by omega)
  · obtain ⟨b1, b2, b3, b4⟩ := a9 q
    exact ⟨b1, b2, by omega, fun c hc => h4 c (b4 c hc)⟩
theorem mdS.node {fs : List Fn} (hf8 : fs.length ≤ 8) {g : Nat → Option Nat} {o p n len c : Nat} {t : Tr} {A B : Option Nat} (h1 : cok fs.length c) (h2 : 10 ≤ c) (h3 : c ≠ 33) (hA : A.isSome = decide (1 ≤ prt (fpf fs) c)) (hB : B.isSome = decide (2 ≤ prt (fpf fs) c)) (hz : ∀ z, (A = some z ∨ B = some z) → (∃ k, g k = some z) ∨ (n < z ∧ z < n + len)) : mdS fs g o p n len t 0 (kdc c, whc c, A, B, o, 0, .nil) := by
  have hc : c < 34 := by
    unfold cok at h1
    omega
  have dec : ∀ c, c < 34 → 10 ≤ c → c ≠ 33 → 1 ≤ kdc c ∧ kdc c < 6 ∧ whc c < 100 := by decide +kernel
  have dec2 : ∀ c, c < 34 → 10 ≤ c → (kdc c = 1 ↔ c < 20) := by decide +kernel
  have dec3 : ∀ c, c < 33 → 10 ≤ c → (kdc c = 2 ↔ (20 ≤ c ∧ c < 30)) := by decide +kernel
  obtain ⟨d1, d2, d3⟩ := dec c hc h2 h3
  have d4 := dec2 c hc h2
  have d5 := dec3 c (by omega) h2
  have d6 : c < 20 → whc c = c - 10 := fun w => if_pos w
  have d7 : 20 ≤ c → whc c = c - 20 := fun w => if_neg (by omega)
  refine ⟨rfl, d1, show kdc c < 7 by omega, d3, fun z hz2 => ?_, fun q => ?_, fun q => ⟨rfl, ?_⟩, fun q1 q2 => ?_, fun q => ?_⟩
  · rcases hz z hz2 with q | q
    · exact Or.inl q
    · exact Or.inr (by omega)
  · have hc2 := d4.mp q
    have hp : prt (fpf fs) c = (c - 10) / 2 := by
      unfold prt
      rw [if_neg (by omega), if_pos hc2]
    have e : whc c = c - 10 := d6 hc2
    have c16 : c < 16 := by
      unfold cok at h1
      omega
    show whc c < 6 ∧ A.isSome = decide (2 ≤ whc c) ∧ B.isSome = decide (4 ≤ whc c)
    rw [hA, hB, hp, e]
    refine ⟨by omega, ?_, ?_⟩
    · exact decide_eq_decide.mpr (by omega)
    · exact decide_eq_decide.mpr (by omega)
  · have hc2 := d5.mp q
    have hp : prt (fpf fs) c = fpf fs (c - 20) := by
      unfold prt
      rw [if_neg (by omega), if_neg (by omega), if_pos hc2.2]
    have e : whc c = c - 20 := d7 hc2.1
    have hlt : c - 20 < fs.length := by
      unfold cok at h1
      omega
    show ∃ xf, fs[whc c]? = some xf ∧ (1 ≤ xf.1 → A.isSome = true) ∧ (2 ≤ xf.1 → B.isSome = true)
    rw [e, List.getElem?_eq_getElem hlt]
    have hfp : fpf fs (c - 20) = (fs[c - 20]'hlt).1 := by
      unfold fpf
      rw [List.getElem?_eq_getElem hlt]
    refine ⟨_, rfl, fun q => ?_, fun q => ?_⟩
    · rw [hA, hp, hfp]
      exact decide_eq_true q
    · rw [hB, hp, hfp]
      exact decide_eq_true q
  · have q1 : 3 ≤ kdc c := q1
    have hc2 : 30 ≤ c := by
      have w1 : ¬ c < 20 := fun w => by
        have := d4.mpr w
        omega
      have w2 : ¬ (20 ≤ c ∧ c < 30) := fun w => by
        have := d5.mpr w
        omega
      omega
    have hp : prt (fpf fs) c = 2 := by
      unfold prt
      rw [if_neg (by omega), if_neg (by omega), if_neg (by omega), if_neg h3]
    show A.isSome = true ∧ B.isSome = true
    rw [hA, hB, hp]
    exact ⟨rfl, rfl⟩
  · have q : kdc c = 6 := q
    omega
theorem mkA_nm {nf : Nat} {fp : Nat → Nat} {g : Nat → Option Nat} {o p b : Nat} {t : Tr} (hw : twf nf fp t) (hN : NmO g b t) : ∀ n, ∃ y, (mkA g o p t n).1 = some y ∧ ((∃ k, g k = some y) ∨ (y = n ∧ 1 ≤ (mkA g o p t n).2.length)) := by
  intro n
  rcases tr_cases hw with ⟨c, rfl, r1, r2⟩ | ⟨c, a, rfl, r1, r2, r3⟩ | ⟨c, a, a', rfl, r1, r2, r3, r4⟩
  · rw [mkA_lf]
    split
    · rename_i q
      obtain ⟨y, hy, _⟩ := hN c (by rw [tenc_lf]; exact List.mem_cons_self ..) q
      exact ⟨y, hy, Or.inl ⟨c, hy⟩⟩
    · exact ⟨n, rfl, Or.inr ⟨rfl, Nat.le_refl _⟩⟩
  · rw [mkA_un]
    split
    · exact ⟨n, rfl, Or.inr ⟨rfl, Nat.le_refl _⟩⟩
    · exact ⟨n, rfl, Or.inr ⟨rfl, by rw [List.length_cons]; omega⟩⟩
  · rw [mkA_bi]
    exact ⟨n, rfl, Or.inr ⟨rfl, by rw [List.length_cons]; omega⟩⟩
theorem mkA_spec {fs : List Fn} (hf8 : fs.length ≤ 8) {g : Nat → Option Nat} {o p b : Nat} {t : Tr} (hw : twf fs.length (fpf fs) t) : NmO g b t → ∀ n i u, (mkA g o p t n).2[i]? = some u → mdS fs g o p n (mkA g o p t n).2.length t i u := by
  have c10 : ∀ c, 1 ≤ prt (fpf fs) c → 10 ≤ c := fun c hpr => by
    unfold prt at hpr
    by_cases q : c < 10
    · rw [if_pos q] at hpr
      omega
    · omega
  refine tr_ind (nf := fs.length) (fp := fpf fs) (P := fun t => NmO g b t → ∀ n i u, (mkA g o p t n).2[i]? = some u → mdS fs g o p n (mkA g o p t n).2.length t i u) ?_ ?_ ?_ (tsz t) t (Nat.le_refl _) hw
  · intro c hc hpr hN n i u hu
    rw [mkA_lf] at hu ⊢
    by_cases q : c < 10
    · rw [if_pos q] at hu
      cases hu
    · rw [if_neg q] at hu ⊢
      cases i with
      | succ i => cases hu
      | zero =>
        cases hu
        have c33 : c ≠ 33 := by
          rintro rfl
          have : prt (fpf fs) 33 = 1 := rfl
          omega
        exact mdS.node hf8 hc (by omega) c33 (by rw [hpr]; rfl) (by rw [hpr]; rfl) (fun z hz => by rcases hz with hz | hz <;> cases hz)
  · intro c a hc hpr hwa ih hN n i u hu
    rw [mkA_un] at hu ⊢
    by_cases q : c = 33
    · rw [if_pos q] at hu ⊢
      cases i with
      | succ i => cases hu
      | zero =>
        cases hu
        refine ⟨rfl, show 1 ≤ 6 by decide, show 6 < 7 by decide, show 0 < 100 by decide, fun z hz => by (rcases hz with hz | hz <;> cases hz), fun q => (by cases q), fun q => (by cases q), fun _ q => absurd q (show ¬ (6 : Nat) ≤ 5 by decide), fun _ => ⟨rfl, hwa, ?_, fun d hd => ?_⟩⟩
        · rw [tsz_un]
          show tsz a ≤ _
          omega
        · rw [tenc_un]
          exact List.mem_cons_of_mem _ hd
    · rw [if_neg q] at hu ⊢
      cases i with
      | zero =>
        cases hu
        obtain ⟨A, hA, hA2⟩ := mkA_nm (g := g) (o := o) (p := p) hwa hN.un (n + 1)
        refine mdS.node hf8 hc (c10 c (by omega)) q (by rw [hpr, hA]; rfl) (by rw [hpr]; rfl) (fun z hz => ?_)
        rcases hz with hz | hz
        · rw [hA] at hz
          cases hz
          rw [List.length_cons]
          rcases hA2 with q | ⟨q, q2⟩
          · exact Or.inl q
          · exact Or.inr (by omega)
        · cases hz
      | succ i =>
        refine (ih hN.un (n + 1) i u hu).sub (by omega) (by rw [List.length_cons]; omega) (by rw [tsz_un]; omega) (fun d hd => ?_)
        rw [tenc_un]
        exact List.mem_cons_of_mem _ hd
  · intro c a a2 hc hpr hwa hwb iha ihb hN n i u hu
    rw [mkA_bi] at hu ⊢
    have c33 : c ≠ 33 := by
      rintro rfl
      have : prt (fpf fs) 33 = 1 := rfl
      omega
    cases i with
    | zero =>
      cases hu
      obtain ⟨A, hA, hA2⟩ := mkA_nm (g := g) (o := o) (p := p) hwa hN.l (n + 1)
      obtain ⟨B, hB, hB2⟩ := mkA_nm (g := g) (o := o) (p := p) hwb hN.r (n + 1 + (mkA g o p a (n + 1)).2.length)
      refine mdS.node hf8 hc (c10 c (by omega)) c33 (by rw [hpr, hA]; rfl) (by rw [hpr, hB]; rfl) (fun z hz => ?_)
      rw [List.length_cons, List.length_append]
      rcases hz with hz | hz
      · rw [hA] at hz
        cases hz
        rcases hA2 with q | ⟨q, q2⟩
        · exact Or.inl q
        · exact Or.inr (by omega)
      · rw [hB] at hz
        cases hz
        rcases hB2 with q | ⟨q, q2⟩
        · exact Or.inl q
        · exact Or.inr (by omega)
    | succ i =>
      rw [show ((kdc c, whc c, (mkA g o p a (n + 1)).1, (mkA g o p a2 (n + 1 + (mkA g o p a (n + 1)).2.length)).1, o, 0, .nil) :: ((mkA g o p a (n + 1)).2 ++ (mkA g o p a2 (n + 1 + (mkA g o p a (n + 1)).2.length)).2))[i + 1]? = ((mkA g o p a (n + 1)).2 ++ (mkA g o p a2 (n + 1 + (mkA g o p a (n + 1)).2.length)).2)[i]? from rfl] at hu
      by_cases q : i < (mkA g o p a (n + 1)).2.length
      · rw [List.getElem?_append_left q] at hu
        refine (iha hN.l (n + 1) i u hu).sub (by omega) (by simp only [List.length_cons, List.length_append]; omega) (by rw [tsz_bi]; omega) (fun d hd => ?_)
        rw [tenc_bi]
        exact List.mem_cons_of_mem _ (List.mem_append_left _ hd)
      · rw [List.getElem?_append_right (by omega)] at hu
        refine (ihb hN.r _ _ u hu).sub (by omega) (by simp only [List.length_cons, List.length_append]; omega) (by rw [tsz_bi]; omega) (fun d hd => ?_)
        rw [tenc_bi]
        exact List.mem_cons_of_mem _ (List.mem_append_right _ hd)
def rkN (rk : Nat → Nat) (n c z : Nat) : Nat := if z < n then 40 * rk z + 40 else 40 * rk c + 39 - (z - n)
theorem rkN_lt {rk : Nat → Nat} {n c z : Nat} (h : z < n) : rkN rk n c z = 40 * rk z + 40 := if_pos h
/-- new things, made of what is below c -/
theorem add_T {fs : List Fn} {s : Ac} {rk : Nat → Nat} {c o p : Nat} {t : Tr} {L : List Th} (g : GR s rk) (t1 : ∀ x, x < aC s → ThO fs s x) (t3 : NRs s) (hc : c < aC s) (hL : L.length ≤ 12) (hp : p < aP s) (hN : NmO (aN s p) (aC s) t) (ht : tsz t ≤ 12) (hg : ∀ k y, aN s p k = some y → rk y < rk c ∧ tW (aF s y) ≤ o) (hS : ∀ i u, L[i]? = some u → mdS fs (aN s p) o p (aC s) L.length t i u) :
    (∀ x, x < aC s + L.length → ThO fs (addT s L) x) ∧ NRs (addT s L) ∧ GR (addT s L) (rkN rk (aC s) c) ∧ (∀ x, x < aC s → aF (addT s L) x = aF s x) ∧ (∀ x, aC s ≤ x → x < aC s + L.length → mdS fs (aN s p) o p (aC s) L.length t (x - aC s) (aF (addT s L) x)) := by
  have ef : ∀ x, x < aC s → aF (addT s L) x = aF s x := fun x hx => app_lt hx
  have en : ∀ x, aC s ≤ x → x < aC s + L.length → mdS fs (aN s p) o p (aC s) L.length t (x - aC s) (aF (addT s L) x) := fun x h1 h2 => by
    obtain ⟨i, rfl⟩ := Nat.le.dest h1
    have hi : i < L.length := by omega
    rw [Nat.add_sub_cancel_left, show aF (addT s L) (aC s + i) = L[i] from app_at (List.getElem?_eq_getElem hi)]
    exact hS i _ (List.getElem?_eq_getElem hi)
  refine ⟨fun x hx => ?_, fun q k y h => Nat.lt_of_lt_of_le (t3 q k y h) (Nat.le_add_right _ _), fun x hx => ?_, ef, en⟩
  · by_cases xn : x < aC s
    · obtain ⟨a1, a2, a3, a4, a5, a6, a7⟩ := t1 x xn
      unfold ThO
      rw [ef x xn]
      refine ⟨a1, a2, a3, a4, a5, a6, fun q => ?_⟩
      obtain ⟨b1, b2, b3, b4⟩ := a7 q
      exact ⟨b1, b2, b3, b4.le (Nat.le_add_right _ _)⟩
    · obtain ⟨a1, a2, a3, a4, a5, a6, a7, a8, a9⟩ := en x (by omega) hx
      refine ⟨by omega, a4, fun q => by omega, a6, fun q => ⟨(a7 q).2, fun q2 => absurd (a7 q).1 q2⟩, a8, fun q => ?_⟩
      obtain ⟨b1, b2, b3, b4⟩ := a9 q
      refine ⟨b2, by omega, by rw [b1]; exact hp, ?_⟩
      rw [b1]
      exact fun d hd hd2 => by
        obtain ⟨y, y1, y2⟩ := hN d (b4 d hd) hd2
        exact ⟨y, y1, Nat.lt_of_lt_of_le y2 (Nat.le_add_right _ _)⟩
  · have hx : x < aC s + L.length := hx
    by_cases xn : x < aC s
    · obtain ⟨g1, g2⟩ := g x xn
      rw [ef x xn]
      refine ⟨g1, fun y hy => ?_⟩
      unfold Ed at hy
      rw [ef x xn] at hy
      obtain ⟨q1, q2, q3⟩ := g2 y hy
      rw [rkN_lt xn, rkN_lt q1, ef y q1]
      exact ⟨Nat.lt_of_lt_of_le q1 (Nat.le_add_right _ _), by omega, q3⟩
    · have sp := en x (by omega) hx
      obtain ⟨a1, a2, a3, a4, a5, a6, a7, a8, a9⟩ := sp
      refine ⟨fun q => by omega, fun y hy => ?_⟩
      have nm : ∀ k, aN s p k = some y → y < aC (addT s L) ∧ rkN rk (aC s) c y < rkN rk (aC s) c x ∧ tW (aF (addT s L) y) ≤ tW (aF (addT s L) x) := fun k hk => by
        have h1 := t3 _ _ _ hk
        obtain ⟨h2, h3⟩ := hg k y hk
        rw [rkN_lt h1, a1, ef y h1]
        refine ⟨Nat.lt_of_lt_of_le h1 (Nat.le_add_right _ _), ?_, h3⟩
        unfold rkN
        rw [if_neg (by omega)]
        omega
      have pt : (tA (aF (addT s L) x) = some y ∨ tB (aF (addT s L) x) = some y) → y < aC (addT s L) ∧ rkN rk (aC s) c y < rkN rk (aC s) c x ∧ tW (aF (addT s L) y) ≤ tW (aF (addT s L) x) := fun q => by
        rcases a5 y q with ⟨k, hk⟩ | ⟨h1, h2⟩
        · exact nm k hk
        · have h3 := en y (by omega) h2
          rw [h3.1, a1]
          refine ⟨h2, ?_, Nat.le_refl _⟩
          unfold rkN
          rw [if_neg (by omega), if_neg (by omega)]
          omega
      rcases hy with q | ⟨_, q⟩ | ⟨q | q, k, q2⟩
      · exact pt (Or.inl q)
      · exact pt (Or.inr q)
      · rw [(a9 q).1] at q2
        exact nm k q2
      · exact absurd (a7 q.1).1 q.2
