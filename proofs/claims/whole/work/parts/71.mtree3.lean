/-! THE REFERENCE MAKES A TREE, to its end -/
def mk0 (g : Nat → Option Nat) (o p : Nat) (t : Tr) (n : Nat) : List Th := (mkA g o p t n).2
/-- what lacks a part takes y -/
def Par (F : Nat → Th) (y : Nat) (ST : List (Nat × Nat)) : Prop := ∀ x c l, ST = (x, c) :: l → (c = 1 ∧ pts (F x) = 1 ∧ tA (F x) = some y) ∨ (c = 2 ∧ pts (F x) = 2 ∧ tA (F x) = some y) ∨ (c = 1 ∧ pts (F x) = 2 ∧ tB (F x) = some y ∧ ∃ z, tA (F x) = some z ∧ z < 6000)
theorem dcL_lt {L : Nat → Nat} {b : Nat} {ST : List (Nat × Nat)} (h : GS L b ST) {x : Nat} (hx : b ≤ x) : dcL L ST x = L x := by
  cases ST with
  | nil => rfl
  | cons z l => exact up1_ne (by have := h.1; omega)
theorem dcL_new {L : Nat → Nat} {n P : Nat} {ST : List (Nat × Nat)} (h : GS L n ST) : dcL (up1 L n P) ST n = P := by
  cases ST with
  | nil => exact up1_at
  | cons z l => exact (up1_ne (by have := h.1; omega)).trans up1_at
theorem dcL_up {L : Nat → Nat} {n P x : Nat} {ST : List (Nat × Nat)} (h : x ≠ n) : dcL (up1 L n P) ST x = dcL L ST x := by
  cases ST with
  | nil => exact up1_ne h
  | cons z l =>
    show up1 (up1 L n P) z.1 (z.2 - 1) x = up1 L z.1 (z.2 - 1) x
    by_cases e : x = z.1
    · rw [e, up1_at, up1_at]
    · rw [up1_ne e, up1_ne e, up1_ne h]
theorem PT.fe {m m' : Mm} {n : Nat} {F : Nat → Th} {mk L : Nat → Nat} (h : PT m n F mk L) (he : ∀ a, a ≠ 697 → a ≠ 698 → mI m' a = mI m a) : PT m' n F mk L := by
  refine ⟨by rw [he 668 (by decide) (by decide)]; exact h.1, fun x hx => ?_⟩
  obtain ⟨h1, h2, h3⟩ := h.2 x hx
  refine ⟨?_, h2.fe (he _ (by decide) (by decide)) (by rw [he 678 (by decide) (by decide)]) (by rw [he 682 (by decide) (by decide)]) (by rw [he 683 (by decide) (by decide)]), by rw [he 684 (by decide) (by decide)]; exact h3⟩
  unfold PF at *
  rw [he 677 (by decide) (by decide), he 678 (by decide) (by decide), he 679 (by decide) (by decide), he 680 (by decide) (by decide), he 681 (by decide) (by decide)]
  exact h1
theorem dcz_lt {ST : List (Nat × Nat)} (h : ∀ x c, (x, c) ∈ ST → c < 10) {n P : Nat} (hP : P ≤ 2) : ∀ x c, (x, c) ∈ (n, P) :: dcz ST → c < 10 := by
  intro x c hx
  rcases List.mem_cons.mp hx with w | w
  · have : c = P := congrArg Prod.snd w
    omega
  · cases ST with
    | nil => cases w
    | cons z l =>
      rcases List.mem_cons.mp w with w | w
      · have e2 : c = z.2 - 1 := congrArg Prod.snd w
        have := h z.1 z.2 List.mem_cons_self
        omega
      · exact h x c (List.mem_cons_of_mem _ w)
theorem mk_tree {fs : List Fn} {F : Nat → Th} {mk : Nat → Nat} {v1 : Int32} {p o : Nat} {g : Nat → Option Nat} (hf8 : fs.length ≤ 8) (hfp : ∀ f, f < fs.length → fpf fs f ≤ 2) (hp : p < 200) {t : Tr} (hw : twf fs.length (fpf fs) t) :
    ∀ (q n : Nat) (m : Mm) (v4 : Int32) (L : Nat → Nat) (ST : List (Nat × Nat)) (K : Option Value ⊕ String → Mm → Prop), St m → MF0 m fs → TC m q t → q + tsz t ≤ 876 → PT m n F mk L → (∀ k, k < 6 → mI m 685 (6 * p + k) = no (g k)) → KS m ST → GS L n ST → ST.length + tsz t ≤ 16 →
    n + (mkA g o p t n).2.length ≤ 6000 → (∀ x, n ≤ x → mk x = 0 ∧ L x = 0) → (∀ i u, (mkA g o p t n).2[i]? = some u → F (n + i) = u) → (∀ y, (mkA g o p t n).1 = some y → Par F y ST) → NmO g 6000 t → (∀ x c, (x, c) ∈ ST → c < 10) →
    (∀ m' y, (mkA g o p t n).1 = some y → Fr SQ m m' → PT m' (n + (mkA g o p t n).2.length) F mk (dcL L ST) → KS m' (popz (dcz ST)) → V m12_make 12 [some (.ref 668), some (.int v1), some (.int (nn p)), some (.int (nn o)), some (.int (if ST = [] then nn y else v4)), some (.int (nn (popz (dcz ST)).length)), some (.int (nn (q + tsz t))), some (.int (if (popz (dcz ST)).length = 0 then 0 else 1)), none, none, none, none] [] m' K) →
    V m12_make 12 [some (.ref 668), some (.int v1), some (.int (nn p)), some (.int (nn o)), some (.int v4), some (.int (nn ST.length)), some (.int (nn q)), some (.int 1), none, none, none, none] [] m K := by
  refine tr_ind (nf := fs.length) (fp := fpf fs) (P := fun t => ∀ (q n : Nat) (m : Mm) (v4 : Int32) (L : Nat → Nat) (ST : List (Nat × Nat)) (K : Option Value ⊕ String → Mm → Prop), St m → MF0 m fs → TC m q t → q + tsz t ≤ 876 → PT m n F mk L → (∀ k, k < 6 → mI m 685 (6 * p + k) = no (g k)) → KS m ST → GS L n ST → ST.length + tsz t ≤ 16 →
    n + (mkA g o p t n).2.length ≤ 6000 → (∀ x, n ≤ x → mk x = 0 ∧ L x = 0) → (∀ i u, (mkA g o p t n).2[i]? = some u → F (n + i) = u) → (∀ y, (mkA g o p t n).1 = some y → Par F y ST) → NmO g 6000 t → (∀ x c, (x, c) ∈ ST → c < 10) →
    (∀ m' y, (mkA g o p t n).1 = some y → Fr SQ m m' → PT m' (n + (mkA g o p t n).2.length) F mk (dcL L ST) → KS m' (popz (dcz ST)) → V m12_make 12 [some (.ref 668), some (.int v1), some (.int (nn p)), some (.int (nn o)), some (.int (if ST = [] then nn y else v4)), some (.int (nn (popz (dcz ST)).length)), some (.int (nn (q + tsz t))), some (.int (if (popz (dcz ST)).length = 0 then 0 else 1)), none, none, none, none] [] m' K) →
    V m12_make 12 [some (.ref 668), some (.int v1), some (.int (nn p)), some (.int (nn o)), some (.int v4), some (.int (nn ST.length)), some (.int (nn q)), some (.int 1), none, none, none, none] [] m K) ?_ ?_ ?_ (tsz t) t (Nat.le_refl _) hw
  · intro c c1 c2 q n m v4 L ST K hm h0 hcd hq hT hg hK hG hl hb hz hF hPar hN hST k
    rw [tsz_lf] at hq hl
    have hcode := TC_lf hcd
    rw [mkA_lf] at hb hF hPar k
    have hlen : (dcz ST).length = ST.length := by cases ST <;> rfl
    by_cases h10 : c < 10
    · rw [if_pos h10] at hb hF hPar k
      obtain ⟨y, y1, y2⟩ := hN c (by rw [tenc_lf]; exact List.mem_singleton.mpr rfl) h10
      have c6 : c < 6 := by
        unfold cok at c1
        omega
      refine mk_name hm h0 c6 (by omega) hcode hp (by rw [hg c c6, y1]; rfl) ?_
      refine mk_tell hm (by omega) hT hK hG (by omega) y2 (hPar y y1) (fun m' f' t' k' => ?_)
      refine mk_fin0 (q' := q + 1) (f'.st hm) (Fr.mf h0 f') (by omega) hST k' (by omega) (by omega) (fun _ => rfl) (fun w => by omega) ?_
      rw [tsz_lf] at k
      exact k m' y y1 f' t' k'.pop
    · rw [if_neg h10] at hb hF hPar k
      have h33 : c ≠ 33 := fun w => by
        subst w
        unfold prt at c2
        rw [if_neg (by omega), if_neg (by omega), if_neg (by omega), if_pos rfl] at c2
        cases c2
      have hFn : F n = (kdc c, whc c, none, none, o, 0, .nil) := hF 0 _ rfl
      refine mk_new (P := 0) (L := L) hm h0 c1 (by omega) hf8 (by omega) hcode hT (by simp at hb; omega) (hz n (Nat.le_refl _)).1 (by rw [if_neg h33, c2]) (by omega) (by rw [hFn]; rfl) ⟨fun _ => by rw [hFn]; exact ⟨rfl, rfl, rfl⟩, fun w => (h33 w).elim⟩ (by rw [hFn]) (fun m1 f1 t1 e1 => ?_)
      have t2 : PT m1 (n + 1) F mk L := t1.le (fun x hx => by
        by_cases e : x = n
        · rw [e, up1_at, (hz n (Nat.le_refl _)).2]
        · rw [up1_ne e])
      refine mk_tell (f1.st hm) (by simp at hb; omega) t2 (hK.fe (fun i _ => by rw [e1 697 (Or.inl rfl), e1 698 (Or.inr rfl)]; exact ⟨rfl, rfl⟩)) (hG.up (fun _ _ => rfl) (by omega)) (by omega) (by simp at hb; omega) (hPar n rfl) (fun m' f' t' k' => ?_)
      have f2 := f1.trans f'
      refine mk_fin0 (q' := q + 1) (f2.st hm) (Fr.mf h0 f2) (by omega) hST k' (by unfold cok at c1; omega) (by omega) (fun _ => rfl) (fun w => (h33 w).elim) ?_
      rw [tsz_lf] at k
      exact k m' n rfl f2 t' k'.pop
  · intro c a c1 c2 ha ih q n m v4 L ST K hm h0 hcd hq hT hg hK hG hl hb hz hF hPar hN hST k
    rw [tsz_un] at hq hl
    have hpa := tsz_pos ha
    obtain ⟨hcode, hca⟩ := TC_un hcd
    rw [mkA_un] at hb hF hPar k
    have h10 : ¬ c < 10 := fun w => by
      unfold prt at c2
      rw [if_pos w] at c2
      cases c2
    by_cases h33 : c = 33
    · rw [if_pos h33] at hb hF hPar k
      have hFn : F n = (6, 0, none, none, o, p, a) := hF 0 _ rfl
      refine mk_new (P := 0) (L := L) hm h0 c1 (by omega) hf8 (by omega) hcode hT (by simp at hb; omega) (hz n (Nat.le_refl _)).1 (by rw [if_pos h33]) (by omega) (by rw [hFn]; rfl) ⟨fun w => (w h33).elim, fun _ => by rw [hFn]; exact ⟨rfl, rfl, by show q + 1 + tsz a ≤ 876; omega, hca⟩⟩ (by rw [hFn]) (fun m1 f1 t1 e1 => ?_)
      have t2 : PT m1 (n + 1) F mk L := t1.le (fun x hx => by
        by_cases e : x = n
        · rw [e, up1_at, (hz n (Nat.le_refl _)).2]
        · rw [up1_ne e])
      refine mk_tell (f1.st hm) (by simp at hb; omega) t2 (hK.fe (fun i _ => by rw [e1 697 (Or.inl rfl), e1 698 (Or.inr rfl)]; exact ⟨rfl, rfl⟩)) (hG.up (fun _ _ => rfl) (by omega)) (by omega) (by simp at hb; omega) (hPar n rfl) (fun m' f' t' k' => ?_)
      have f2 := f1.trans f'
      refine mk_fin0 (q' := q + tsz (tun c a)) (f2.st hm) (Fr.mf h0 f2) (by omega) hST k' (by omega) (by omega) (fun w => (w h33).elim) (fun _ => ⟨tun c a, twf_un.mpr ⟨c1, c2, ha⟩, by rw [tsz_un]; omega, hcd.fe f2.c676, rfl⟩) ?_
      exact k m' n rfl f2 t' k'.pop
    · rw [if_neg h33] at hb hF hPar k
      have hFn : F n = (kdc c, whc c, (mkA g o p a (n + 1)).1, none, o, 0, .nil) := hF 0 _ rfl
      obtain ⟨ya, y1, y2⟩ := mkA_some (o := o) (p := p) ha hN.un (n + 1)
      simp only [List.length_cons] at hb k
      refine mk_new (P := 1) (L := L) hm h0 c1 (by omega) hf8 (by omega) hcode hT (by omega) (hz n (Nat.le_refl _)).1 (by rw [if_neg h33, c2]) (by omega) (by rw [hFn, y1]; rfl) ⟨fun _ => by rw [hFn]; exact ⟨rfl, rfl, rfl⟩, fun w => (h33 w).elim⟩ (by rw [hFn]) (fun m1 f1 t1 e1 => ?_)
      have hG1 : GS (up1 L n 1) (n + 1) ST := hG.up (fun x hx => up1_ne (by omega)) (by omega)
      refine mk_tell (f1.st hm) (by omega) t1 (hK.fe (fun i _ => by rw [e1 697 (Or.inl rfl), e1 698 (Or.inr rfl)]; exact ⟨rfl, rfl⟩)) hG1 (by omega) (by omega) (hPar n rfl) (fun m' f' t' k' => ?_)
      have f2 := f1.trans f'
      refine mk_finP (f2.st hm) (Fr.mf h0 f2) (by omega) k' (by unfold cok at c1; omega) h33 (by omega) (by omega) (fun m3 f3 e3 k3 => ?_)
      have f4 := f2.trans f3
      have hlen : ((n, 1) :: dcz ST).length = ST.length + 1 := by cases ST <;> rfl
      rw [← hlen]
      have hL0 : ∀ x, n + 1 ≤ x → dcL (up1 L n 1) ST x = 0 := fun x hx => by rw [dcL_up (by omega), dcL_lt hG (by omega)]; exact (hz x (by omega)).2
      refine ih (q + 1) (n + 1) m3 _ (dcL (up1 L n 1) ST) ((n, 1) :: dcz ST) K (f4.st hm) (Fr.mf h0 f4) (hca.fe f4.c676) (by omega) (t'.fe e3) (fun j hj => by rw [f4.c685]; exact hg j hj) k3 ⟨by omega, dcL_new hG, (hG.up (fun x hx => up1_ne (by omega)) (Nat.le_refl n)).dec⟩ (by rw [hlen]; omega) (by omega) (fun x hx => ⟨(hz x (by omega)).1, hL0 x hx⟩) (fun i u hu => by rw [show n + 1 + i = n + (i + 1) by omega]; exact hF (i + 1) u hu) (fun y hy x d l hxl => ?_) hN.un (dcz_lt hST (by decide)) (fun m5 y5 hy5 f5 t5 k5 => ?_)
      · cases hxl
        exact Or.inl ⟨rfl, by rw [hFn, y1]; rfl, by rw [hFn]; exact hy⟩
      · rw [if_neg (by simp), show popz (dcz ((n, 1) :: dcz ST)) = popz (dcz ST) from rfl]
        rw [show popz (dcz ((n, 1) :: dcz ST)) = popz (dcz ST) from rfl] at k5
        have k6 := k m5 n rfl (f4.trans f5) (by
          rw [show n + ((mkA g o p a (n + 1)).2.length + 1) = n + 1 + (mkA g o p a (n + 1)).2.length by omega]
          refine t5.le (fun x hx => ?_)
          show dcL L ST x = up1 (dcL (up1 L n 1) ST) n 0 x
          by_cases e : x = n
          · rw [e, up1_at, dcL_lt hG (Nat.le_refl n)]
            exact (hz n (Nat.le_refl n)).2
          · rw [up1_ne e, dcL_up e]) k5
        rw [tsz_un, show q + (1 + tsz a) = q + 1 + tsz a by omega] at k6
        exact k6
  · intro c a b c1 c2 ha hb' iha ihb q n m v4 L ST K hm h0 hcd hq hT hg hK hG hl hb hz hF hPar hN hST k
    rw [tsz_bi] at hq hl
    have hpa := tsz_pos ha
    have hpb := tsz_pos hb'
    obtain ⟨hcode, hca, hcb⟩ := TC_bi hcd
    rw [mkA_bi] at hb hF hPar k
    have h10 : ¬ c < 10 := fun w => by
      unfold prt at c2
      rw [if_pos w] at c2
      cases c2
    have h33 : c ≠ 33 := fun w => by
      subst w
      unfold prt at c2
      rw [if_neg (by omega), if_neg (by omega), if_neg (by omega), if_pos rfl] at c2
      cases c2
    obtain ⟨ya, y1, y2⟩ := mkA_some (o := o) (p := p) ha hN.l (n + 1)
    obtain ⟨yb, z1, z2⟩ := mkA_some (o := o) (p := p) hb' hN.r (n + 1 + (mkA g o p a (n + 1)).2.length)
    have hFn : F n = (kdc c, whc c, (mkA g o p a (n + 1)).1, (mkA g o p b (n + 1 + (mkA g o p a (n + 1)).2.length)).1, o, 0, .nil) := hF 0 _ rfl
    have hp2 : pts (F n) = 2 := by rw [hFn, z1]; rfl
    simp only [List.length_cons, List.length_append] at hb k
    refine mk_new (P := 2) (L := L) hm h0 c1 (by omega) hf8 (by omega) hcode hT (by omega) (hz n (Nat.le_refl _)).1 (by rw [if_neg h33, c2]) (by omega) hp2 ⟨fun _ => by rw [hFn]; exact ⟨rfl, rfl, rfl⟩, fun w => (h33 w).elim⟩ (by rw [hFn]) (fun m1 f1 t1 e1 => ?_)
    have hG1 : GS (up1 L n 2) (n + 1) ST := hG.up (fun x hx => up1_ne (by omega)) (by omega)
    refine mk_tell (f1.st hm) (by omega) t1 (hK.fe (fun i _ => by rw [e1 697 (Or.inl rfl), e1 698 (Or.inr rfl)]; exact ⟨rfl, rfl⟩)) hG1 (by omega) (by omega) (hPar n rfl) (fun m' f' t' k' => ?_)
    have f2 := f1.trans f'
    refine mk_finP (f2.st hm) (Fr.mf h0 f2) (by omega) k' (by unfold cok at c1; omega) h33 (by omega) (by omega) (fun m3 f3 e3 k3 => ?_)
    have f4 := f2.trans f3
    have hlen : ∀ d, ((n, d) :: dcz ST).length = ST.length + 1 := fun d => by cases ST <;> rfl
    rw [← hlen 2]
    have hL0 : ∀ x, n + 1 ≤ x → dcL (up1 L n 2) ST x = 0 := fun x hx => by rw [dcL_up (by omega), dcL_lt hG (by omega)]; exact (hz x (by omega)).2
    have hGd := (hG.up (L' := up1 L n 2) (fun x hx => up1_ne (by omega)) (Nat.le_refl n)).dec
    refine iha (q + 1) (n + 1) m3 _ (dcL (up1 L n 2) ST) ((n, 2) :: dcz ST) K (f4.st hm) (Fr.mf h0 f4) (hca.fe f4.c676) (by omega) (t'.fe e3) (fun j hj => by rw [f4.c685]; exact hg j hj) k3 ⟨by omega, dcL_new hG, hGd⟩ (by rw [hlen]; omega) (by omega) (fun x hx => ⟨(hz x (by omega)).1, hL0 x hx⟩) (fun i u hu => ?_) (fun y hy x d l hxl => ?_) hN.l (dcz_lt hST (by decide)) (fun m5 y5 hy5 f5 t5 k5 => ?_)
    · rw [show n + 1 + i = n + (i + 1) by omega]
      refine hF (i + 1) u ?_
      show ((mkA g o p a (n + 1)).2 ++ (mkA g o p b (n + 1 + (mkA g o p a (n + 1)).2.length)).2)[i]? = some u
      rw [List.getElem?_append_left (List.getElem?_eq_some_iff.mp hu).1]
      exact hu
    · cases hxl
      exact Or.inr (Or.inl ⟨rfl, hp2, by rw [hFn]; exact hy⟩)
    rw [if_neg (by simp), show popz (dcz ((n, 2) :: dcz ST)) = (n, 1) :: dcz ST from rfl, if_neg (show ¬ ((n, 1) :: dcz ST).length = 0 by simp)]
    rw [show popz (dcz ((n, 2) :: dcz ST)) = (n, 1) :: dcz ST from rfl] at k5
    have f6 := f4.trans f5
    refine ihb (q + 1 + tsz a) (n + 1 + (mkA g o p a (n + 1)).2.length) m5 _ (dcL (dcL (up1 L n 2) ST) ((n, 2) :: dcz ST)) ((n, 1) :: dcz ST) K (f6.st hm) (Fr.mf h0 f6) (hcb.fe f6.c676) (by omega) t5 (fun j hj => by rw [f6.c685]; exact hg j hj) k5 ⟨by omega, up1_at, hGd.up (fun x hx => up1_ne (by omega)) (Nat.le_refl n)⟩ (by rw [hlen]; omega) (by omega) (fun x hx => ⟨(hz x (by omega)).1, (up1_ne (by omega)).trans (hL0 x (by omega))⟩) (fun i u hu => ?_) (fun y hy x d l hxl => ?_) hN.r (dcz_lt hST (by decide)) (fun m7 y7 hy7 f7 t7 k7 => ?_)
    · rw [show n + 1 + (mkA g o p a (n + 1)).2.length + i = n + ((mkA g o p a (n + 1)).2.length + i + 1) by omega]
      refine hF _ u ?_
      show ((mkA g o p a (n + 1)).2 ++ (mkA g o p b (n + 1 + (mkA g o p a (n + 1)).2.length)).2)[(mkA g o p a (n + 1)).2.length + i]? = some u
      rw [List.getElem?_append_right (by omega), show (mkA g o p a (n + 1)).2.length + i - (mkA g o p a (n + 1)).2.length = i by omega]
      exact hu
    · cases hxl
      exact Or.inr (Or.inr ⟨rfl, hp2, by rw [hFn]; exact hy, ya, by rw [hFn]; exact y1, by omega⟩)
    rw [if_neg (by simp), show popz (dcz ((n, 1) :: dcz ST)) = popz (dcz ST) from rfl]
    rw [show popz (dcz ((n, 1) :: dcz ST)) = popz (dcz ST) from rfl] at k7
    have k8 := k m7 n rfl (f6.trans f7) (by
      rw [show n + ((mkA g o p a (n + 1)).2.length + (mkA g o p b (n + 1 + (mkA g o p a (n + 1)).2.length)).2.length + 1) = n + 1 + (mkA g o p a (n + 1)).2.length + (mkA g o p b (n + 1 + (mkA g o p a (n + 1)).2.length)).2.length by omega]
      refine t7.le (fun x hx => ?_)
      show dcL L ST x = up1 (up1 (dcL (up1 L n 2) ST) n 1) n 0 x
      by_cases e : x = n
      · rw [e, up1_at, dcL_lt hG (Nat.le_refl n)]
        exact (hz n (Nat.le_refl n)).2
      · rw [up1_ne e, up1_ne e, dcL_up e]) k7
    rw [tsz_bi, show q + (1 + tsz a + tsz b) = q + 1 + tsz a + tsz b by omega] at k8
    exact k8
/-- a tree is made -/
theorem s12_make {fs : List Fn} {m : Mm} {n p q o : Nat} {F : Nat → Th} {mk : Nat → Nat} {g : Nat → Option Nat} {t : Tr} (hm : St m) (h0 : MF0 m fs) (hfp : ∀ f, f < fs.length → fpf fs f ≤ 2) (hp : p < 200) (hw : twf fs.length (fpf fs) t) (hz : tsz t ≤ 12) (hcd : TC m q t) (hq : q + tsz t ≤ 876) (hT : RT m n F mk) (hg : ∀ k, k < 6 → mI m 685 (6 * p + k) = no (g k)) (hb : n + (mkA g o p t n).2.length ≤ 6000) (hmk : ∀ x, n ≤ x → mk x = 0) (hF : ∀ i u, (mkA g o p t n).2[i]? = some u → F (n + i) = u) (hN : NmO g 6000 t) :
    C m12_make [.ref 668, .int (nn q), .int (nn p), .int (nn o)] m (fun r m' => ∃ y, (mkA g o p t n).1 = some y ∧ r = .inl (some (.int (nn y))) ∧ Fr SQ m m' ∧ RT m' (n + (mkA g o p t n).2.length) F mk) := by
  refine C.of (by decide +kernel) (Nat.le_of_ble_eq_true rfl) rfl (u12_make hm ?_)
  refine mk_tree h0.2.1 hfp hp hw q n m (-1) (fun _ => 0) [] _ hm h0 hcd hq (hT.part (fun _ _ => rfl)) hg trivial trivial (by simp; omega) hb (fun x hx => ⟨hmk x hx, rfl⟩) hF (fun y _ x c l e => by cases e) hN (fun x c e => by cases e) (fun m' y hy f' t' k' => ?_)
  refine u12_make_12 (f'.st hm) ⟨fun _ => ⟨y, hy, rfl, f', t'.full (fun _ _ => rfl)⟩, fun w => (w rfl).elim⟩
