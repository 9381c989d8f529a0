/-! A RUN WITHIN IS MADE AGAIN: kinds of turns -/
def DSx (s S : Ac) (k : Nat) : Prop := lU (aV S k) = lU (aV s k) ∧ ((lD (aV S k) = lD (aV s k) ∧ lG (aV S k) = lG (aV s k)) ∨ ∃ n, lD (aV S k) = ((lG (aV s k)).headD 0, n) :: lD (aV s k) ∧ lG (aV S k) = (lG (aV s k)).tail)
def TSa (s S : Ac) : Prop := ∃ t m r new, topK s = t :: (m ++ r) ∧ t.1 ≠ 12 ∧ lvs s S r new ∧ (∀ b, b ∈ new → b.1 ≠ 12) ∧ ∀ k, DSx s S k
def TSx (s S : Ac) : Prop := TSa s S ∨ (∃ t Q l o, topK s = t :: l ∧ t.1 ≠ 12 ∧ stp s Q l ∧ 1 ≤ o ∧ o ≤ aL s ∧ S = failA Q o) ∨ (∃ t x l, topK s = t :: l ∧ t.1 ≠ 12 ∧ S = sL (setK s l) (aL s + 1) (up1 (aV (setK s l)) (aL s + 1) (x, 0, [], [], [tRun], 0))) ∨ (∃ t y l, topK s = t :: l ∧ t.1 ≠ 12 ∧ 1 ≤ aL s ∧ S = sL (data (setK s l) y 1 none none) (aL s - 1) (aV (setK s l))) ∨ (∃ t l, topK s = t :: l ∧ t.1 = 12 ∧ S = runA (setK s l))
theorem kg.ds {s S : Ac} (h : kg s S) : ∀ k, DSx s S k := fun k => ⟨(h.2 k).1, Or.inl ⟨(h.2 k).2.1, (h.2 k).2.2⟩⟩
theorem DSx.kg {s q S : Ac} {k : Nat} (h : DSx s q k) (e : kg q S) : DSx s S k := by
  obtain ⟨h1, h2⟩ := h
  obtain ⟨e1, e2, e3⟩ := e.2 k
  refine ⟨e1.trans h1, ?_⟩
  rw [e2, e3]
  exact h2
theorem DSx.dec {s : Ac} {l : List Tk} {o n k : Nat} (h0 : aE (decA (setK s l) o n).2 = 0) (hE : aE s = 0) : DSx s (decA (setK s l) o n).2 k := by
  have hE : aE (setK s l) = 0 := hE
  obtain ⟨k1, k2, k3⟩ := (kg_setK (s := s) (l := l)).2 k
  by_cases e : k = o
  · subst e
    obtain ⟨e1, e2⟩ := decA_f h0 hE
    have ev : aV (decA (setK s l) k n).2 k = (lX (aV (setK s l) k), lU (aV (setK s l) k), ((decA (setK s l) k n).1, n) :: lD (aV (setK s l) k), (lG (aV (setK s l) k)).tail, lK (aV (setK s l) k), lZ (aV (setK s l) k)) := by
      conv => lhs; rw [e1]
      exact up1_at
    unfold DSx
    rw [ev]
    refine ⟨k1, Or.inr ⟨n, ?_, ?_⟩⟩
    · show ((decA (setK s l) k n).1, n) :: lD (aV (setK s l) k) = _
      rw [e2, k2, k3]
    · show (lG (aV (setK s l) k)).tail = _
      rw [k3]
  · unfold DSx
    rw [decA_ne h0 hE e]
    exact ⟨k1, Or.inl ⟨k2, k3⟩⟩
theorem TSx.fl {s S Q : Ac} {t : Tk} {l : List Tk} {o : Nat} (ht : topK s = t :: l) (h12 : t.1 ≠ 12) (sq : stp s Q l) (ho : o ≤ aL s) (e : S = failA Q o) (h0 : aE S = 0) : TSx s S := by
  by_cases w : o = 0
  · subst w
    rw [e] at h0
    exact absurd h0 (show ¬ (2 : Nat) = 0 by decide)
  · exact Or.inr (Or.inl ⟨t, Q, l, o, ht, h12, sq, by omega, ho, e⟩)
theorem TSx.lv {s S : Ac} {t : Tk} {l new : List Tk} (ht : topK s = t :: l) (h12 : t.1 ≠ 12) (lv : lvs s S l new) (hn : ∀ b, b ∈ new → b.1 ≠ 12) (hd : ∀ k, DSx s S k) : TSx s S := Or.inl ⟨t, [], l, new, ht, h12, lv, hn, hd⟩
theorem n12_2 {t u : Tk} (h1 : t.1 ≠ 12) (h2 : u.1 ≠ 12) : ∀ b, b ∈ [t, u] → b.1 ≠ 12 := fun b hb => by
  rcases List.mem_cons.mp hb with e | e
  · rw [e]
    exact h1
  · rw [List.mem_singleton.mp e]
    exact h2
theorem n12_1 {t : Tk} (h1 : t.1 ≠ 12) : ∀ b, b ∈ [t] → b.1 ≠ 12 := fun b hb => by
  rw [List.mem_singleton.mp hb]
  exact h1
theorem n12_p {A B : Option Nat} {T : List Tk} (hT : ∀ b, b ∈ T → b.1 ≠ 12) : ∀ b, b ∈ oT 1 A ++ oT 1 B ++ T → b.1 ≠ 12 := fun b hb => by
  rcases List.mem_append.mp hb with q | q
  · have : b.1 = 1 := (List.mem_append.mp q).elim oT_k oT_k
    omega
  · exact hT b q
theorem TS_call {fs : List Fn} {s : Ac} {t : Tk} {l : List Tk} {x : Nat} (hE : aE s = 0) (ht : topK s = t :: l) (h12 : t.1 ≠ 12) (ho : tW (aF s x) ≤ aL s) (h0 : aE (callA fs (setK s l) x) = 0) : TSx s (callA fs (setK s l) x) := by
  unfold callA at h0 ⊢
  by_cases hn : (rulf fs (tO (aF (setK s l) x))).length = 0
  · rw [if_pos hn] at h0 ⊢
    exact TSx.fl ht h12 ⟨lvs_set, kg_setK, rfl, rfl, rfl⟩ ho rfl h0
  · rw [if_neg hn] at h0 ⊢
    obtain ⟨d, hd⟩ : ∃ d, d = (if 1 < (rulf fs (tO (aF (setK s l) x))).length then decA (setK s l) (tW (aF (setK s l) x)) (rulf fs (tO (aF (setK s l) x))).length else (0, setK s l)) := ⟨_, rfl⟩
    simp only [] at h0 ⊢
    rw [← hd] at h0 ⊢
    by_cases e1 : aE d.2 = 0
    · rw [if_pos e1] at h0 ⊢
      by_cases e2 : aE (stepA d.2) = 0
      · rw [if_pos e2] at h0 ⊢
        have hq : lvs s d.2 l [] ∧ ∀ k, DSx s d.2 k := by
          by_cases w : 1 < (rulf fs (tO (aF (setK s l) x))).length
          · rw [if_pos w] at hd
            rw [hd] at e1 ⊢
            exact ⟨lvs.dec lvs_set, fun k => DSx.dec e1 hE⟩
          · rw [if_neg w] at hd
            rw [hd]
            exact ⟨lvs_set, kg_setK.ds⟩
        obtain ⟨R, hR⟩ : ∃ R, R = (rulf fs (tO (aF (setK s l) x))).getD d.1 (none, none, .nil) := ⟨_, rfl⟩
        rw [← hR]
        have es : stepA d.2 = sS d.2 (aS d.2 + 1) := stepA_k e2
        refine TSx.lv ht h12 (lvs.pu (q := takeT (stepA d.2) x R) hq.1.step) (fun b hb => ?_) (fun k => (hq.2 k).kg (kg_step.tr (kg_push (s := takeT (stepA d.2) x R))))
        rcases List.mem_append.mp hb with q | q
        · have : b.1 = 4 := (List.mem_append.mp q).elim mt1_k mt1_k
          omega
        · rw [List.mem_singleton.mp q]
          exact (show (6 : Nat) ≠ 12 by decide)
      · rw [if_neg e2] at h0
        exact absurd h0 e2
    · rw [if_neg e1] at h0
      exact absurd h0 e1
theorem TS_force {fs : List Fn} {s : Ac} {rk : Nat → Nat} {y c d : Nat} {p : Tr} {l : List Tk} (J : JR fs s rk) (hE : aE s = 0) (ht : topK s = (0, y, c, d, p) :: l) (h0 : aE (forceG fs false (setK s l) (root s y)) = 0) : TSx s (forceG fs false (setK s l) (root s y)) := by
  have hy := (J.2.2.2.1 (aL s) (Nat.le_refl _) [] _ l ht).1 y (List.mem_cons_self ..)
  have rl := J.1.lt hy.1
  have n7 := J.1.n7 hy.1
  have k8 := (J.2.2.1.1 _ rl).1
  have oL : tW (aF s (root s y)) ≤ aL s := Nat.le_trans (J.1.own hy.1) hy.2
  have h12 : ((0, y, c, d, p) : Tk).1 ≠ 12 := (show (0 : Nat) ≠ 12 by decide)
  by_cases k2 : tK (aF s (root s y)) = 2
  · have e : forceG fs false (setK s l) (root s y) = callA fs (setK s l) (root s y) := by
      unfold forceG
      rw [show tK (aF (setK s l) (root s y)) = 2 from k2]
      rfl
    rw [e] at h0 ⊢
    exact TS_call hE ht h12 oL h0
  · by_cases k3 : tK (aF s (root s y)) = 3
    · obtain ⟨iA, iB⟩ := (J.2.2.1.1 _ rl).2.2.2.2.2.1 (by omega) (by omega)
      obtain ⟨dd, hdd⟩ : ∃ dd, dd = decA (setK s l) (tW (aF s (root s y))) 2 := ⟨_, rfl⟩
      have ef : forceG fs false (setK s l) (root s y) = if aE dd.2 = 0 then (match (if dd.1 = 0 then tA (aF s (root s y)) else tB (aF s (root s y))) with
        | some z => push (link dd.2 (root s y) z) [(0, z, 0, 0, .nil)]
        | none => dd.2) else dd.2 := by
        unfold forceG
        rw [show tK (aF (setK s l) (root s y)) = 3 from k3, hdd]
        rfl
      rw [ef] at h0 ⊢
      by_cases g1 : aE dd.2 = 0
      · rw [if_pos g1] at h0 ⊢
        have io : (if dd.1 = 0 then tA (aF s (root s y)) else tB (aF s (root s y))).isSome = true := by
          split
          · exact iA
          · exact iB
        obtain ⟨z, hz⟩ := Option.isSome_iff_exists.mp io
        rw [hz]
        show TSx s (push (link dd.2 (root s y) z) [(0, z, 0, 0, .nil)])
        have lv : lvs s dd.2 l [] := by rw [hdd]; exact lvs.dec lvs_set
        refine TSx.lv ht h12 (lvs.pu (q := link dd.2 (root s y) z) lv) (n12_1 (show (0 : Nat) ≠ 12 by decide)) (fun k => DSx.kg (q := dd.2) ?_ (kg_push (s := link dd.2 (root s y) z)))
        rw [hdd]
        exact DSx.dec (by rw [← hdd]; exact g1) hE
      · rw [if_neg g1] at h0
        exact absurd h0 g1
    · by_cases k45 : tK (aF s (root s y)) = 4 ∨ tK (aF s (root s y)) = 5
      · rcases k45 with k4 | k5
        · have e : forceG fs false (setK s l) (root s y) = push (setK s l) (oT 1 (tA (aF s (root s y))) ++ oT 1 (tB (aF s (root s y))) ++ [(13, (tA (aF s (root s y))).getD 0, (tB (aF s (root s y))).getD 0, root s y, .nil)]) := by
            unfold forceG
            rw [show tK (aF (setK s l) (root s y)) = 4 from k4]
            rfl
          rw [e]
          exact TSx.lv ht h12 lvs_set.pu (n12_p (n12_1 (show (13 : Nat) ≠ 12 by decide))) (kg_setK.tr kg_push).ds
        · have e : forceG fs false (setK s l) (root s y) = push (setK s l) (oT 1 (tA (aF s (root s y))) ++ oT 1 (tB (aF s (root s y))) ++ [(14, (tA (aF s (root s y))).getD 0, (tB (aF s (root s y))).getD 0, root s y, .nil)]) := by
            unfold forceG
            rw [show tK (aF (setK s l) (root s y)) = 5 from k5]
            rfl
          rw [e]
          exact TSx.lv ht h12 lvs_set.pu (n12_p (n12_1 (show (14 : Nat) ≠ 12 by decide))) (kg_setK.tr kg_push).ds
      · by_cases k6 : tK (aF s (root s y)) = 6
        · refine Or.inr (Or.inr (Or.inl ⟨_, root s y, l, ht, h12, ?_⟩))
          unfold forceG
          rw [show tK (aF (setK s l) (root s y)) = 6 from k6]
          rfl
        · have e : forceG fs false (setK s l) (root s y) = setK s l := by
            unfold forceG
            rcases (show tK (aF (setK s l) (root s y)) = 0 ∨ tK (aF (setK s l) (root s y)) = 1 by show tK (aF s (root s y)) = 0 ∨ tK (aF s (root s y)) = 1; omega) with q | q <;> rw [q] <;> rfl
          rw [e]
          exact TSx.lv ht h12 lvs_set (fun b q => (nil_nz b q).2) kg_setK.ds
theorem TS_unite {s : Ac} {t : Tk} {l : List Tk} {a b u : Nat} (ht : topK s = t :: l) (h12 : t.1 ≠ 12) (ho : tW (aF s u) ≤ aL s) (h0 : aE (uniteA (setK s l) a b u) = 0) : TSx s (uniteA (setK s l) a b u) := by
  rw [uniteA_f] at h0 ⊢
  by_cases e : a = b
  · rw [if_pos e]
    exact TSx.lv ht h12 lvs_set (fun b q => (nil_nz b q).2) kg_setK.ds
  · rw [if_neg e] at h0 ⊢
    by_cases es : aE (stepA (setK s l)) = 0
    · rw [if_pos es] at h0 ⊢
      have sp := stp_step es
      obtain ⟨P, hP⟩ : ∃ P, P = stepA (setK s l) := ⟨_, rfl⟩
      rw [← hP] at h0 sp ⊢
      obtain ⟨lvP, kP, p1, p2, p3⟩ := id sp
      have ho : tW (aF P u) ≤ aL s := by rw [p2]; exact ho
      have bind : ∀ v w, aE (bindA P v w (tW (aF P u))) = 0 → TSx s (bindA P v w (tW (aF P u))) := fun v w h0 => by
        unfold bindA at h0 ⊢
        by_cases w1 : Rc P w v
        · rw [if_pos w1] at h0 ⊢
          exact TSx.fl ht h12 sp ho rfl h0
        · rw [if_neg w1] at h0 ⊢
          by_cases w2 : tW (aF P v) = tW (aF P u)
          · rw [if_pos w2]
            exact TSx.lv ht h12 (S := link P v w) lvP (fun b q => (nil_nz b q).2) kP.ds
          · rw [if_neg w2] at h0 ⊢
            by_cases w3 : tK (aF P w) = 0 ∧ tW (aF P w) = tW (aF P u)
            · rw [if_pos w3]
              exact TSx.lv ht h12 (S := link P w v) lvP (fun b q => (nil_nz b q).2) kP.ds
            · rw [if_neg w3] at h0
              exact absurd h0 (show ¬ (3 : Nat) = 0 by decide)
      unfold uni at h0 ⊢
      by_cases k0 : tK (aF P a) = 0
      · rw [if_pos k0] at h0 ⊢
        exact bind _ _ h0
      · rw [if_neg k0] at h0 ⊢
        by_cases k1 : tK (aF P b) = 0
        · rw [if_pos k1] at h0 ⊢
          exact bind _ _ h0
        · rw [if_neg k1] at h0 ⊢
          by_cases ko : tO (aF P a) = tO (aF P b)
          · rw [if_pos ko]
            exact TSx.lv ht h12 lvP.pu (fun b hb => by rw [pairs_k hb]; decide) (kP.tr kg_push).ds
          · rw [if_neg ko] at h0 ⊢
            exact TSx.fl ht h12 sp ho rfl h0
    · rw [if_neg es] at h0
      exact absurd h0 es
theorem TS_ask {s : Ac} {t : Tk} {l : List Tk} {a b u : Nat} (ht : topK s = t :: l) (h12 : t.1 ≠ 12) (hm : EDk 11 8 u l) (h0 : aE (askA (setK s l) a b u) = 0) : TSx s (askA (setK s l) a b u) := by
  unfold askA at h0 ⊢
  by_cases e : a = b
  · rw [if_pos e]
    exact TSx.lv ht h12 lvs_set (fun b q => (nil_nz b q).2) kg_setK.ds
  · rw [if_neg e] at h0 ⊢
    by_cases k0 : tK (aF (setK s l) a) = 0 ∨ tK (aF (setK s l) b) = 0
    · rw [if_pos k0] at h0
      exact absurd h0 (show ¬ (3 : Nat) = 0 by decide)
    · rw [if_neg k0] at h0 ⊢
      simp only [] at h0 ⊢
      by_cases es : aE (stepA (setK s l)) = 0
      · rw [if_pos es] at h0 ⊢
        obtain ⟨lvP, kP, p1, p2, p3⟩ := stp_step es
        obtain ⟨P, hP⟩ : ∃ P, P = stepA (setK s l) := ⟨_, rfl⟩
        rw [← hP] at lvP kP ⊢
        by_cases ko : tO (aF P a) = tO (aF P b)
        · rw [if_pos ko]
          exact TSx.lv ht h12 lvP.pu (fun b hb => by rw [pairs_k hb]; decide) (kP.tr kg_push).ds
        · rw [if_neg ko]
          obtain ⟨m, r, el, em⟩ := hm
          have et : topK P = l := lvP.2.2.2
          rw [et, el, dropA_m rfl em]
          refine Or.inl ⟨t, m ++ [(8, u, 0, 0, .nil)], r, [], by rw [ht, el]; simp, h12, (lvP.setK : lvs s (setK P r) r []), fun b q => (nil_nz b q).2, ?_⟩
          exact (kP.tr (kg_setK (s := P) (l := r))).ds
      · rw [if_neg es] at h0
        exact absurd h0 es
theorem TS {fs : List Fn} {s : Ac} {rk : Nat → Nat} (J : JR fs s rk) (hf8 : fs.length ≤ 8) (hE : aE s = 0) (h0 : aE (goX (doA fs) s) = 0) : TSx s (goX (doA fs) s) := by
  cases ht : topK s with
  | nil =>
    unfold goX at h0
    rw [if_pos hE, ht] at h0
    exact absurd h0 (show ¬ (1 : Nat) = 0 by decide)
  | cons t l =>
    rw [goX_cons hE ht] at h0 ⊢
    obtain ⟨q1, q2⟩ := J.2.2.2.1 (aL s) (Nat.le_refl _) [] t l ht
    have m1 : ∀ {x : Nat} {l : List Nat}, x ∈ x :: l := fun {x l} => List.mem_cons_self ..
    have nil12 : ∀ b, b ∈ ([] : List Tk) → b.1 ≠ 12 := fun b q => (nil_nz b q).2
    obtain ⟨k, y, c, d, p⟩ := t
    match k, ht, q1, q2, h0 with
    | 0, ht, _, _, h0 => exact TS_force J hE ht h0
    | 1, ht, _, _, _ => exact TSx.lv ht (show (1 : Nat) ≠ 12 by decide) (S := push (setK s l) [(0, y, 0, 0, .nil), (2, y, 0, 0, .nil)]) lvs_set.pu (n12_2 (show (0 : Nat) ≠ 12 by decide) (show (2 : Nat) ≠ 12 by decide)) (kg_setK.tr kg_push).ds
    | 2, ht, _, _, _ =>
      by_cases w : tK (aF s (root s y)) = 1 ∧ aM s (root s y) = 0
      · have e : doA fs (setK s l) (2, y, c, d, p) = push (setK s l) (oT 1 (tA (aF s (root s y))) ++ oT 1 (tB (aF s (root s y))) ++ [(3, root s y, 0, 0, .nil)]) := if_pos w
        rw [e]
        exact TSx.lv ht (show (2 : Nat) ≠ 12 by decide) lvs_set.pu (n12_p (n12_1 (show (3 : Nat) ≠ 12 by decide))) (kg_setK.tr kg_push).ds
      · have e : doA fs (setK s l) (2, y, c, d, p) = setK s l := if_neg w
        rw [e]
        exact TSx.lv ht (show (2 : Nat) ≠ 12 by decide) lvs_set nil12 kg_setK.ds
    | 3, ht, _, _, _ => exact TSx.lv ht (show (3 : Nat) ≠ 12 by decide) (S := sM (setK s l) (up1 (aM s) y 1)) (lvs_set (s := s) (l := l)) nil12 (kg_setK (s := s) (l := l)).ds
    | 4, ht, _, _, _ =>
      by_cases w : tcode p < 10
      · have e : doA fs (setK s l) (4, y, c, d, p) = nameA (setK s l) c (tcode p) y := if_pos w
        rw [e]
        exact TSx.lv ht (show (4 : Nat) ≠ 12 by decide) (S := nameA (setK s l) c (tcode p) y) (lvs_set (s := s) (l := l)) nil12 (kg_setK (s := s) (l := l)).ds
      · have e : doA fs (setK s l) (4, y, c, d, p) = push (setK s l) [(0, y, 0, 0, .nil), (5, y, c, d, p)] := if_neg w
        rw [e]
        exact TSx.lv ht (show (4 : Nat) ≠ 12 by decide) lvs_set.pu (n12_2 (show (0 : Nat) ≠ 12 by decide) (show (5 : Nat) ≠ 12 by decide)) (kg_setK.tr kg_push).ds
    | 5, ht, q1, _, h0 =>
      have hc := q1 c (List.mem_cons_of_mem _ m1)
      have dm : doA fs (setK s l) (5, y, c, d, p) = metA fs (setK s l) p (root s y) c := rfl
      rw [dm] at h0 ⊢
      unfold metA at h0 ⊢
      by_cases k0 : tK (aF (setK s l) (root s y)) = 0
      · rw [if_pos k0] at h0 ⊢
        by_cases wr : ((fs[tO (aF (setK s l) c)]?.map (fun y => y.2.1)).getD false = true) ∨ tW (aF (setK s l) (root s y)) ≠ tW (aF (setK s l) c)
        · rw [if_pos wr] at h0
          exact absurd h0 (show ¬ (3 : Nat) = 0 by decide)
        · rw [if_neg wr]
          exact TSx.lv ht (show (5 : Nat) ≠ 12 by decide) (lvs.pu (q := metT (setK s l) (root s y) (tcode p - 10)) lvs_set) (fun b hb => (mt_nz b hb).2) (kg_setK.tr (kg_push (s := metT (setK s l) (root s y) (tcode p - 10)))).ds
      · rw [if_neg k0] at h0 ⊢
        by_cases w1 : tO (aF (setK s l) (root s y)) = tcode p - 10
        · rw [if_pos w1]
          exact TSx.lv ht (show (5 : Nat) ≠ 12 by decide) lvs_set.pu (fun b hb => (mt_nz b hb).2) (kg_setK.tr kg_push).ds
        · rw [if_neg w1] at h0 ⊢
          exact TSx.fl ht (show (5 : Nat) ≠ 12 by decide) ⟨lvs_set, kg_setK, rfl, rfl, rfl⟩ hc.2 rfl h0
    | 6, ht, q1, q2, h0 =>
      obtain ⟨k2, kT⟩ : tK (aF s y) = 2 ∧ tT (aF s y) ≠ .nil := q2
      obtain ⟨z, e1, _⟩ := end_T hf8 (J.1.eq (s' := setK s l) rfl rfl rfl) (J.2.2.1.eq (s' := setK s l) rfl rfl rfl rfl) (show y < aC (setK s l) from (q1 y m1).1) k2 kT
      have ee : doA fs (setK s l) (6, y, c, d, p) = push (endT (setK s l) y z) [(0, z, 0, 0, .nil)] := by
        show endG false (setK s l) y = _
        unfold endG
        show (match (mkL (opsC (setK s l) y) (tW (aF (setK s l) y)) (tP (aF (setK s l) y)) (tT (aF (setK s l) y))).1 with
          | some y' => push (link (addT (opsC (setK s l) y) (mkL (opsC (setK s l) y) (tW (aF (setK s l) y)) (tP (aF (setK s l) y)) (tT (aF (setK s l) y))).2) y y') [(0, y', 0, 0, .nil)]
          | none => _) = _
        rw [e1]
        rfl
      rw [ee]
      exact TSx.lv ht (show (6 : Nat) ≠ 12 by decide) (lvs.pu (q := endT (setK s l) y z) lvs_set) (n12_1 (show (0 : Nat) ≠ 12 by decide)) (kg_setK.tr (kg_push (s := endT (setK s l) y z))).ds
    | 7, ht, _, _, _ => exact TSx.lv ht (show (7 : Nat) ≠ 12 by decide) (S := data (setK s l) y 1 none none) (lvs_set (s := s) (l := l)) nil12 (kg_setK (s := s) (l := l)).ds
    | 8, ht, q1, _, h0 => exact TSx.fl ht (show (8 : Nat) ≠ 12 by decide) ⟨lvs_set, kg_setK, rfl, rfl, rfl⟩ (q1 y m1).2 rfl h0
    | 9, ht, _, q2, _ => exact Or.inr (Or.inr (Or.inr (Or.inl ⟨_, y, l, ht, (show (9 : Nat) ≠ 12 by decide), q2.2.1, rfl⟩)))
    | 10, ht, q1, _, h0 => exact TS_unite ht (show (10 : Nat) ≠ 12 by decide) (q1 d (List.mem_cons_of_mem _ (List.mem_cons_of_mem _ m1))).2 h0
    | 11, ht, _, q2, h0 => exact TS_ask ht (show (11 : Nat) ≠ 12 by decide) q2.2.2 h0
    | 12, ht, _, _, _ => exact Or.inr (Or.inr (Or.inr (Or.inr ⟨_, l, ht, rfl, rfl⟩)))
    | 13, ht, _, _, _ => exact TSx.lv ht (show (13 : Nat) ≠ 12 by decide) (S := push (setK s l) [(10, y, c, d, .nil), (7, d, 0, 0, .nil)]) lvs_set.pu (n12_2 (show (10 : Nat) ≠ 12 by decide) (show (7 : Nat) ≠ 12 by decide)) (kg_setK.tr kg_push).ds
    | 14, ht, _, _, _ => exact TSx.lv ht (show (14 : Nat) ≠ 12 by decide) (S := push (setK s l) [(11, y, c, d, .nil), (8, d, 0, 0, .nil)]) lvs_set.pu (n12_2 (show (11 : Nat) ≠ 12 by decide) (show (8 : Nat) ≠ 12 by decide)) (kg_setK.tr kg_push).ds
    | n + 15, _, _, q2, _ => exact q2.elim
