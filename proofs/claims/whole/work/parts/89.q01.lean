/-! WHAT A VALUE TELLS: the names of the goal stay -/
def PZ (s : Ac) : Prop := 1 ≤ aP s ∧ ∀ x, x < aC s → tK (aF s x) = 2 → tT (aF s x) ≠ .nil → 1 ≤ tP (aF s x)
def PSt (s S : Ac) : Prop := aN S 0 = aN s 0 ∧ aP s ≤ aP S ∧ ∀ x, x < aC S → tK (aF S x) = 2 → tT (aF S x) ≠ .nil → (x < aC s ∧ aF S x = aF s x) ∨ 1 ≤ tP (aF S x)
theorem PZ.ps {s S : Ac} (h : PZ s) (p : PSt s S) : PZ S := ⟨Nat.le_trans h.1 p.2.1, fun x hx k2 kT => by
  rcases p.2.2 x hx k2 kT with ⟨q1, q2⟩ | q
  · rw [q2] at k2 kT ⊢
    exact h.2 x q1 k2 kT
  · exact q⟩
theorem PSt.same {s S : Ac} (e1 : aC S = aC s) (e2 : aF S = aF s) (e3 : aN S = aN s) (e4 : aP S = aP s) : PSt s S := ⟨by rw [e3], by rw [e4]; exact Nat.le_refl _, fun x hx _ _ => Or.inl ⟨by rw [← e1]; exact hx, by rw [e2]⟩⟩
theorem PSt.of {s S : Ac} (z : Nat) (e1 : aC S = aC s) (h1 : ∀ v, v ≠ z → aF S v = aF s v) (h2 : tK (aF S z) ≠ 2) (e3 : aN S = aN s) (e4 : aP S = aP s) : PSt s S := ⟨by rw [e3], by rw [e4]; exact Nat.le_refl _, fun x hx k2 _ => by
  by_cases w : x = z
  · rw [w] at k2
    exact absurd k2 h2
  · exact Or.inl ⟨by rw [← e1]; exact hx, h1 x w⟩⟩
theorem PSt.dat {s S : Ac} {x k : Nat} {a b : Option Nat} (e1 : aC S = aC s) (e2 : aF S = up1 (aF s) x (1, k, a, b, tW (aF s x), tP (aF s x), tT (aF s x))) (e3 : aN S = aN s) (e4 : aP S = aP s) : PSt s S := PSt.of x e1 (fun v hv => by rw [e2, up1_ne hv]) (by rw [e2, up1_at]; exact (show (1 : Nat) ≠ 2 by decide)) e3 e4
theorem PSt.lnk {s S : Ac} {x z : Nat} (e1 : aC S = aC s) (e2 : aF S = up1 (aF s) x (7, tO (aF s x), some z, tB (aF s x), tW (aF s x), tP (aF s x), tT (aF s x))) (e3 : aN S = aN s) (e4 : aP S = aP s) : PSt s S := PSt.of x e1 (fun v hv => by rw [e2, up1_ne hv]) (by rw [e2, up1_at]; exact (show (7 : Nat) ≠ 2 by decide)) e3 e4
/-- a state whose things, names and counts are those of s -/
def stc (s Q : Ac) : Prop := aC Q = aC s ∧ aF Q = aF s ∧ aN Q = aN s ∧ aP Q = aP s
theorem stc_step {s : Ac} : stc s (stepA s) := by
  unfold stepA
  split
  · exact ⟨rfl, rfl, rfl, rfl⟩
  · exact ⟨rfl, rfl, rfl, rfl⟩
theorem PSt.fl {s Q : Ac} {o : Nat} (sq : stc s Q) : PSt s (failA Q o) := by
  obtain ⟨p1, p2, p3, p4⟩ := sq
  unfold failA
  split
  · exact PSt.same p1 p2 p3 p4
  · split
    · exact PSt.dat (x := lX (aV Q o)) (k := 0) (a := none) (b := none) p1 (by rw [← p2]; rfl) p3 p4
    · split
      · exact PSt.same p1 p2 p3 p4
      · exact PSt.same p1 p2 p3 p4
theorem mkA_nl {fs : List Fn} (hf8 : fs.length ≤ 8) {g : Nat → Option Nat} {o p : Nat} {t : Tr} (hw : twf fs.length (fpf fs) t) : ∀ k u, u ∈ (mkA g o p t k).2 → tT u ≠ .nil → tK u = 6 := by
  refine tr_ind (nf := fs.length) (fp := fpf fs) (P := fun t => ∀ k u, u ∈ (mkA g o p t k).2 → tT u ≠ .nil → tK u = 6) ?_ ?_ ?_ (tsz t) t (Nat.le_refl _) hw
  · intro c hc hpr k u hu hT
    rw [mkA_lf] at hu
    by_cases q : c < 10
    · rw [if_pos q] at hu
      cases hu
    · rw [if_neg q] at hu
      rw [List.mem_singleton.mp hu] at hT
      exact absurd rfl hT
  · intro c a hc hpr hwa ih k u hu hT
    rw [mkA_un] at hu
    by_cases q : c = 33
    · rw [if_pos q] at hu
      rw [List.mem_singleton.mp hu]
    · rw [if_neg q] at hu
      rcases List.mem_cons.mp hu with e | e
      · rw [e] at hT
        exact absurd rfl hT
      · exact ih _ u e hT
  · intro c a b hc hpr hwa hwb iha ihb k u hu hT
    rw [mkA_bi] at hu
    rcases List.mem_cons.mp hu with e | e
    · rw [e] at hT
      exact absurd rfl hT
    · rcases List.mem_append.mp e with e | e
      · exact iha _ u e hT
      · exact ihb _ u e hT
theorem app_or {f : Nat → Th} {n x : Nat} {L : List Th} (hx : x < n + L.length) : (x < n ∧ app f n L x = f x) ∨ ∃ u, u ∈ L ∧ app f n L x = u := by
  by_cases w : x < n
  · exact Or.inl ⟨w, app_lt w⟩
  · obtain ⟨u, hu⟩ : ∃ u, L[x - n]? = some u := ⟨_, List.getElem?_eq_getElem (by omega)⟩
    have := app_at (f := f) (n := n) hu
    rw [show n + (x - n) = x by omega] at this
    exact Or.inr ⟨u, List.mem_iff_getElem?.mpr ⟨_, hu⟩, this⟩
theorem PSt.call {fs : List Fn} {s : Ac} {l : List Tk} {x : Nat} (hZ : PZ s) (h0 : aE (callA fs (setK s l) x) = 0) : PSt s (callA fs (setK s l) x) := by
  have e0 : stc s (setK s l) := ⟨rfl, rfl, rfl, rfl⟩
  unfold callA at h0 ⊢
  by_cases hn : (rulf fs (tO (aF (setK s l) x))).length = 0
  · rw [if_pos hn]
    exact PSt.fl e0
  · rw [if_neg hn] at h0 ⊢
    obtain ⟨d, hd⟩ : ∃ d, d = (if 1 < (rulf fs (tO (aF (setK s l) x))).length then decA (setK s l) (tW (aF (setK s l) x)) (rulf fs (tO (aF (setK s l) x))).length else (0, setK s l)) := ⟨_, rfl⟩
    simp only [] at h0 ⊢
    rw [← hd] at h0 ⊢
    by_cases e1 : aE d.2 = 0
    · rw [if_pos e1] at h0 ⊢
      by_cases e2 : aE (stepA d.2) = 0
      · rw [if_pos e2]
        obtain ⟨f0, f1, f2, f3⟩ : stc s d.2 := by
          by_cases w : 1 < (rulf fs (tO (aF (setK s l) x))).length
          · rw [if_pos w] at hd
            rw [hd] at e1 ⊢
            exact Ev.dec e1
          · rw [if_neg w] at hd
            rw [hd]
            exact e0
        obtain ⟨R, hR⟩ : ∃ R, R = (rulf fs (tO (aF (setK s l) x))).getD d.1 (none, none, .nil) := ⟨_, rfl⟩
        rw [← hR]
        have es : stepA d.2 = sS d.2 (aS d.2 + 1) := stepA_k e2
        have eF : aF (takeR (stepA d.2) x R) = up1 (aF s) x (tK (aF s x), tO (aF s x), tA (aF s x), tB (aF s x), tW (aF s x), aP s, R.2.2) := by
          rw [es, ← f1, ← f3]
          rfl
        have eN : aN (takeR (stepA d.2) x R) = up1 (aN s) (aP s) (fun _ => none) := by
          rw [es, ← f2, ← f3]
          rfl
        have eC : aC (takeR (stepA d.2) x R) = aC s := by
          rw [es, ← f0]
          rfl
        have eP : aP (takeR (stepA d.2) x R) = aP s + 1 := by
          rw [es, ← f3]
          rfl
        have h1 := hZ.1
        refine ⟨by rw [eN, up1_ne (by omega)], by omega, fun v hv k2 kT => ?_⟩
        by_cases w : v = x
        · right
          rw [eF, w, up1_at]
          exact h1
        · left
          rw [eF, up1_ne w]
          exact ⟨by omega, rfl⟩
      · rw [if_neg e2] at h0
        exact absurd h0 e2
    · rw [if_neg e1] at h0
      exact absurd h0 e1
theorem PSt.unite {s : Ac} {l : List Tk} {a b u : Nat} : PSt s (uniteA (setK s l) a b u) := by
  rw [uniteA_f]
  have sp : stc s (stepA (setK s l)) := stc_step (s := setK s l)
  split
  · exact PSt.same (S := setK s l) rfl rfl rfl rfl
  · split
    · obtain ⟨P, hP⟩ : ∃ P, P = stepA (setK s l) := ⟨_, rfl⟩
      rw [← hP] at sp ⊢
      have bind : ∀ v w o, PSt s (bindA P v w o) := fun v w o => by
        obtain ⟨p1, p2, p3, p4⟩ := id sp
        unfold bindA
        split
        · exact PSt.fl sp
        · split
          · exact PSt.lnk (x := v) (z := w) (S := link P v w) p1 (by rw [← p2]; rfl) p3 p4
          · split
            · exact PSt.lnk (x := w) (z := v) (S := link P w v) p1 (by rw [← p2]; rfl) p3 p4
            · exact PSt.same p1 p2 p3 p4
      unfold uni
      split
      · exact bind _ _ _
      · split
        · exact bind _ _ _
        · split
          · exact PSt.same sp.1 sp.2.1 sp.2.2.1 sp.2.2.2
          · exact PSt.fl sp
    · exact PSt.same sp.1 sp.2.1 sp.2.2.1 sp.2.2.2
theorem PSt.go {fs : List Fn} {s : Ac} {rk : Nat → Nat} (J : JR fs s rk) (hf8 : fs.length ≤ 8) (hZ : PZ s) (hE : aE s = 0) (h0 : aE (goX (doA fs) s) = 0) : PSt s (goX (doA fs) s) := by
  cases ht : topK s with
  | nil =>
    unfold goX at h0
    rw [if_pos hE, ht] at h0
    exact absurd h0 (show ¬ (1 : Nat) = 0 by decide)
  | cons t l =>
    rw [goX_cons hE ht] at h0 ⊢
    obtain ⟨q1, q2⟩ := J.2.2.2.1 (aL s) (Nat.le_refl _) [] t l ht
    have m1 : ∀ {x : Nat} {l : List Nat}, x ∈ x :: l := fun {x l} => List.mem_cons_self ..
    have e0 : stc s (setK s l) := ⟨rfl, rfl, rfl, rfl⟩
    obtain ⟨k, y, c, d, p⟩ := t
    match k, ht, q1, q2, h0 with
    | 0, ht, q1, _, h0 =>
      have dm : doA fs (setK s l) (0, y, c, d, p) = forceG fs false (setK s l) (root s y) := rfl
      rw [dm] at h0 ⊢
      by_cases k2 : tK (aF s (root s y)) = 2
      · have e : forceG fs false (setK s l) (root s y) = callA fs (setK s l) (root s y) := by
          unfold forceG
          rw [show tK (aF (setK s l) (root s y)) = 2 from k2]
          rfl
        rw [e] at h0 ⊢
        exact PSt.call hZ h0
      · by_cases k3 : tK (aF s (root s y)) = 3
        · obtain ⟨dd, hdd⟩ : ∃ dd, dd = decA (setK s l) (tW (aF s (root s y))) 2 := ⟨_, rfl⟩
          have ef : forceG fs false (setK s l) (root s y) = if aE dd.2 = 0 then (match (if dd.1 = 0 then tA (aF s (root s y)) else tB (aF s (root s y))) with
            | some z => push (link dd.2 (root s y) z) [(0, z, 0, 0, .nil)]
            | none => dd.2) else dd.2 := by
            unfold forceG
            rw [show tK (aF (setK s l) (root s y)) = 3 from k3, hdd]
            rfl
          rw [ef] at h0 ⊢
          by_cases g1 : aE dd.2 = 0
          · rw [if_pos g1]
            obtain ⟨z1, z2, z3, z4⟩ : stc s dd.2 := by
              rw [hdd]
              exact Ev.dec (s := setK s l) (by rw [← hdd]; exact g1)
            split
            · exact PSt.lnk (x := root s y) z1 (by rw [← z2]; rfl) z3 z4
            · exact PSt.same z1 z2 z3 z4
          · rw [if_neg g1] at h0
            exact absurd h0 g1
        · unfold forceG
          split
          · exact absurd ‹_› k2
          · exact absurd ‹_› k3
          · exact PSt.same rfl rfl rfl rfl
          · exact PSt.same rfl rfl rfl rfl
          · exact PSt.same rfl rfl rfl rfl
          · exact PSt.same rfl rfl rfl rfl
    | 1, _, _, _, _ => exact PSt.same (S := push (setK s l) [(0, y, 0, 0, .nil), (2, y, 0, 0, .nil)]) rfl rfl rfl rfl
    | 2, _, _, _, _ =>
      show PSt s (if tK (aF s (root s y)) = 1 ∧ aM s (root s y) = 0 then push (setK s l) (oT 1 (tA (aF s (root s y))) ++ oT 1 (tB (aF s (root s y))) ++ [(3, root s y, 0, 0, .nil)]) else setK s l)
      split
      · exact PSt.same rfl rfl rfl rfl
      · exact PSt.same rfl rfl rfl rfl
    | 3, _, _, _, _ => exact PSt.same (S := sM (setK s l) (up1 (aM s) y 1)) rfl rfl rfl rfl
    | 4, ht, q1, q2, _ =>
      show PSt s (if tcode p < 10 then nameA (setK s l) c (tcode p) y else push (setK s l) [(0, y, 0, 0, .nil), (5, y, c, d, p)])
      split
      · have hc := (q1 c (List.mem_cons_of_mem _ m1)).1
        obtain ⟨s1, s2, s3, s4⟩ := q2
        obtain ⟨l1, l2, el⟩ := List.append_of_mem s3
        obtain ⟨k2, kT⟩ : tK (aF s c) = 2 ∧ tT (aF s c) ≠ .nil := (J.2.2.2.1 (aL s) (Nat.le_refl _) ((4, y, c, d, p) :: l1) _ l2 (by
          show topK s = _
          rw [ht, el]
          rfl)).2
        have := hZ.2 c hc k2 kT
        exact ⟨up1_ne (show (0 : Nat) ≠ tP (aF s c) by omega), Nat.le_refl _, fun x hx _ _ => Or.inl ⟨hx, rfl⟩⟩
      · exact PSt.same rfl rfl rfl rfl
    | 5, _, q1, _, h0 =>
      have dm : doA fs (setK s l) (5, y, c, d, p) = metA fs (setK s l) p (root s y) c := rfl
      rw [dm]
      unfold metA
      by_cases k0 : tK (aF (setK s l) (root s y)) = 0
      · rw [if_pos k0]
        by_cases wr : ((fs[tO (aF (setK s l) c)]?.map (fun y => y.2.1)).getD false = true) ∨ tW (aF (setK s l) (root s y)) ≠ tW (aF (setK s l) c)
        · rw [if_pos wr]
          exact PSt.same rfl rfl rfl rfl
        · rw [if_neg wr]
          refine ⟨rfl, Nat.le_refl _, fun x hx k2 kT => ?_⟩
          have hx : x < aC s + (List.replicate ((tcode p - 10) / 2) (tOpen (tW (aF s (root s y))))).length := hx
          have eF : aF (push (metT (setK s l) (root s y) (tcode p - 10)) (mt1 (kid1 p) (if 2 ≤ tcode p - 10 then some (aC s) else none) c ++ mt1 (kid2 p) (if 4 ≤ tcode p - 10 then some (aC s + 1) else none) c)) = up1 (app (aF s) (aC s) (List.replicate ((tcode p - 10) / 2) (tOpen (tW (aF s (root s y)))))) (root s y) (1, tcode p - 10, (if 2 ≤ tcode p - 10 then some (aC s) else none), (if 4 ≤ tcode p - 10 then some (aC s + 1) else none), tW (app (aF s) (aC s) (List.replicate ((tcode p - 10) / 2) (tOpen (tW (aF s (root s y))))) (root s y)), tP (app (aF s) (aC s) (List.replicate ((tcode p - 10) / 2) (tOpen (tW (aF s (root s y))))) (root s y)), tT (app (aF s) (aC s) (List.replicate ((tcode p - 10) / 2) (tOpen (tW (aF s (root s y))))) (root s y))) := rfl
          have k2 : tK (aF (push (metT (setK s l) (root s y) (tcode p - 10)) (mt1 (kid1 p) (if 2 ≤ tcode p - 10 then some (aC s) else none) c ++ mt1 (kid2 p) (if 4 ≤ tcode p - 10 then some (aC s + 1) else none) c)) x) = 2 := k2
          by_cases w : x = root s y
          · rw [eF, w, up1_at] at k2
            exact absurd k2 (show ¬ (1 : Nat) = 2 by decide)
          · rw [eF, up1_ne w] at k2
            rcases app_or (f := aF s) hx with ⟨a1, a2⟩ | ⟨u, a1, a2⟩
            · left
              refine ⟨a1, ?_⟩
              show aF (push (metT (setK s l) (root s y) (tcode p - 10)) (mt1 (kid1 p) (if 2 ≤ tcode p - 10 then some (aC s) else none) c ++ mt1 (kid2 p) (if 4 ≤ tcode p - 10 then some (aC s + 1) else none) c)) x = _
              rw [eF, up1_ne w, a2]
            · rw [a2, List.eq_of_mem_replicate a1] at k2
              exact absurd k2 (show ¬ (0 : Nat) = 2 by decide)
      · rw [if_neg k0]
        split
        · exact PSt.same rfl rfl rfl rfl
        · exact PSt.fl e0
    | 6, ht, q1, q2, h0 =>
      have hy := (q1 y m1).1
      obtain ⟨k2, kT⟩ : tK (aF s y) = 2 ∧ tT (aF s y) ≠ .nil := q2
      obtain ⟨z, e1, e2, e3, e4, e5, e6, e7, e8, e9, e10⟩ := end_T hf8 (J.1.eq (s' := setK s l) rfl rfl rfl) (J.2.2.1.eq (s' := setK s l) rfl rfl rfl rfl) (show y < aC (setK s l) from hy) k2 kT
      have ee : doA fs (setK s l) (6, y, c, d, p) = push (endT (setK s l) y z) [(0, z, 0, 0, .nil)] := by
        show endG false (setK s l) y = _
        unfold endG
        show (match (mkL (opsC (setK s l) y) (tW (aF (setK s l) y)) (tP (aF (setK s l) y)) (tT (aF (setK s l) y))).1 with
          | some y' => push (link (addT (opsC (setK s l) y) (mkL (opsC (setK s l) y) (tW (aF (setK s l) y)) (tP (aF (setK s l) y)) (tT (aF (setK s l) y))).2) y y') [(0, y', 0, 0, .nil)]
          | none => _) = _
        rw [e1]
        rfl
      rw [ee]
      have hp := hZ.2 y hy k2 kT
      have hw := ((J.2.2.1.1 y hy).2.2.2.2.1 k2).2 kT
      refine ⟨up1_ne (show (0 : Nat) ≠ tP (aF s y) by omega), Nat.le_refl _, fun x hx k2' kT' => ?_⟩
      by_cases w : x = y
      · exfalso
        rw [w] at k2'
        have k2' : tK (aF (endT (setK s l) y z) y) = 2 := k2'
        rw [e10] at k2'
        exact absurd k2' (show ¬ (7 : Nat) = 2 by decide)
      · have eF : aF (push (endT (setK s l) y z) [(0, z, 0, 0, .nil)]) x = app (aF (opsC (setK s l) y)) (aC (opsC (setK s l) y)) (mkL (opsC (setK s l) y) (tW (aF (setK s l) y)) (tP (aF (setK s l) y)) (tT (aF (setK s l) y))).2 x := up1_ne w
        have hx : x < aC (opsC (setK s l) y) + (mkL (opsC (setK s l) y) (tW (aF (setK s l) y)) (tP (aF (setK s l) y)) (tT (aF (setK s l) y))).2.length := hx
        rw [eF] at k2' kT' ⊢
        rcases app_or (f := aF (opsC (setK s l) y)) hx with ⟨a1, a2⟩ | ⟨u, a1, a2⟩
        · have eO : aF (opsC (setK s l) y) = app (aF s) (aC s) (opG (tW (aF s y)) (ksA (tT (aF s y))) (aC s) (aN s (tP (aF s y)))).2 := rfl
          have a1 : x < aC s + (opG (tW (aF s y)) (ksA (tT (aF s y))) (aC s) (aN s (tP (aF s y)))).2.length := a1
          rw [a2, eO] at k2' ⊢
          rcases app_or (f := aF s) a1 with ⟨b1, b2⟩ | ⟨u, b1, b2⟩
          · exact Or.inl ⟨b1, b2⟩
          · rw [b2, opG_op _ _ _ u b1] at k2'
            exact absurd k2' (show ¬ (0 : Nat) = 2 by decide)
        · rw [a2] at k2' kT'
          have := mkA_nl hf8 hw.1 _ u a1 kT'
          omega
    | 7, _, _, _, _ => exact PSt.dat (x := y) (k := 1) (a := none) (b := none) (S := data (setK s l) y 1 none none) rfl rfl rfl rfl
    | 8, _, _, _, h0 => exact PSt.fl e0
    | 9, _, _, _, _ => exact PSt.dat (x := y) (k := 1) (a := none) (b := none) (S := sL (data (setK s l) y 1 none none) (aL s - 1) (aV (setK s l))) rfl rfl rfl rfl
    | 10, _, _, _, h0 => exact PSt.unite
    | 11, _, _, _, h0 =>
      have dm : doA fs (setK s l) (11, y, c, d, p) = askA (setK s l) (root s y) (root s c) d := rfl
      rw [dm]
      have sp : stc s (stepA (setK s l)) := stc_step (s := setK s l)
      unfold askA
      split
      · exact PSt.same rfl rfl rfl rfl
      · split
        · exact PSt.same rfl rfl rfl rfl
        · simp only []
          split
          · split
            · exact PSt.same sp.1 sp.2.1 sp.2.2.1 sp.2.2.2
            · exact PSt.dat (x := d) (k := 1) (a := none) (b := none) sp.1 (by rw [← sp.2.1]; rfl) sp.2.2.1 sp.2.2.2
          · exact PSt.same sp.1 sp.2.1 sp.2.2.1 sp.2.2.2
    | 12, _, _, q2, h0 =>
      have dm : doA fs (setK s l) (12, y, c, d, p) = runA (setK s l) := rfl
      rw [dm] at h0 ⊢
      have hS : ¬ aS (setK s l) = 100 := fun e => by
        rw [runA_no e] at h0
        exact absurd h0 (show ¬ (4 : Nat) = 0 by decide)
      have gp := runA_go (s := setK s l) hS hE rfl
      rw [gp]
      obtain ⟨j1, j2, _⟩ := J.2.2.2.2 (aL s) q2.2.2.1 (Nat.le_refl _)
      have hw := (J.2.2.1.1 _ j1).2.2.2.2.2.2 j2
      have eX : lX (aV (setK s l) (aL s)) = lX (aV s (aL s)) := (lvs_set (s := s) (l := l)).2.1 (aL s)
      refine ⟨rfl, Nat.le_refl _, fun x hx k2 kT => ?_⟩
      have hx : x < aC s + (mkA (aN s (tP (aF s (lX (aV (setK s l) (aL s)))))) (aL s) (tP (aF s (lX (aV (setK s l) (aL s))))) (tT (aF s (lX (aV (setK s l) (aL s))))) (aC s)).2.length := hx
      have k2 : tK (app (aF s) (aC s) (mkA (aN s (tP (aF s (lX (aV (setK s l) (aL s)))))) (aL s) (tP (aF s (lX (aV (setK s l) (aL s))))) (tT (aF s (lX (aV (setK s l) (aL s))))) (aC s)).2 x) = 2 := k2
      have kT : tT (app (aF s) (aC s) (mkA (aN s (tP (aF s (lX (aV (setK s l) (aL s)))))) (aL s) (tP (aF s (lX (aV (setK s l) (aL s))))) (tT (aF s (lX (aV (setK s l) (aL s))))) (aC s)).2 x) ≠ .nil := kT
      rcases app_or (f := aF s) hx with ⟨a1, a2⟩ | ⟨u, a1, a2⟩
      · exact Or.inl ⟨a1, a2⟩
      · rw [a2] at k2 kT
        rw [eX] at a1
        have := mkA_nl hf8 hw.1 _ u a1 kT
        omega
    | 13, _, _, _, _ => exact PSt.same (S := push (setK s l) [(10, y, c, d, .nil), (7, d, 0, 0, .nil)]) rfl rfl rfl rfl
    | 14, _, _, _, _ => exact PSt.same (S := push (setK s l) [(11, y, c, d, .nil), (8, d, 0, 0, .nil)]) rfl rfl rfl rfl
    | n + 15, _, _, q2, _ => exact q2.elim
