/-! WHAT HOLDS IN EVERY RUN: force -/
def KOL (fs : List Fn) (s : Ac) (j : Nat) (l2 : List Tk) : List Tk → List Tk → Prop
  | _, [] => True
  | l1, a :: m => KO fs s j l1 a (m ++ l2) ∧ KOL fs s j l2 (l1 ++ [a]) m
theorem KOL.to {fs : List Fn} {s : Ac} {j : Nat} {l2 : List Tk} : ∀ {new l1 : List Tk}, KOL fs s j l2 l1 new → ∀ n1 a n2, new = n1 ++ a :: n2 → KO fs s j (l1 ++ n1) a (n2 ++ l2)
  | [], _, _, n1, a, n2, e => by simp at e
  | b :: m, l1, h, n1, a, n2, e => by
    cases n1 with
    | nil =>
      have : b = a ∧ m = n2 := by simpa using e
      rw [← this.1, ← this.2, List.append_nil]
      exact h.1
    | cons c n1 =>
      have : b = c ∧ m = n1 ++ a :: n2 := by simpa using e
      have := KOL.to h.2 n1 a n2 this.2
      rw [List.append_assoc] at this
      rw [← ‹b = c ∧ _›.1]
      exact this
theorem KOL.all {fs : List Fn} {s : Ac} {j : Nat} {l2 new : List Tk} (h : KOL fs s j l2 [] new) : ∀ n1 a n2, new = n1 ++ a :: n2 → KO fs s j n1 a (n2 ++ l2) := fun n1 a n2 e => h.to n1 a n2 e
theorem no_fcs {s : Ac} {t : Tk} {y : Nat} (h : t.1 = 1 ∨ t.1 = 2 ∨ t.1 = 3 ∨ t.1 = 4 ∨ t.1 = 5 ∨ t.1 = 9 ∨ t.1 = 10 ∨ t.1 = 11 ∨ t.1 = 12) (hf : fcs s t y) : False := by
  rcases hf with ⟨q, _⟩ | ⟨q, _⟩ | ⟨q, _⟩ <;> omega
theorem no_cv {s : Ac} {t : Tk} {w : Nat} (h : t.1 ≠ 1 ∧ t.1 ≠ 2 ∧ t.1 ≠ 3) (hf : Cv s [t] w) : Cl s w := by
  rcases hf with q | ⟨t', ht, q⟩
  · exact q
  · rw [List.mem_singleton.mp ht] at q
    rcases q with ⟨q, _⟩ | ⟨q, _⟩
    · exact (q.elim h.1 h.2.1).elim
    · exact (h.2.2 q).elim
theorem ptr.kid1 {fs : List Fn} {p a : Tr} (h : ptr fs p) (h10 : 10 ≤ tcode p) (ha : kid1 p = some a) : ptr fs a := by
  rcases pat_kids h.1 h10 (pat_code h.1 h.2.1) with ⟨_, q, _⟩ | ⟨b, _, q, _, e, hw⟩ | ⟨b, c, _, q, _, e, hw, _⟩
  · rw [q] at ha
    cases ha
  · rw [q] at ha
    cases ha
    rw [e] at h
    have h2 := ((pat_un _ _).mp h.2.1).2
    have h3 := h.2.2
    rw [tsz_un] at h3
    exact ⟨hw, h2, by omega⟩
  · rw [q] at ha
    cases ha
    rw [e] at h
    have h2 := ((pat_bi _ _ _).mp h.2.1).2.1
    have h3 := h.2.2
    rw [tsz_bi] at h3
    exact ⟨hw, h2, by omega⟩
theorem ptr.kid2 {fs : List Fn} {p a : Tr} (h : ptr fs p) (h10 : 10 ≤ tcode p) (ha : kid2 p = some a) : ptr fs a := by
  rcases pat_kids h.1 h10 (pat_code h.1 h.2.1) with ⟨_, _, q⟩ | ⟨b, _, _, q, e, hw⟩ | ⟨b, c, _, _, q, e, _, hw⟩
  · rw [q] at ha
    cases ha
  · rw [q] at ha
    cases ha
  · rw [q] at ha
    cases ha
    rw [e] at h
    have h2 := ((pat_bi _ _ _).mp h.2.1).2.2
    have h3 := h.2.2
    rw [tsz_bi] at h3
    exact ⟨hw, h2, by omega⟩
/-- rules that are told -/
theorem PW.rl {fs : List Fn} (hf : PW fs [] none) {f : Nat} {xf : Fn} (h : fs[f]? = some xf) {R : Rl} (hR : R ∈ xf.2.2) : (∀ p, R.1 = some p → ptr fs p ∧ 1 ≤ xf.1) ∧ (∀ p, R.2.1 = some p → ptr fs p ∧ 2 ≤ xf.1) ∧ twf fs.length (fpf fs) R.2.2 ∧ tsz R.2.2 ≤ 12 := by
  obtain ⟨k1, k2, k3, k4⟩ := (hf.2.2.1 f xf h).2 R hR
  obtain ⟨w1, w2, w3, w4⟩ := k1
  obtain ⟨z, hz⟩ := Option.isSome_iff_exists.mp k4
  unfold rset at hz
  refine ⟨fun p hp => ?_, fun p hp => ?_, w3, w4⟩
  · have b : 1 ≤ xf.1 := by
      rw [hp] at k2
      exact of_decide_eq_true k2.symm
    refine ⟨⟨(w1 p hp).1, ?_, (w1 p hp).2⟩, b⟩
    cases e1 : pno R.1 (some 0) with
    | none =>
      rw [e1] at hz
      cases e2 : R.2.1 with
      | none =>
        rw [e2] at hz
        cases hz
      | some p2 =>
        rw [e2] at hz
        cases hz
    | some s1 =>
      rw [hp] at e1
      exact pn_pat (w1 p hp).1 0 s1 e1
  · have b : 2 ≤ xf.1 := by
      rw [hp] at k3
      exact of_decide_eq_true k3.symm
    refine ⟨⟨(w2 p hp).1, ?_, (w2 p hp).2⟩, b⟩
    rw [hp] at hz
    cases e1 : pno R.1 (some 0) with
    | none =>
      rw [e1] at hz
      cases hz
    | some s1 =>
      rw [e1] at hz
      exact pn_pat (w2 p hp).1 s1 z hz
theorem decA_go {q : Ac} {o n : Nat} (h0 : aE (decA q o n).2 = 0) : ∃ d g, (decA q o n).2 = setD q o d g := by
  unfold decA at h0 ⊢
  by_cases h : (lD (aV q o)).length = 40
  · rw [if_pos h] at h0
    exact absurd h0 (show ¬ (4 : Nat) = 0 by decide)
  · rw [if_neg h] at h0 ⊢
    cases e : lG (aV q o) with
    | nil =>
      rw [e] at h0
      by_cases ho : o = 0
      · have h0 : aE (if o = 0 then (0, sB q 5 n) else (0, setD q o ((0, n) :: lD (aV q o)) [])).2 = 0 := h0
        rw [if_pos ho] at h0
        exact absurd h0 (show ¬ (5 : Nat) = 0 by decide)
      · refine ⟨(0, n) :: lD (aV q o), [], ?_⟩
        show (if o = 0 then (0, sB q 5 n) else (0, setD q o ((0, n) :: lD (aV q o)) [])).2 = _
        rw [if_neg ho]
    | cons w r => exact ⟨(w, n) :: lD (aV q o), r, rfl⟩
def WRc (fs : List Fn) (s : Ac) (x : Nat) : Prop := tK (aF s x) = 2 → 1 < (rulf fs (tO (aF s x))).length → aE (decA s (tW (aF s x)) (rulf fs (tO (aF s x))).length).2 = 0 → (decA s (tW (aF s x)) (rulf fs (tO (aF s x))).length).1 < (rulf fs (tO (aF s x))).length
theorem JR.call {fs : List Fn} {s : Ac} {rk : Nat → Nat} {t : Tk} {l : List Tk} (hf : PW fs [] none) (J : JR fs s rk) (hE : aE s = 0) (ht : topK s = t :: l) (h0t : t.1 = 0) (h2 : tK (aF s (root s t.2.1)) = 2) (hWR : WRc fs (setK s l) (root s t.2.1)) (h0 : aE (callA fs (setK s l) (root s t.2.1)) = 0) : ∃ rk', JR fs (callA fs (setK s l) (root s t.2.1)) rk' ∧ Ev s (callA fs (setK s l) (root s t.2.1)) := by
  obtain ⟨x, hx⟩ : ∃ x, x = root s t.2.1 := ⟨_, rfl⟩
  rw [← hx] at h2 hWR h0 ⊢
  obtain ⟨g, od, jt, jk, jl⟩ := J
  have J : JR fs s rk := ⟨g, od, jt, jk, jl⟩
  have hy := (jk (aL s) (Nat.le_refl _) [] t l ht).1 t.2.1 (by unfold mth; rw [h0t]; exact List.mem_singleton.mpr rfl)
  have hmr : t.2.1 ∈ mr t := by unfold mr; rw [h0t]; exact List.mem_singleton.mpr rfl
  have hxl : x < aC s := by rw [hx]; exact g.lt hy.1
  have hxr : rk x ≤ rk t.2.1 := by rw [hx]; exact g.le hy.1
  have hxo : tW (aF s x) ≤ aL s := by
    have := g.own hy.1
    rw [← hx] at this
    omega
  have lv : lvs s (setK s l) l [] := lvs_set
  obtain ⟨xf, hxf, xa, xb⟩ := ((jt.1 x hxl).2.2.2.2.1 h2).1
  have hru : rulf fs (tO (aF s x)) = xf.2.2 := by
    unfold rulf
    rw [hxf]
  unfold callA at h0 ⊢
  rw [show tO (aF (setK s l) x) = tO (aF s x) from rfl, hru] at h0 ⊢
  by_cases hn : xf.2.2.length = 0
  · rw [if_pos hn] at h0 ⊢
    exact ⟨rk, J.fail lv rfl rfl rfl rfl hxo h0⟩
  · rw [if_neg hn] at h0 ⊢
    obtain ⟨d, hd⟩ : ∃ d, d = (if 1 < xf.2.2.length then decA (setK s l) (tW (aF (setK s l) x)) xf.2.2.length else (0, setK s l)) := ⟨_, rfl⟩
    have h0 : aE (if aE d.2 = 0 then (if aE (stepA d.2) = 0 then takeR (stepA d.2) x (xf.2.2.getD d.1 (none, none, .nil)) else stepA d.2) else d.2) = 0 := by
      rw [hd]
      exact h0
    have goal : ∀ S, S = (if aE d.2 = 0 then (if aE (stepA d.2) = 0 then takeR (stepA d.2) x (xf.2.2.getD d.1 (none, none, .nil)) else stepA d.2) else d.2) → ∃ rk', JR fs S rk' ∧ Ev s S := by
      intro S hS
      rw [← hS] at h0
      by_cases e1 : aE d.2 = 0
      · rw [if_pos e1] at hS
        by_cases e2 : aE (stepA d.2) = 0
        · rw [if_pos e2] at hS
          have hq : lvs s d.2 l [] ∧ aC d.2 = aC s ∧ aF d.2 = aF s ∧ aN d.2 = aN s ∧ aP d.2 = aP s ∧ d.1 < xf.2.2.length := by
            by_cases w : 1 < xf.2.2.length
            · rw [if_pos w] at hd
              rw [hd] at e1 ⊢
              have hlt := hWR h2 (by rw [show tO (aF (setK s l) x) = tO (aF s x) from rfl, hru]; exact w)
              rw [show tO (aF (setK s l) x) = tO (aF s x) from rfl, hru] at hlt
              obtain ⟨d', g', e⟩ := decA_go e1
              have hlt := hlt e1
              rw [e]
              exact ⟨lv.sd, rfl, rfl, rfl, rfl, hlt⟩
            · rw [if_neg w] at hd
              rw [hd]
              exact ⟨lv, rfl, rfl, rfl, rfl, by show 0 < _; omega⟩
          obtain ⟨q1, q2, q3, q4, q5, q6⟩ := hq
          have es := stepA_k e2
          obtain ⟨R, hRe⟩ : ∃ R, R = xf.2.2.getD d.1 (none, none, .nil) := ⟨_, rfl⟩
          have hR : R ∈ xf.2.2 := by
            rw [hRe, List.getD_eq_getElem?_getD, List.getElem?_eq_getElem q6]
            exact List.getElem_mem q6
          obtain ⟨r1, r2, r3, r4⟩ := PW.rl hf hxf hR
          rw [es, ← hRe] at hS
          have gq : GR (sS d.2 (aS d.2 + 1)) rk := g.eq q2 q3 q4
          have jq : JT fs (sS d.2 (aS d.2 + 1)) := jt.eq q2 q3 q4 q5
          have hxq : x < aC (sS d.2 (aS d.2 + 1)) := by show x < aC d.2; omega
          have h2q : tK (aF (sS d.2 (aS d.2 + 1)) x) = 2 := by show tK (aF d.2 x) = 2; rw [q3]; exact h2
          obtain ⟨k1, k2, k3⟩ := take_T (R := R) gq jq hxq h2q ⟨r3, r4⟩
          have hS2 : S = push (takeT (sS d.2 (aS d.2 + 1)) x R) (mt1 R.1 (tA (aF s x)) x ++ mt1 R.2.1 (tB (aF s x)) x ++ [(6, x, 0, 0, .nil)]) := by
            rw [hS, ← q3]
            rfl
          have hch : ∀ z, z ≠ x → aF S z = aF s z := fun z hz => by
            rw [hS2, ← q3]
            exact up1_ne hz
          have hxx : aF S x = (tK (aF s x), tO (aF s x), tA (aF s x), tB (aF s x), tW (aF s x), aP s, R.2.2) := by
            rw [hS2, ← q3, ← q5]
            exact up1_at
          have hC : aC S = aC s := by rw [hS2]; exact q2
          have hEv : Ev s S := Ev.chg (x := x) (by omega) (fun z _ hz => hch z hz) (by rw [hxx]) (by omega) (by omega)
          have hG : GR S rk := by rw [hS2]; exact k2.eq rfl rfl rfl
          have hJ : JT fs S := by rw [hS2]; exact k1.eq rfl rfl rfl rfl
          have lvS : lvs s S l (mt1 R.1 (tA (aF s x)) x ++ mt1 R.2.1 (tB (aF s x)) x ++ [(6, x, 0, 0, .nil)]) := by
            rw [hS2]
            exact lvs.pu (q := takeT (sS d.2 (aS d.2 + 1)) x R) q1
          have tw : ∀ z, tW (aF S z) = tW (aF s z) := fun z => by
            by_cases w : z = x
            · rw [w, hxx]
            · rw [hch z w]
          have rn : R.2.2 ≠ .nil := fun e => by
            rw [e] at r3
            exact r3.elim
          have k6 : ∀ l1, KO fs S (aL s) l1 (6, x, 0, 0, .nil) l := fun l1 => ⟨fun y hy2 => by
            have e := List.mem_singleton.mp hy2
            rw [e]
            show x < aC S ∧ tW (aF S x) ≤ aL s
            rw [hC, tw]
            exact ⟨hxl, hxo⟩, by
              show tK (aF S x) = 2 ∧ tT (aF S x) ≠ .nil
              rw [hxx]
              exact ⟨h2, rn⟩⟩
          have pa : ∀ a, (tA (aF s x) = some a ∨ tB (aF s x) = some a) → a < aC s ∧ rk a < rk x ∧ tW (aF s a) ≤ tW (aF s x) := fun a ha => g.pa hxl (by omega) ha
          have k4 : ∀ l1 m p a, ptr fs p → (tA (aF s x) = some a ∨ tB (aF s x) = some a) → KO fs S (aL s) l1 (4, a, x, 0, p) ((m ++ [(6, x, 0, 0, .nil)]) ++ l) := fun l1 m p a hp ha => by
            obtain ⟨p1, p2, p3⟩ := pa a ha
            refine ⟨fun y hy2 => ?_, hp, rfl, ?_, ?_⟩
            · rw [hC, tw]
              rcases List.mem_cons.mp hy2 with e | e
              · rw [e]
                exact ⟨p1, by show tW (aF s a) ≤ aL s; omega⟩
              · rw [List.mem_singleton.mp e]
                exact ⟨hxl, hxo⟩
            · exact List.mem_append_left _ (List.mem_append_right _ (List.mem_singleton.mpr rfl))
            · show tW (aF S a) ≤ tW (aF S x)
              rw [tw, tw]
              exact p3
          have mtc : ∀ (P : Option Tr) (o : Option Nat), (∀ p, P = some p → ∃ a, o = some a) → (mt1 P o x = [] ∨ ∃ p a, P = some p ∧ o = some a ∧ mt1 P o x = [(4, a, x, 0, p)]) := fun P o h => by
            cases P with
            | none => exact Or.inl rfl
            | some p =>
              obtain ⟨a, ha⟩ := h p rfl
              rw [ha]
              exact Or.inr ⟨p, a, rfl, rfl, rfl⟩
          have m1 := mtc R.1 (tA (aF s x)) (fun p hp => Option.isSome_iff_exists.mp (xa (r1 p hp).2))
          have m2 := mtc R.2.1 (tB (aF s x)) (fun p hp => Option.isSome_iff_exists.mp (xb (r2 p hp).2))
          obtain ⟨new, hnew⟩ : ∃ new, new = mt1 R.1 (tA (aF s x)) x ++ mt1 R.2.1 (tB (aF s x)) x ++ [(6, x, 0, 0, .nil)] := ⟨_, rfl⟩
          rw [← hnew] at lvS
          have fin : KOL fs S (aL s) l [] new ∧ (∃ m, new = m ++ [(6, x, 0, 0, .nil)] ∧ ∀ b, b ∈ m → b.1 = 4 ∧ (tA (aF s x) = some b.2.1 ∨ tB (aF s x) = some b.2.1)) := by
            rcases m1 with e1 | ⟨p1, a1, f1, f2, e1⟩ <;> rcases m2 with e2 | ⟨p2, a2, f3, f4, e2⟩ <;> rw [e1, e2] at hnew <;> rw [hnew]
            · exact ⟨⟨k6 _, trivial⟩, [], rfl, fun b hb => (List.not_mem_nil hb).elim⟩
            · exact ⟨⟨k4 _ [] p2 a2 (r2 p2 f3).1 (Or.inr f4), k6 _, trivial⟩, [(4, a2, x, 0, p2)], rfl, fun b hb => by rw [List.mem_singleton.mp hb]; exact ⟨rfl, Or.inr f4⟩⟩
            · exact ⟨⟨k4 _ [] p1 a1 (r1 p1 f1).1 (Or.inl f2), k6 _, trivial⟩, [(4, a1, x, 0, p1)], rfl, fun b hb => by rw [List.mem_singleton.mp hb]; exact ⟨rfl, Or.inl f2⟩⟩
            · refine ⟨⟨k4 _ [(4, a2, x, 0, p2)] p1 a1 (r1 p1 f1).1 (Or.inl f2), k4 _ [] p2 a2 (r2 p2 f3).1 (Or.inr f4), k6 _, trivial⟩, [(4, a1, x, 0, p1), (4, a2, x, 0, p2)], rfl, fun b hb => ?_⟩
              rcases List.mem_cons.mp hb with e | e
              · rw [e]
                exact ⟨rfl, Or.inl f2⟩
              · rw [List.mem_singleton.mp e]
                exact ⟨rfl, Or.inr f4⟩
          obtain ⟨fk, m, fm, fb⟩ := fin
          have mr4 : ∀ b, b ∈ m → frs b = [] ∧ ∀ z, z ∈ mr b → rk z < rk x := fun b hb => by
            obtain ⟨b1, b2⟩ := fb b hb
            unfold frs mr
            rw [b1]
            exact ⟨rfl, fun z hz => by rw [List.mem_singleton.mp hz]; exact (pa _ b2).2.1⟩
          have ho : List.Pairwise (orR rk) new := by
            rw [fm]
            refine List.pairwise_append.mpr ⟨List.Pairwise.imp_of_mem (fun {a b} _ hb _ => (fun u hu => by rw [(mr4 b hb).1] at hu; exact (List.not_mem_nil hu).elim : orR rk a b)) (List.pairwise_of_forall (fun _ _ => trivial) : List.Pairwise (fun _ _ => True) m), List.pairwise_singleton _ _, fun a ha b hb => ?_⟩
            rw [List.mem_singleton.mp hb]
            intro u hu z hz
            rw [List.mem_singleton.mp hu]
            exact (mr4 a ha).2 z hz
          refine ⟨rk, J.op1 (x := x) ht lvS hJ hG hEv (fun z _ hz => hch z hz) ⟨_, hmr, hxr⟩ (fun _ _ _ _ _ q => q) fk.all ho (fun a ha y' hy' u _ _ hlt => ?_) (fun y' hy' hfc => ?_) (fun w _ hcw => Or.inl (hEv.cl g hG ‹_› (no_cv ⟨by omega, by omega, by omega⟩ hcw))) (fun e h1 => absurd e (jl.nl ht (by omega) (by omega) h1)), hEv⟩
          · have := hlt _ hmr
            rw [fm] at ha
            rcases List.mem_append.mp ha with ha | ha
            · have := (mr4 a ha).2 y' hy'
              omega
            · rw [List.mem_singleton.mp ha] at hy'
              have e : y' = x := List.mem_singleton.mp hy'
              rw [e]
              omega
          · rcases hfc with ⟨_, _, e⟩ | ⟨q, _⟩ | ⟨q, _⟩
            · refine Or.inr ⟨m, _, fm, Or.inr (Or.inl ⟨Or.inl rfl, ?_⟩)⟩
              show x = root S y'
              rw [hEv.rt g hG hy', ← e, ← hx]
              refine (root_no ?_).symm
              rw [hxx]
              show tK (aF s x) ≠ 7
              omega
            · omega
            · omega
        · rw [if_neg e2] at hS
          exact absurd (by rw [hS] at h0; exact h0) e2
      · rw [if_neg e1] at hS
        exact absurd (by rw [hS] at h0; exact h0) e1
    have hgo := goal _ rfl
    rw [hd] at hgo
    exact hgo
