/-! HOW LONG A RUN GOES: steps -/
theorem pot_new {h : Bool} {fs : List Fn} {s S : Ac} {rk : Nat → Nat} {t : Tk} {l new : List Tk} (J : JR fs s rk) (Z : Z0 s) (ht : topK s = t :: l) (h12 : t.1 ≠ 12) (lv : lvs s S l new) (hn : ∀ b, b ∈ new → b.1 ≠ 0 ∧ b.1 ≠ 12) (kzz : kz s S) (hS : aS s ≤ aS S) (h100 : aS S ≤ 100)
  (hm : mX h (mkS h s) (aF S) (aC S) + sI (tkW h (aM s)) new + 2 ≤ tpv s + mX h (mkS h s) (aF s) (aC s) + tkW h (aM s) t + 600 * ((aS S : Int) - aS s)) : pot h S + 1 ≤ pot h s := by
  have tp := Z.tp ht lv (fun _ q => q) (fun b hb => (hn b hb).1)
  have n1 := np_t ht h12
  have n2 := J.np ht (m := []) rfl lv (fun b hb => (hn b hb).2)
  refine pot_op J ht h12 (m := []) rfl lv (fun b hb => (hn b hb).2) (fun _ _ => by rw [kzz.1]) hS h100 ?_
  rw [mk_kz kzz lv.1 n1 n2, kzz.1]
  show _ + _ + _ + 1 ≤ _ + _ + _ + 0 + _
  omega
theorem pot_zer {h : Bool} {fs : List Fn} {s S : Ac} {rk : Nat → Nat} {t : Tk} {l : List Tk} {z a b : Nat} {p : Tr} (J : JR fs s rk) (ht : topK s = t :: l) (h12 : t.1 ≠ 12) (lv : lvs s S l [(0, z, a, b, p)]) (kzz : kz s S) (hS : aS s ≤ aS S) (h100 : aS S ≤ 100)
  (hm : mX h (mkS h s) (aF S) (aC S) + 3 ≤ tpv s + mX h (mkS h s) (aF s) (aC s) + tkW h (aM s) t + 600 * ((aS S : Int) - aS s)) : pot h S + 1 ≤ pot h s := by
  have tp := (tpv_bd (s := S)).2
  have n1 := np_t ht h12
  have h12' : ∀ q, q ∈ [((0, z, a, b, p) : Tk)] → q.1 ≠ 12 := fun q hq => by
    rw [List.mem_singleton.mp hq]
    exact (show (0 : Nat) ≠ 12 by decide)
  have n2 := J.np ht (m := []) rfl lv h12'
  refine pot_op J ht h12 (m := []) rfl lv h12' (fun _ _ => by rw [kzz.1]) hS h100 ?_
  rw [mk_kz kzz lv.1 n1 n2]
  show _ + _ + (0 + 0) + 1 ≤ _ + _ + _ + 0 + _
  omega
theorem sL1_le {g : Tk → Nat} {A B : List Tk} : sL1 g A ≤ sL1 g (A ++ B) := by
  rw [sL1_app]
  omega
theorem pot_fail {h : Bool} {fs : List Fn} {s q : Ac} {rk : Nat → Nat} {t : Tk} {l : List Tk} {o : Nat} (J : JR fs s rk) (N : NB s) (Z : Z0 s) (ht : topK s = t :: l) (h12 : t.1 ≠ 12) (lv : lvs s q l []) (e1 : aC q = aC s) (e2 : aF q = aF s) (e3 : aM q = aM s) (e6 : aS s ≤ aS q) (e7 : aS q ≤ 100) (ho : o ≤ aL s) (h0 : aE (failA q o) = 0) : pot h (failA q o) + 1 ≤ pot h s := by
  obtain ⟨v1, v2, v3, v4⟩ := lv
  have hC := (N.all J Z).1
  have hng := ng_bd (h := h) J N Z
  have np := np_t ht h12
  have qs : qpv s = 0 := if_neg np
  unfold failA at h0 ⊢
  by_cases q0 : o = 0
  · rw [if_pos q0] at h0
    exact absurd h0 (show ¬ (2 : Nat) = 0 by decide)
  · rw [if_neg q0] at h0 ⊢
    obtain ⟨L', hL'⟩ : ∃ L', o = L' + 1 := ⟨o - 1, by omega⟩
    obtain ⟨A, hA⟩ := lowX_suf (v := aV s) (L' := L' + 1) (L := aL s) (by omega)
    have eB : lowX (aV s) (L' + 1) = (15, lX (aV s (L' + 1)), 0, 0, .nil) :: (lK (aV s L') ++ lowX (aV s) L') := rfl
    have ef : flX s = (topK s ++ A) ++ lowX (aV s) (L' + 1) := by
      show topK s ++ lowX (aV s) (aL s) = _
      rw [hA, List.append_assoc]
    have i1 := sI_ng (W := tkW h (aM s)) (g := tkN h) tkW_ng (topK s ++ A)
    have i2 := sL1_le (g := tkN h) (A := topK s ++ A) (B := lowX (aV s) (L' + 1))
    rw [← ef] at i2
    have i3 : sI (tkW h (aM s)) (flX s) = sI (tkW h (aM s)) (topK s ++ A) + sI (tkW h (aM s)) (lowX (aV s) (L' + 1)) := by rw [ef, sI_app]
    have i4 : sI (tkW h (aM s)) (lowX (aV s) (L' + 1)) = 0 + sI (tkW h (aM s)) (lK (aV s L') ++ lowX (aV s) L') := rfl
    cases hb : backA (lD (aV q o)) with
    | nil =>
      have fl : flX (sL (data q (lX (aV q o)) 0 none none) (o - 1) (aV q)) = lK (aV s L') ++ lowX (aV s) L' := by
        show lK (aV q (o - 1)) ++ lowX (aV q) (o - 1) = _
        rw [show o - 1 = L' by omega, v3 L' (by omega), lowX_eq (fun j _ _ => v2 j) (fun j hj => v3 j (by omega))]
      refine pot_reset (S := sL (data q (lX (aV q o)) 0 none none) (o - 1) (aV q)) hC e1 e6 e7 ?_ (fun x hx => ?_) ?_
      · have : 0 ≤ qpv (sL (data q (lX (aV q o)) 0 none none) (o - 1) (aV q)) := by
          unfold qpv
          split <;> decide
        rw [qs]
        show ((o - 1 : Nat) : Int) + 1 - _ ≤ (aL s : Int) - _
        omega
      · show thV h _ x (up1 (aF q) (lX (aV q o)) (1, 0, none, none, tW (aF q (lX (aV q o))), tP (aF q (lX (aV q o))), tT (aF q (lX (aV q o)))) x) ≤ _
        rcases up1_or (f := aF q) (x := lX (aV q o)) (y := x) (v := (1, 0, none, none, tW (aF q (lX (aV q o))), tP (aF q (lX (aV q o))), tT (aF q (lX (aV q o))))) with ⟨_, f2⟩ | ⟨_, f2⟩
        · rw [f2]
          have a1 := (thV_d (h := h) (mk := mkS h (sL (data q (lX (aV q o)) 0 none none) (o - 1) (aV q))) (x := x) (t := (1, 0, none, none, tW (aF q (lX (aV q o))), tP (aF q (lX (aV q o))), tT (aF q (lX (aV q o))))) rfl).2
          have a2 := (thV_bd (h := h) (mk := mkS h s) (x := x) (t := aF s x)).1
          omega
        · rw [f2, e2]
          exact thV_mk
      · rw [fl, show aM (sL (data q (lX (aV q o)) 0 none none) (o - 1) (aV q)) = aM s from e3, i3, i4]
        omega
    | cons d r =>
      obtain ⟨w, n⟩ := d
      rw [hb] at h0
      have h0 : aE (if lU (aV q o) = 20 then sE q 4 else sL q o (up1 (aV q) o (lX (aV q o), lU (aV q o), [], (r.map (fun d => d.1)).reverse ++ [w + 1], [tRun], lZ (aV q o)))) = 0 := h0
      show pot h (if lU (aV q o) = 20 then sE q 4 else sL q o (up1 (aV q) o (lX (aV q o), lU (aV q o), [], (r.map (fun d => d.1)).reverse ++ [w + 1], [tRun], lZ (aV q o)))) + 1 ≤ _
      by_cases h20 : lU (aV q o) = 20
      · rw [if_pos h20] at h0
        exact absurd h0 (show ¬ (4 : Nat) = 0 by decide)
      · rw [if_neg h20]
        have eu : ∀ j, j ≠ o → up1 (aV q) o (lX (aV q o), lU (aV q o), [], (r.map (fun d => d.1)).reverse ++ [w + 1], [tRun], lZ (aV q o)) j = aV q j := fun j hj => up1_ne hj
        have eo : up1 (aV q) o (lX (aV q o), lU (aV q o), [], (r.map (fun d => d.1)).reverse ++ [w + 1], [tRun], lZ (aV q o)) o = (lX (aV q o), lU (aV q o), [], (r.map (fun d => d.1)).reverse ++ [w + 1], [tRun], lZ (aV q o)) := up1_at
        have fl : flX (sL q o (up1 (aV q) o (lX (aV q o), lU (aV q o), [], (r.map (fun d => d.1)).reverse ++ [w + 1], [tRun], lZ (aV q o)))) = tRun :: lowX (aV s) (L' + 1) := by
          show lK (up1 (aV q) o _ o) ++ lowX (up1 (aV q) o _) o = _
          rw [eo]
          show [tRun] ++ lowX (up1 (aV q) o _) o = _
          rw [lowX_eq (v := aV s) (fun j _ hj => ?_) (fun j hj => ?_), hL']
          · rfl
          · by_cases e : j = o
            · rw [e, eo]
              exact v2 o
            · rw [eu j e]
              exact v2 j
          · rw [eu j (by omega)]
            exact v3 j (by omega)
        refine pot_reset hC e1 e6 e7 ?_ (fun x hx => ?_) ?_
        · have : qpv (sL q o (up1 (aV q) o (lX (aV q o), lU (aV q o), [], (r.map (fun d => d.1)).reverse ++ [w + 1], [tRun], lZ (aV q o)))) = 1 := by
            refine if_pos ?_
            show (lK (up1 (aV q) o _ o)).head?.map (fun t => t.1) = some 12
            rw [eo]
            rfl
          rw [qs, this]
          show (o : Int) + 1 - _ ≤ (aL s : Int) - _
          omega
        · show thV h _ x (aF q x) ≤ _
          rw [e2]
          exact thV_mk
        · rw [fl, show aM (sL q o (up1 (aV q) o (lX (aV q o), lU (aV q o), [], (r.map (fun d => d.1)).reverse ++ [w + 1], [tRun], lZ (aV q o)))) = aM s from e3, i3]
          have : sI (tkW h (aM s)) (tRun :: lowX (aV s) (L' + 1)) = 0 + sI (tkW h (aM s)) (lowX (aV s) (L' + 1)) := rfl
          rw [this]
          omega
/-- a thing becomes another one -/
theorem mX_lnk {h : Bool} {mk : Nat → Bool} {f : Nat → Th} {n x : Nat} {y : Nat} (hx : x < n) : mX h mk (up1 f x (7, tO (f x), some y, tB (f x), tW (f x), tP (f x), tT (f x))) n + thV h mk x (f x) = mX h mk f n := by
  have := mX_up (h := h) (mk := mk) (f := f) (f' := up1 f x (7, tO (f x), some y, tB (f x), tW (f x), tP (f x), tT (f x))) hx (fun y _ q => up1_ne q)
  have e0 : thV h mk x (7, tO (f x), some y, tB (f x), tW (f x), tP (f x), tT (f x)) = 0 := rfl
  rw [up1_at, e0] at this
  omega
theorem mX_dat {h : Bool} {mk : Nat → Bool} {f : Nat → Th} {n x k : Nat} {a b : Option Nat} (hx : x < n) : mX h mk (up1 f x (1, k, a, b, tW (f x), tP (f x), tT (f x))) n + thV h mk x (f x) ≤ mX h mk f n + hC1 h := by
  have := mX_up (h := h) (mk := mk) (f := f) (f' := up1 f x (1, k, a, b, tW (f x), tP (f x), tT (f x))) hx (fun y _ q => up1_ne q)
  rw [up1_at] at this
  have := (thV_d (h := h) (mk := mk) (x := x) (t := (1, k, a, b, tW (f x), tP (f x), tT (f x))) rfl).2
  omega
/-! weights of what is laid -/
theorem sI_mt {h : Bool} {m : Nat → Nat} {p : Option Tr} {y : Option Nat} {c : Nat} {B : Int} (hB : 0 ≤ B) (hp : ∀ q, p = some q → 12 * (tsz q : Int) + 2 ≤ B) : sI (tkW h m) (mt1 p y c) ≤ B := by
  cases p with
  | none => exact hB
  | some q =>
    cases y with
    | none => exact hB
    | some z =>
      have := hp q rfl
      show 12 * (tsz q : Int) + 2 + 0 ≤ B
      omega
theorem sI_oT {h : Bool} {m : Nat → Nat} {y : Option Nat} : 0 ≤ sI (tkW h m) (oT 1 y) ∧ sI (tkW h m) (oT 1 y) ≤ (if h = true then 1 else 3) := by
  cases y with
  | none => cases h <;> exact ⟨Int.le_refl _, of_decide_eq_true rfl⟩
  | some z => cases h <;> exact ⟨of_decide_eq_true rfl, of_decide_eq_true rfl⟩
theorem sI_pairs {h : Bool} {m : Nat → Nat} {k : Nat} {s : Ac} {a b u : Nat} (hk : k = 10 ∨ k = 11) : sI (tkW h m) (pairs k s a b u) ≤ 2 := by
  have one : ∀ x y : Option Nat, sI (tkW h m) (pr1 k x y u) ≤ 1 := fun x y => by
    cases x with
    | none => exact (show (0 : Int) ≤ 1 by decide)
    | some x =>
      cases y with
      | none => exact (show (0 : Int) ≤ 1 by decide)
      | some y =>
        rcases hk with e | e <;> subst e <;> exact (show (1 : Int) + 0 ≤ 1 by decide)
  show sI (tkW h m) (pr1 k _ _ u ++ pr1 k _ _ u) ≤ 2
  rw [sI_app]
  have := one (tA (aF s a)) (tA (aF s b))
  have := one (tB (aF s a)) (tB (aF s b))
  omega
theorem stepA_kz {q : Ac} (h : aE (stepA q) = 0) : aC (stepA q) = aC q ∧ aF (stepA q) = aF q := by
  rw [stepA_k h]
  exact ⟨rfl, rfl⟩
theorem pot_call {h : Bool} {fs : List Fn} {s : Ac} {rk : Nat → Nat} {k y a b : Nat} {p : Tr} {l : List Tk} (hf : PW fs [] none) (J : JR fs s rk) (N : NB s) (Z : Z0 s) (ht : topK s = (k, y, a, b, p) :: l) (h0t : k = 0) (h2 : tK (aF s (root s y)) = 2) (hWR : WRc fs (setK s l) (root s y)) (h0 : aE (callA fs (setK s l) (root s y)) = 0) : pot h (callA fs (setK s l) (root s y)) + 1 ≤ pot h s := by
  subst h0t
  have tps : tpv s = 0 := (tpv_h ht).2.2 rfl (by show ¬ tK (aF s (root s y)) < 2; omega)
  obtain ⟨x, hx⟩ : ∃ x, x = root s y := ⟨_, rfl⟩
  have kzS := (kz_setK (s := s) (l := l)).tr (kz_call (fs := fs) (s := setK s l) (x := root s y))
  rw [← hx] at h2 hWR h0 kzS ⊢
  obtain ⟨g, od, jt, jk, jl⟩ := J
  have J : JR fs s rk := ⟨g, od, jt, jk, jl⟩
  have hy := (jk (aL s) (Nat.le_refl _) [] _ l ht).1 y (List.mem_cons_self ..)
  have hxl : x < aC s := by rw [hx]; exact g.lt hy.1
  have hxo : tW (aF s x) ≤ aL s := by
    have := g.own hy.1
    rw [← hx] at this
    omega
  have lv : lvs s (setK s l) l [] := lvs_set
  have n4 := N.2.2.2.1
  obtain ⟨xf, hxf, xa, xb⟩ := ((jt.1 x hxl).2.2.2.2.1 h2).1
  have hru : rulf fs (tO (aF s x)) = xf.2.2 := by
    unfold rulf
    rw [hxf]
  unfold callA at h0 kzS ⊢
  rw [show tO (aF (setK s l) x) = tO (aF s x) from rfl, hru] at h0 kzS ⊢
  by_cases hn : xf.2.2.length = 0
  · rw [if_pos hn] at h0 ⊢
    exact pot_fail J N Z ht (show (0 : Nat) ≠ 12 by decide) lv rfl rfl rfl (Nat.le_refl _) n4 hxo h0
  · rw [if_neg hn] at h0 kzS ⊢
    obtain ⟨d, hd⟩ : ∃ d, d = (if 1 < xf.2.2.length then decA (setK s l) (tW (aF (setK s l) x)) xf.2.2.length else (0, setK s l)) := ⟨_, rfl⟩
    have h0 : aE (if aE d.2 = 0 then (if aE (stepA d.2) = 0 then takeR (stepA d.2) x (xf.2.2.getD d.1 (none, none, .nil)) else stepA d.2) else d.2) = 0 := by
      rw [hd]
      exact h0
    have kzS : kz s (if aE d.2 = 0 then (if aE (stepA d.2) = 0 then takeR (stepA d.2) x (xf.2.2.getD d.1 (none, none, .nil)) else stepA d.2) else d.2) := by
      rw [hd]
      exact kzS
    have goal : ∀ S, S = (if aE d.2 = 0 then (if aE (stepA d.2) = 0 then takeR (stepA d.2) x (xf.2.2.getD d.1 (none, none, .nil)) else stepA d.2) else d.2) → pot h S + 1 ≤ pot h s := by
      intro S hS
      rw [← hS] at h0 kzS
      by_cases e1 : aE d.2 = 0
      · rw [if_pos e1] at hS
        by_cases e2 : aE (stepA d.2) = 0
        · rw [if_pos e2] at hS
          have hq : lvs s d.2 l [] ∧ aC d.2 = aC s ∧ aF d.2 = aF s ∧ aS d.2 = aS s ∧ d.1 < xf.2.2.length := by
            by_cases w : 1 < xf.2.2.length
            · rw [if_pos w] at hd
              rw [hd] at e1 ⊢
              have hlt := hWR h2 (by rw [show tO (aF (setK s l) x) = tO (aF s x) from rfl, hru]; exact w)
              rw [show tO (aF (setK s l) x) = tO (aF s x) from rfl, hru] at hlt
              have hlt := hlt e1
              obtain ⟨a1, a2, a3, a4, a5⟩ := decA_k e1
              exact ⟨lv.dec, a1, a2, a4, hlt⟩
            · rw [if_neg w] at hd
              rw [hd]
              exact ⟨lv, rfl, rfl, rfl, by show 0 < _; omega⟩
          obtain ⟨q1, q2, q3, q7, q6⟩ := hq
          have es := stepA_k e2
          obtain ⟨z1, z2⟩ := stepA_le e2 (by omega)
          obtain ⟨R, hRe⟩ : ∃ R, R = xf.2.2.getD d.1 (none, none, .nil) := ⟨_, rfl⟩
          have hR : R ∈ xf.2.2 := by
            rw [hRe, List.getD_eq_getElem?_getD, List.getElem?_eq_getElem q6]
            exact List.getElem_mem q6
          obtain ⟨r1, r2, r3, r4⟩ := PW.rl hf hxf hR
          rw [es, ← hRe] at hS
          have hS2 : S = push (takeT (sS d.2 (aS d.2 + 1)) x R) (mt1 R.1 (tA (aF s x)) x ++ mt1 R.2.1 (tB (aF s x)) x ++ [(6, x, 0, 0, .nil)]) := by
            rw [hS, ← q3]
            rfl
          have eF : aF S = up1 (aF s) x (tK (aF s x), tO (aF s x), tA (aF s x), tB (aF s x), tW (aF s x), aP d.2, R.2.2) := by
            rw [hS2, ← q3]
            rfl
          have eC : aC S = aC s := by rw [hS2]; exact q2
          have eS : aS S = aS s + 1 := by rw [hS2, ← q7]; rfl
          have lvS : lvs s S l (mt1 R.1 (tA (aF s x)) x ++ mt1 R.2.1 (tB (aF s x)) x ++ [(6, x, 0, 0, .nil)]) := by
            rw [hS2]
            exact lvs.pu (q := takeT (sS d.2 (aS d.2 + 1)) x R) q1
          refine pot_new J Z ht (show (0 : Nat) ≠ 12 by decide) lvS (fun t ht => ?_) kzS (by omega) (by omega) ?_
          · rcases List.mem_append.mp ht with ht | ht
            · have : t.1 = 4 := (List.mem_append.mp ht).elim mt1_k mt1_k
              omega
            · rw [List.mem_singleton.mp ht]
              exact ⟨(show (6 : Nat) ≠ 0 by decide), (show (6 : Nat) ≠ 12 by decide)⟩
          · rw [sI_app, sI_app, eC, eS, eF]
            have h1 := sI_mt (h := h) (m := aM s) (y := tA (aF s x)) (c := x) (B := 146) (by decide) (fun q e => by
              have := (r1 q e).1.2.2
              omega)
            have h2' := sI_mt (h := h) (m := aM s) (y := tB (aF s x)) (c := x) (B := 146) (by decide) (fun q e => by
              have := (r2 q e).1.2.2
              omega)
            have h3 := mX_up (h := h) (mk := mkS h s) (f := aF s) (f' := up1 (aF s) x (tK (aF s x), tO (aF s x), tA (aF s x), tB (aF s x), tW (aF s x), aP d.2, R.2.2)) hxl (fun y _ q => up1_ne q)
            rw [up1_at, thV_0 (t := aF s x) (Or.inr (Or.inl h2)), thV_0 (t := (tK (aF s x), tO (aF s x), tA (aF s x), tB (aF s x), tW (aF s x), aP d.2, R.2.2)) (Or.inr (Or.inl h2))] at h3
            show _ + (_ + _ + (300 + 0)) + 2 ≤ _ + _ + 0 + _
            omega
        · rw [if_neg e2] at hS
          exact absurd (by rw [hS] at h0; exact h0) e2
      · rw [if_neg e1] at hS
        exact absurd (by rw [hS] at h0; exact h0) e1
    have hgo := goal _ rfl
    rw [hd] at hgo
    exact hgo
