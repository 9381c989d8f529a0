/-! WHAT HOLDS IN EVERY RUN: patterns are met -/
theorem JR.met {fs : List Fn} {s : Ac} {rk : Nat → Nat} {t : Tk} {l : List Tk} {p : Tr} {y c : Nat} (J : JR fs s rk) (ht : topK s = t :: l) (h45 : t.1 = 4 ∨ t.1 = 5) (hm : mr t = [y]) (hy : y < aC s) (hc : c < aC s) (hco : tW (aF s c) ≤ aL s) (hp : ptr fs p) (h10 : 10 ≤ tcode p) (h6 : (6, c, 0, 0, .nil) ∈ l) (hyc : tW (aF s y) ≤ tW (aF s c)) (hk : tK (aF s (root s y)) < 2) (h0 : aE (metA fs (setK s l) p (root s y) c) = 0) : ∃ rk', JR fs (metA fs (setK s l) p (root s y) c) rk' ∧ Ev s (metA fs (setK s l) p (root s y) c) := by
  obtain ⟨g, od, jt, jk, jl⟩ := J
  have J : JR fs s rk := ⟨g, od, jt, jk, jl⟩
  obtain ⟨x, hx⟩ : ∃ x, x = root s y := ⟨_, rfl⟩
  rw [← hx] at hk h0 ⊢
  have hxl : x < aC s := by rw [hx]; exact g.lt hy
  have hxr : rk x ≤ rk y := by rw [hx]; exact g.le hy
  have hxo : tW (aF s x) ≤ tW (aF s y) := by rw [hx]; exact g.own hy
  obtain ⟨k, hkk⟩ : ∃ k, k = tcode p - 10 := ⟨_, rfl⟩
  have h20 := pat_code hp.1 hp.2.1
  have hk6 : k < 6 := by
    have : cok fs.length (tcode p) := by
      rcases tr_cases hp.1 with ⟨c, rfl, q, -⟩ | ⟨c, a, rfl, q, -⟩ | ⟨c, a, b, rfl, q, -⟩ <;> exact q
    unfold cok at this
    omega
  have hmy : y ∈ mr t := by rw [hm]; exact List.mem_singleton.mpr rfl
  have fin : ∀ S rk', Ev s S → GR S rk' → JT fs S → (∀ z, z < aC s → z ≠ x → aF S z = aF s z) → (∀ z u, z < aC s → u < aC s → rk z < rk u → rk' z < rk' u) → ∀ o1 o2, lvs s S l (mt1 (kid1 p) o1 c ++ mt1 (kid2 p) o2 c) → (∀ a, (o1 = some a ∨ o2 = some a) → a < aC S ∧ tW (aF S a) ≤ tW (aF s c) ∧ ∀ u, u < aC s → rk x < rk u → rk' a < rk' u) → (2 ≤ k → o1.isSome = true) → (4 ≤ k → o2.isSome = true) → ∃ rk', JR fs S rk' ∧ Ev s S := by
    intro S rk' hE hG hJ hch hmo o1 o2 lv hor hs1 hs2
    have twc : tW (aF S c) = tW (aF s c) := (hE.2 c hc).1
    have k4 : ∀ l1 q a n, ptr fs q → (o1 = some a ∨ o2 = some a) → KO fs S (aL s) l1 (4, a, c, 0, q) (n ++ l) := fun l1 q a n hq ha => by
      obtain ⟨a1, a2, a3⟩ := hor a ha
      refine ⟨fun z hz => ?_, hq, rfl, List.mem_append_right _ h6, ?_⟩
      · rcases List.mem_cons.mp hz with e | e
        · rw [e]
          exact ⟨a1, by show tW (aF S a) ≤ aL s; omega⟩
        · rw [List.mem_singleton.mp e]
          exact ⟨Nat.lt_of_lt_of_le hc hE.1, by show tW (aF S c) ≤ aL s; omega⟩
      · show tW (aF S a) ≤ tW (aF S c)
        omega
    obtain ⟨new, hnew⟩ : ∃ new, new = mt1 (kid1 p) o1 c ++ mt1 (kid2 p) o2 c := ⟨_, rfl⟩
    rw [← hnew] at lv
    have sh : KOL fs S (aL s) l [] new ∧ ∀ b, b ∈ new → b.1 = 4 ∧ (o1 = some b.2.1 ∨ o2 = some b.2.1) := by
      rcases pat_kids hp.1 h10 h20 with ⟨w, e1, e2⟩ | ⟨a, w, e1, e2, _⟩ | ⟨a, b, w, e1, e2, _⟩
      · rw [hnew, e1, e2]
        exact ⟨trivial, fun b hb => (List.not_mem_nil hb).elim⟩
      · obtain ⟨z, hz⟩ := Option.isSome_iff_exists.mp (hs1 (by omega))
        rw [hnew, e1, e2, hz]
        exact ⟨⟨k4 _ _ _ [] (hp.kid1 h10 e1) (Or.inl hz), trivial⟩, fun b hb => by rw [List.mem_singleton.mp hb]; exact ⟨rfl, Or.inl rfl⟩⟩
      · obtain ⟨z, hz⟩ := Option.isSome_iff_exists.mp (hs1 (by omega))
        obtain ⟨v, hv⟩ := Option.isSome_iff_exists.mp (hs2 (by omega))
        rw [hnew, e1, e2, hz, hv]
        refine ⟨⟨k4 _ _ _ [(4, v, c, 0, b)] (hp.kid1 h10 e1) (Or.inl hz), k4 _ _ _ [] (hp.kid2 h10 e2) (Or.inr hv), trivial⟩, fun d hd => ?_⟩
        rcases List.mem_cons.mp hd with e | e
        · rw [e]
          exact ⟨rfl, Or.inl rfl⟩
        · rw [List.mem_singleton.mp e]
          exact ⟨rfl, Or.inr rfl⟩
    obtain ⟨sk, sb⟩ := sh
    have mrb : ∀ b, b ∈ new → frs b = [] ∧ ∀ z, z ∈ mr b → o1 = some z ∨ o2 = some z := fun b hb => by
      obtain ⟨b1, b2⟩ := sb b hb
      unfold frs mr
      rw [b1]
      exact ⟨rfl, fun z hz => by rw [List.mem_singleton.mp hz]; exact b2⟩
    refine ⟨rk', J.op1 (x := x) ht lv hJ hG hE hch ⟨y, hmy, hxr⟩ (fun z u hz hu _ hr => hmo z u hz hu hr) sk.all ?_ (fun a ha y' hy' u hu _ hlt => ?_) (fun y' _ hfc => (no_fcs (by omega) hfc).elim) (fun w hw hcw => Or.inl (hE.cl g hG hw (no_cv ⟨by omega, by omega, by omega⟩ hcw))) (fun e h1 => absurd e (jl.nl ht (by omega) (by omega) h1)), hE⟩
    · exact List.Pairwise.imp_of_mem (fun {a b} _ hb _ => (fun u hu => by rw [(mrb b hb).1] at hu; exact (List.not_mem_nil hu).elim : orR rk' a b)) (List.pairwise_of_forall (fun _ _ => trivial) : List.Pairwise (fun _ _ => True) new)
    · have := hlt y hmy
      exact (hor y' ((mrb a ha).2 y' hy')).2.2 u hu (by omega)
  unfold metA at h0 ⊢
  rw [← hkk] at h0 ⊢
  by_cases w0 : tK (aF s x) = 0
  · rw [if_pos (show tK (aF (setK s l) x) = 0 from w0)] at h0 ⊢
    by_cases wr : ((fs[tO (aF (setK s l) c)]?.map (fun y => y.2.1)).getD false = true) ∨ tW (aF (setK s l) x) ≠ tW (aF (setK s l) c)
    · rw [if_pos wr] at h0
      exact absurd h0 (show ¬ (3 : Nat) = 0 by decide)
    · rw [if_neg wr]
      have wo : tW (aF s x) = tW (aF s c) := Classical.byContradiction fun q => wr (Or.inr q)
      obtain ⟨m1, m2, m3, m4⟩ := met_T (k := k) (g.eq (s' := setK s l) rfl rfl rfl) (jt.eq rfl rfl rfl rfl) (show x < aC (setK s l) from hxl) w0 hk6
      obtain ⟨S, hS⟩ : ∃ S, S = push (metT (setK s l) x k) (mt1 (kid1 p) (if 2 ≤ k then some (aC s) else none) c ++ mt1 (kid2 p) (if 4 ≤ k then some (aC s + 1) else none) c) := ⟨_, rfl⟩
      show ∃ rk', JR fs (push (metT (setK s l) x k) (mt1 (kid1 p) (if 2 ≤ k then some (aC s) else none) c ++ mt1 (kid2 p) (if 4 ≤ k then some (aC s + 1) else none) c)) rk' ∧ Ev s (push (metT (setK s l) x k) (mt1 (kid1 p) (if 2 ≤ k then some (aC s) else none) c ++ mt1 (kid2 p) (if 4 ≤ k then some (aC s + 1) else none) c))
      have m4 : aC (metT (setK s l) x k) = aC s + k / 2 := m4
      have hE : Ev s (push (metT (setK s l) x k) (mt1 (kid1 p) (if 2 ≤ k then some (aC s) else none) c ++ mt1 (kid2 p) (if 4 ≤ k then some (aC s + 1) else none) c)) := m3
      refine fin _ (rk2 rk (aC s) x) hE (m2.eq rfl rfl rfl) (m1.eq rfl rfl rfl rfl) (fun z hz hzx => ?_) (fun z u hz hu hr => by rw [rk2_lt hz, rk2_lt hu]; omega) _ _ (lvs.pu (q := metT (setK s l) x k) lvs_set) (fun a ha => ?_) (fun q => by rw [if_pos q]; rfl) (fun q => by rw [if_pos q]; rfl)
      · show up1 _ x _ z = _
        rw [up1_ne hzx]
        exact app_lt hz
      · have ha2 : aC s ≤ a ∧ a < aC s + k / 2 := by
          rcases ha with q | q
          · split at q
            · cases q
              omega
            · cases q
          · split at q
            · cases q
              omega
            · cases q
        have ea : aF (metT (setK s l) x k) a = tOpen (tW (aF s x)) := by
          have : aF (metT (setK s l) x k) a = aF (addT (setK s l) (List.replicate (k / 2) (tOpen (tW (aF (setK s l) x))))) a := up1_ne (by omega)
          rw [this]
          obtain ⟨i, hi⟩ := Nat.le.dest ha2.1
          rw [← hi]
          refine app_at ?_
          rw [List.getElem?_replicate, if_pos (by omega)]
          rfl
        refine ⟨by show a < aC (metT (setK s l) x k); omega, ?_, fun u hu hr => ?_⟩
        · show tW (aF (metT (setK s l) x k) a) ≤ _
          rw [ea]
          show tW (aF s x) ≤ _
          omega
        · rw [rk2_lt hu]
          unfold rk2
          rw [if_neg (by omega)]
          omega
  · rw [if_neg (show ¬ tK (aF (setK s l) x) = 0 from w0)] at h0 ⊢
    by_cases w1 : tO (aF s x) = k
    · rw [if_pos (show tO (aF (setK s l) x) = k from w1)]
      have d := (jt.1 x hxl).2.2.2.1 (by omega)
      refine fin _ rk (Ev.same (Nat.le_refl _) (fun _ _ => rfl)) (g.eq rfl rfl rfl) (jt.eq rfl rfl rfl rfl) (fun _ _ _ => rfl) (fun _ _ _ _ q => q) (tA (aF s x)) (tB (aF s x)) (lvs.pu (q := setK s l) lvs_set) (fun a ha => ?_) (fun q => ?_) (fun q => ?_)
      · obtain ⟨a1, a2, a3⟩ := g.pa hxl (by omega) ha
        exact ⟨a1, by show tW (aF s a) ≤ _; omega, fun u _ hr => by omega⟩
      · rw [d.2.1, w1]
        exact decide_eq_true q
      · rw [d.2.2, w1]
        exact decide_eq_true q
    · rw [if_neg (show ¬ tO (aF (setK s l) x) = k from w1)] at h0 ⊢
      exact ⟨rk, J.fail lvs_set rfl rfl rfl rfl hco h0⟩
