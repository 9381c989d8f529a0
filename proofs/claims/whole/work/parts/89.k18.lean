/-! BOTH RUNS BEGIN WELL -/
theorem start_f {fs : List Fn} {g : Tr} {w : List Nat} (hf : PW fs [] none) (hg : tok fs g) (h40 : w.length ≤ 40) (h100 : ∀ x, x ∈ w → x < 100) : (∃ rk, JR fs (startA g w) rk) ∧ NA (startA g w) ∧ Z0 (startA g w) ∧ TBs (startA g w) ∧ (∀ x, aM (startA g w) x = 0) ∧ aE (startA g w) = 0 ∧ lX (aV (startA g w) 0) = 0 ∧ aL (startA g w) = 0 ∧ aR (startA g w) = 1 ∧ lZ (aV (startA g w) 0) = 1 ∧ ∃ y, topK (startA g w) = [(1, y, 0, 0, .nil)] := by
  obtain ⟨hw, h12⟩ := hg
  obtain ⟨q, hq⟩ : ∃ q, q = opG 0 (ksA g) 0 (fun _ => none) := ⟨_, rfl⟩
  obtain ⟨r, hr⟩ : ∃ r, r = mkA q.1 0 0 g q.2.length := ⟨_, rfl⟩
  have es : startA g w = ((q.2.length + r.2.length, app (app (fun _ => tNil) 0 q.2) q.2.length r.2), (fun _ => 0), (1, fun _ => q.1), (0, fun _ => (0, 0, [], w, oT 1 r.1, 1)), 0, 0, 0, 1) := by
    rw [hr, hq]
    rfl
  have hN : NmO q.1 q.2.length g := by
    have := opG_NmO (o := 0) (n := 0) (b := q.2.length) (g := fun _ => none) hw (fun k y h => by cases h) (by rw [hq]; omega)
    rw [hq] at this ⊢
    exact this
  have hqn : ∀ k y, q.1 k = some y → y < q.2.length := fun k y h => by
    rw [hq] at h ⊢
    rcases opG_or (ksA g) 0 (fun _ => none) k y h with w | w
    · cases w
    · omega
  have hqo : ∀ u, u ∈ q.2 → u = tOpen 0 := fun u hu => by
    rw [hq] at hu
    exact opG_op _ _ _ u hu
  have hrs : ∀ i u, r.2[i]? = some u → mdS fs q.1 0 0 q.2.length r.2.length g i u := fun i u hu => by
    rw [hr] at hu ⊢
    exact mkA_spec hf.1 hw hN _ i u hu
  obtain ⟨y, hy, hy2⟩ := mkA_nm (g := q.1) (o := 0) (p := 0) hw hN q.2.length
  rw [← hr] at hy hy2
  have hlen : q.2.length + r.2.length ≤ 12 := by
    have h1 := mkA_lk (g := q.1) (o := 0) (p := 0) hw q.2.length
    have h2 := ksA_lk hw
    have h3 : q.2.length ≤ (ksA g).length := by
      rw [hq]
      exact opG_len _ _ _
    rw [← hr] at h1
    omega
  have hwx : sTh r.2 + 2 ≤ 2 * tsz g := by
    rw [hr]
    exact mkA_wx hw _
  have hw0 : sTh q.2 = 0 := by
    rw [hq]
    exact opG_len2 _ _ _
  obtain ⟨s, hs⟩ : ∃ s, s = startA g w := ⟨_, rfl⟩
  rw [← hs] at es ⊢
  have eC : aC s = q.2.length + r.2.length := by rw [es]
  have eF1 : ∀ x, x < q.2.length → aF s x = tOpen 0 := fun x hx => by
    rw [es]
    show app (app (fun _ => tNil) 0 q.2) q.2.length r.2 x = _
    rw [app_lt hx]
    have := app_at (f := fun _ => tNil) (n := 0) (l := q.2) (i := x) (List.getElem?_eq_getElem hx)
    rw [Nat.zero_add] at this
    rw [this]
    exact hqo _ (List.getElem_mem hx)
  have eF2 : ∀ x, q.2.length ≤ x → x < aC s → mdS fs q.1 0 0 q.2.length r.2.length g (x - q.2.length) (aF s x) := fun x h1 h2 => by
    obtain ⟨i, rfl⟩ := Nat.le.dest h1
    have hi : i < r.2.length := by omega
    have : aF s (q.2.length + i) = r.2[i] := by
      rw [es]
      exact app_at (List.getElem?_eq_getElem hi)
    rw [this, Nat.add_sub_cancel_left]
    exact hrs i _ (List.getElem?_eq_getElem hi)
  have eN : ∀ p, aN s p = q.1 := fun p => by rw [es]
  have eT : topK s = [(1, y, 0, 0, .nil)] := by
    rw [es]
    show oT 1 r.1 = _
    rw [hy]
    rfl
  have eL : aL s = 0 := by rw [es]
  have eE : aE s = 0 := by rw [es]
  have eV : ∀ j, aV s j = (0, 0, [], w, oT 1 r.1, 1) := fun j => by rw [es]
  have yl : y < aC s := by
    rcases hy2 with ⟨k, hk⟩ | ⟨e1, e2⟩
    · have := hqn k y hk
      omega
    · omega
  have hW : ∀ x, x < aC s → tW (aF s x) = 0 := fun x hx => by
    by_cases c : x < q.2.length
    · rw [eF1 x c]
      rfl
    · exact (eF2 x (by omega) hx).1
  have hG : GR s (fun x => if x < q.2.length then 0 else 40 - (x - q.2.length)) := fun x hx => by
    by_cases c : x < q.2.length
    · refine ⟨fun k => (by rw [eF1 x c] at k; cases k), fun z hz => ?_⟩
      unfold Ed at hz
      rw [eF1 x c] at hz
      rcases hz with w | ⟨_, w⟩ | ⟨w | w, _⟩
      · cases w
      · cases w
      · cases w
      · cases w.1
    · have sp := eF2 x (by omega) hx
      obtain ⟨a1, a2, a3, a4, a5, a6, a7, a8, a9⟩ := sp
      refine ⟨fun k => by omega, fun z hz => ?_⟩
      have nm : ∀ k, q.1 k = some z → z < aC s ∧ (if z < q.2.length then 0 else 40 - (z - q.2.length)) < (if x < q.2.length then 0 else 40 - (x - q.2.length)) ∧ tW (aF s z) ≤ tW (aF s x) := fun k hk => by
        have := hqn k z hk
        rw [if_pos this, if_neg c, hW z (by omega), hW x hx]
        exact ⟨by omega, by omega, Nat.le_refl _⟩
      have pt : (tA (aF s x) = some z ∨ tB (aF s x) = some z) → z < aC s ∧ (if z < q.2.length then 0 else 40 - (z - q.2.length)) < (if x < q.2.length then 0 else 40 - (x - q.2.length)) ∧ tW (aF s z) ≤ tW (aF s x) := fun h => by
        rcases a5 z h with ⟨k, hk⟩ | ⟨h1, h2⟩
        · exact nm k hk
        · rw [if_neg (by omega), if_neg c, hW z (by omega), hW x hx]
          exact ⟨by omega, by omega, Nat.le_refl _⟩
      rcases hz with w | ⟨_, w⟩ | ⟨_, k, w⟩
      · exact pt (Or.inl w)
      · exact pt (Or.inr w)
      · rw [eN] at w
        exact nm k w
  have fl : flX s = [(1, y, 0, 0, .nil)] := by
    show topK s ++ lowX (aV s) (aL s) = _
    rw [eT, eL]
    rfl
  have hJ : JR fs s (fun x => if x < q.2.length then 0 else 40 - (x - q.2.length)) := by
    refine ⟨hG, ?_, ⟨fun x hx => ?_, fun u z hu hz h1 h2 _ _ => ?_, fun p k z h => ?_⟩, fun j hj l1 t l2 e => ?_, fun j j1 j2 => by omega⟩
    · unfold ORD
      rw [fl]
      exact List.pairwise_singleton _ _
    · by_cases c : x < q.2.length
      · unfold ThO
        rw [eF1 x c]
        exact ⟨show (0 : Nat) < 8 by decide, show (0 : Nat) < 100 by decide, fun _ => ⟨rfl, rfl⟩, fun q => (by cases q), fun q => (by cases q), fun q => absurd q (show ¬ 3 ≤ (0 : Nat) by decide), fun q => by cases q⟩
      · obtain ⟨a1, a2, a3, a4, a5, a6, a7, a8, a9⟩ := eF2 x (by omega) hx
        refine ⟨by omega, a4, fun k => by omega, a6, fun k => ⟨(a7 k).2, fun k2 => absurd (a7 k).1 k2⟩, a8, fun k => ?_⟩
        obtain ⟨b1, b2, b3, b4⟩ := a9 k
        refine ⟨b2, by omega, by rw [b1, es]; exact (show (0 : Nat) < 1 by decide), ?_⟩
        rw [eN]
        exact fun d hd hd2 => by
          obtain ⟨z, z1, z2⟩ := hN d (b4 d hd) hd2
          exact ⟨z, z1, by omega⟩
    · exfalso
      by_cases c : u < q.2.length
      · rw [eF1 u c] at h1
        cases h1
      · exact h2 ((eF2 u (by omega) hu).2.2.2.2.2.2.1 h1).1
    · rw [eN] at h
      have := hqn k z h
      omega
    · have ej : j = 0 := by omega
      subst ej
      have e : topK s = l1 ++ t :: l2 := by
        show lK (aV s (aL s)) = _
        rw [eL]
        exact e
      rw [eT] at e
      cases l1 with
      | nil =>
        have : (1, y, 0, 0, .nil) = t ∧ [] = l2 := by simpa using e
        rw [← this.1]
        exact KO.simple (Or.inr rfl) yl (by rw [hW y yl]; exact Nat.le_refl _)
      | cons z l1 => simp at e
  have hsw : sW (aF s) (aC s) ≤ 22 := by
    have h1 := sW_app (f := app (fun _ => tNil) 0 q.2) (n := q.2.length) (l := r.2)
    have h2 := sW_app (f := fun _ => tNil) (n := 0) (l := q.2)
    rw [Nat.zero_add] at h2
    have h3 : sW (fun _ => tNil) 0 = 0 := rfl
    have e : sW (aF s) (aC s) = sW (app (app (fun _ => tNil) 0 q.2) q.2.length r.2) (q.2.length + r.2.length) := by rw [es]
    rw [e]
    omega
  refine ⟨⟨_, hJ⟩, ⟨?_, fun j hj => ?_, fun h => ?_⟩, fun t ht => ?_, fun x hx z hz => ?_, fun x => by rw [es], eE, by rw [eV], eL, by rw [es], by rw [eV], y, eT⟩
  · unfold NB
    rw [fl, eL]
    refine ⟨?_, by rw [es]; exact Nat.le_refl 2, by rw [es]; exact Nat.le_refl 1, by rw [es]; exact Nat.zero_le _, ⟨Nat.zero_le _, fun _ => by rw [es]; exact Nat.le_refl 1⟩, fun x hx => by rw [hW x hx]; exact Nat.zero_le _, ?_, ?_, trivial⟩
    · have e1 : aR s = 1 := by rw [es]
      have e2 : aS s = 0 := by rw [es]
      have e3 : sL1 pc [(1, y, 0, 0, .nil)] = 0 := rfl
      omega
    · have e2 : aS s = 0 := by rw [es]
      have e3 : sL1 pp [(1, y, 0, 0, .nil)] = 0 := rfl
      omega
    · show 1 + 0 ≤ 0 + 0 + 1 ∧ 0 + 0 ≤ 0 + 0 + aS s
      omega
  · rw [eV]
    exact ⟨Nat.zero_le _, by show 0 + w.length ≤ 40; omega, fun d hd => (List.not_mem_nil hd).elim, h100⟩
  · exfalso
    refine h ?_
    show (lK (aV s (aL s))).head?.map (fun t => t.1) ≠ some 12
    have : lK (aV s (aL s)) = [(1, y, 0, 0, .nil)] := eT
    rw [this]
    exact (show some (1 : Nat) ≠ some 12 by decide)
  · rw [fl] at ht
    exact (List.not_mem_nil ht).elim
  · by_cases c : x < q.2.length
    · rw [eF1 x c] at hz
      cases hz
    · rcases (eF2 x (by omega) hx).2.2.2.2.1 z (Or.inr hz) with ⟨k, hk⟩ | ⟨h1, h2⟩
      · have := hqn k z hk
        omega
      · omega
theorem AA.start {fs : List Fn} {g : Tr} {w : List Nat} (hf : PW fs [] none) (hg : tok fs g) (h40 : w.length ≤ 40) (h100 : ∀ x, x ∈ w → x < 100) : AA fs (startA g w) ∧ lX (aV (startA g w) 0) = 0 ∧ aE (startA g w) = 0 := by
  obtain ⟨h1, h2, h3, h4, h5, h6, h7, _⟩ := start_f hf hg h40 h100
  exact ⟨⟨⟨h1, fun x => Or.inl (h5 x)⟩, h2, h3, h4⟩, h7, h6⟩
theorem QQ.start {fs : List Fn} {g : Tr} {w : List Nat} (hf : PW fs [] none) (hg : tok fs g) (h40 : w.length ≤ 40) (h100 : ∀ x, x ∈ w → x < 100) : QQ fs (startA g w) ∧ lX (aV (startA g w) 0) = 0 ∧ aE (startA g w) = 0 := by
  obtain ⟨h1, h2, h3, h4, h5, h6, h7, h8, h9, h10, y, h11⟩ := start_f hf hg h40 h100
  refine ⟨⟨⟨h1, ⟨fun x => by rw [h5]; exact Nat.zero_le _, fun x _ => h5 x, fun j hj => ?_, fun i j hij hj => by omega⟩, fun j hj t ht => ?_⟩, h2, h3, h4⟩, h7, h6⟩
  · have ej : j = 0 := by omega
    subst ej
    rw [h10, h9]
    refine ⟨Nat.le_refl _, fun _ => ⟨Nat.le_refl _, fun x hx => ?_⟩⟩
    rw [h5] at hx
    cases hx
  · have ej : j = aL (startA g w) := by omega
    subst ej
    have ht : t ∈ topK (startA g w) := ht
    rw [h11] at ht
    rw [List.mem_singleton.mp ht]
    exact (show (1 : Nat) ≠ 2 ∧ (1 : Nat) ≠ 5 ∧ (1 : Nat) ≠ 13 ∧ (1 : Nat) ≠ 14 by decide)
/-- all states of a run -/
def RnA (fs : List Fn) (g : Tr) (w : List Nat) (s : Ac) : Prop := ∃ n, s = itX (doA fs) n (startA g w)
def RnQ (fs : List Fn) (g : Tr) (w : List Nat) (s : Ac) : Prop := ∃ n, s = itX (doQ fs) n (startA g w)
theorem itX_s (d : Ac → Tk → Ac) (n : Nat) (s : Ac) : itX d (n + 1) s = goX d (itX d n s) := by
  rw [itX_add]
  rfl
theorem goX_end {d : Ac → Tk → Ac} {s : Ac} (h : aE s ≠ 0) : goX d s = s := if_neg h
/-- ways are in range at every turn -/
def WRA (fs : List Fn) (g : Tr) (w : List Nat) : Prop := ∀ n, aE (itX (doA fs) n (startA g w)) = 0 → WR2 fs (itX (doA fs) n (startA g w))
def WRQ (fs : List Fn) (g : Tr) (w : List Nat) : Prop := ∀ n, aE (itX (doQ fs) n (startA g w)) = 0 → WR2 fs (itX (doQ fs) n (startA g w))
theorem AA.all {fs : List Fn} {g : Tr} {w : List Nat} (hf : PW fs [] none) (hg : tok fs g) (h40 : w.length ≤ 40) (h100 : ∀ x, x ∈ w → x < 100) : ∀ n, (∀ m, m < n → aE (itX (doA fs) m (startA g w)) = 0 → WR2 fs (itX (doA fs) m (startA g w))) → aE (itX (doA fs) n (startA g w)) ≤ 5 ∧ lX (aV (itX (doA fs) n (startA g w)) 0) = 0 ∧ (aE (itX (doA fs) n (startA g w)) = 0 → AA fs (itX (doA fs) n (startA g w))) := by
  intro n
  induction n with
  | zero =>
    intro _
    obtain ⟨h1, h2, h3⟩ := AA.start hf hg h40 h100
    exact ⟨by show aE (startA g w) ≤ 5; omega, h2, fun _ => h1⟩
  | succ n ih =>
    intro hW
    obtain ⟨i1, i2, i3⟩ := ih (fun m hm => hW m (by omega))
    rw [itX_s]
    have z := gz_A (fs := fs) (s := itX (doA fs) n (startA g w))
    refine ⟨z.1 i1, z.2.2.trans i2, fun h0 => ?_⟩
    by_cases e : aE (itX (doA fs) n (startA g w)) = 0
    · exact ((i3 e).go hf e (hW n (Nat.lt_succ_self _) e) h0).1
    · rw [goX_end e] at h0
      exact absurd h0 e
theorem QQ.all {fs : List Fn} {g : Tr} {w : List Nat} (hf : PW fs [] none) (hg : tok fs g) (h40 : w.length ≤ 40) (h100 : ∀ x, x ∈ w → x < 100) : ∀ n, (∀ m, m < n → aE (itX (doQ fs) m (startA g w)) = 0 → WR2 fs (itX (doQ fs) m (startA g w))) → aE (itX (doQ fs) n (startA g w)) ≤ 5 ∧ lX (aV (itX (doQ fs) n (startA g w)) 0) = 0 ∧ (aE (itX (doQ fs) n (startA g w)) = 0 → QQ fs (itX (doQ fs) n (startA g w))) := by
  intro n
  induction n with
  | zero =>
    intro _
    obtain ⟨h1, h2, h3⟩ := QQ.start hf hg h40 h100
    exact ⟨by show aE (startA g w) ≤ 5; omega, h2, fun _ => h1⟩
  | succ n ih =>
    intro hW
    obtain ⟨i1, i2, i3⟩ := ih (fun m hm => hW m (by omega))
    rw [itX_s]
    have z := gz_Q (fs := fs) (s := itX (doQ fs) n (startA g w))
    refine ⟨z.1 i1, z.2.2.trans i2, fun h0 => ?_⟩
    by_cases e : aE (itX (doQ fs) n (startA g w)) = 0
    · exact ((i3 e).go hf e (hW n (Nat.lt_succ_self _) e) h0).1
    · rw [goX_end e] at h0
      exact absurd h0 e
/-- the reference's invariant of a run whose ways are in range -/
theorem invG_of {fs : List Fn} {g : Tr} {w : List Nat} (hf : PW fs [] none) (hg : tok fs g) (h40 : w.length ≤ 40) (h100 : ∀ x, x ∈ w → x < 100) (hW : WRA fs g w) : InvG fs (RnA fs g w) ∧ RnA fs g w (startA g w) := by
  have al := fun n => AA.all hf hg h40 h100 n (fun m _ => hW m)
  refine ⟨⟨fun s ⟨n, e⟩ => ⟨n + 1, by rw [itX_s, e]⟩, fun s t l ⟨n, e⟩ hE ht => ?_, fun s ⟨n, e⟩ hE ht => ?_, fun s ⟨n, e⟩ => by rw [e]; exact (al n).1⟩, 0, rfl⟩
  · subst e
    exact ((al n).2.2 hE).facts hf (al n).2.1 hE (hW n hE) ht
  · subst e
    obtain ⟨⟨⟨rk, J⟩, _⟩, _⟩ := (al n).2.2 hE
    by_cases w0 : aL (itX (doA fs) n (startA g w)) = 0
    · exact w0
    · obtain ⟨_, _, _, l, e, q1, _⟩ := J.2.2.2.2 (aL (itX (doA fs) n (startA g w))) (by omega) (Nat.le_refl _)
      have q1 : topK (itX (doA fs) n (startA g w)) = l ++ [e] := q1
      rw [ht] at q1
      simp at q1
theorem invQ_of {fs : List Fn} {g : Tr} {w : List Nat} (hf : PW fs [] none) (hg : tok fs g) (h40 : w.length ≤ 40) (h100 : ∀ x, x ∈ w → x < 100) (hW : WRQ fs g w) : InvQ fs (RnQ fs g w) ∧ RnQ fs g w (startA g w) := by
  have al := fun n => QQ.all hf hg h40 h100 n (fun m _ => hW m)
  refine ⟨fun s ⟨n, e⟩ => ?_, 0, rfl⟩
  subst e
  refine ⟨(al n).1, fun hE => ?_⟩
  have Q := (al n).2.2 hE
  obtain ⟨o1, o2, o3⟩ := Q.ok (al n).2.1
  refine ⟨o1, by omega, by omega, fun ht => ?_, fun t l ht => ?_, ⟨n + 1, by rw [itX_s]⟩, gz_Q.2.1⟩
  · obtain ⟨⟨⟨rk, J⟩, _⟩, _⟩ := Q
    by_cases w0 : aL (itX (doQ fs) n (startA g w)) = 0
    · exact w0
    · obtain ⟨_, _, _, l, e, q1, _⟩ := J.2.2.2.2 (aL (itX (doQ fs) n (startA g w))) (by omega) (Nat.le_refl _)
      have q1 : topK (itX (doQ fs) n (startA g w)) = l ++ [e] := q1
      rw [ht] at q1
      simp at q1
  · obtain ⟨f1, f2⟩ := Q.facts hf (al n).2.1 hE (hW n hE) ht
    exact ⟨fun _ => f1, f2⟩
