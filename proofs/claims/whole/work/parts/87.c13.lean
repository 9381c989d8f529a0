/-! THE OTHER ONE: matching -/
/-- the top of a tree in an expression -/
theorem EA.node {nf : Nat} {fp : Nat → Nat} {m : Mm} {e r : Nat} {t : Tr} (hw : twf nf fp t) (h : EA m e r t) : ∃ n, 714 ≤ e ∧ isExp m e n ∧ r < n ∧ n ≤ 12 ∧ mI m e 0 = nn n ∧ mI m (e + 1) r = nn (ctg (tcode t)) ∧ mI m (e + 2) r = nn (cwh (tcode t)) ∧
    ((kid1 t = none ∧ kid2 t = none ∧ mI m (e + 3) r = -1 ∧ mI m (e + 4) r = -1) ∨ (∃ a r1, kid1 t = some a ∧ kid2 t = none ∧ twf nf fp a ∧ mI m (e + 3) r = nn r1 ∧ mI m (e + 4) r = -1 ∧ EA m e r1 a ∧ r1 < 12) ∨ ∃ a b r1 r2, kid1 t = some a ∧ kid2 t = some b ∧ twf nf fp a ∧ twf nf fp b ∧ mI m (e + 3) r = nn r1 ∧ mI m (e + 4) r = nn r2 ∧ EA m e r1 a ∧ EA m e r2 b ∧ r1 < 12 ∧ r2 < 12) := by
  obtain ⟨n, lo, ly, h1, h2, h3, h4, h5, h6, h7, h8, h9⟩ := h
  have hly : ∀ c, lyr c ly ≤ ly + 1 := fun c => by unfold lyr; split <;> omega
  rcases tr_cases hw with ⟨c, rfl, r1, r2⟩ | ⟨c, a, rfl, r1, r2, r3⟩ | ⟨c, a, b, rfl, r1, r2, r3, r4⟩
  · rw [tsz_lf] at h5 h7 h9
    rw [Pc_lf] at h6
    obtain rfl : r = lo := by omega
    obtain ⟨n1, n2, n3, n4, -⟩ := h6
    exact ⟨n, h1, h3, by omega, h4, h8, n1, n2, Or.inl ⟨rfl, rfl, n3, n4⟩⟩
  · have pa := tsz_pos r3
    rw [tsz_un] at h5 h7 h9
    have hlc := hly c
    rw [Pc_un] at h6
    obtain ⟨⟨n1, n2, n3, n4, -⟩, p1⟩ := h6
    obtain rfl : r = lo + tsz a := by omega
    exact ⟨n, h1, h3, by omega, h4, h8, n1, n2, Or.inr (Or.inl ⟨a, lo + tsz a - 1, rfl, rfl, r3, n3, n4, ⟨n, lo, _, h1, h2, h3, h4, by omega, p1, rfl, h8, by omega⟩, by omega⟩)⟩
  · have pa := tsz_pos r3
    have pb := tsz_pos r4
    rw [tsz_bi] at h5 h7 h9
    have hlc := hly c
    rw [Pc_bi] at h6
    obtain ⟨⟨n1, n2, n3, n4, -⟩, p1, p2⟩ := h6
    obtain rfl : r = lo + tsz a + tsz b := by omega
    exact ⟨n, h1, h3, by omega, h4, h8, n1, n2, Or.inr (Or.inr ⟨a, b, lo + tsz a - 1, lo + tsz a + tsz b - 1, rfl, rfl, r3, r4, n3, n4, ⟨n, lo, _, h1, h2, h3, h4, by omega, p1, rfl, h8, by omega⟩, ⟨n, lo + tsz a, _, h1, h2, h3, h4, by omega, p2, rfl, h8, by omega⟩, by omega, by omega⟩)⟩
theorem PA.at {m : Mm} {sc pl e r b : Nat} {t : Tr} (h : EA m e r t) (hb : (mR m (31 + 2 * sc) 1 = some e ∧ b = 0) ∨ (mR m (31 + 2 * sc) 2 = some e ∧ b = 12)) (hp : pl = b + r) : PA m sc pl t := by
  refine ⟨e, r, h, ?_⟩
  rcases hb with ⟨b1, b2⟩ | ⟨b1, b2⟩
  · exact Or.inl ⟨b1, by omega⟩
  · exact Or.inr ⟨b1, by omega⟩
/-- a task that matches -/
theorem s9_pushM {fs : List Fn} {m : Mm} {s : Ac} {rh : Nat → Nat} {pl y c w e r b sc : Nat} {t : Tr} (hm : St m) (h : HM m s rh False) (hE : aE s = 0) (hO : QOK fs s) (hbn : cn3 (allK s) < 5000) (hw : twf fs.length (fpf fs) t) (ht : EA m e r t) (hb : (mR m (31 + 2 * sc) 1 = some e ∧ b = 0) ∨ (mR m (31 + 2 * sc) 2 = some e ∧ b = 12)) (hp : pl = b + r) (hsc : sc < 102) (h18 : mI m 18 (rh c) = nn sc) : C m9_push [.ref 23, .int 2, .int (nn pl), .int (nn (rh y)), .int (nn (rh c))] m (fun r m' => r = .inl none ∧ Fr SKc m m' ∧ HM m' (push s [(4, y, c, w, t)]) rh False) := by
  refine s9_pushT hm h hE hO hbn (show (4 : Nat) ≠ 3 by decide) ⟨by simp [pM, mI_set], by simp [pM, mI_set], by simp [pM, mI_set], pl, sc, by simp [pM, mI_set], hsc, ?_, ?_⟩
  · rw [pM_fr.i (by unfold SKc; omega)]
    exact h18
  · exact PA.at (ht.up hw (SKc_zr pM_fr).up) (by rw [pM_fr.r]; exact hb) hp
theorem s3_matchParts {fs : List Fn} {m : Mm} {s : Ac} {rh : Nat → Nat} {x c e r b sc n : Nat} {t : Tr} (hm : St m) (h : HM m s rh False) (hE : aE s = 0) (hO : QOK fs s) (hc5 : cn3 (allK s) ≤ 4980) (hw : twf fs.length (fpf fs) t) (ht : EA m e r t) (hex : isExp m e n) (hrn : r < n) (hb : (mR m (31 + 2 * sc) 1 = some e ∧ b = 0) ∨ (mR m (31 + 2 * sc) 2 = some e ∧ b = 12)) (hsc : sc < 102) (h18 : mI m 18 (rh c) = nn sc) (hx : x < aC s) (hc : c < aC s) (hk1 : (kid1 t).isSome = true → (tA (aF s x)).isSome = true) (hk2 : (kid2 t).isSome = true → (tB (aF s x)).isSome = true) : C m3_matchParts [.ref 12, .ref e, .int (nn r), .int (nn b), .int (nn (rh x)), .int (nn (rh c))] m (fun z m' => z = .inl none ∧ Fr SKc m m' ∧ HM m' (push s (mt1 (kid1 t) (tA (aF s x)) c ++ mt1 (kid2 t) (tB (aF s x)) c)) rh False) := by
  refine C.of (by decide +kernel) (Nat.le_of_ble_eq_true rfl) rfl (w3_matchParts hm hex ?_)
  obtain ⟨f1, f2, f3, f4, f5, f6, f7, f8⟩ := h.all hE
  have hrx := f1.2.1 x hx
  have b1 := hO.1
  have b7 := hO.2.2.2.2.2.2.1
  obtain ⟨n', g1, g2, g3, g4, g5, g6, g7, g8⟩ := ht.node hw
  have hi := nn_in (a := rh x) (n := 3500) (by omega) (by omega)
  obtain ⟨⟨t1, t2, t3, t4, t5⟩, -⟩ := f1.2.2.2 x hx
  have hir := nn_in (a := r) (n := n) (by omega) hrn
  rw [nn_tn (a := r) (by omega), nn_tn (a := rh x) (by omega), t3, t4]
  have ng : ∀ k, k < 12 → ¬ nn k < 0 := by decide +kernel
  have n1 : (-1 : Int32) < 0 := by decide
  refine ⟨hir, ?_⟩
  rcases g8 with ⟨k1, k2, k3, k4⟩ | ⟨a, r1, k1, k2, k3, k4, k5, k6, k7⟩ | ⟨a, a2, r1, r2, k1, k2, k3, k4, k5, k6, k7, k8, k9, k10⟩
  · rw [k3, k4, k1, k2]
    refine ⟨fun _ => ⟨hir, fun _ => ⟨rfl, Fr.refl, ?_⟩, fun q => (q n1).elim⟩, fun q => (q n1).elim⟩
    have : push s (mt1 none (tA (aF s x)) c ++ mt1 none (tB (aF s x)) c) = s := by
      show setK s ([] ++ topK s) = s
      rw [List.nil_append, setK_self]
    rw [this]
    exact h
  · obtain ⟨y, hy⟩ := Option.isSome_iff_exists.mp (hk1 (by rw [k1]; rfl))
    rw [k4, k5, k1, k2, hy]
    refine ⟨fun _ => ⟨hir, fun q => (ng _ k7 q).elim, fun _ => ⟨hir, hi, ?_⟩⟩, fun q => (q n1).elim⟩
    rw [nn_add]
    refine C.mono (s9_pushM (w := 0) (y := y) (c := c) hm h hE hO (by omega) k3 k6 hb rfl hsc h18) ?_
    rintro o2 m2 ⟨rfl, fr2, R2⟩
    exact ⟨rfl, fr2.st hm, rfl, fr2, R2⟩
  · obtain ⟨y, hy⟩ := Option.isSome_iff_exists.mp (hk1 (by rw [k1]; rfl))
    obtain ⟨y2, hy2⟩ := Option.isSome_iff_exists.mp (hk2 (by rw [k2]; rfl))
    rw [k6, k1, k2, hy, hy2]
    refine ⟨fun q => (ng _ k10 q).elim, fun _ => ⟨hir, hi, ?_⟩⟩
    rw [nn_add]
    refine C.mono (s9_pushM (w := 0) (y := y2) (c := c) hm h hE hO (by omega) k4 k8 hb rfl hsc h18) ?_
    rintro o2 m2 ⟨rfl, fr2, R2⟩
    have s2 := fr2.st hm
    have e3 : mI m2 (e + 3) = mI m (e + 3) := fr2.fn (fun j => by unfold SKc; omega)
    refine ⟨rfl, s2, hex.up g1 (SKc_zr fr2).up, hir, ?_⟩
    rw [e3, k5, fr2.i (a := 16) (by unfold SKc; omega), t3, hy, nn_add]
    refine ⟨fun q => (ng _ k9 q).elim, fun _ => ⟨hir, hi, ?_⟩⟩
    have hO2 : QOK fs (push s [(4, y2, c, 0, a2)]) := hO.push (by show cn3 (allK s) + 1 ≤ 4985; omega) (fun u hu => by
      rw [List.mem_singleton.mp hu]
      refine ⟨fun _ => k4, fun v hv => ?_⟩
      have hv2 : v ∈ [y2, c] := hv
      simp only [List.mem_cons, List.not_mem_nil, or_false] at hv2
      rcases hv2 with rfl | rfl
      · exact (b7 x hx).2.2.2.2.2.2 _ hy2
      · exact hc)
    refine C.mono (s9_pushM (w := 0) (y := y) (c := c) s2 R2 hE hO2 (by rw [allK_push]; show cn3 (allK s) + 1 < 5000; omega) k3 (k7.up k3 (SKc_zr fr2).up) (by rw [fr2.r]; exact hb) rfl hsc (by rw [fr2.i (by unfold SKc; omega)]; exact h18)) ?_
    rintro o3 m3 ⟨rfl, fr3, R3⟩
    rw [push_push] at R3
    exact ⟨rfl, fr3.st s2, rfl, fr2.trans fr3, R3⟩
theorem QOK.kind {fs : List Fn} {s : Ac} {k x : Nat} (hO : QOK fs s) (hC : aC s ≤ 3440) (hk : k < 6) (hW : tW (aF s x) ≤ 101) : QOK fs (kindS s k x) := by
  unfold kindS
  split
  · have ow : tWf fs (tOpen (tW (aF s x))) := ⟨fun q => (by cases q), fun q => (by cases q)⟩
    have hp : ∀ z, (tA (tOpen (tW (aF s x))) = some z ∨ tB (tOpen (tW (aF s x))) = some z) → z ≤ aC s := fun z hz => by rcases hz with hz | hz <;> cases hz
    have hp2 : ∀ z, (tA (tOpen (tW (aF s x))) = some z ∨ tB (tOpen (tW (aF s x))) = some z) → z ≤ aC s + 1 := fun z hz => by rcases hz with hz | hz <;> cases hz
    by_cases k2 : 2 ≤ k
    · by_cases k4 : 4 ≤ k
      · rw [if_pos k2, if_pos k4, show k / 2 = 2 by omega]
        have : List.replicate 2 (tOpen (tW (aF s x))) = [tOpen (tW (aF s x))] ++ [tOpen (tW (aF s x))] := rfl
        rw [this, ← addT_one]
        have O2 : QOK fs (addT s [tOpen (tW (aF s x))]) := hO.add1 (by omega) ow (show 0 < 8 by decide) (show 0 < 100 by decide) hW hp
        refine QOK.da (O2.add1 (show aC s + 1 < 3450 by omega) ow (show 0 < 8 by decide) (show 0 < 100 by decide) hW hp2) (by omega) (fun y hy => ?_) (fun y hy => ?_)
        · cases hy
          show aC s < aC s + 1 + 1
          omega
        · cases hy
          show aC s + 1 < aC s + 1 + 1
          omega
      · rw [if_pos k2, if_neg k4, show k / 2 = 1 by omega]
        have O2 : QOK fs (addT s [tOpen (tW (aF s x))]) := hO.add1 (by omega) ow (show 0 < 8 by decide) (show 0 < 100 by decide) hW hp
        refine QOK.da (s := addT s (List.replicate 1 (tOpen (tW (aF s x))))) O2 (by omega) (fun y hy => ?_) (fun y hy => by cases hy)
        cases hy
        show aC s < aC s + 1
        omega
    · rw [if_neg k2, if_neg (by omega), show k / 2 = 0 by omega]
      exact QOK.da (s := addT s (List.replicate 0 (tOpen (tW (aF s x))))) hO.add0 (by omega) (fun y hy => by cases hy) (fun y hy => by cases hy)
  · exact hO
theorem kindS_same {s : Ac} {k x : Nat} : aL (kindS s k x) = aL s ∧ aV (kindS s k x) = aV s ∧ aE (kindS s k x) = aE s ∧ aC s ≤ aC (kindS s k x) := by
  unfold kindS
  split
  · exact ⟨rfl, rfl, rfl, Nat.le_add_right _ _⟩
  · exact ⟨rfl, rfl, rfl, Nat.le_refl _⟩
theorem metA_kind {fs : List Fn} {s : Ac} {t : Tr} {x c : Nat} {xf : Fn} (hcf : fs[tO (aF s c)]? = some xf) (hkx : tK (aF s x) < 2) (h1 : tK (aF s x) = 1 → tO (aF s x) = tcode t - 10) (h0 : tK (aF s x) = 0 → xf.2.1 = false ∧ tW (aF s x) = tW (aF s c)) : metA fs s t x c = push (kindS s (tcode t - 10) x) (mt1 (kid1 t) (tA (aF (kindS s (tcode t - 10) x) x)) c ++ mt1 (kid2 t) (tB (aF (kindS s (tcode t - 10) x) x)) c) := by
  have hmap : (fs[tO (aF s c)]?.map (fun y => y.2.1)).getD false = xf.2.1 := by rw [hcf]; rfl
  unfold metA kindS
  simp only
  by_cases w : tK (aF s x) = 0
  · obtain ⟨q1, q2⟩ := h0 w
    rw [if_pos w, if_pos w, hmap, if_neg (by rw [q1, q2]; rintro (q | q); cases q; exact q rfl)]
    have e1 : tA (aF (data (addT s (List.replicate ((tcode t - 10) / 2) (tOpen (tW (aF s x))))) x (tcode t - 10) (if 2 ≤ tcode t - 10 then some (aC s) else none) (if 4 ≤ tcode t - 10 then some (aC s + 1) else none)) x) = (if 2 ≤ tcode t - 10 then some (aC s) else none) := by
      show tA (up1 _ x _ x) = _
      rw [up1_at]
    have e2 : tB (aF (data (addT s (List.replicate ((tcode t - 10) / 2) (tOpen (tW (aF s x))))) x (tcode t - 10) (if 2 ≤ tcode t - 10 then some (aC s) else none) (if 4 ≤ tcode t - 10 then some (aC s + 1) else none)) x) = (if 4 ≤ tcode t - 10 then some (aC s + 1) else none) := by
      show tB (up1 _ x _ x) = _
      rw [up1_at]
    rw [e1, e2]
  · rw [if_neg w, if_neg w, if_pos (h1 (by omega))]
theorem kindS_x {s : Ac} {k x : Nat} (hkx : tK (aF s x) < 2) (h1 : tK (aF s x) = 1 → tO (aF s x) = k) (hk : k < 6) (hd : DKx s x) : tK (aF (kindS s k x) x) = 1 ∧ tO (aF (kindS s k x) x) = k ∧ DKx (kindS s k x) x := by
  unfold DKx
  by_cases w : tK (aF s x) = 0
  · have e : aF (kindS s k x) x = (1, k, (if 2 ≤ k then some (aC s) else none), (if 4 ≤ k then some (aC s + 1) else none), tW (app (aF s) (aC s) (List.replicate (k / 2) (tOpen (tW (aF s x)))) x), tP (app (aF s) (aC s) (List.replicate (k / 2) (tOpen (tW (aF s x)))) x), tT (app (aF s) (aC s) (List.replicate (k / 2) (tOpen (tW (aF s x)))) x)) := by
      unfold kindS
      rw [if_pos w]
      show up1 _ x _ x = _
      rw [up1_at]
      rfl
    rw [e]
    refine ⟨rfl, rfl, fun _ => ⟨hk, ?_, ?_⟩⟩
    · show (if 2 ≤ k then some (aC s) else none).isSome = decide (2 ≤ k)
      by_cases q : 2 ≤ k
      · rw [if_pos q, decide_eq_true q]
        rfl
      · rw [if_neg q, decide_eq_false q]
        rfl
    · show (if 4 ≤ k then some (aC s + 1) else none).isSome = decide (4 ≤ k)
      by_cases q : 4 ≤ k
      · rw [if_pos q, decide_eq_true q]
        rfl
      · rw [if_neg q, decide_eq_false q]
        rfl
  · have e : kindS s k x = s := if_neg w
    rw [e]
    exact ⟨by omega, h1 (by omega), hd⟩
theorem pdT_push4 {s : Ac} {l : List Tk} (hl : ∀ t, t ∈ l → t.1 ≠ 12) (h : ¬ pdT s) : ¬ pdT (push s l) := by
  cases l with
  | nil =>
    have : push s [] = s := setK_self
    rw [this]
    exact h
  | cons t l => exact pdT_push (hl t List.mem_cons_self)
theorem mt1_act {p : Option Tr} {y : Option Nat} {c : Nat} : ∀ t, t ∈ mt1 p y c → t.1 = 4 := by
  intro t ht
  unfold mt1 at ht
  split at ht
  · rw [List.mem_singleton.mp ht]
  · cases ht
/-- the other one's memory after a task; numbers of things that there were stay -/
def PX (m : Mm) (n : Nat) (rh : Nat → Nat) (s' : Ac) : Option Value ⊕ String → Mm → Prop := fun r m' => r = .inl none ∧ Zr m m' ∧ St m' ∧ ∃ rh', (∀ y, y < n → rh' y = rh y) ∧ HM m' s' rh' (pdT s')
theorem PQ.px {m m' : Mm} {n : Nat} {s' : Ac} {rh : Nat → Nat} {r : Option Value ⊕ String} (h : PQ m s' rh r m') : PX m n rh s' r m' := ⟨h.1, h.2.1, h.2.2.1, rh, fun _ _ => rfl, h.2.2.2⟩
/-- what the other one does with a task that matches -/
noncomputable def matchQ (fs : List Fn) (s : Ac) (t : Tk) : Ac := if tcode t.2.2.2.2 < 10 then nameA s t.2.2.1 (tcode t.2.2.2.2) t.2.1 else if 2 ≤ tK (aF s (root s t.2.1)) then push s [(0, root s t.2.1, 0, 0, .nil), t] else metA fs s t.2.2.2.2 (root s t.2.1) t.2.2.1
theorem s3_match {fs : List Fn} {m : Mm} {s : Ac} {rh : Nat → Nat} {y c w pl sc : Nat} {t : Tr} {xf : Fn} {rk : Nat → Nat} (hm : St m) (hF : CF0 m fs) (h : HM m s rh False) (hE : aE s = 0) (hO : QOK fs s) (hl : LkR (aC s) (aF s) rk) (hDK : ∀ x, x < aC s → DKx s x) (hC : aC s ≤ 3440) (hc5 : cn3 (allK s) ≤ 4980) (hy : y < aC s) (hc : c < aC s) (hck : tK (aF s c) = 2) (hcT : tT (aF s c) ≠ .nil) (hcf : fs[tO (aF s c)]? = some xf) (hw : twf fs.length (fpf fs) t) (ht20 : tcode t < 20) (hsc : sc < 102) (h18 : mI m 18 (rh c) = nn sc) (hpa : PA m sc pl t) (hsg : ∀ j, 1 ≤ j → j ≤ aL s → lX (aV s j) < aC s) (hFo : FOK s (tW (aF s c))) (npd : ¬ pdT s) : C m3_match [.ref 12, .int (nn pl), .int (nn (rh y)), .int (nn (rh c))] m (PX m (aC s) rh (matchQ fs s (4, y, c, w, t))) := by
  refine C.of (by decide +kernel) (Nat.le_of_ble_eq_true rfl) rfl (u3_match hm ?_)
  obtain ⟨f1, f2, f3, f4, f5, f6, f7, f8⟩ := h.all hE
  have b1 := hO.1
  have b7 := hO.2.2.2.2.2.2.1
  have hrc := f1.2.1 c hc
  have hry := f1.2.1 y hy
  obtain ⟨-, hcx, -⟩ := f1.2.2.2 c hc
  obtain ⟨x1, x2, -⟩ := hcx.2 hck hcT
  obtain rfl : sc = tP (aF s c) := (nn_eq (by omega) (by omega)).mp (h18.symm.trans x1)
  obtain ⟨e, r, hea, hpl⟩ := hpa
  obtain ⟨n, g1, g2, g3, g4, g5, g6, g7, g8⟩ := hea.node hw
  obtain ⟨b, hb, hplb⟩ : ∃ b, ((mR m (31 + 2 * tP (aF s c)) 1 = some e ∧ b = 0) ∨ (mR m (31 + 2 * tP (aF s c)) 2 = some e ∧ b = 12)) ∧ pl = b + r := by
    rcases hpl with ⟨q1, q2⟩ | ⟨q1, q2⟩
    · exact ⟨0, Or.inl ⟨q1, rfl⟩, by omega⟩
    · exact ⟨12, Or.inr ⟨q1, rfl⟩, by omega⟩
  have hb12 : b = 0 ∨ b = 12 := by
    rcases hb with ⟨-, q⟩ | ⟨-, q⟩
    · exact Or.inl q
    · exact Or.inr q
  have hic := nn_in (a := rh c) (n := 3500) (by omega) (by omega)
  have his := nn_in (a := tP (aF s c)) (n := 102) (by omega) hsc
  have l12 : 12 ≤ nn pl ↔ 12 ≤ pl := nn_le (a := 12) (by decide) (by omega)
  rw [nn_tn (a := rh c) (by omega), h18, nn_tn (a := tP (aF s c)) (by omega), l12]
  refine ⟨hic, his, ?_⟩
  -- from the place within the pattern
  have main : ∀ v5 : Int32, V m3_match 62 [some (.ref 12), some (.int (nn pl)), some (.int (nn (rh y))), some (.int (nn (rh c))), some (.ref (31 + 2 * tP (aF s c))), some (.int v5), some (.ref e), none, none] [(.int (nn r))] m (PX m (aC s) rh (matchQ fs s (4, y, c, w, t))) := by
    intro v5
    refine u3_match_62 hm x2 g2 ?_
    have ng : ∀ k, k < 12 → ¬ nn k < 0 := by decide +kernel
    have ls : nn r < nn n ↔ r < n := nn_lt (by omega) (by omega)
    have hir := nn_in (a := r) (n := n) (by omega) g3
    rw [g5, ls, nn_tn (a := r) (by omega), g6, g7]
    refine ⟨fun q => (ng r (by omega) q).elim, fun _ => ⟨fun _ => ⟨hir, fun nt => ?_, fun tz => ?_⟩, fun q => (q g3).elim⟩⟩
    · have ht10 : 10 ≤ tcode t := by
        by_cases q : tcode t < 10
        · refine (nt ?_).elim
          unfold ctg
          rw [if_pos q]
          rfl
        · omega
      have hwh : cwh (tcode t) = tcode t - 10 := by
        unfold cwh
        rw [if_neg (by omega), if_pos ht20]
      refine C.mono (s10_find hm f1 (by omega) (fun x hx => (b7 x hx).2.1) hl hy) ?_
      rintro o1 m1 ⟨rfl, rfl⟩
      obtain ⟨-, r2⟩ := root_end hl hy
      obtain ⟨x, hx0⟩ : ∃ x, root s y = x := ⟨_, rfl⟩
      have hx1 : rootF (aF s) (aC s) y = x := hx0
      rw [hx0] at r2
      rw [hx1]
      have hrx := f1.2.1 x r2
      refine ⟨_, rfl, hm, C.mono (s3_isForced hm h hE hO r2) ?_⟩
      rintro o2 m2 ⟨rfl, rfl⟩
      refine ⟨_, rfl, hm, fun q => ⟨g2, hir, ?_⟩, fun q => ?_⟩
      · have k2 : tK (aF s x) < 2 := by
          by_cases e : tK (aF s x) < 2
          · exact e
          · rw [if_neg e] at q
            exact (q rfl).elim
        have hmq : matchQ fs s (4, y, c, w, t) = metA fs s t x c := by
          unfold matchQ
          simp only
          rw [if_neg (by omega), hx0, if_neg (by omega)]
        have hk6 : tcode t - 10 < 6 := by
          have : cok fs.length (tcode t) := by
            rcases tr_cases hw with ⟨c, rfl, r1, -⟩ | ⟨c, a, rfl, r1, -⟩ | ⟨c, a, b, rfl, r1, -⟩ <;> exact r1
          unfold cok at this
          omega
        rw [g7, hwh]
        refine C.mono (s3_isKind hm hF h hE hO hC r2 hc hck hcf k2 (hDK x r2) hk6 hsg hFo) ?_
        rintro o3 m3 ⟨z3, s3, ⟨rfl, q1, q0, rh3, hR3, hr3, R3⟩ | ⟨rfl, R3⟩⟩
        · refine ⟨_, rfl, s3, fun q => absurd q (by decide), fun _ => ?_⟩
          have u3 := z3.up
          obtain ⟨e1, e2, e3, e4⟩ := kindS_same (s := s) (k := tcode t - 10) (x := x)
          have hOk : QOK fs (kindS s (tcode t - 10) x) := hO.kind hC hk6 (b7 x r2).2.2.2.1
          have hAk : allK (kindS s (tcode t - 10) x) = allK s := by
            show lK (aV (kindS s (tcode t - 10) x) (aL (kindS s (tcode t - 10) x))) ++ flatB (aV (kindS s (tcode t - 10) x)) (aL (kindS s (tcode t - 10) x)) = _
            rw [e1, e2]
            rfl
          have hplr : nn pl - nn r = nn b := by
            rw [nn_sub (by omega)]
            congr 1
            omega
          rw [hplr]
          have c3 : mI m3 18 (rh c) = nn (tP (aF s c)) := by
            obtain ⟨p1, -⟩ := R3.all (by rw [e3]; exact hE)
            have hck3 : aF (kindS s (tcode t - 10) x) c = aF s c := by
              unfold kindS
              split
              · rename_i k0
                show up1 (app (aF s) (aC s) _) x _ c = _
                rw [up1_ne (fun q => by rw [q, k0] at hck; cases hck)]
                exact app_lt hc
              · rfl
            have := (p1.2.2.2 c (by omega)).2.1.2
            rw [hck3, hr3 c hc] at this
            exact (this hck hcT).1
          have key := s3_matchParts (x := x) (c := c) (sc := tP (aF s c)) s3 R3 (by rw [e3]; exact hE) hOk (by rw [hAk]; exact hc5) hw (hea.up hw u3) (g2.up g1 u3) g3 (by rw [hR3]; exact hb) hsc (by rw [hr3 c hc]; exact c3) (by omega) (by omega) ?_ ?_
          · rw [hr3 x r2, hr3 c hc] at key
            refine C.mono key ?_
            rintro o4 m4 ⟨rfl, fr4, R4⟩
            have s4 := fr4.st s3
            refine ⟨rfl, s4, u3_match_188 s4 x2 ((g2.up g1 u3).up g1 (SKc_zr fr4).up) ⟨rfl, z3.trans (SKc_zr fr4), s4, rh3, hr3, ?_⟩⟩
            rw [hmq, metA_kind hcf k2 q1 q0]
            refine R4.fin (fun _ => pdT_push4 (fun u hu => ?_) ?_)
            · rcases List.mem_append.mp hu with q | q
              · rw [mt1_act u q]
                decide
              · rw [mt1_act u q]
                decide
            · unfold pdT
              show ¬ (lK (aV (kindS s (tcode t - 10) x) (aL (kindS s (tcode t - 10) x)))).head?.map (fun t => t.1) = some 12
              rw [e1, e2]
              exact npd
          · intro q
            have k1x : tK (aF (kindS s (tcode t - 10) x) x) = 1 ∧ tO (aF (kindS s (tcode t - 10) x) x) = tcode t - 10 ∧ DKx (kindS s (tcode t - 10) x) x := kindS_x k2 q1 hk6 (hDK x r2)
            have hp := pat_kids hw ht10 ht20
            obtain ⟨a, ha⟩ := k1x.2.2.some1 k1x.1 (by
              rw [k1x.2.1]
              rcases hp with ⟨-, p2, -⟩ | ⟨a, p1, -⟩ | ⟨a, b, p1, -⟩
              · rw [p2] at q
                cases q
              · omega
              · omega)
            rw [ha]
            rfl
          · intro q
            have k1x : tK (aF (kindS s (tcode t - 10) x) x) = 1 ∧ tO (aF (kindS s (tcode t - 10) x) x) = tcode t - 10 ∧ DKx (kindS s (tcode t - 10) x) x := kindS_x k2 q1 hk6 (hDK x r2)
            have hp := pat_kids hw ht10 ht20
            obtain ⟨a, ha⟩ := k1x.2.2.some2 k1x.1 (by
              rw [k1x.2.1]
              rcases hp with ⟨-, -, p2⟩ | ⟨a, p1, -, p2, -⟩ | ⟨a, b, p1, -⟩
              · rw [p2] at q
                cases q
              · rw [p2] at q
                cases q
              · omega)
            rw [ha]
            rfl
        · refine ⟨_, rfl, s3, fun _ => u3_match_188 s3 x2 (g2.up g1 z3.up) ⟨rfl, z3, s3, rh, fun _ _ => rfl, ?_⟩, fun q => (q rfl).elim⟩
          rw [hmq]
          exact R3
      · have k2 : 2 ≤ tK (aF s x) := by
          by_cases e : tK (aF s x) < 2
          · rw [if_pos e] at q
            exact absurd q (by decide)
          · omega
        have hmq : matchQ fs s (4, y, c, w, t) = push s [(0, x, 0, 0, .nil), (4, y, c, w, t)] := by
          unfold matchQ
          simp only
          rw [if_neg (by omega), hx0, if_pos k2]
        refine C.mono (s9_pushM (w := w) (y := y) (c := c) hm h hE hO (by omega) hw hea hb hplb hsc h18) ?_
        rintro o3 m3 ⟨rfl, fr3, R3⟩
        have s3 := fr3.st hm
        have hO3 : QOK fs (push s [(4, y, c, w, t)]) := hO.push (by show cn3 (allK s) + 1 ≤ 4985; omega) (fun u hu => by
          rw [List.mem_singleton.mp hu]
          refine ⟨fun _ => hw, fun v hv => ?_⟩
          have hv2 : v ∈ [y, c] := hv
          simp only [List.mem_cons, List.not_mem_nil, or_false] at hv2
          rcases hv2 with rfl | rfl
          · exact hy
          · exact hc)
        refine ⟨rfl, s3, C.mono (s9_pushK (k := 0) (x := x) s3 R3 hE hO3 (by rw [allK_push]; show cn3 (allK s) + 1 < 5000; omega) (Or.inl ⟨rfl, rfl⟩)) ?_⟩
        rintro o4 m4 ⟨rfl, fr4, R4⟩
        have s4 := fr4.st s3
        refine ⟨rfl, s4, u3_match_188 s4 x2 ((g2.up g1 (SKc_zr fr3).up).up g1 (SKc_zr fr4).up) ⟨rfl, (SKc_zr fr3).trans (SKc_zr fr4), s4, rh, fun _ _ => rfl, ?_⟩⟩
        rw [hmq]
        rw [push_push] at R4
        exact R4.fin (fun _ => pdT_push (show (0 : Nat) ≠ 12 by decide))
    · have ht10 : tcode t < 10 := by
        by_cases q : tcode t < 10
        · exact q
        · have : ctg (tcode t) = 1 := by
            unfold ctg
            rw [if_neg q, if_pos ht20]
          rw [this] at tz
          exact absurd tz (by decide)
      have hwh : cwh (tcode t) = tcode t := by
        unfold cwh
        rw [if_pos ht10]
      have ht6 : tcode t < 6 := by
        have : cok fs.length (tcode t) := by
          rcases tr_cases hw with ⟨c, rfl, r1, -⟩ | ⟨c, a, rfl, r1, -⟩ | ⟨c, a, b, rfl, r1, -⟩ <;> exact r1
        unfold cok at this
        omega
      have hmq : matchQ fs s (4, y, c, w, t) = nameA s c (tcode t) y := by
        unfold matchQ
        simp only
        rw [if_pos ht10]
      rw [hwh, nn_tn (a := tcode t) (by omega)]
      have fr : Fr (fun a j => (31 < a ∧ a < 235) ∨ a = 12 ∧ j = 8) m (mSetI m (32 + 2 * tP (aF s c)) (tcode t) (nn (rh y))) := Fr.refl.set (Or.inl (by omega))
      refine ⟨hir, nn_in (by omega) ht6, rfl, fr.zr (fun a j q => by omega), fr.st hm, rh, fun _ _ => rfl, ?_⟩
      rw [hmq]
      refine (h.n (fs := fs) hE hO fr ⟨(by rw [mI_set, if_neg (by omega)]; exact f2.1), fun p hp k hk => ?_⟩).fin (fun _ => npd)
      rw [mI_set]
      by_cases e1 : p = tP (aF s c)
      · subst e1
        rw [up1_at]
        by_cases e2 : k = tcode t
        · subst e2
          rw [up1_at, if_pos ⟨rfl, rfl⟩]
          rfl
        · rw [up1_ne e2, if_neg (by omega)]
          exact f2.2 _ hp k hk
      · rw [up1_ne e1, if_neg (by omega)]
        exact f2.2 _ hp k hk
  rcases hb with ⟨q1, q2⟩ | ⟨q1, q2⟩
  · refine ⟨fun q => by omega, fun _ => u3_match_27 hm x2 ⟨fun q => absurd q (by decide), fun _ => ⟨fun q => (by rw [q1] at q; cases q), fun e' q => ?_⟩⟩⟩
    rw [q1] at q
    cases q
    refine u3_match_47 hm x2 ⟨fun q => absurd q (by decide), fun _ => ?_⟩
    have := main 1
    rw [show r = pl by omega] at this
    exact this
  · refine ⟨fun _ => u3_match_27 hm x2 ⟨fun _ => ⟨fun q => (by rw [q1] at q; cases q), fun e' q => ?_⟩, fun q => (q rfl).elim⟩, fun q => by omega⟩
    rw [q1] at q
    cases q
    refine u3_match_47 hm x2 ⟨fun _ => ?_, fun q => (q rfl).elim⟩
    rw [show (12 : Int32) = nn 12 from rfl, nn_sub (a := pl) (b := 12) (by omega), show pl - 12 = r by omega]
    exact main 0
