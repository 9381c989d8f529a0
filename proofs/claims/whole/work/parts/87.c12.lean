/-! THE OTHER ONE: open things, data of a kind -/
theorem HD.iff {m : Mm} {cn : Nat} {D D' : Nat → Prop} {f : Nat → Th} {mk rh : Nat → Nat} (h : HD m cn D f mk rh) (e : ∀ x, D' x ↔ D x) : HD m cn D' f mk rh := by
  have : D' = D := funext fun x => propext (e x)
  rw [this]
  exact h
theorem addT_one {s : Ac} {l : List Th} {t : Th} : addT (addT s l) [t] = addT s (l ++ [t]) := by
  unfold addT sT
  simp only
  refine congrArg (fun q => (q, s.2)) ?_
  refine Prod.ext ?_ (funext fun x => ?_)
  · show aC s + l.length + 1 = aC s + (l ++ [t]).length
    rw [List.length_append, List.length_singleton, Nat.add_assoc]
  · show app (app (aF s) (aC s) l) (aC s + l.length) [t] x = app (aF s) (aC s) (l ++ [t]) x
    unfold app
    by_cases h1 : x < aC s
    · rw [if_pos (by omega), if_pos h1, if_pos h1]
    · rw [if_neg h1, if_neg h1]
      by_cases h2 : x < aC s + l.length
      · rw [if_pos h2, List.getD_eq_getElem?_getD, List.getD_eq_getElem?_getD, List.getElem?_append_left (by omega)]
      · rw [if_neg h2, List.getD_eq_getElem?_getD, List.getD_eq_getElem?_getD, List.getElem?_append_right (by omega), show x - (aC s + l.length) = x - aC s - l.length by omega]
theorem HM.add0 {fs : List Fn} {m : Mm} {s : Ac} {rh : Nat → Nat} {pd : Prop} (h : HM m s rh pd) (hE : aE s = 0) (hO : QOK fs s) (hsg : ∀ j, 1 ≤ j → j ≤ aL s → lX (aV s j) < aC s) : HM m (addT s []) rh pd := by
  obtain ⟨f1, f2, f3, f4, f5, f6, f7, f8⟩ := h.all hE
  exact h.t (fs := fs) (n := aC s) (f := app (aF s) (aC s) []) (g := aM s) hE hO Fr.refl (f1.ge (fun x hx => app_lt hx)) (fun _ _ => rfl) (fun _ _ => rfl) f8 hsg
theorem QOK.add0 {fs : List Fn} {s : Ac} (hO : QOK fs s) : QOK fs (addT s []) := by
  obtain ⟨b1, b2, b3, b4, b5, b6, b7, b8, b9, b10, b11⟩ := hO
  refine ⟨b1, b2, b3, b4, b5, b6, fun x hx => ?_, b8, b9, b10, b11⟩
  have hx2 : x < aC s := hx
  show tWf fs (app (aF s) (aC s) [] x) ∧ tK (app (aF s) (aC s) [] x) < 8 ∧ tO (app (aF s) (aC s) [] x) < 100 ∧ tW (app (aF s) (aC s) [] x) ≤ 101 ∧ aM s x ≤ 1000 ∧ (∀ y, tA (app (aF s) (aC s) [] x) = some y → y < aC s) ∧ ∀ y, tB (app (aF s) (aC s) [] x) = some y → y < aC s
  rw [app_lt hx2]
  exact b7 x hx2
/-- a thing more of a kind -/
theorem HM.add1 {fs : List Fn} {m : Mm} {s : Ac} {rh : Nat → Nat} {pd : Prop} {t : Th} {w p : Int32} (h : HM m s rh pd) (hE : aE s = 0) (hO : QOK fs s) (hp1 : ∀ z, (tA t = some z ∨ tB t = some z) → z < aC s)
    (hx1 : (tK t = 1 ∨ tK t = 2) → w = nn (tO t)) (hx2 : tK t = 2 → tT t = .nil) (hx3 : tK t = 6 → p = nn (tP t) ∧ tP t < 102 ∧ ∃ e r, mR m (31 + 2 * tP t) 3 = some e ∧ EA m e r (tT t) ∧ w = nn r) (hwx : tWf fs t) (hsg : ∀ j, 1 ≤ j → j ≤ aL s → lX (aV s j) < aC s) :
    HM (aT m (aC s) (nn (tg (tK t))) w (mo rh (tA t)) (mo rh (tB t)) p (nn (tW t))) (addT s [t]) (up1 rh (aC s) (aC s)) pd := by
  obtain ⟨f1, f2, f3, f4, f5, f6, f7, f8⟩ := h.all hE
  have b7 := hO.2.2.2.2.2.2.1
  have b8 := hO.2.2.2.2.2.2.2.1
  have af : ∀ y, y < aC s → app (aF s) (aC s) [t] y = aF s y := fun y hy => app_lt hy
  have at1 : app (aF s) (aC s) [t] (aC s) = t := app_at (i := 0) rfl
  have ru : ∀ y, y < aC s → up1 rh (aC s) (aC s) y = rh y := fun y hy => up1_ne (by omega)
  have mu : ∀ r : Option Nat, (∀ z, r = some z → z < aC s) → mo (up1 rh (aC s) (aC s)) r = mo rh r := fun r hr => mo_eq (fun y hy => ru y (hr y hy))
  have hT0 : HT m (aC s) (app (aF s) (aC s) [t]) (aM s) rh := f1.ge (fun x hx => af x hx)
  have key := HD.add (fs := fs) (x := aC s) (rh' := up1 rh (aC s) (aC s)) (w := w) (p := p) (fun y hy => by rw [af y hy]; exact (b7 y hy).1) hT0 (Nat.lt_irrefl _) ru up1_at (b8 _ (Nat.le_refl _)) (fun y hy z hz => by
    rw [af y hy] at hz
    rcases hz with hz | hz
    · exact (b7 y hy).2.2.2.2.2.1 z hz
    · exact (b7 y hy).2.2.2.2.2.2 z hz) (by rw [at1]; exact hx1) (by rw [at1]; exact hx2) (by rw [at1]; exact hx3) (by rw [at1]; exact hwx)
  rw [at1, mu _ (fun z hz => hp1 z (Or.inl hz)), mu _ (fun z hz => hp1 z (Or.inr hz))] at key
  have fr : Fr STc m (aT m (aC s) (nn (tg (tK t))) w (mo rh (tA t)) (mo rh (tB t)) p (nn (tW t))) := aT_fr Fr.refl (fun a j a1 a2 => Or.inl ⟨a1, a2⟩) (Or.inr ⟨rfl, rfl⟩)
  have hT1 : HT (aT m (aC s) (nn (tg (tK t))) w (mo rh (tA t)) (mo rh (tB t)) p (nn (tW t))) (aC s + 1) (app (aF s) (aC s) [t]) (aM s) (up1 rh (aC s) (aC s)) := key.iff (fun x => by omega)
  refine h.t (fs := fs) (n := aC s + 1) (f := app (aF s) (aC s) [t]) (g := aM s) hE hO fr hT1 ru (fun x hx => ?_) ?_ hsg
  · have := f1.2.1 x hx
    have ne : rh x ≠ aC s := by omega
    simp [aT, mI_set, ne]
  · obtain ⟨k, k1, k2, k3⟩ := f8
    refine ⟨k, k1, ?_, fun x hx => ?_⟩
    · exact (fr.i (by unfold STc; omega)).trans k2
    · by_cases e : x = aC s
      · rw [e, up1_at]
        refine ⟨0, Nat.zero_le _, ?_⟩
        simp [aT, mI_set]
        rfl
      · have hx2 : x < aC s := by omega
        rw [ru x hx2]
        obtain ⟨j, j1, j2⟩ := k3 x hx2
        have := f1.2.1 x hx2
        have ne : rh x ≠ aC s := by omega
        exact ⟨j, j1, by simp [aT, mI_set, ne, j2]⟩
theorem QOK.add1 {fs : List Fn} {s : Ac} {t : Th} (hO : QOK fs s) (hc : aC s < 3450) (hw : tWf fs t) (hk : tK t < 8) (ho : tO t < 100) (hW : tW t ≤ 101) (hp : ∀ z, (tA t = some z ∨ tB t = some z) → z ≤ aC s) : QOK fs (addT s [t]) := by
  obtain ⟨b1, b2, b3, b4, b5, b6, b7, b8, b9, b10, b11⟩ := hO
  refine ⟨show aC s + 1 ≤ 3450 by omega, b2, b3, b4, b5, b6, fun x hx => ?_, fun x hx => b8 x (by have : aC s + 1 ≤ x := hx; omega), fun p k y hy => by have := b9 p k y hy; show y < aC s + 1; omega, fun z hz => ⟨(b10 z hz).1, fun x hx => by have := (b10 z hz).2 x hx; show x < aC s + 1; omega⟩, fun j hj => ?_⟩
  · have hx2 : x < aC s + 1 := hx
    show tWf fs (app (aF s) (aC s) [t] x) ∧ tK (app (aF s) (aC s) [t] x) < 8 ∧ tO (app (aF s) (aC s) [t] x) < 100 ∧ tW (app (aF s) (aC s) [t] x) ≤ 101 ∧ aM s x ≤ 1000 ∧ (∀ y, tA (app (aF s) (aC s) [t] x) = some y → y < aC s + 1) ∧ ∀ y, tB (app (aF s) (aC s) [t] x) = some y → y < aC s + 1
    by_cases e : x < aC s
    · rw [app_lt e]
      obtain ⟨p1, p2, p3, p4, p5, p6, p7⟩ := b7 x e
      exact ⟨p1, p2, p3, p4, p5, fun y hy => by have := p6 y hy; omega, fun y hy => by have := p7 y hy; omega⟩
    · obtain rfl : x = aC s := by omega
      rw [show app (aF s) (aC s) [t] (aC s) = t from app_at (i := 0) rfl, b8 _ (Nat.le_refl _)]
      exact ⟨hw, hk, ho, hW, Nat.zero_le _, fun y hy => by have := hp y (Or.inl hy); omega, fun y hy => by have := hp y (Or.inr hy); omega⟩
  · obtain ⟨c1, c2, c3⟩ := b11 j hj
    exact ⟨c1, show lX (aV s j) < aC s + 1 + 1 by omega, c3⟩
/-- an open thing more -/
theorem s10_open1 {fs : List Fn} {m : Mm} {s : Ac} {rh : Nat → Nat} {pd : Prop} {o : Nat} (hm : St m) (h : HM m s rh pd) (hE : aE s = 0) (hO : QOK fs s) (hsg : ∀ j, 1 ≤ j → j ≤ aL s → lX (aV s j) < aC s) : C m10_addOpen [.ref 13, .int (nn o)] m (fun r m' => r = .inl (some (.int (nn (aC s)))) ∧ Fr STc m m' ∧ HM m' (addT s [tOpen o]) (up1 rh (aC s) (aC s)) pd) := by
  obtain ⟨f1, -⟩ := h.all hE
  have b1 := hO.1
  refine C.mono (s10_addOpen hm (by omega) f1.1 (nn o)) ?_
  rintro r m' ⟨rfl, rfl⟩
  refine ⟨rfl, aT_fr Fr.refl (fun a j a1 a2 => Or.inl ⟨a1, a2⟩) (Or.inr ⟨rfl, rfl⟩), ?_⟩
  exact h.add1 (t := tOpen o) (w := 0) (p := 0) hE hO (fun z hz => by rcases hz with hz | hz <;> cases hz) (fun q => by rcases q with q | q <;> cases q) (fun q => by cases q) (fun q => by cases q) ⟨fun q => (by cases q), fun q => (by cases q)⟩ hsg
/-- a thing becomes data of a kind, if it is unbound -/
def kindS (s : Ac) (k x : Nat) : Ac := if tK (aF s x) = 0 then data (addT s (List.replicate (k / 2) (tOpen (tW (aF s x))))) x k (if 2 ≤ k then some (aC s) else none) (if 4 ≤ k then some (aC s + 1) else none) else s
theorem s3_isKind {fs : List Fn} {m : Mm} {s : Ac} {rh : Nat → Nat} {x c : Nat} {t : Tr} {xf : Fn} (hm : St m) (hF : CF0 m fs) (h : HM m s rh False) (hE : aE s = 0) (hO : QOK fs s) (hC : aC s ≤ 3440) (hx : x < aC s) (hc : c < aC s) (hck : tK (aF s c) = 2) (hcf : fs[tO (aF s c)]? = some xf) (hkx : tK (aF s x) < 2) (hdx : DKx s x) (hk6 : tcode t - 10 < 6) (hsg : ∀ j, 1 ≤ j → j ≤ aL s → lX (aV s j) < aC s) (hFo : FOK s (tW (aF s c))) : C m3_isKind [.ref 12, .int (nn (rh x)), .int (nn (tcode t - 10)), .int (nn (rh c))] m (fun r m' => Zr m m' ∧ St m' ∧ ((r = .inl (some (.int 1)) ∧ (tK (aF s x) = 1 → tO (aF s x) = tcode t - 10) ∧ (tK (aF s x) = 0 → xf.2.1 = false ∧ tW (aF s x) = tW (aF s c)) ∧ ∃ rh', mR m' = mR m ∧ (∀ y, y < aC s → rh' y = rh y) ∧ HM m' (kindS s (tcode t - 10) x) rh' False) ∨ (r = .inl (some (.int 0)) ∧ HM m' (metA fs s t x c) rh (pdT (metA fs s t x c))))) := by
  refine C.of (by decide +kernel) (Nat.le_of_ble_eq_true rfl) rfl (w3_isKind hm ?_)
  obtain ⟨k, hk⟩ : ∃ k, tcode t - 10 = k := ⟨_, rfl⟩
  rw [hk] at hk6 ⊢
  obtain ⟨f1, f2, f3, f4, f5, f6, f7, f8⟩ := h.all hE
  have hO' := hO
  obtain ⟨b1, b2, b3, b4, b5, b6, b7, b8, b9, b10, b11⟩ := hO'
  have hrx := f1.2.1 x hx
  have hrc := f1.2.1 c hc
  obtain ⟨⟨t1, t2, t3, t4, t5⟩, -⟩ := f1.2.2.2 x hx
  obtain ⟨⟨c1, c2, c3, c4, c5⟩, -⟩ := f1.2.2.2 c hc
  have hfl := (List.getElem?_eq_some_iff.mp hcf).1
  have hf8 := hF.2.1
  have hi := nn_in (a := rh x) (n := 3500) (by omega) (by omega)
  have hic := nn_in (a := rh c) (n := 3500) (by omega) (by omega)
  have hif := nn_in (a := tO (aF s c)) (n := 8) (by omega) (by omega)
  have eW : nn (tW (aF s x)) = nn (tW (aF s c)) ↔ tW (aF s x) = tW (aF s c) := nn_eq (by have := (b7 x hx).2.2.2.1; omega) (by have := (b7 c hc).2.2.2.1; omega)
  have eR : bz xf.2.1 = 0 ↔ xf.2.1 = false := by cases xf.2.1 <;> decide
  have e1 : nn (tg (tK (aF s x))) = 1 ↔ tK (aF s x) = 1 := tgk (b7 x hx).2.1 1 (by decide) (by decide)
  have hmap : (fs[tO (aF s c)]?.map (fun y => y.2.1)).getD false = xf.2.1 := by rw [hcf]; rfl
  rw [nn_tn (a := rh x) (by omega), nn_tn (a := rh c) (by omega), t1, t5, c5, c2 (Or.inr hck), nn_tn (a := tO (aF s c)) (by omega), (hF.2.2 _ xf hcf).2.2, e1, eW, eR]
  have flo : tK (aF s x) = 0 → (xf.2.1 = true ∨ tW (aF s x) ≠ tW (aF s c)) → Zr m (mSetI m 12 12 2) ∧ St (mSetI m 12 12 2) ∧ (((.inl (some (.int 0)) : Option Value ⊕ String) = .inl (some (.int 1)) ∧ (tK (aF s x) = 1 → tO (aF s x) = k) ∧ (tK (aF s x) = 0 → xf.2.1 = false ∧ tW (aF s x) = tW (aF s c)) ∧ ∃ rh', mR (mSetI m 12 12 2) = mR m ∧ (∀ y, y < aC s → rh' y = rh y) ∧ HM (mSetI m 12 12 2) (kindS s k x) rh' False) ∨ ((.inl (some (.int 0)) : Option Value ⊕ String) = .inl (some (.int 0)) ∧ HM (mSetI m 12 12 2) (metA fs s t x c) rh (pdT (metA fs s t x c)))) := by
    intro w w2
    have e : metA fs s t x c = sE s 3 := by
      unfold metA
      simp only
      rw [if_pos w, hmap, if_pos w2]
    have fr : Fr (fun a j => a = 12 ∧ j = 12) m (mSetI m 12 12 2) := Fr.refl.set ⟨rfl, rfl⟩
    refine ⟨fr.zr (fun a j q => by omega), fr.st hm, Or.inr ⟨rfl, ?_⟩⟩
    rw [e]
    exact (h.sE (by decide) (by decide) (by rw [mI_set, if_pos ⟨rfl, rfl⟩]; rfl) (fun a a1 a2 => mI_fn (by omega))).fin (fun w => absurd w (show ¬ 3 < 2 by decide))
  refine ⟨hic, hi, fun n1 => ?_, fun k1 => ⟨hi, ?_⟩⟩
  · have k0 : tK (aF s x) = 0 := by omega
    refine ⟨hic, hif, fun w => flo k0 (Or.inl ?_), fun w => ⟨hi, fun w2 => ?_, fun w2 => flo k0 (Or.inr w2)⟩⟩
    · cases e : xf.2.1 with
      | true => rfl
      | false => exact (w e).elim
    · refine C.mono (s11_pok hm hk6) ?_
      rintro o1 m1 ⟨rfl, rfl⟩
      have l1 : nn (k / 2) ≤ 1 ↔ k / 2 ≤ 1 := nn_le (b := 1) (by omega) (by decide)
      have l0 : nn (k / 2) ≤ 0 ↔ k / 2 ≤ 0 := nn_le (b := 0) (by omega) (by decide)
      refine ⟨_, rfl, hm, ?_⟩
      rw [l1, l0, ← w2]
      have hks : kindS s k x = data (addT s (List.replicate (k / 2) (tOpen (tW (aF s x))))) x k (if 2 ≤ k then some (aC s) else none) (if 4 ≤ k then some (aC s + 1) else none) := if_pos k0
      have hW := (b7 x hx).2.2.2.1
      have ow : tWf fs (tOpen (tW (aF s x))) := ⟨fun q => (by cases q), fun q => (by cases q)⟩
      have fin : ∀ {m2 m3 : Mm} {s2 : Ac} {rh2 : Nat → Nat}, Zr m1 m2 → mR m2 = mR m1 → (∀ y, y < aC s → rh2 y = rh y) → kindS s k x = s2 → Fr STc m2 m3 → St m2 → HM m3 s2 rh2 False → Zr m1 m3 ∧ St m3 ∧ (((.inl (some (.int 1)) : Option Value ⊕ String) = .inl (some (.int 1)) ∧ (tK (aF s x) = 1 → tO (aF s x) = k) ∧ (tK (aF s x) = 0 → xf.2.1 = false ∧ tW (aF s x) = tW (aF s x)) ∧ ∃ rh', mR m3 = mR m1 ∧ (∀ y, y < aC s → rh' y = rh y) ∧ HM m3 (kindS s k x) rh' False) ∨ ((.inl (some (.int 1)) : Option Value ⊕ String) = .inl (some (.int 0)) ∧ HM m3 (metA fs s t x c) rh (pdT (metA fs s t x c)))) := by
        intro m2 m3 s2 rh2 z2 zr2 r2 e2 f3 st2 R3
        refine ⟨z2.trans (STc_zr f3), f3.st st2, Or.inl ⟨rfl, fun q => by omega, fun _ => ⟨w, rfl⟩, rh2, f3.r.trans zr2, r2, ?_⟩⟩
        rw [e2]
        exact R3
      refine ⟨fun w0 => ⟨fun _ => ?_, fun q => by omega⟩, fun w0 => ?_⟩
      · have R1 := h.add0 (fs := fs) hE hO hsg
        have O1 := hO.add0
        have e : kindS s k x = data (addT s []) x k none none := by
          rw [hks, show k / 2 = 0 by omega, if_neg (by omega), if_neg (by omega)]
          rfl
        refine C.mono (s10_data (x := x) (k := k) (a := none) (b := none) hm R1 hE O1 hx hsg rfl rfl) ?_
        rintro o2 m2 ⟨rfl, fr2, R2⟩
        exact ⟨rfl, fr2.st hm, fin Zr.refl rfl (fun _ _ => rfl) e fr2 hm R2⟩
      · refine C.mono (s10_open1 hm h hE hO hsg) ?_
        rintro o2 m2 ⟨rfl, fr2, R2⟩
        have s2 := fr2.st hm
        have O2 : QOK fs (addT s [tOpen (tW (aF s x))]) := hO.add1 (by omega) ow (show 0 < 8 by decide) (show 0 < 100 by decide) hW (fun z hz => by rcases hz with hz | hz <;> cases hz)
        have ru : ∀ y, y < aC s → up1 rh (aC s) (aC s) y = rh y := fun y hy => up1_ne (by omega)
        have hsg2 : ∀ j, 1 ≤ j → j ≤ aL (addT s [tOpen (tW (aF s x))]) → lX (aV (addT s [tOpen (tW (aF s x))]) j) < aC (addT s [tOpen (tW (aF s x))]) := fun j j1 j2 => by
          have := hsg j j1 j2
          show lX (aV s j) < aC s + 1
          omega
        refine ⟨_, rfl, s2, fun w1 => ?_, fun w1 => ?_⟩
        · have e : kindS s k x = data (addT s [tOpen (tW (aF s x))]) x k (some (aC s)) none := by
            rw [hks, show k / 2 = 1 by omega, if_pos (by omega), if_neg (by omega)]
            rfl
          have key := s10_data (x := x) (k := k) (a := some (aC s)) (b := none) (va := nn (aC s)) (vb := -1) s2 R2 hE O2 (show x < aC s + 1 by omega) hsg2 (by
            show nn (aC s) = nn (up1 rh (aC s) (aC s) (aC s))
            rw [up1_at]) rfl
          rw [ru x hx] at key
          refine C.mono key ?_
          rintro o3 m3 ⟨rfl, fr3, R3⟩
          exact ⟨rfl, fr3.st s2, fin (STc_zr fr2) fr2.r ru e fr3 s2 R3⟩
        · have key0 := s10_open1 (o := tW (aF s x)) s2 R2 hE O2 hsg2
          refine C.mono key0 ?_
          rintro o3 m3 ⟨rfl, fr3, R3⟩
          have s3 := fr3.st s2
          have O3 : QOK fs (addT (addT s [tOpen (tW (aF s x))]) [tOpen (tW (aF s x))]) := O2.add1 (show aC s + 1 < 3450 by omega) ow (show 0 < 8 by decide) (show 0 < 100 by decide) hW (fun z hz => by rcases hz with hz | hz <;> cases hz)
          have ru2 : ∀ y, y < aC s → up1 (up1 rh (aC s) (aC s)) (aC s + 1) (aC s + 1) y = rh y := fun y hy => (up1_ne (by omega)).trans (up1_ne (by omega))
          have hsg3 : ∀ j, 1 ≤ j → j ≤ aL s → lX (aV s j) < aC s + 1 + 1 := fun j j1 j2 => by
            have := hsg j j1 j2
            omega
          have e : kindS s k x = data (addT (addT s [tOpen (tW (aF s x))]) [tOpen (tW (aF s x))]) x k (some (aC s)) (some (aC s + 1)) := by
            rw [hks, show k / 2 = 2 by omega, if_pos (by omega), if_pos (by omega), addT_one]
            rfl
          have key := s10_data (x := x) (k := k) (a := some (aC s)) (b := some (aC s + 1)) (va := nn (aC s)) (vb := nn (aC s + 1)) s3 R3 hE O3 (show x < aC s + 1 + 1 by omega) hsg3 (by
            show nn (aC s) = nn (up1 (up1 rh (aC s) (aC s)) (aC s + 1) (aC s + 1) (aC s))
            rw [up1_ne (by omega), up1_at]) (by
            show nn (aC s + 1) = nn (up1 (up1 rh (aC s) (aC s)) (aC s + 1) (aC s + 1) (aC s + 1))
            rw [up1_at])
          have ex : up1 (up1 rh (aC s) (aC s)) (aC (addT s [tOpen (tW (aF s x))])) (aC (addT s [tOpen (tW (aF s x))])) x = rh x := ru2 x hx
          rw [ex] at key
          refine ⟨_, rfl, s3, C.mono key ?_⟩
          rintro o4 m4 ⟨rfl, fr4, R4⟩
          exact ⟨rfl, fr4.st s3, fin ((STc_zr fr2).trans (STc_zr fr3)) (fr3.r.trans fr2.r) ru2 e fr4 s3 R4⟩
  · have eo : nn (tO (aF s x)) = nn k ↔ tO (aF s x) = k := nn_eq (by have := (hdx k1).1; omega) (by omega)
    rw [t2 (Or.inl k1), eo]
    refine ⟨fun ne => ?_, fun e => ⟨Zr.refl, hm, Or.inl ⟨rfl, fun _ => e, fun q => by omega, rh, rfl, fun _ _ => rfl, ?_⟩⟩⟩
    · have e : metA fs s t x c = failA s (tW (aF s c)) := by
        unfold metA
        simp only
        rw [if_neg (by omega), hk, if_neg ne]
      refine C.mono (s3_fail hm h hE hO hFo) ?_
      rintro o2 m2 ⟨rfl, z2, s2, R2⟩
      refine ⟨rfl, s2, z2, s2, Or.inr ⟨rfl, ?_⟩⟩
      rw [e]
      exact R2
    · have : kindS s k x = s := if_neg (by omega)
      rw [this]
      exact h
