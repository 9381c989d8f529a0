/-! THE OTHER ONE'S MEMORY OF A RUN: links, data, tasks, levels -/
def lM (m : Mm) (i j : Nat) : Mm := mSetI (mSetI m 14 i 8) 16 i (nn j)
theorem s10_become {m : Mm} (hm : St m) {i j : Nat} (hi : i < 3500) : C m10_become [.ref 13, .int (nn i), .int (nn j)] m (fun r m' => r = .inl none ∧ m' = lM m i j) := by
  refine C.of (by decide +kernel) (Nat.le_of_ble_eq_true rfl) rfl (w10_become hm ?_)
  rw [nn_tn (by omega)]
  have := nn_in (a := i) (n := 3500) (by omega) hi
  exact ⟨this, this, rfl, rfl⟩
theorem HX.no {m : Mm} {t : Th} {i : Nat} (h6 : tK t ≠ 6) (h2 : tK t ≠ 2) : HX m t i := ⟨fun q => absurd q h6, fun q => absurd q h2⟩
theorem HD.link {fs : List Fn} {m : Mm} {cn : Nat} {D : Nat → Prop} {f : Nat → Th} {mk rh : Nat → Nat} (hw : ∀ y, D y → tWf fs (f y)) (h : HD m cn D f mk rh) {x y : Nat} (hx : D x) : HD (lM m (rh x) (rh y)) cn D (up1 f x (7, tO (f x), some y, tB (f x), tW (f x), tP (f x), tT (f x))) mk rh := by
  refine ⟨h.1, h.2.1, h.2.2.1, fun z hz => ?_⟩
  have hh := h.2.2.2 z hz
  by_cases e : z = x
  · subst e
    rw [up1_at]
    refine ⟨⟨?_, fun q => ?_, ?_, ?_, ?_⟩, HX.no (show (7 : Nat) ≠ 6 by decide) (show (7 : Nat) ≠ 2 by decide), ?_⟩
    · simp [lM, mI_set]
      rfl
    · have : (7 : Nat) = 1 ∨ (7 : Nat) = 2 := q
      omega
    · simp [lM, mI_set]
      rfl
    · have := hh.1.2.2.2.1
      simpa [lM, mI_set] using this
    · have := hh.1.2.2.2.2
      simpa [lM, mI_set] using this
    · have := hh.2.2
      simpa [lM, mI_set] using this
  · rw [up1_ne e]
    have ne : rh z ≠ rh x := fun q => e (h.2.2.1 z x hz hx q)
    refine ⟨hh.1.fe (fun a a1 a2 => ?_), hh.2.1.fe (hw z hz) (Up.fr (S := fun a _ => a < 714) ((Fr.refl.set (by omega)).set (by omega)) (fun a j q => q)) ?_ ?_ (fun _ _ => rfl), ?_⟩
    · simp only [lM, mI_set]
      rw [if_neg (by omega), if_neg (by omega)]
    · simp [lM, mI_set]
    · simp [lM, mI_set]
    · have := hh.2.2
      simpa [lM, mI_set] using this
def eM (m : Mm) (i k : Nat) (a b : Int32) : Mm := mSetI (mSetI (mSetI (mSetI m 14 i 1) 15 i (nn k)) 16 i a) 17 i b
theorem s10_becomeData {m : Mm} (hm : St m) {i k : Nat} {a b : Int32} (hi : i < 3500) : C m10_becomeData [.ref 13, .int (nn i), .int (nn k), .int a, .int b] m (fun r m' => r = .inl none ∧ m' = eM m i k a b) := by
  refine C.of (by decide +kernel) (Nat.le_of_ble_eq_true rfl) rfl (w10_becomeData hm ?_)
  rw [nn_tn (by omega)]
  have := nn_in (a := i) (n := 3500) (by omega) hi
  exact ⟨this, this, this, this, rfl, rfl⟩
theorem HD.data {fs : List Fn} {m : Mm} {cn : Nat} {D : Nat → Prop} {f : Nat → Th} {mk rh : Nat → Nat} (hw : ∀ y, D y → tWf fs (f y)) (h : HD m cn D f mk rh) {x k : Nat} {a b : Option Nat} (hx : D x) : HD (eM m (rh x) k (mo rh a) (mo rh b)) cn D (up1 f x (1, k, a, b, tW (f x), tP (f x), tT (f x))) mk rh := by
  refine ⟨h.1, h.2.1, h.2.2.1, fun z hz => ?_⟩
  have hh := h.2.2.2 z hz
  by_cases e : z = x
  · subst e
    rw [up1_at]
    refine ⟨⟨?_, fun _ => ?_, ?_, ?_, ?_⟩, HX.no (show (1 : Nat) ≠ 6 by decide) (show (1 : Nat) ≠ 2 by decide), ?_⟩
    · simp [eM, mI_set]
      rfl
    · simp [eM, mI_set]
    · simp [eM, mI_set]
    · simp [eM, mI_set]
    · have := hh.1.2.2.2.2
      simpa [eM, mI_set] using this
    · have := hh.2.2
      simpa [eM, mI_set] using this
  · rw [up1_ne e]
    have ne : rh z ≠ rh x := fun q => e (h.2.2.1 z x hz hx q)
    refine ⟨hh.1.fe (fun a a1 a2 => ?_), hh.2.1.fe (hw z hz) (Up.fr (S := fun a _ => a < 714) ((((Fr.refl.set (by omega)).set (by omega)).set (by omega)).set (by omega)) (fun a j q => q)) ?_ ?_ (fun _ _ => rfl), ?_⟩
    · simp only [eM, mI_set]
      rw [if_neg (by omega), if_neg (by omega), if_neg (by omega), if_neg (by omega)]
    · simp only [eM, mI_set]
      rw [if_neg (by omega), if_neg (by omega), if_neg (by omega), if_neg (by omega)]
    · simp only [eM, mI_set]
      rw [if_neg (by omega), if_neg (by omega), if_neg (by omega), if_neg (by omega)]
    · have := hh.2.2
      simpa [eM, mI_set] using this
/-! tasks -/
/-- tasks but for those of act 3, which it hasn't -/
def cn3 : List Tk → Nat
  | [] => 0
  | t :: l => if t.1 = 3 then cn3 l else cn3 l + 1
theorem cn3_app : ∀ l l' : List Tk, cn3 (l ++ l') = cn3 l + cn3 l'
  | [], l' => by simp [cn3]
  | t :: l, l' => by
    show (if t.1 = 3 then cn3 (l ++ l') else cn3 (l ++ l') + 1) = (if t.1 = 3 then cn3 l else cn3 l + 1) + cn3 l'
    rw [cn3_app l l']
    split <;> omega
def pM (m : Mm) (n : Nat) (a b c d : Int32) : Mm := mSetI (mSetI (mSetI (mSetI (mSetI m 24 n a) 25 n b) 26 n c) 27 n d) 23 4 (nn (n + 1))
theorem s9_push {m : Mm} {n : Nat} (hm : St m) (h : mI m 23 4 = nn n) (hn : n < 5000) (a b c d : Int32) : C m9_push [.ref 23, .int a, .int b, .int c, .int d] m (fun r m' => r = .inl none ∧ m' = pM m n a b c d) := by
  refine C.of (by decide +kernel) (Nat.le_of_ble_eq_true rfl) rfl (w9_push hm ?_)
  have l50 : 5000 ≤ nn n ↔ 5000 ≤ n := nn_le (a := 5000) (by decide) (by omega)
  rw [h, l50, nn_tn (by omega), nn_one]
  have := nn_in (a := n) (n := 5000) (by omega) hn
  exact ⟨fun q => by omega, fun _ => ⟨this, this, this, this, rfl, rfl⟩⟩
theorem s9_push_ {m : Mm} {n : Nat} (hm : St m) (h : mI m 23 4 = nn n) (hn : n < 5000) (a b : Int32) : C m9_push_ [.ref 23, .int a, .int b] m (fun r m' => r = .inl none ∧ m' = pM m n a b (-1) (-1)) := by
  refine C.of (by decide +kernel) (Nat.le_of_ble_eq_true rfl) rfl (w9_push_ hm (C.mono (s9_push hm h hn _ _ _ _) ?_))
  rintro o m' ⟨rfl, rfl⟩
  exact ⟨rfl, St.i (St.i (St.i (St.i (St.i hm)))), rfl, rfl⟩
/-- a pattern at a place of a scope -/
def PA (m : Mm) (sc pl : Nat) (t : Tr) : Prop := ∃ e r, EA m e r t ∧ ((mR m (31 + 2 * sc) 1 = some e ∧ pl = r) ∨ (mR m (31 + 2 * sc) 2 = some e ∧ pl = 12 + r))
def HK (m : Mm) (i : Nat) (rh : Nat → Nat) (t : Tk) : Prop := match t.1 with
  | 0 => mI m 24 i = 0 ∧ mI m 25 i = nn (rh t.2.1)
  | 1 => mI m 24 i = 1 ∧ mI m 25 i = nn (rh t.2.1)
  | 4 => mI m 24 i = 2 ∧ mI m 26 i = nn (rh t.2.1) ∧ mI m 27 i = nn (rh t.2.2.1) ∧ ∃ pl sc, mI m 25 i = nn pl ∧ sc < 102 ∧ mI m 18 (rh t.2.2.1) = nn sc ∧ PA m sc pl t.2.2.2.2
  | 6 => mI m 24 i = 3 ∧ mI m 25 i = nn (rh t.2.1)
  | 7 => mI m 24 i = 5 ∧ mI m 25 i = nn (rh t.2.1)
  | 8 => mI m 24 i = 7 ∧ mI m 25 i = nn (rh t.2.1)
  | 9 => mI m 24 i = 9 ∧ mI m 25 i = nn (rh t.2.1)
  | 10 => mI m 24 i = 4 ∧ mI m 25 i = nn (rh t.2.1) ∧ mI m 26 i = nn (rh t.2.2.1) ∧ mI m 27 i = nn (rh t.2.2.2.1)
  | 11 => mI m 24 i = 6 ∧ mI m 25 i = nn (rh t.2.1) ∧ mI m 26 i = nn (rh t.2.2.1) ∧ mI m 27 i = nn (rh t.2.2.2.1)
  | 12 => mI m 24 i = 8
  | _ => False
/-- things of a task -/
def kTh (t : Tk) : List Nat := match t.1 with
  | 4 => [t.2.1, t.2.2.1]
  | 10 => [t.2.1, t.2.2.1, t.2.2.2.1]
  | 11 => [t.2.1, t.2.2.1, t.2.2.2.1]
  | 12 => []
  | _ => [t.2.1]
def HQ (m : Mm) (rh : Nat → Nat) : List Tk → Prop
  | [] => True
  | t :: l => (t.1 ≠ 3 → HK m (cn3 l) rh t) ∧ HQ m rh l
/-- the patterns of tasks are well formed -/
def kWf (fs : List Fn) (t : Tk) : Prop := t.1 = 4 → twf fs.length (fpf fs) t.2.2.2.2
theorem PA.up {nf : Nat} {fp : Nat → Nat} {m m' : Mm} {sc pl : Nat} {t : Tr} (hw : twf nf fp t) (h : PA m sc pl t) (u : Up m m') (h3 : ∀ j, j = 1 ∨ j = 2 → mR m' (31 + 2 * sc) j = mR m (31 + 2 * sc) j) : PA m' sc pl t := by
  obtain ⟨e, r, h1, h2⟩ := h
  refine ⟨e, r, h1.up hw u, ?_⟩
  rw [h3 1 (Or.inl rfl), h3 2 (Or.inr rfl)]
  exact h2
theorem HK.fe {fs : List Fn} {m m' : Mm} {i : Nat} {rh rh' : Nat → Nat} {t : Tk} (hw : kWf fs t) (h : HK m i rh t) (u : Up m m') (he : ∀ a, 24 ≤ a → a ≤ 27 → mI m' a i = mI m a i) (hr : ∀ x, x ∈ kTh t → rh' x = rh x) (hs : t.1 = 4 → ∀ sc, sc < 102 → mI m 18 (rh t.2.2.1) = nn sc → mI m' 18 (rh t.2.2.1) = nn sc ∧ ∀ j, j = 1 ∨ j = 2 → mR m' (31 + 2 * sc) j = mR m (31 + 2 * sc) j) : HK m' i rh' t := by
  obtain ⟨act, x1, x2, x3, tr⟩ := t
  unfold HK at h ⊢
  unfold kTh at hr
  simp only at h hr hs hw ⊢
  split at h
  · rw [he 24 (by decide) (by decide), he 25 (by decide) (by decide), hr x1 (by simp)]
    exact h
  · rw [he 24 (by decide) (by decide), he 25 (by decide) (by decide), hr x1 (by simp)]
    exact h
  · obtain ⟨a1, a2, a3, pl, sc, a4, a5, a6, a7⟩ := h
    obtain ⟨b1, b2⟩ := hs rfl sc a5 a6
    rw [he 24 (by decide) (by decide), he 25 (by decide) (by decide), he 26 (by decide) (by decide), he 27 (by decide) (by decide), hr x1 (by simp), hr x2 (by simp)]
    exact ⟨a1, a2, a3, pl, sc, a4, a5, b1, a7.up (hw rfl) u b2⟩
  · rw [he 24 (by decide) (by decide), he 25 (by decide) (by decide), hr x1 (by simp)]
    exact h
  · rw [he 24 (by decide) (by decide), he 25 (by decide) (by decide), hr x1 (by simp)]
    exact h
  · rw [he 24 (by decide) (by decide), he 25 (by decide) (by decide), hr x1 (by simp)]
    exact h
  · rw [he 24 (by decide) (by decide), he 25 (by decide) (by decide), hr x1 (by simp)]
    exact h
  · rw [he 24 (by decide) (by decide), he 25 (by decide) (by decide), he 26 (by decide) (by decide), he 27 (by decide) (by decide), hr x1 (by simp), hr x2 (by simp), hr x3 (by simp)]
    exact h
  · rw [he 24 (by decide) (by decide), he 25 (by decide) (by decide), he 26 (by decide) (by decide), he 27 (by decide) (by decide), hr x1 (by simp), hr x2 (by simp), hr x3 (by simp)]
    exact h
  · rw [he 24 (by decide) (by decide)]
    exact h
  · exact h.elim
theorem HQ.fe {fs : List Fn} {m m' : Mm} {rh rh' : Nat → Nat} : ∀ {l : List Tk}, (∀ t, t ∈ l → kWf fs t) → HQ m rh l → Up m m' → (∀ a i, 24 ≤ a → a ≤ 27 → i < cn3 l → mI m' a i = mI m a i) → (∀ t, t ∈ l → ∀ x, x ∈ kTh t → rh' x = rh x) → (∀ t, t ∈ l → t.1 = 4 → ∀ sc, sc < 102 → mI m 18 (rh t.2.2.1) = nn sc → mI m' 18 (rh t.2.2.1) = nn sc ∧ ∀ j, j = 1 ∨ j = 2 → mR m' (31 + 2 * sc) j = mR m (31 + 2 * sc) j) → HQ m' rh' l
  | [], _, _, _, _, _, _ => trivial
  | t :: l, hw, h, u, he, hr, hs => by
    have hle : cn3 l ≤ cn3 (t :: l) := by
      show cn3 l ≤ if t.1 = 3 then cn3 l else cn3 l + 1
      split <;> omega
    refine ⟨fun q => ?_, HQ.fe (fun z hz => hw z (List.mem_cons_of_mem _ hz)) h.2 u (fun a i a1 a2 a3 => he a i a1 a2 (Nat.lt_of_lt_of_le a3 hle)) (fun z hz => hr z (List.mem_cons_of_mem _ hz)) (fun z hz => hs z (List.mem_cons_of_mem _ hz))⟩
    have hlt : cn3 l < cn3 (t :: l) := by
      show cn3 l < if t.1 = 3 then cn3 l else cn3 l + 1
      rw [if_neg q]
      omega
    exact (h.1 q).fe (hw t List.mem_cons_self) u (fun a a1 a2 => he a _ a1 a2 hlt) (hr t List.mem_cons_self) (hs t List.mem_cons_self)
/-- without a change of scopes -/
theorem HQ.fe2 {fs : List Fn} {m m' : Mm} {rh : Nat → Nat} {l : List Tk} (hw : ∀ t, t ∈ l → kWf fs t) (h : HQ m rh l) (u : Up m m') (he : ∀ a, 24 ≤ a → a ≤ 27 → mI m' a = mI m a) (h18 : mI m' 18 = mI m 18) (hR : mR m' = mR m) : HQ m' rh l :=
  h.fe hw u (fun a i a1 a2 _ => by rw [he a a1 a2]) (fun _ _ _ _ => rfl) (fun t _ _ sc _ q => ⟨by rw [h18]; exact q, fun _ _ => by rw [hR]⟩)
/-- names -/
def HN (m : Mm) (n : Nat) (g : Nat → Nat → Option Nat) (rh : Nat → Nat) : Prop := mI m 12 8 = nn n ∧ ∀ p, p < n → ∀ k, k < 6 → mI m (32 + 2 * p) k = mo rh (g p k)
theorem HN.fe {m m' : Mm} {n : Nat} {g : Nat → Nat → Option Nat} {rh : Nat → Nat} (h : HN m n g rh) (hn : n ≤ 102) (he : ∀ a, 31 < a → a < 235 → mI m' a = mI m a) (h0 : mI m' 12 8 = mI m 12 8) : HN m' n g rh :=
  ⟨h0.trans h.1, fun p hp k hk => by rw [he _ (by omega) (by omega)]; exact h.2 p hp k hk⟩
/-- decisions -/
def HR (m : Mm) (j : Nat) (D : List (Nat × Nat)) (G : List Nat) : Prop := ∃ gv, mI m (235 + 3 * j) 2 = nn gv ∧ gv ≤ 40 ∧ G.length = gv - D.length ∧ mI m (235 + 3 * j) 3 = nn D.length ∧ (∀ i d, D.reverse[i]? = some d → mI m (236 + 3 * j) i = nn d.1 ∧ mI m (237 + 3 * j) i = nn d.2) ∧ ∀ i x, G[i]? = some x → mI m (236 + 3 * j) (D.length + i) = nn x
/-- a run that is still to be begun -/
def HR0 (m : Mm) (j : Nat) (G : List Nat) : Prop := mI m (235 + 3 * j) 2 = nn G.length ∧ G.length ≤ 40 ∧ ∀ i x, G[i]? = some x → mI m (236 + 3 * j) i = nn x
/-- pd: the inmost run is still to be begun -/
def HV (m : Mm) (L : Nat) (v : Nat → Lv) (rh : Nat → Nat) (pd : Prop) : Prop := mI m 12 9 = nn L ∧ ∀ j, j ≤ L → ((j < L ∨ ¬ pd) → HR m j (lD (v j)) (lG (v j)) ∧ mI m (235 + 3 * j) 4 = nn (lZ (v j))) ∧ (j = L → pd → lD (v j) = [] ∧ HR0 m j (lG (v j))) ∧ (1 ≤ j → mI m (235 + 3 * j) 5 = nn (rh (lX (v j))) ∧ mI m (235 + 3 * j) 6 = nn (lU (v j)) ∧ mI m (235 + 3 * j) 7 = nn (cn3 (flatB v j)))
def oc (e : Nat) : Nat := if e = 0 then 5 else e - 1
def HL (m : Mm) (n S : Nat) (rh : Nat → Nat) : Prop := ∃ k, k ≤ S ∧ mI m 13 10 = nn k ∧ ∀ x, x < n → ∃ j, j ≤ k ∧ mI m 21 (rh x) = nn j
def HA (m : Mm) (s : Ac) (rh : Nat → Nat) (pd : Prop) : Prop := HT m (aC s) (aF s) (aM s) rh ∧ HN m (aP s) (aN s) rh ∧ HV m (aL s) (aV s) rh pd ∧ mI m 23 4 = nn (cn3 (allK s)) ∧ HQ m rh (allK s) ∧ mI m 12 11 = nn (aS s) ∧ mI m 12 10 = nn (aR s) ∧ HL m (aC s) (aS s) rh
def HM (m : Mm) (s : Ac) (rh : Nat → Nat) (pd : Prop) : Prop := mI m 12 12 = nn (oc (aE s)) ∧ (aE s = 5 → mI m 12 13 = nn (aB s)) ∧ HR m 0 (lD (aV s 0)) (lG (aV s 0)) ∧ (aE s < 2 → HA m s rh pd)
theorem HM.all {m : Mm} {s : Ac} {rh : Nat → Nat} {pd : Prop} (h : HM m s rh pd) (hE : aE s = 0) : HA m s rh pd := h.2.2.2 (by omega)
theorem HR.fe {m m' : Mm} {j : Nat} {D : List (Nat × Nat)} {G : List Nat} (h : HR m j D G) (he : ∀ a i, 235 + 3 * j ≤ a → a ≤ 237 + 3 * j → (a = 235 + 3 * j → i = 2 ∨ i = 3) → mI m' a i = mI m a i) : HR m' j D G := by
  obtain ⟨gv, h1, h2, h3, h4, h5, h6⟩ := h
  refine ⟨gv, (he _ 2 (Nat.le_refl _) (by omega) (fun _ => Or.inl rfl)).trans h1, h2, h3, (he _ 3 (Nat.le_refl _) (by omega) (fun _ => Or.inr rfl)).trans h4, fun i d hd => ?_, fun i x hx => ?_⟩
  · rw [he _ i (by omega) (by omega) (fun q => by omega), he _ i (by omega) (by omega) (fun q => by omega)]
    exact h5 i d hd
  · rw [he _ _ (by omega) (by omega) (fun q => by omega)]
    exact h6 i x hx
theorem HR0.fe {m m' : Mm} {j : Nat} {G : List Nat} (h : HR0 m j G) (he : ∀ a i, 235 + 3 * j ≤ a → a ≤ 237 + 3 * j → (a = 235 + 3 * j → i = 2 ∨ i = 3) → mI m' a i = mI m a i) : HR0 m' j G :=
  ⟨(he _ 2 (Nat.le_refl _) (by omega) (fun _ => Or.inl rfl)).trans h.1, h.2.1, fun i x hx => (he _ _ (by omega) (by omega) (fun q => by omega)).trans (h.2.2 i x hx)⟩
theorem HV.fe {m m' : Mm} {L : Nat} {v : Nat → Lv} {rh rh' : Nat → Nat} {pd : Prop} (h : HV m L v rh pd) (he : ∀ a, 235 ≤ a → a ≤ 237 + 3 * L → mI m' a = mI m a) (h0 : mI m' 12 9 = mI m 12 9) (hr : ∀ j, 1 ≤ j → j ≤ L → rh' (lX (v j)) = rh (lX (v j))) : HV m' L v rh' pd := by
  refine ⟨h0.trans h.1, fun j hj => ?_⟩
  obtain ⟨a1, a2, a3⟩ := h.2 j hj
  have e : ∀ a i, 235 + 3 * j ≤ a → a ≤ 237 + 3 * j → (a = 235 + 3 * j → i = 2 ∨ i = 3) → mI m' a i = mI m a i := fun a i b1 b2 _ => by rw [he a (by omega) (by omega)]
  refine ⟨fun q => ⟨(a1 q).1.fe e, by rw [he _ (by omega) (by omega)]; exact (a1 q).2⟩, fun q q2 => ⟨(a2 q q2).1, (a2 q q2).2.fe e⟩, fun q => ?_⟩
  rw [he _ (by omega) (by omega), hr j q hj]
  exact a3 q
theorem HV.v {m : Mm} {L : Nat} {v v' : Nat → Lv} {rh : Nat → Nat} {pd : Prop} (h : HV m L v rh pd) (hv : ∀ j, j ≤ L → lD (v' j) = lD (v j) ∧ lG (v' j) = lG (v j) ∧ lX (v' j) = lX (v j) ∧ lU (v' j) = lU (v j) ∧ lZ (v' j) = lZ (v j)) (hk : ∀ j, j < L → lK (v' j) = lK (v j)) : HV m L v' rh pd := by
  refine ⟨h.1, fun j hj => ?_⟩
  obtain ⟨h1, h2, h3, h4, h5⟩ := hv j hj
  rw [h1, h2, h3, h4, h5, flatB_k (v := v) (fun i hi => hk i (by omega))]
  exact h.2 j hj
theorem HL.fe {m m' : Mm} {n S : Nat} {rh : Nat → Nat} (h : HL m n S rh) (h0 : mI m' 13 10 = mI m 13 10) (h1 : mI m' 21 = mI m 21) : HL m' n S rh := by
  unfold HL at *
  rw [h0, h1]
  exact h
/-- what a run may change -/
def Zr (m m' : Mm) : Prop := mN m' = mN m ∧ mC m' = mC m ∧ mZ m' = mZ m ∧ mS m' = mS m ∧ (∀ a, ¬ (12 ≤ a ∧ a < 541) → mI m' a = mI m a ∧ mR m' a = mR m a) ∧ mI m' 12 7 = mI m 12 7 ∧ mI m' 235 2 = mI m 235 2
theorem Zr.refl {m : Mm} : Zr m m := ⟨rfl, rfl, rfl, rfl, fun _ _ => ⟨rfl, rfl⟩, rfl, rfl⟩
theorem Zr.trans {m m1 m2 : Mm} (h : Zr m m1) (h2 : Zr m1 m2) : Zr m m2 := ⟨h2.1.trans h.1, h2.2.1.trans h.2.1, h2.2.2.1.trans h.2.2.1, h2.2.2.2.1.trans h.2.2.2.1, fun a ha => ⟨(h2.2.2.2.2.1 a ha).1.trans (h.2.2.2.2.1 a ha).1, (h2.2.2.2.2.1 a ha).2.trans (h.2.2.2.2.1 a ha).2⟩, h2.2.2.2.2.2.1.trans h.2.2.2.2.2.1, h2.2.2.2.2.2.2.trans h.2.2.2.2.2.2⟩
theorem Zr.up {m m' : Mm} (h : Zr m m') : Up m m' := ⟨h.1, h.2.2.2.1, fun a ha => h.2.2.2.2.1 a (by omega)⟩
theorem Fr.zr {S : Nat → Nat → Prop} {m m' : Mm} (f : Fr S m m') (hS : ∀ a j, S a j → (12 ≤ a ∧ a < 541) ∧ ¬ (a = 12 ∧ j = 7) ∧ ¬ (a = 235 ∧ j = 2)) : Zr m m' := ⟨f.1, f.2.1, f.2.2.1, f.s, fun a ha => ⟨f.fn (fun j q => ha (hS a j q).1), by rw [f.r]⟩, f.i (fun q => (hS _ _ q).2.1 ⟨rfl, rfl⟩), f.i (fun q => (hS _ _ q).2.2 ⟨rfl, rfl⟩)⟩
/-- numbers that fit, things that are there -/
def QOK (fs : List Fn) (s : Ac) : Prop := aC s ≤ 3450 ∧ aP s ≤ 102 ∧ aL s ≤ 101 ∧ cn3 (allK s) ≤ 4985 ∧ aS s ≤ 100 ∧ aR s ≤ 1000 ∧ (∀ x, x < aC s → tWf fs (aF s x) ∧ tK (aF s x) < 8 ∧ tO (aF s x) < 100 ∧ tW (aF s x) ≤ 101 ∧ aM s x ≤ 1000 ∧ (∀ y, tA (aF s x) = some y → y < aC s) ∧ ∀ y, tB (aF s x) = some y → y < aC s) ∧ (∀ x, aC s ≤ x → aM s x = 0) ∧ (∀ p k y, aN s p k = some y → y < aC s) ∧ (∀ t, t ∈ allK s → kWf fs t ∧ ∀ x, x ∈ kTh t → x < aC s) ∧ ∀ j, j ≤ aL s → lU (aV s j) ≤ 20 ∧ lX (aV s j) < aC s + 1 ∧ lZ (aV s j) ≤ 1000 ∧ (∀ d, d ∈ lD (aV s j) → d.1 < d.2 ∧ d.2 < 100) ∧ (lD (aV s j)).length + (lG (aV s j)).length ≤ 40 ∧ ∀ w, w ∈ lG (aV s j) → w < 100
