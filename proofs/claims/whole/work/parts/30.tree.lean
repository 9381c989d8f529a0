/-! EXPRESSIONS AS TREES. A node of a code with no part, one or two: a code's label over nothing, one tree, or two. -/
abbrev Tr : Type := Std.Format
def tlf (c : Nat) : Tr := .tag c .nil
def tun (c : Nat) (a : Tr) : Tr := .tag c (.nest 0 a)
def tbi (c : Nat) (a b : Tr) : Tr := .tag c (.append a b)
/-- nodes of a tree -/
def tsz : Tr → Nat
  | .tag _ x => 1 + tsz x
  | .append a b => tsz a + tsz b
  | .nest _ a => tsz a
  | _ => 0
/-- codes, each whole ahead of its parts -/
def tenc : Tr → List Nat
  | .tag c x => c :: tenc x
  | .append a b => tenc a ++ tenc b
  | .nest _ a => tenc a
  | _ => []
def tcode : Tr → Nat
  | .tag c _ => c
  | _ => 0
/-- parts of a code, the functions' parts being fp -/
def prt (fp : Nat → Nat) (c : Nat) : Nat :=
  if c < 10 then 0 else if c < 20 then (c - 10) / 2 else if c < 30 then fp (c - 20) else if c = 33 then 1 else 2
/-- codes that there are, nf functions being told -/
def cok (nf : Nat) (c : Nat) : Prop := c < 6 ∨ (10 ≤ c ∧ c < 16) ∨ (20 ≤ c ∧ c < 20 + nf) ∨ (30 ≤ c ∧ c < 34)
def twf (nf : Nat) (fp : Nat → Nat) : Tr → Prop
  | .tag c .nil => cok nf c ∧ prt fp c = 0
  | .tag c (.nest i a) => i = 0 ∧ cok nf c ∧ prt fp c = 1 ∧ twf nf fp a
  | .tag c (.append a b) => cok nf c ∧ prt fp c = 2 ∧ twf nf fp a ∧ twf nf fp b
  | _ => False
theorem twf_lf {nf : Nat} {fp : Nat → Nat} {c : Nat} : twf nf fp (tlf c) ↔ cok nf c ∧ prt fp c = 0 := by
  unfold tlf
  rw [twf]
theorem twf_un {nf : Nat} {fp : Nat → Nat} {c : Nat} {a : Tr} : twf nf fp (tun c a) ↔ cok nf c ∧ prt fp c = 1 ∧ twf nf fp a := by
  unfold tun
  rw [twf]
  simp
theorem twf_bi {nf : Nat} {fp : Nat → Nat} {c : Nat} {a b : Tr} : twf nf fp (tbi c a b) ↔ cok nf c ∧ prt fp c = 2 ∧ twf nf fp a ∧ twf nf fp b := by
  unfold tbi
  rw [twf]
theorem tr_ind {nf : Nat} {fp : Nat → Nat} {P : Tr → Prop} (h0 : ∀ c, cok nf c → prt fp c = 0 → P (tlf c)) (h1 : ∀ c a, cok nf c → prt fp c = 1 → twf nf fp a → P a → P (tun c a)) (h2 : ∀ c a b, cok nf c → prt fp c = 2 → twf nf fp a → twf nf fp b → P a → P b → P (tbi c a b)) : ∀ (n : Nat) (t : Tr), tsz t ≤ n → twf nf fp t → P t := by
  intro n
  induction n with
  | zero =>
    intro t hn hw
    match t, hn, hw with
    | .tag c x, hn, hw =>
      rw [tsz] at hn
      omega
  | succ n ih =>
    intro t hn hw
    match t, hn, hw with
    | .tag c .nil, hn, hw =>
      have h := twf_lf.mp hw
      exact h0 c h.1 h.2
    | .tag c (.nest i a), hn, hw =>
      have hi : i = 0 := by
        rw [twf] at hw
        exact hw.1
      subst hi
      have h := twf_un.mp hw
      refine h1 c a h.1 h.2.1 h.2.2 (ih a ?_ h.2.2)
      rw [tsz, tsz] at hn
      omega
    | .tag c (.append a b), hn, hw =>
      have h := twf_bi.mp hw
      rw [tsz, tsz] at hn
      exact h2 c a b h.1 h.2.1 h.2.2.1 h.2.2.2 (ih a (by omega) h.2.2.1) (ih b (by omega) h.2.2.2)
theorem tr_cases {nf : Nat} {fp : Nat → Nat} {t : Tr} (h : twf nf fp t) : (∃ c, t = tlf c ∧ cok nf c ∧ prt fp c = 0) ∨ (∃ c a, t = tun c a ∧ cok nf c ∧ prt fp c = 1 ∧ twf nf fp a) ∨ (∃ c a b, t = tbi c a b ∧ cok nf c ∧ prt fp c = 2 ∧ twf nf fp a ∧ twf nf fp b) := by
  refine tr_ind (nf := nf) (fp := fp) (P := fun t => (∃ c, t = tlf c ∧ cok nf c ∧ prt fp c = 0) ∨ (∃ c a, t = tun c a ∧ cok nf c ∧ prt fp c = 1 ∧ twf nf fp a) ∨ (∃ c a b, t = tbi c a b ∧ cok nf c ∧ prt fp c = 2 ∧ twf nf fp a ∧ twf nf fp b)) ?_ ?_ ?_ (tsz t) t (Nat.le_refl _) h
  · intro c h1 h2
    exact Or.inl ⟨c, rfl, h1, h2⟩
  · intro c a h1 h2 h3 _
    exact Or.inr (Or.inl ⟨c, a, rfl, h1, h2, h3⟩)
  · intro c a b h1 h2 h3 h4 _ _
    exact Or.inr (Or.inr ⟨c, a, b, rfl, h1, h2, h3, h4⟩)
theorem tsz_lf (c : Nat) : tsz (tlf c) = 1 := by
  unfold tlf
  rw [tsz, tsz]
  all_goals simp
theorem tsz_un (c : Nat) (a : Tr) : tsz (tun c a) = 1 + tsz a := by
  unfold tun
  rw [tsz, tsz]
theorem tsz_bi (c : Nat) (a b : Tr) : tsz (tbi c a b) = 1 + tsz a + tsz b := by
  unfold tbi
  rw [tsz, tsz]
  omega
theorem tenc_lf (c : Nat) : tenc (tlf c) = [c] := by
  unfold tlf
  rw [tenc, tenc]
  all_goals simp
theorem tenc_un (c : Nat) (a : Tr) : tenc (tun c a) = c :: tenc a := by
  unfold tun
  rw [tenc, tenc]
theorem tenc_bi (c : Nat) (a b : Tr) : tenc (tbi c a b) = c :: (tenc a ++ tenc b) := by
  unfold tbi
  rw [tenc, tenc]
theorem tenc_len : ∀ t : Tr, (tenc t).length = tsz t
  | .tag c x => by
    rw [tenc, tsz, List.length_cons, tenc_len x]
    omega
  | .append a b => by rw [tenc, tsz, List.length_append, tenc_len a, tenc_len b]
  | .nest i a => by rw [tenc, tsz, tenc_len a]
  | .nil => by simp [tenc, tsz]
  | .line => by simp [tenc, tsz]
  | .align _ => by simp [tenc, tsz]
  | .text _ => by simp [tenc, tsz]
  | .group _ _ => by simp [tenc, tsz]
theorem tsz_pos {nf : Nat} {fp : Nat → Nat} {t : Tr} (h : twf nf fp t) : 1 ≤ tsz t := by
  rcases tr_cases h with ⟨c, rfl, -⟩ | ⟨c, a, rfl, -⟩ | ⟨c, a, b, rfl, -⟩
  · rw [tsz_lf]
    exact Nat.le_refl _
  · rw [tsz_un]
    omega
  · rw [tsz_bi]
    omega
theorem tcode_lf (c : Nat) : tcode (tlf c) = c := rfl
theorem tcode_un (c : Nat) (a : Tr) : tcode (tun c a) = c := rfl
theorem tcode_bi (c : Nat) (a b : Tr) : tcode (tbi c a b) = c := rfl
theorem prt_le {nf : Nat} {fp : Nat → Nat} (hf : ∀ f, f < nf → fp f ≤ 2) {c : Nat} (h : cok nf c) : prt fp c ≤ 2 := by
  unfold prt
  unfold cok at h
  split
  · omega
  · split
    · omega
    · split
      · rename_i h1 h2 h3
        rcases h with h | h | h | h
        · omega
        · omega
        · exact hf _ (by omega)
        · omega
      · split <;> omega
/-- more functions leave what there is -/
theorem cok_mono {nf nf' c : Nat} (h : cok nf c) (hn : nf ≤ nf') : cok nf' c := by
  unfold cok at *
  omega
theorem prt_ext {nf : Nat} {fp fp' : Nat → Nat} {c : Nat} (h : cok nf c) (he : ∀ f, f < nf → fp' f = fp f) : prt fp' c = prt fp c := by
  unfold prt
  unfold cok at h
  by_cases h1 : c < 10
  · rw [if_pos h1, if_pos h1]
  · rw [if_neg h1, if_neg h1]
    by_cases h2 : c < 20
    · rw [if_pos h2, if_pos h2]
    · rw [if_neg h2, if_neg h2]
      by_cases h3 : c < 30
      · rw [if_pos h3, if_pos h3]
        exact he _ (by omega)
      · rw [if_neg h3, if_neg h3]
theorem twf_ext {nf nf' : Nat} {fp fp' : Nat → Nat} (hn : nf ≤ nf') (he : ∀ f, f < nf → fp' f = fp f) {t : Tr} (h : twf nf fp t) : twf nf' fp' t := by
  refine tr_ind (nf := nf) (fp := fp) (P := fun t => twf nf' fp' t) ?_ ?_ ?_ (tsz t) t (Nat.le_refl _) h
  · intro c h1 h2
    exact twf_lf.mpr ⟨cok_mono h1 hn, (prt_ext h1 he).trans h2⟩
  · intro c a h1 h2 _ h4
    exact twf_un.mpr ⟨cok_mono h1 hn, (prt_ext h1 he).trans h2, h4⟩
  · intro c a b h1 h2 _ _ h4 h5
    exact twf_bi.mpr ⟨cok_mono h1 hn, (prt_ext h1 he).trans h2, h4, h5⟩
