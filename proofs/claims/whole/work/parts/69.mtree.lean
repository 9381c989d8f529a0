/-! THE REFERENCE MAKES A TREE, NODE BY NODE. L x: how many parts x still lacks. -/
def pts (t : Th) : Nat := if (tB t).isSome = true then 2 else if (tA t).isSome = true then 1 else 0
def PF (m : Mm) (t : Th) (x c : Nat) : Prop := mI m 677 x = nn (tK t) ∧ (tK t ≠ 6 → mI m 678 x = nn (tO t)) ∧ mI m 679 x = (if c ≠ 0 ∧ c = pts t then -1 else no (tA t)) ∧ mI m 680 x = (if c = 0 then no (tB t) else -1) ∧ mI m 681 x = nn (tW t)
def PT (m : Mm) (n : Nat) (F : Nat → Th) (mk L : Nat → Nat) : Prop := mI m 668 13 = nn n ∧ ∀ x, x < n → PF m (F x) x (L x) ∧ TX m (F x) x ∧ mI m 684 x = nn (mk x)
theorem PT.full {m : Mm} {n : Nat} {F : Nat → Th} {mk L : Nat → Nat} (h : PT m n F mk L) (hL : ∀ x, x < n → L x = 0) : RT m n F mk := ⟨h.1, fun x hx => by
  have := h.2 x hx
  unfold PF at this
  rw [hL x hx] at this
  exact ⟨⟨this.1.1, this.1.2.1, by simpa using this.1.2.2.1, by simpa using this.1.2.2.2.1, this.1.2.2.2.2⟩, this.2⟩⟩
theorem RT.part {m : Mm} {n : Nat} {F : Nat → Th} {mk L : Nat → Nat} (h : RT m n F mk) (hL : ∀ x, x < n → L x = 0) : PT m n F mk L := ⟨h.1, fun x hx => by
  have := h.2 x hx
  refine ⟨⟨this.1.1, this.1.2.1, ?_, ?_, this.1.2.2.2.2⟩, this.2⟩
  · rw [hL x hx]
    simpa using this.1.2.2.1
  · rw [hL x hx]
    simpa using this.1.2.2.2.1⟩
theorem PT.le {m : Mm} {n : Nat} {F : Nat → Th} {mk L L' : Nat → Nat} (h : PT m n F mk L) (hL : ∀ x, x < n → L' x = L x) : PT m n F mk L' := ⟨h.1, fun x hx => by rw [hL x hx]; exact h.2 x hx⟩
/-- the rows of what lacks parts -/
def KS (m : Mm) : List (Nat × Nat) → Prop
  | [] => True
  | (x, c) :: l => mI m 697 l.length = nn x ∧ mI m 698 l.length = nn c ∧ KS m l
def GS (L : Nat → Nat) : Nat → List (Nat × Nat) → Prop
  | _, [] => True
  | b, (x, c) :: l => x < b ∧ L x = c ∧ GS L x l
theorem KS.fe {m m' : Mm} : ∀ {l : List (Nat × Nat)}, KS m l → (∀ i, i < l.length → mI m' 697 i = mI m 697 i ∧ mI m' 698 i = mI m 698 i) → KS m' l
  | [], _, _ => trivial
  | (x, c) :: l, h, he => ⟨(he _ (Nat.lt_succ_self _)).1.trans h.1, (he _ (Nat.lt_succ_self _)).2.trans h.2.1, h.2.2.fe (fun i hi => he i (Nat.lt_succ_of_lt hi))⟩
theorem GS.up {L L' : Nat → Nat} : ∀ {b b' : Nat} {l : List (Nat × Nat)}, GS L b l → (∀ x, x < b → L' x = L x) → b ≤ b' → GS L' b' l
  | _, _, [], _, _, _ => trivial
  | b, b', (x, c) :: l, h, he, hb => ⟨Nat.lt_of_lt_of_le h.1 hb, (he x h.1).trans h.2.1, h.2.2.up (fun y hy => he y (Nat.lt_trans hy h.1)) (Nat.le_refl _)⟩
def dcz : List (Nat × Nat) → List (Nat × Nat)
  | [] => []
  | (x, c) :: l => (x, c - 1) :: l
def popz : List (Nat × Nat) → List (Nat × Nat)
  | [] => []
  | (x, c) :: l => if c = 0 then popz l else (x, c) :: l
def dcL (L : Nat → Nat) : List (Nat × Nat) → Nat → Nat
  | [] => L
  | (x, c) :: _ => up1 L x (c - 1)
theorem popz_len : ∀ l : List (Nat × Nat), (popz l).length ≤ l.length
  | [] => Nat.le_refl _
  | (x, c) :: l => by
    unfold popz
    split
    · exact Nat.le_succ_of_le (popz_len l)
    · exact Nat.le_refl _
theorem KS.pop {m : Mm} : ∀ {l : List (Nat × Nat)}, KS m l → KS m (popz l)
  | [], _ => trivial
  | (x, c) :: l, h => by
    unfold popz
    split
    · exact h.2.2.pop
    · exact h
theorem GS.pop {L : Nat → Nat} : ∀ {b : Nat} {l : List (Nat × Nat)}, GS L b l → GS L b (popz l)
  | _, [], _ => trivial
  | b, (x, c) :: l, h => by
    unfold popz
    split
    · exact (h.2.2.up (fun _ _ => rfl) (Nat.le_of_lt h.1)).pop
    · exact h
theorem GS.dec {L : Nat → Nat} {b : Nat} : ∀ {l : List (Nat × Nat)}, GS L b l → GS (dcL L l) b (dcz l)
  | [], _ => trivial
  | (x, c) :: l, h => ⟨h.1, up1_at, h.2.2.up (fun y hy => up1_ne (by omega)) (Nat.le_refl _)⟩
def SQ (a j : Nat) : Prop := (677 ≤ a ∧ a < 683) ∨ a = 684 ∨ a = 697 ∨ a = 698 ∨ a = 668 ∧ j = 13
section Make
variable {m : Mm} {v1 p o v4 : Int32} {K : Option Value ⊕ String → Mm → Prop}
theorem V.j4 {y : Mi} {pc : Nat} {a b c d e f g h : Option Value} {x1 x2 x3 x4 : Option Value} (k : V y pc [a, b, c, d, e, f, g, h, none, none, none, none] [] m K) : V y pc [a, b, c, d, e, f, g, h, x1, x2, x3, x4] [] m K :=
  V.weak (L' := [a, b, c, d, e, f, g, h, none, none, none, none]) rfl (fun i v hi => by
    match i, hi with
    | 0, hi => exact hi
    | 1, hi => exact hi
    | 2, hi => exact hi
    | 3, hi => exact hi
    | 4, hi => exact hi
    | 5, hi => exact hi
    | 6, hi => exact hi
    | 7, hi => exact hi
    | 8, hi => cases hi
    | 9, hi => cases hi
    | 10, hi => cases hi
    | 11, hi => cases hi
    | n + 12, hi => cases hi) k
theorem V.j1 {y : Mi} {pc : Nat} {a b c d e f g h i j k : Option Value} {x4 : Option Value} (w : V y pc [a, b, c, d, e, f, g, h, i, j, k, none] [] m K) : V y pc [a, b, c, d, e, f, g, h, i, j, k, x4] [] m K :=
  V.weak (L' := [a, b, c, d, e, f, g, h, i, j, k, none]) rfl (fun i v hi => by
    match i, hi with
    | 0, hi => exact hi
    | 1, hi => exact hi
    | 2, hi => exact hi
    | 3, hi => exact hi
    | 4, hi => exact hi
    | 5, hi => exact hi
    | 6, hi => exact hi
    | 7, hi => exact hi
    | 8, hi => exact hi
    | 9, hi => exact hi
    | 10, hi => exact hi
    | 11, hi => cases hi
    | n + 12, hi => cases hi) w
/-- the loop that pops -/
theorem mk_pop {q c : Nat} {v7 v9 v10 : Int32} (hm : St m) : ∀ (l : List (Nat × Nat)), l.length ≤ 16 → (∀ x c, (x, c) ∈ l → c < 10) → KS m l →
    V m12_make 287 [some (.ref 668), some (.int v1), some (.int p), some (.int o), some (.int v4), some (.int (nn (popz l).length)), some (.int (nn q)), some (.int v7), some (.int (nn c)), some (.int v9), some (.int v10), none] [] m K →
    V m12_make 264 [some (.ref 668), some (.int v1), some (.int p), some (.int o), some (.int v4), some (.int (nn l.length)), some (.int (nn q)), some (.int v7), some (.int (nn c)), some (.int v9), some (.int v10), none] [] m K
  | [], _, _, _, k => u12_make_264 hm ⟨fun _ => k, fun w => absurd (by decide) w⟩
  | (x, d) :: l, hl, hc, hk, k => by
    have hd := hc x d List.mem_cons_self
    simp only [List.length_cons] at hl
    refine u12_make_264 hm ⟨fun w => ?_, fun _ => ?_⟩
    · rw [show (0 : Int32) = nn 0 from rfl, List.length_cons, nn_le (by omega) (by decide)] at w
      omega
    rw [List.length_cons, nn_pred (by omega), nn_prd (by omega), Nat.add_sub_cancel, nn_tn (by omega), hk.2.1]
    have e0 : nn d = 0 ↔ d = 0 := nn_eq (b := 0) (by omega) (by decide)
    rw [e0]
    refine ⟨nn_in (by omega) (by omega), fun w => ?_, fun w => ?_⟩
    · rw [popz, if_neg w] at k
      exact k
    · rw [popz, if_pos w] at k
      exact mk_pop hm l (by omega) (fun y e he => hc y e (List.mem_cons_of_mem _ he)) hk.2.2 k
/-- back to the loop's head -/
theorem mk_next {fs : List Fn} {q q' c len : Nat} {v7 v9 v10 : Int32} (hm : St m) (hl : len ≤ 16) (h0 : MF0 m fs) (hc : c < 40) (hq : q < 1000) (hqq : c ≠ 33 → q' = q + 1) (hs : c = 33 → ∃ t, twf fs.length (fpf fs) t ∧ q + tsz t ≤ 876 ∧ TC m q t ∧ q' = q + tsz t)
    (k : V m12_make 12 [some (.ref 668), some (.int v1), some (.int p), some (.int o), some (.int v4), some (.int (nn len)), some (.int (nn q')), some (.int (if len = 0 then 0 else 1)), none, none, none, none] [] m K) :
    V m12_make 287 [some (.ref 668), some (.int v1), some (.int p), some (.int o), some (.int v4), some (.int (nn len)), some (.int (nn q)), some (.int v7), some (.int (nn c)), some (.int v9), some (.int v10), none] [] m K := by
  have nxt : ∀ {v6 : Int32}, V m12_make 307 [some (.ref 668), some (.int v1), some (.int p), some (.int o), some (.int v4), some (.int (nn len)), some (.int v6), some (.int v7), some (.int (nn c)), some (.int v9), some (.int v10), none] [(.int (nn q'))] m K := fun {v6} => by
    refine u12_make_307 hm ⟨fun w => ?_, fun w => ?_⟩
    · rw [show (0 : Int32) = nn 0 from rfl, nn_le (by omega) (by decide)] at w
      rw [if_pos (by omega)] at k
      exact u12_make_319 hm (V.j4 k)
    · rw [show (0 : Int32) = nn 0 from rfl, nn_le (by omega) (by decide)] at w
      rw [if_neg (by omega)] at k
      exact u12_make_319 hm (V.j4 k)
  have e33 : nn c = 33 ↔ c = 33 := nn_eq (b := 33) (by omega) (by decide)
  refine u12_make_287 hm ?_
  rw [e33]
  refine ⟨fun w => ?_, fun w => ?_⟩
  · rw [nn_one, ← hqq w]
    exact nxt
  · obtain ⟨t, t1, t2, t3, t4⟩ := hs w
    refine C.mono (s12_endOf hm h0 t1 t2 t3) ?_
    rintro o1 m1 ⟨rfl, rfl⟩
    refine ⟨_, rfl, hm, ?_⟩
    rw [← t4]
    exact nxt
/-- what a node is, is told to what lacks it -/
theorem mk_tell {n x : Nat} {F : Nat → Th} {mk L : Nat → Nat} {ST : List (Nat × Nat)} {v6 v7 v8 v10 : Int32} (hm : St m) (hn : n ≤ 6000) (hT : PT m n F mk L) (hK : KS m ST) (hG : GS L n ST) (hl : ST.length ≤ 16) (hx : x < 6000) (hc : ∀ y c l, ST = (y, c) :: l → (c = 1 ∧ pts (F y) = 1 ∧ tA (F y) = some x) ∨ (c = 2 ∧ pts (F y) = 2 ∧ tA (F y) = some x) ∨ (c = 1 ∧ pts (F y) = 2 ∧ tB (F y) = some x ∧ ∃ z, tA (F y) = some z ∧ z < 6000))
    (k : ∀ m', Fr SQ m m' → PT m' n F mk (dcL L ST) → KS m' (dcz ST) → V m12_make 238 [some (.ref 668), some (.int v1), some (.int p), some (.int o), some (.int (if ST = [] then nn x else v4)), some (.int (nn ST.length)), some (.int v6), some (.int v7), some (.int v8), some (.int (nn x)), some (.int v10), none] [] m' K) :
    V m12_make 125 [some (.ref 668), some (.int v1), some (.int p), some (.int o), some (.int v4), some (.int (nn ST.length)), some (.int v6), some (.int v7), some (.int v8), some (.int (nn x)), some (.int v10), none] [] m K := by
  have e0 : nn ST.length = 0 ↔ ST.length = 0 := nn_eq (b := 0) (by omega) (by decide)
  refine u12_make_125 hm ?_
  rw [e0]
  cases ST with
  | nil =>
    rw [if_pos rfl] at k
    exact ⟨fun w => (w rfl).elim, fun _ => k m Fr.refl hT hK⟩
  | cons yc l =>
    obtain ⟨y, c⟩ := yc
    rw [if_neg (by simp)] at k
    simp only [List.length_cons] at hl k ⊢
    refine ⟨fun _ => ?_, fun w => by omega⟩
    obtain ⟨y1, y2, y3⟩ := hG
    rw [nn_pred (by omega), Nat.add_sub_cancel, nn_tn (by omega), hK.1, nn_tn (by omega)]
    have hil := nn_in (a := l.length) (n := 16) (by omega) (by omega)
    have hiy := nn_in (a := y) (n := 6000) (by omega) (by omega)
    obtain ⟨⟨p1, p2, p3, p4, p5⟩, p6, p7⟩ := hT.2 y y1
    rw [y2] at p3 p4
    have hx1 : nn x ≠ -1 := nn_m1 (by omega)
    refine ⟨hil, hiy, ?_⟩
    have K2 : ∀ a b : Int32, a = no (if c = pts (F y) then some x else tA (F y)) → b = (if c = pts (F y) then -1 else nn x) → V m12_make 238 [some (.ref 668), some (.int v1), some (.int p), some (.int o), some (.int v4), some (.int (nn (l.length + 1))), some (.int v6), some (.int v7), some (.int v8), some (.int (nn x)), some (.int v10), none] [] (mSetI (mSetI (mSetI m 679 y a) 680 y b) 698 l.length (nn (c - 1))) K := by
      intro a b ha hb
      have hcc := hc y c l rfl
      refine k _ (((Fr.refl.set (Or.inl (by omega))).set (Or.inl (by omega))).set (Or.inr (Or.inr (Or.inr (Or.inl rfl))))) ⟨hT.1, fun z hz => ?_⟩ ⟨?_, ?_, ?_⟩
      · have hh := hT.2 z hz
        by_cases e : z = y
        · subst e
          refine ⟨⟨p1, p2, ?_, ?_, p5⟩, p6.fe (by simp [mI_fn]) rfl rfl rfl, p7⟩
          · rw [show dcL L ((z, c) :: l) z = c - 1 from up1_at, mI_set, if_neg (by omega), mI_set, if_neg (by omega), mI_set, if_pos ⟨rfl, rfl⟩, ha]
            rcases hcc with ⟨c1, c2, c3⟩ | ⟨c1, c2, c3⟩ | ⟨c1, c2, c3, z2, c4, c5⟩
            · rw [if_pos (by omega), if_neg (by omega), c3]
            · rw [if_pos (by omega), if_neg (by omega), c3]
            · rw [if_neg (by omega), if_neg (by omega)]
          · rw [show dcL L ((z, c) :: l) z = c - 1 from up1_at, mI_set, if_neg (by omega), mI_set, if_pos ⟨rfl, rfl⟩, hb]
            rcases hcc with ⟨c1, c2, c3⟩ | ⟨c1, c2, c3⟩ | ⟨c1, c2, c3, z2, c4, c5⟩
            · rw [if_pos (by omega), if_pos (by omega)]
              cases e : tB (F z) with
              | none => rfl
              | some w =>
                unfold pts at c2
                rw [e] at c2
                cases c2
            · rw [if_pos (by omega), if_neg (by omega)]
            · rw [if_neg (by omega), if_pos (by omega), c3]
              rfl
        · rw [show dcL L ((y, c) :: l) z = L z from up1_ne e]
          simp only [PF, mI_set] at hh ⊢
          refine ⟨?_, hh.2.1.fe (by simp [mI_fn]) ?_ rfl rfl, ?_⟩
          · simpa [e] using hh.1
          · simp [mI_set]
          · simpa using hh.2.2
      · rw [mI_set, if_neg (by omega), mI_set, if_neg (by omega), mI_set, if_neg (by omega)]
        exact hK.1
      · rw [mI_set, if_pos ⟨rfl, rfl⟩]
      · refine hK.2.2.fe (fun i hi => ⟨?_, ?_⟩)
        · rw [mI_set, if_neg (by omega), mI_set, if_neg (by omega), mI_set, if_neg (by omega)]
        · rw [mI_set, if_neg (by omega), mI_set, if_neg (by omega), mI_set, if_neg (by omega)]
    have c1 : 1 ≤ c ∧ c ≤ 2 := by rcases hc y c l rfl with w | w | w <;> omega
    have hq : ∀ (m2 : Mm), mI m2 698 l.length = mI m 698 l.length → mI m2 698 l.length - 1 = nn (c - 1) := fun m2 e => by rw [e, hK.2.1, nn_pred (by omega)]
    refine ⟨fun w => ?_, fun w => ?_⟩
    · have e : c ≠ pts (F y) := fun e => w (by rw [p3, if_pos ⟨by omega, e⟩])
      refine u12_make_160 hm ?_
      rw [nn_pred (by omega), Nat.add_sub_cancel, nn_tn (by omega), hK.1, nn_tn (by omega)]
      refine ⟨hil, fun _ => ⟨hil, hiy, ?_⟩, fun w => (w rfl).elim⟩
      refine u12_make_199 hm ?_
      rw [nn_pred (by omega), Nat.add_sub_cancel, nn_tn (by omega), nn_tn (by omega), hK.1]
      refine ⟨hiy, hil, fun _ => ?_, fun w => (w rfl).elim⟩
      refine u12_make_224 (St.i hm) ?_
      rw [nn_pred (by omega), Nat.add_sub_cancel, nn_tn (by omega), nn_tn (by omega), hq _ (by simp [mI_set])]
      refine ⟨hiy, hil, hil, V.j1 (K2 _ _ ?_ ?_)⟩
      · rw [if_neg e, p3, if_neg (by omega)]
      · rw [if_neg e]
    · have e : c = pts (F y) := by
        rcases hc y c l rfl with q | q | ⟨q1, q2, q3, z, q4, q5⟩
        · omega
        · omega
        · rw [p3, if_neg (by omega), q4] at w
          exact (nn_m1 (by omega) w).elim
      refine u12_make_160 hm ?_
      rw [nn_pred (by omega), Nat.add_sub_cancel, nn_tn (by omega), hK.1]
      refine ⟨hil, fun w => absurd w (by decide), fun _ => ?_⟩
      refine u12_make_199 hm ?_
      rw [nn_pred (by omega), Nat.add_sub_cancel, nn_tn (by omega), nn_tn (by omega), hK.1]
      refine ⟨hiy, hil, fun w => absurd w (by decide), fun _ => ?_⟩
      refine u12_make_224 (St.i hm) ?_
      rw [nn_pred (by omega), Nat.add_sub_cancel, nn_tn (by omega), nn_tn (by omega), hq _ (by simp [mI_set])]
      refine ⟨hiy, hil, hil, V.j1 (K2 _ _ ?_ ?_)⟩
      · rw [if_pos e]
        rfl
      · rw [if_pos e]
end Make
