/-! THE OTHER ONE: a row is told -/
/-- a row: what can be reached, the whole ahead of its parts; things that are unbound have numbers -/
def tellP (s : Ac) : Nat → List Nat → List Nat → List Nat
  | 0, _, _ => []
  | _ + 1, [], _ => []
  | n + 1, y :: T, L => if tK (aF s (root s y)) = 0 then (10 + nOf L (root s y)) :: tellP s n T (if root s y ∈ L then L else L ++ [root s y]) else tO (aF s (root s y)) :: tellP s n (kidsL s (root s y) ++ T) L
theorem tellP_len {s : Ac} : ∀ (n : Nat) (T L : List Nat), (tellP s n T L).length ≤ n
  | 0, _, _ => Nat.le_refl _
  | _ + 1, [], _ => Nat.zero_le _
  | n + 1, y :: T, L => by
    show (if tK (aF s (root s y)) = 0 then (10 + nOf L (root s y)) :: tellP s n T (if root s y ∈ L then L else L ++ [root s y]) else tO (aF s (root s y)) :: tellP s n (kidsL s (root s y) ++ T) L).length ≤ n + 1
    split
    · have := tellP_len (s := s) n T (if root s y ∈ L then L else L ++ [root s y])
      rw [List.length_cons]
      omega
    · have := tellP_len (s := s) n (kidsL s (root s y) ++ T) L
      rw [List.length_cons]
      omega
theorem nOf_lt : ∀ {L : List Nat} {x : Nat}, x ∈ L → nOf L x < L.length
  | y :: L, x, h => by
    show (if y = x then 0 else nOf L x + 1) < L.length + 1
    by_cases e : y = x
    · rw [if_pos e]
      omega
    · rw [if_neg e]
      rcases List.mem_cons.mp h with q | q
      · exact absurd q.symm e
      · have := nOf_lt q
        omega
theorem nOf_map {rh : Nat → Nat} : ∀ {L : List Nat} {x : Nat}, (∀ y, y ∈ L → rh y = rh x → y = x) → nOf (L.map rh) (rh x) = nOf L x
  | [], _, _ => rfl
  | y :: L, x, h => by
    show (if rh y = rh x then 0 else nOf (L.map rh) (rh x) + 1) = (if y = x then 0 else nOf L x + 1)
    rw [nOf_map (fun z hz => h z (List.mem_cons_of_mem _ hz))]
    by_cases e : y = x
    · rw [if_pos e, if_pos (by rw [e])]
    · rw [if_neg e, if_neg (fun q => e (h y (List.mem_cons_self ..) q))]
/-- what is told: things that are there -/
def TLk2 (fs : List Fn) (s : Ac) : Prop := (∃ rk, GR s rk) ∧ aC s ≤ 3450 ∧ ∀ x, x < aC s → tWf fs (aF s x) ∧ tK (aF s x) < 8 ∧ tO (aF s x) < 100 ∧ DKx s x
def SR1 (i e : Nat) (a _j : Nat) : Prop := a = e ∨ a = 548 + 12 * i + 10 ∨ a = 548 + 12 * i + 11
theorem HT.hi {fs : List Fn} {m m' : Mm} {s : Ac} {rh : Nat → Nat} {S : Nat → Nat → Prop} (hk : TLk2 fs s) (h : HT m (aC s) (aF s) (aM s) rh) (f : Fr S m m') (hS : ∀ a j, S a j → 541 ≤ a ∧ a < 714) : HT m' (aC s) (aF s) (aM s) rh :=
  HD.fe (fs := fs) (fun x hx => (hk.2.2 x hx).1) h (Up.fr f (fun a j q => (hS a j q).2)) (fun a a1 a2 => f.fn (fun j q => by have := hS a j q; omega)) (f.i (fun q => by have := hS _ _ q; omega)) (fun p _ => by rw [f.r])
theorem kids_cl {s : Ac} {rk : Nat → Nat} (g : GR s rk) {z : Nat} (hz : z < aC s) (hr : root s z = z) (hc : Cl s z) (hk : tK (aF s z) = 1) : ∀ w, w ∈ kidsL s z → w < aC s ∧ Cl s w := fun w hw => by
  have hp : Pa s z w := by
    unfold kidsL at hw
    rcases List.mem_append.mp hw with q | q
    · exact Or.inl (Option.mem_toList.mp q)
    · exact Or.inr (Option.mem_toList.mp q)
  refine ⟨(g.pa hz (by omega) hp).1, hc.pa (by rw [hr]; exact hk) w (by rw [hr]; exact hp)⟩
theorem kids_len {s : Ac} {z : Nat} : (kidsL s z).length ≤ 2 := by
  unfold kidsL
  rw [List.length_append]
  have : ∀ o : Option Nat, o.toList.length ≤ 1 := fun o => by
    cases o with
    | none => exact Nat.zero_le _
    | some x => exact Nat.le_refl _
  have a := this (tA (aF s z))
  have b := this (tB (aF s z))
  omega
theorem V.drop2 {y : Mi} {pc : Nat} {a b c d e f g : Option Value} {x1 x2 : Option Value} {m : Mm} {K : Option Value ⊕ String → Mm → Prop} (k : V y pc [a, b, c, d, e, f, g, none, none] [] m K) : V y pc [a, b, c, d, e, f, g, x1, x2] [] m K := by
  refine V.weak (L' := [a, b, c, d, e, f, g, none, none]) rfl (fun i v q => ?_) k
  match i, q with
  | 0, q => exact q
  | 1, q => exact q
  | 2, q => exact q
  | 3, q => exact q
  | 4, q => exact q
  | 5, q => exact q
  | 6, q => exact q
  | 7, q => cases q
  | 8, q => cases q
  | n + 9, q => cases q
theorem s1_tellRow {fs : List Fn} {m : Mm} {s : Ac} {rh : Nat → Nat} {i e : Nat} {o : Option Nat} (hm : St m) (hi : i < 10) (hk : TLk2 fs s) (hT : HT m (aC s) (aF s) (aM s) rh) (he1 : 548 + 12 * i < e) (he2 : e < 548 + 12 * i + 10) (he3 : mS m e = (13, 40)) (ho : ∀ y, o = some y → y < aC s ∧ Cl s y) :
    C m1_tellRow [.ref (548 + 12 * i), .ref 13, .int (mo rh o), .ref e] m (fun r m' => r = .inl none ∧ Fr (SR1 i e) m m' ∧ ∀ p, p < 40 → mI m' e p = rowP (tellP s 40 o.toList []) p) := by
  refine C.of (by decide +kernel) (Nat.le_of_ble_eq_true rfl) rfl (w1_tellRow hm hi he3 ?_)
  obtain ⟨⟨rk, g⟩, hC, hX⟩ := id hk
  have inj : ∀ x y, x < aC s → y < aC s → rh x = rh y → x = y := hT.2.2.1
  have rlt : ∀ x, x < aC s → rh x < aC s := hT.2.1
  have hSR : ∀ a j, SR1 i e a j → 541 ≤ a ∧ a < 714 := fun a j q => by
    unfold SR1 at q
    omega
  have loop : ∀ (d p : Nat) (T L pre : List Nat) (M : Mm), p + d = 40 → St M → Fr (SR1 i e) m M → AHm M i rh T → T.length ≤ p + 1 → OPm M i (L.map rh) → L.length ≤ p → (∀ y, y ∈ T → y < aC s ∧ Cl s y) → (∀ y, y ∈ L → y < aC s) → tellP s 40 o.toList [] = pre ++ tellP s d T L → (pre.length = p ∨ (T = [] ∧ pre.length ≤ p)) → (∀ q, q < p → mI M e q = rowP (tellP s 40 o.toList []) q) →
      V m1_tellRow 23 [some (.ref (548 + 12 * i)), some (.ref 13), some (.int (mo rh o)), some (.ref e), some (.int (nn T.length)), some (.int (nn L.length)), some (.int (nn p)), none, none] [] M (fun r m' => r = .inl none ∧ Fr (SR1 i e) m m' ∧ ∀ p, p < 40 → mI m' e p = rowP (tellP s 40 o.toList []) p) := by
    intro d
    induction d with
    | zero =>
      intro p T L pre M hp sM fr hA hTl hO hL hTc hLc hR hpre hrow
      obtain rfl : p = 40 := by omega
      exact w1_tellRow_23 sM hi (by rw [fr.s]; exact he3) ⟨fun _ => ⟨rfl, fr, hrow⟩, fun q => (q (Int32.le_refl _)).elim⟩
    | succ d ih =>
      intro p T L pre M hp sM fr hA hTl hO hL hTc hLc hR hpre hrow
      have n40 : 40 ≤ nn p ↔ 40 ≤ p := nn_le (a := 40) (by decide) (by omega)
      have e0 : nn T.length = 0 ↔ T.length = 0 := nn_eq (b := 0) (by omega) (by decide)
      have tp : Int32.toNatClampNeg (nn p) = p := nn_tn (by omega)
      have hTM := HT.hi hk hT fr hSR
      have vp40 : vp_in (nn p) 40 := nn_in (by omega) (by omega)
      refine w1_tellRow_23 sM hi (by rw [fr.s]; exact he3) ?_
      rw [n40, e0, tp, nn_one]
      refine ⟨fun q => by omega, fun _ => ⟨fun ne => ?_, fun eT => ⟨vp40, ?_⟩⟩⟩
      · cases T with
        | nil => exact absurd rfl ne
        | cons y T =>
          obtain ⟨yl, yc⟩ := hTc y (List.mem_cons_self ..)
          have hTlen : (y :: T).length = T.length + 1 := rfl
          have hpp : nn (y :: T).length + (-1) = nn T.length := by
            rw [show nn (y :: T).length + (-1) = nn (y :: T).length - 1 from by rw [Int32.sub_eq_add_neg]]
            exact nn_pred (by omega)
          have tT : Int32.toNatClampNeg (nn T.length) = T.length := nn_tn (by omega)
          rw [hpp, tT]
          have hAy : mI M (548 + 12 * i + 11) T.length = nn (rh y) := hA T.length y (by
            rw [List.reverse_cons, List.getElem?_append_right (by rw [List.length_reverse]; exact Nat.le_refl _), List.length_reverse, Nat.sub_self]
            rfl)
          have hAT : AHm M i rh T := fun k x hx => hA k x (by
            rw [List.reverse_cons, List.getElem?_append_left (by rw [List.length_reverse] ; have := (List.getElem?_eq_some_iff.mp hx).1; rw [List.length_reverse] at this; omega)]
            exact hx)
          rw [hAy]
          have hpl : pre.length = p := by
            rcases hpre with q | ⟨q, _⟩
            · exact q
            · cases q
          obtain ⟨z, hz⟩ : ∃ z, z = root s y := ⟨_, rfl⟩
          have zl : z < aC s := by rw [hz]; exact g.lt yl
          have zr : root s z = z := by rw [hz]; exact g.rr yl
          have zc : Cl s z := yc.ro (by rw [zr]; exact hz.symm)
          have zk : tK (aF s z) < 2 := by
            have := (Cl_iff.mp zc).1
            rw [zr] at this
            exact this
          have tz : Int32.toNatClampNeg (nn (rh z)) = rh z := nn_tn (by have := rlt z zl; omega)
          have vz : vp_in (nn (rh z)) 3500 := nn_in (by have := rlt z zl; omega) (by have := rlt z zl; omega)
          refine ⟨nn_in (by omega) (by omega), C.mono (s10_find (rk := rk) sM hTM (by omega) (fun x hx => (hX x hx).2.1) g.lk yl) ?_⟩
          rintro o4 m4 ⟨rfl, e4⟩
          have e4 := e4.symm
          subst e4
          have hrr : rootF (aF s) (aC s) y = z := hz.symm
          rw [hrr]
          refine ⟨_, rfl, sM, vz, ?_⟩
          rw [tz]
          obtain ⟨f1, f2, f3, f4, f5⟩ := (hTM.2.2.2 z zl).1
          have hR' : tellP s (d + 1) (y :: T) L = if tK (aF s z) = 0 then (10 + nOf L z) :: tellP s d T (if z ∈ L then L else L ++ [z]) else tO (aF s z) :: tellP s d (kidsL s z ++ T) L := by
            rw [hz]
            rfl
          have wr : ∀ (M2 : Mm) (v : Nat) (R2 : List Nat), tellP s 40 o.toList [] = pre ++ v :: R2 → (∀ q, q < p → mI M2 e q = rowP (tellP s 40 o.toList []) q) → ∀ q, q < p + 1 → mI (mSetI M2 e p (nn v)) e q = rowP (tellP s 40 o.toList []) q := fun M2 v R2 hh hr q hq => by
            rw [mI_set]
            by_cases w : q = p
            · rw [if_pos ⟨rfl, w⟩, w, hh]
              unfold rowP
              rw [List.getElem?_append_right (by omega), hpl, Nat.sub_self]
              rfl
            · rw [if_neg (fun w2 => w w2.2)]
              exact hr q (by omega)
          refine ⟨fun w7 => ?_, fun w7 => ?_⟩
          · -- data
            have k1 : tK (aF s z) = 1 := by
              rcases Nat.lt_or_ge (tK (aF s z)) 1 with q | q
              · exfalso
                have : tK (aF s z) = 0 := by omega
                rw [this] at f1
                exact w7 f1
              · omega
            rw [if_neg (by omega)] at hR'
            rw [hR'] at hR
            refine ⟨vz, by rw [fr.s]; exact he3, vp40, ?_⟩
            rw [f2 (Or.inl k1)]
            have fr1 : Fr (SR1 i e) m (mSetI M e p (nn (tO (aF s z)))) := fr.set (Or.inl rfl)
            have hA1 : AHm (mSetI M e p (nn (tO (aF s z)))) i rh T := fun k x hx => by
              rw [mI_set, if_neg (by omega)]
              exact hAT k x hx
            refine C.mono (s1_lookAhead (fr1.st hm) hi (HT.hi hk hT fr1 hSR) hC zl k1 (hX z zl).2.2.2 hA1 (by omega)) ?_
            rintro o12 m12 ⟨rfl, fr12, hA12⟩
            have fr2 : Fr (SR1 i e) m m12 := fr1.trans (fr12.mono (fun a j q => Or.inr (Or.inr q)))
            refine ⟨_, rfl, fr2.st hm, ?_⟩
            have hlen : (kidsL s z ++ T).length ≤ p + 1 + 1 := by
              rw [List.length_append]
              have := kids_len (s := s) (z := z)
              omega
            refine V.drop2 (ih (p + 1) (kidsL s z ++ T) L (pre ++ [tO (aF s z)]) m12 (by omega) (fr2.st hm) fr2 hA12 hlen (fun k x hx => ?_) (by omega) (fun w hw => ?_) hLc (by rw [hR, List.append_assoc]; rfl) (Or.inl (by rw [List.length_append, hpl]; rfl)) (fun q hq => ?_))
            · rw [fr12.i (by omega), mI_set, if_neg (by omega)]
              exact hO k x hx
            · rcases List.mem_append.mp hw with q | q
              · exact kids_cl g zl zr zc k1 w q
              · exact hTc w (List.mem_cons_of_mem _ q)
            · rw [fr12.i (by omega)]
              exact wr M _ _ hR hrow q hq
          · -- unbound
            have k0 : tK (aF s z) = 0 := by
              rcases Nat.lt_or_ge (tK (aF s z)) 1 with q | q
              · omega
              · exfalso
                have : tK (aF s z) = 1 := by omega
                rw [this] at f1
                have w8 : nn (tg 1) = 7 := by
                  rw [← f1]
                  exact w7
                exact absurd w8 (by decide)
            rw [if_pos k0] at hR'
            rw [hR'] at hR
            have injz : ∀ x, x ∈ L → rh x = rh z → x = z := fun x hx q => inj x z (hLc x hx) zl q
            have memz : rh z ∈ L.map rh ↔ z ∈ L := ⟨fun q => by
              obtain ⟨x, x1, x2⟩ := List.mem_map.mp q
              rw [← injz x x1 x2]
              exact x1, fun q => List.mem_map_of_mem q⟩
            have key := s1_numberOfOpen (x := rh z) (L := L.map rh) sM hi hO (by rw [List.length_map]; omega) (fun x hx => by
              obtain ⟨x', x1, x2⟩ := List.mem_map.mp hx
              have := rlt x' (hLc x' x1)
              omega) (by have := rlt z zl; omega)
            rw [List.length_map, nOf_map injz] at key
            refine C.mono key ?_
            rintro o15 m15 ⟨rfl, fr15, hO15, hn1, hn2⟩
            have fr1 : Fr (SR1 i e) m m15 := fr.trans (fr15.mono (fun a j q => Or.inr (Or.inl q)))
            have s15 := fr1.st hm
            refine ⟨_, rfl, s15, ?_⟩
            have eqn : nn (nOf L z) = nn L.length ↔ nOf L z = L.length := nn_eq (by omega) (by omega)
            have e10 : (10 + nn (nOf L z) : Int32) = nn (10 + nOf L z) := by
              rw [show (10 : Int32) = nn 10 from rfl]
              exact nn_add _ _
            rw [eqn, e10]
            have fr2 : Fr (SR1 i e) m (mSetI m15 e p (nn (10 + nOf L z))) := fr1.set (Or.inl rfl)
            have hA2 : AHm (mSetI m15 e p (nn (10 + nOf L z))) i rh T := fun k x hx => by
              rw [mI_set, if_neg (by omega), fr15.i (by omega)]
              exact hAT k x hx
            have hrow2 : ∀ q, q < p + 1 → mI (mSetI m15 e p (nn (10 + nOf L z))) e q = rowP (tellP s 40 o.toList []) q := wr m15 _ _ hR (fun q hq => by
              rw [fr15.i (by omega)]
              exact hrow q hq)
            have fin : ∀ L2, (if z ∈ L then L else L ++ [z]) = L2 → V m1_tellRow 23 [some (.ref (548 + 12 * i)), some (.ref 13), some (.int (mo rh o)), some (.ref e), some (.int (nn T.length)), some (.int (nn L2.length)), some (.int (nn (p + 1))), some (.int (nn (rh z))), some (.int (nn (nOf L z)))] [] (mSetI m15 e p (nn (10 + nOf L z))) (fun r m' => r = .inl none ∧ Fr (SR1 i e) m m' ∧ ∀ p, p < 40 → mI m' e p = rowP (tellP s 40 o.toList []) p) := fun L2 hL2 => by
              rw [hL2] at hR
              refine V.drop2 (ih (p + 1) T L2 (pre ++ [10 + nOf L z]) _ (by omega) (fr2.st hm) fr2 hA2 (by omega) (fun k x hx => ?_) ?_ (fun w hw => hTc w (List.mem_cons_of_mem _ hw)) (fun x hx => ?_) (by rw [hR, List.append_assoc]; rfl) (Or.inl (by rw [List.length_append, hpl]; rfl)) hrow2)
              · rw [mI_set, if_neg (by omega)]
                refine hO15 k x ?_
                rw [← hL2] at hx
                by_cases w : z ∈ L
                · rw [if_pos w] at hx
                  rw [if_pos (memz.mpr w)]
                  exact hx
                · rw [if_neg w] at hx
                  rw [if_neg (fun q => w (memz.mp q))]
                  rw [List.map_append] at hx
                  exact hx
              · rw [← hL2]
                split
                · omega
                · rw [List.length_append]
                  show L.length + 1 ≤ p + 1
                  omega
              · rw [← hL2] at hx
                by_cases w : z ∈ L
                · rw [if_pos w] at hx
                  exact hLc x hx
                · rw [if_neg w] at hx
                  rcases List.mem_append.mp hx with q | q
                  · exact hLc x q
                  · rw [List.mem_singleton.mp q]
                    exact zl
            refine ⟨fun ne => ⟨by rw [fr1.s]; exact he3, vp40, ?_⟩, fun eq => ⟨by rw [fr1.s]; exact he3, vp40, ?_⟩⟩
            · have hz : z ∈ L := by
                by_cases w : z ∈ L
                · exact w
                · exact absurd (hn1 (fun q => w (memz.mp q))) ne
              exact fin L (if_pos hz)
            · have hz : z ∉ L := fun q => by
                have := nOf_lt q
                omega
              have := fin (L ++ [z]) (if_neg hz)
              rw [List.length_append] at this
              rw [eq, nn_one]
              rw [eq] at this
              exact this
      · have hT0 : T = [] := List.length_eq_zero_iff.mp eT
        subst hT0
        have fr1 : Fr (SR1 i e) m (mSetI M e p (-1)) := fr.set (Or.inl rfl)
        have hR0 : tellP s 40 o.toList [] = pre := by
          rw [hR]
          exact List.append_nil _
        have hpl : pre.length ≤ p := by omega
        refine ih (p + 1) [] L pre _ (by omega) (fr1.st hm) fr1 (fun k x hx => by cases hx) (Nat.zero_le _) (fun k x hx => ?_) (by omega) (fun y hy => (List.not_mem_nil hy).elim) hLc ?_ (Or.inr ⟨rfl, by omega⟩) (fun q hq => ?_)
        · rw [mI_set, if_neg (by omega)]
          exact hO k x hx
        · rw [hR0]
          cases d with
          | zero => exact (List.append_nil _).symm
          | succ d => exact (List.append_nil _).symm
        · rw [mI_set]
          by_cases w : q = p
          · rw [if_pos ⟨rfl, w⟩, w, hR0]
            unfold rowP
            rw [List.getElem?_eq_none hpl]
          · rw [if_neg (fun w2 => w w2.2)]
            exact hrow q (by omega)
  cases o with
  | none =>
    refine ⟨fun _ => ?_, fun q => (q (show (-1 : Int32) < 0 by decide)).elim⟩
    exact loop 40 0 [] [] [] m rfl hm Fr.refl (fun k x hx => by cases hx) (Nat.zero_le _) (fun k x hx => by cases hx) (Nat.zero_le _) (fun y hy => (List.not_mem_nil hy).elim) (fun y hy => (List.not_mem_nil hy).elim) rfl (Or.inl rfl) (fun q hq => by omega)
  | some y =>
    obtain ⟨yl, yc⟩ := ho y rfl
    have hb := rlt y yl
    have ng : ¬ nn (rh y) < 0 := by
      have : nn (rh y) < nn 0 ↔ rh y < 0 := nn_lt (by omega) (by decide)
      intro q
      have := this.mp q
      omega
    refine ⟨fun q => (ng q).elim, fun _ => ⟨nn_in (a := 0) (by decide) (by decide), ?_⟩⟩
    have fr1 : Fr (SR1 i e) m (mSetI m (548 + 12 * i + 11) 0 (nn (rh y))) := Fr.refl.set (Or.inr (Or.inr rfl))
    refine loop 40 0 [y] [] [] _ rfl (fr1.st hm) fr1 (fun k x hx => ?_) (Nat.le_refl _) (fun k x hx => by cases hx) (Nat.zero_le _) (fun w hw => ?_) (fun y hy => (List.not_mem_nil hy).elim) rfl (Or.inl rfl) (fun q hq => by omega)
    · have hx : [y][k]? = some x := hx
      cases k with
      | zero =>
        obtain rfl : y = x := Option.some.inj hx
        rw [mI_set, if_pos ⟨rfl, rfl⟩]
        rfl
      | succ k => cases hx
    · rw [List.mem_singleton.mp hw]
      exact ⟨yl, yc⟩
