/-! SEARCHES: which row is taken -/
def nxt (st : Int32) : Int32 := st * 1103515245 + 12345
def drw (st : Int32) : Nat := st.toUInt32.toNat / 65536
theorem drw_lt (st : Int32) : drw st < 65536 := by
  unfold drw
  have := UInt32.toNat_lt st.toUInt32
  omega
theorem drw_eq (st : Int32) : (st.toUInt32 >>> (Int32.toUInt32 16 &&& Int32.toUInt32 31)).toInt32 = nn (drw st) := by
  have h1 : Int32.toUInt32 16 &&& Int32.toUInt32 31 = 16 := by decide
  rw [h1]
  have h2 : st.toUInt32 >>> 16 = UInt32.ofNat (drw st) := by
    apply UInt32.toNat_inj.mp
    rw [UInt32.toNat_shiftRight, UInt32.toNat_ofNat_of_lt' (by have := drw_lt st; show drw st < 4294967296; omega)]
    show st.toUInt32.toNat >>> (16 % 32) = _
    rw [Nat.shiftRight_eq_div_pow]
    rfl
  rw [h2]
  rfl
theorem nn_and {q : Nat} (h : q < 65536) : nn q &&& 65535 = nn q := by
  apply Int32.toBitVec_inj.mp
  show BitVec.ofNat 32 q &&& 65535#32 = BitVec.ofNat 32 q
  apply BitVec.eq_of_toNat_eq
  rw [BitVec.toNat_and]
  show (BitVec.ofNat 32 q).toNat &&& (65536 - 1) = _
  rw [show (65536 : Nat) = 2 ^ 16 from rfl, Nat.and_two_pow_sub_one_eq_mod, BitVec.toNat_ofNat]
  omega
theorem nn_div {a b : Nat} (ha : a < 2147483648) (hb : b < 2147483648) : nn a / nn b = nn (a / b) := (Int32.ofNat_div ha hb).symm
theorem nn_rem {a b : Nat} (ha : a < 2147483648) (hb : b < 2147483648) : nn a - nn a / nn b * nn b = nn (a % b) := by
  rw [nn_div ha hb, nn_mul, nn_sub (Nat.div_mul_le_self a b)]
  congr 1
  have := Nat.div_add_mod a b
  rw [Nat.mul_comm] at this
  omega
def pick (o : Nat) (st : Int32) (n : Nat) : Nat := if o = 0 then n - 1 else if o = 2 then drw st % n else 0
theorem pick_lt {o : Nat} {st : Int32} {n : Nat} (h : 0 < n) : pick o st n < n := by
  unfold pick
  split
  · omega
  · split
    · exact Nat.mod_lt _ h
    · exact h
def bump (l : List Nat) (i : Nat) : List Nat := l.set i (l.getD i 0 + 1)
theorem bump_g {l : List Nat} {i j : Nat} (h : i < l.length) : (bump l i).getD j 0 = if j = i then l.getD i 0 + 1 else l.getD j 0 := by
  unfold bump
  by_cases e : j = i
  · rw [if_pos e, e, List.getD_eq_getElem?_getD, List.getElem?_set_self h]
    rfl
  · rw [if_neg e, List.getD_eq_getElem?_getD, List.getElem?_set_ne (Ne.symm e), List.getD_eq_getElem?_getD]
theorem bump_l {l : List Nat} {i : Nat} : (bump l i).length = l.length := List.length_set
/-- a search: runs that are still to be made, the draws, rows that are left, numbers, what is kept -/
noncomputable def srch (fs : List Fn) (g : Tr) (o : Nat) : Nat → Int32 → List (List Nat) → List Nat → List Kp → List Nat × List Kp
  | 0, _, left, nums, kept => (nums.set 5 (if left.length = 0 then 1 else 0), kept)
  | n + 1, st, left, nums, kept =>
    if left.length = 0 then (nums.set 5 1, kept)
    else if aE (finA fs g (left.getD (pick o (nxt st) left.length) [])) = 5 then
      srch fs g o n (nxt st) (left.eraseIdx (pick o (nxt st) left.length) ++ (List.range (aB (finA fs g (left.getD (pick o (nxt st) left.length) [])))).map (brW o (aB (finA fs g (left.getD (pick o (nxt st) left.length) []))) (left.getD (pick o (nxt st) left.length) []))) (bump nums 4) kept
    else srch fs g o n (nxt st) (left.eraseIdx (pick o (nxt st) left.length)) (bump (bump nums 4) (aE (finA fs g (left.getD (pick o (nxt st) left.length) [])) - 1)) (keepL (finA fs g (left.getD (pick o (nxt st) left.length) [])) (goR g) kept)
