/-! NUMBERS AS INTS -/
def nn (n : Nat) : Int32 := Int32.ofNat n
theorem nn_tn {a : Nat} (h : a < 2147483648) : (nn a).toNatClampNeg = a := Int32.toNatClampNeg_ofNat_of_lt h
theorem nn_ti {a : Nat} (h : a < 2147483648) : (nn a).toInt = a := Int32.toInt_ofNat_of_lt h
theorem nn_lt {a b : Nat} (ha : a < 2147483648) (hb : b < 2147483648) : nn a < nn b ↔ a < b := Int32.ofNat_lt_iff_lt ha hb
theorem nn_le {a b : Nat} (ha : a < 2147483648) (hb : b < 2147483648) : nn a ≤ nn b ↔ a ≤ b := Int32.ofNat_le_iff_le ha hb
theorem nn_eq {a b : Nat} (ha : a < 2147483648) (hb : b < 2147483648) : nn a = nn b ↔ a = b := by
  constructor
  · intro h
    have := congrArg Int32.toNatClampNeg h
    rwa [nn_tn ha, nn_tn hb] at this
  · intro h
    rw [h]
theorem nn_add (a b : Nat) : nn a + nn b = nn (a + b) := (Int32.ofNat_add a b).symm
theorem nn_mul (a b : Nat) : nn a * nn b = nn (a * b) := (Int32.ofNat_mul a b).symm
theorem nn_sub {a b : Nat} (h : b ≤ a) : nn a - nn b = nn (a - b) := (Int32.ofNat_sub a b h).symm
theorem nn_one (a : Nat) : nn a + 1 = nn (a + 1) := nn_add a 1
theorem nn_pred {a : Nat} (h : 1 ≤ a) : nn a - 1 = nn (a - 1) := nn_sub h
theorem nn_prd {a : Nat} (h : 1 ≤ a) : nn a + -1 = nn (a - 1) := by
  rw [← nn_pred h, Int32.sub_eq_add_neg]
theorem nn_neg {a : Nat} (h : a < 2147483648) : ¬ nn a < 0 := by
  intro q
  have := Int32.lt_iff_toInt_lt.mp q
  rw [nn_ti h] at this
  have h0 : (0 : Int32).toInt = 0 := rfl
  omega
theorem nn_in {a n : Nat} (h : a < 2147483648) (hn : a < n) : vp_in (nn a) n := by
  intro q
  rcases q with q | q
  · exact nn_neg h q
  · rw [nn_tn h] at q
    omega
theorem nn_m1 {a : Nat} (h : a < 2147483648) : nn a ≠ -1 := by
  intro q
  exact nn_neg h (by rw [q]; decide)
/-- a number or NONE -/
def no (r : Option Nat) : Int32 := match r with
  | none => -1
  | some n => nn n
theorem no_none : no none = -1 := rfl
theorem no_some (n : Nat) : no (some n) = nn n := rfl
theorem no_eq {a b : Option Nat} (ha : ∀ x, a = some x → x < 2147483648) (hb : ∀ x, b = some x → x < 2147483648) (h : no a = no b) : a = b := by
  cases a with
  | none => cases b with
    | none => rfl
    | some y => exact (nn_m1 (hb y rfl) h.symm).elim
  | some x => cases b with
    | none => exact (nn_m1 (ha x rfl) h).elim
    | some y => exact congrArg some ((nn_eq (ha x rfl) (hb y rfl)).mp h)
/-- an int that is not below 0 is a number -/
theorem nn_of {x : Int32} (h : ¬ x < 0) : x = nn x.toNatClampNeg := (Int32.ofNat_toNatClampNeg x (Int32.not_lt.mp h)).symm
theorem nn_bd (x : Int32) : x.toNatClampNeg < 2147483648 := Int32.toNatClampNeg_lt x
