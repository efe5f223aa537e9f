/-! small numbers as ints -/
def cI (k : Nat) : Int32 := Int32.ofNat k
/-- nobody, or a number -/
def cJ (k : Nat) : Int32 := match k with
  | 0 => -1
  | k + 1 => cI k
theorem cI_toInt {a : Nat} (h : a < 2147483648) : (cI a).toInt = a := Int32.toInt_ofNat_of_lt h
theorem cI_nat {a : Nat} (h : a < 2147483648) : (cI a).toNatClampNeg = a := by
  show (cI a).toInt.toNat = a
  rw [cI_toInt h]; rfl
theorem cI_inj {a b : Nat} (ha : a < 2147483648) (hb : b < 2147483648) : cI a = cI b ↔ a = b := by
  refine ⟨fun h => ?_, fun h => by rw [h]⟩
  have := congrArg Int32.toInt h
  rw [cI_toInt ha, cI_toInt hb] at this
  omega
theorem cI_lt {a b : Nat} (ha : a < 2147483648) (hb : b < 2147483648) : cI a < cI b ↔ a < b := by
  rw [Int32.lt_iff_toInt_lt, cI_toInt ha, cI_toInt hb]; omega
theorem cI_lt0 {a : Nat} (ha : a < 2147483648) : ¬ cI a < 0 := by
  rw [Int32.lt_iff_toInt_lt, cI_toInt ha]
  show ¬ ((a : Int) < 0)
  omega
theorem cI_add (a b : Nat) : cI a + cI b = cI (a + b) := (Int32.ofNat_add a b).symm
theorem cI_mul (a b : Nat) : cI a * cI b = cI (a * b) := (Int32.ofNat_mul a b).symm
theorem cI_sub {a b : Nat} (h : b ≤ a) : cI a - cI b = cI (a - b) := (Int32.ofNat_sub a b h).symm
theorem cI_ne1 {a : Nat} (ha : a < 2147483648) : cI a ≠ -1 := fun h => by
  have := congrArg Int32.toInt h
  rw [cI_toInt ha] at this
  have e : (-1 : Int32).toInt = -1 := by decide
  rw [e] at this
  omega
theorem cI_div {a b : Nat} (ha : a < 2147483648) (hb : b < 2147483648) : cI a / cI b = cI (a / b) := by
  have h1 : a / b < 2147483648 := Nat.lt_of_le_of_lt (Nat.div_le_self a b) ha
  apply Int32.toInt.inj
  rw [cI_toInt h1, Int32.toInt_div, cI_toInt ha, cI_toInt hb]
  have h2 : (a : Int).tdiv b = ((a / b : Nat) : Int) := by simp
  rw [h2]
  generalize a / b = x at h1
  exact Int.bmod_eq_of_le (by omega) (by omega)
theorem cI_rem {a b : Nat} (ha : a < 2147483648) (hb : b < 2147483648) : cI a - cI a / cI b * cI b = cI (a % b) := by
  rw [cI_div ha hb, cI_mul, cI_sub (Nat.div_mul_le_self a b)]
  congr 1
  have := Nat.div_add_mod a b
  rw [Nat.mul_comm] at this
  omega
theorem cI_ok {a N : Nat} (h : a < N) (hN : N < 2147483648) : ¬ (cI a < 0 ∨ N ≤ (cI a).toNatClampNeg) := by
  have ha : a < 2147483648 := Nat.lt_trans h hN
  rw [cI_nat ha]
  exact fun c => c.elim (cI_lt0 ha) (by omega)
/-- an int in a range is a small number -/
theorem cI_of {x : Int32} {N : Nat} (h0 : ¬ x < 0) (h1 : x < cI N) (hN : N < 2147483648) : ∃ a, a < N ∧ x = cI a := by
  rw [Int32.lt_iff_toInt_lt] at h0
  rw [Int32.lt_iff_toInt_lt, cI_toInt hN] at h1
  have h0 : ¬ x.toInt < 0 := h0
  refine ⟨x.toInt.toNat, by omega, ?_⟩
  apply Int32.toInt.inj
  rw [cI_toInt (by omega)]
  omega
theorem cI_of_le {x : Int32} {N : Nat} (h0 : ¬ x < 0) (h1 : ¬ cI N < x) (hN : N < 2147483648) : ∃ a, a ≤ N ∧ x = cI a := by
  rw [Int32.lt_iff_toInt_lt] at h0
  rw [Int32.lt_iff_toInt_lt, cI_toInt hN] at h1
  have h0 : ¬ x.toInt < 0 := h0
  refine ⟨x.toInt.toNat, by omega, ?_⟩
  apply Int32.toInt.inj
  rw [cI_toInt (by omega)]
  omega
theorem cJ_inj {a b : Nat} (ha : a < 2147483648) (hb : b < 2147483648) : cJ a = cJ b ↔ a = b := by
  cases a with
  | zero => cases b with
    | zero => simp
    | succ b => simp only [cJ]; exact ⟨fun h => absurd h.symm (cI_ne1 (by omega)), fun h => by cases h⟩
  | succ a => cases b with
    | zero => simp only [cJ]; exact ⟨fun h => absurd h (cI_ne1 (by omega)), fun h => by cases h⟩
    | succ b => simp only [cJ]; rw [cI_inj (by omega) (by omega)]; omega
theorem cL_eq (n : Nat) : (OfNat.ofNat n : Int32) = cI n := rfl
theorem cI_eqL {a n : Nat} (ha : a < 2147483648) (hn : n < 2147483648) : cI a = (OfNat.ofNat n : Int32) ↔ a = n := cI_inj ha hn
theorem cI_ltL {a n : Nat} (ha : a < 2147483648) (hn : n < 2147483648) : cI a < (OfNat.ofNat n : Int32) ↔ a < n := cI_lt ha hn
theorem cL_lt {a n : Nat} (hn : n < 2147483648) (ha : a < 2147483648) : (OfNat.ofNat n : Int32) < cI a ↔ n < a := cI_lt hn ha
theorem cI_addL (a n : Nat) : cI a + (OfNat.ofNat n : Int32) = cI (a + n) := cI_add a n
theorem cL_mul (n a : Nat) : (OfNat.ofNat n : Int32) * cI a = cI (n * a) := cI_mul n a
theorem cI_divL {a n : Nat} (ha : a < 2147483648) (hn : n < 2147483648) : cI a / (OfNat.ofNat n : Int32) = cI (a / n) := cI_div ha hn
theorem cI_subL {a n : Nat} (h : n ≤ a) : cI a - (OfNat.ofNat n : Int32) = cI (a - n) := cI_sub h
theorem cJ_succ (a : Nat) : cJ (a + 1) = cI a := rfl
theorem cJ_zero : cJ 0 = -1 := rfl
theorem cI_ltm {a : Nat} (ha : a < 2147483648) : ¬ cI a < -1 := fun h => by
  rw [Int32.lt_iff_toInt_lt, cI_toInt ha] at h
  have e : (-1 : Int32).toInt = -1 := by decide
  rw [e] at h
  omega
