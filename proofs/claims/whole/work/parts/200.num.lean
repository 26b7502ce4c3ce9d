set_option maxRecDepth 100000 in
theorem wb_tb (n : Nat) : (lN n).toBitVec = BitVec.ofNat 64 n := rfl
set_option maxRecDepth 100000 in
theorem wb_inj {a b : Int64} (h : a.toBitVec = b.toBitVec) : a = b := Int64.toBitVec_inj.mp h
set_option maxRecDepth 100000 in
theorem wb_tn {n : Nat} (h : n < 2 ^ 64) : (lN n).toBitVec.toNat = n := by rw [wb_tb, BitVec.toNat_ofNat, Nat.mod_eq_of_lt h]
set_option maxRecDepth 100000 in
theorem wb_of (x : Int64) : ∃ n, n < 2 ^ 64 ∧ x = lN n := ⟨x.toBitVec.toNat, x.toBitVec.isLt, wb_inj (by rw [wb_tb]; simp)⟩
set_option maxRecDepth 100000 in
theorem wb_of32 (x : Int32) : ∃ n, n < 2 ^ 32 ∧ x = nI n := ⟨x.toBitVec.toNat, x.toBitVec.isLt, Int32.toBitVec_inj.mp (by show _ = BitVec.ofNat 32 _; simp)⟩
set_option maxRecDepth 100000 in
theorem wb_c : ∀ k, k < 64 → ((nI k).toInt64 &&& 63) = lN k := by decide +kernel
set_option maxRecDepth 100000 in
theorem wb_cu : ∀ k, k < 64 → ((nI k).toInt64.toUInt64 &&& Int64.toUInt64 63) = UInt64.ofNat k := by decide +kernel
set_option maxRecDepth 100000 in
theorem wb_sm : ∀ k, k < 64 → (BitVec.ofNat 64 k).smod 64 = BitVec.ofNat 64 k := by decide +kernel
set_option maxRecDepth 100000 in
theorem wb_pw {a b : Nat} (h : a ≤ b) : 2 ^ b = 2 ^ a * 2 ^ (b - a) := by rw [← Nat.pow_add]; congr 1; omega
set_option maxRecDepth 100000 in
theorem wb_lt2 {a b : Nat} (h : a < b) : 2 ^ a < 2 ^ b := Nat.pow_lt_pow_right (by decide) h
set_option maxRecDepth 100000 in
theorem wb_mod (n : Nat) : lN n = lN (n % 2 ^ 64) := wb_inj (by rw [wb_tb, wb_tb]; apply BitVec.eq_of_toNat_eq; rw [BitVec.toNat_ofNat, BitVec.toNat_ofNat, Nat.mod_mod])
set_option maxRecDepth 100000 in
theorem wb_shr {n k : Nat} (hn : n < 2 ^ 64) (hk : k < 64) : ((lN n).toUInt64 >>> ((nI k).toInt64.toUInt64 &&& Int64.toUInt64 63)).toInt64 = lN (n / 2 ^ k) := by
  rw [wb_cu k hk]
  apply wb_inj
  apply BitVec.eq_of_toNat_eq
  show ((lN n).toUInt64 >>> UInt64.ofNat k).toNat = (BitVec.ofNat 64 _).toNat
  have h1 : (UInt64.ofNat k).toNat = k := by
    show (BitVec.ofNat 64 k).toNat = k
    rw [BitVec.toNat_ofNat, Nat.mod_eq_of_lt (by omega)]
  have h2 : (lN n).toUInt64.toNat = n := wb_tn hn
  rw [UInt64.toNat_shiftRight, h1, h2, Nat.mod_eq_of_lt hk, Nat.shiftRight_eq_div_pow, BitVec.toNat_ofNat, Nat.mod_eq_of_lt (Nat.lt_of_le_of_lt (Nat.div_le_self _ _) hn)]
set_option maxRecDepth 100000 in
theorem wb_shl (n : Nat) {k : Nat} (hk : k < 64) : lN n <<< ((nI k).toInt64 &&& 63) = lN (n * 2 ^ k) := by
  rw [wb_c k hk]
  apply wb_inj
  rw [Int64.toBitVec_shiftLeft, wb_tb, wb_tb, wb_tb, wb_sm k hk]
  apply BitVec.eq_of_toNat_eq
  rw [BitVec.shiftLeft_eq', BitVec.toNat_shiftLeft, BitVec.toNat_ofNat, BitVec.toNat_ofNat, BitVec.toNat_ofNat, Nat.mod_eq_of_lt (show k < 2 ^ 64 by omega), Nat.shiftLeft_eq, Nat.mul_mod, Nat.mod_mod, ← Nat.mul_mod]
set_option maxRecDepth 100000 in
theorem wb_and {a b : Nat} (ha : a < 2 ^ 64) (hb : b < 2 ^ 64) : lN a &&& lN b = lN (a &&& b) := by
  apply wb_inj
  rw [Int64.toBitVec_and, wb_tb, wb_tb, wb_tb]
  apply BitVec.eq_of_toNat_eq
  rw [BitVec.toNat_and, BitVec.toNat_ofNat, BitVec.toNat_ofNat, BitVec.toNat_ofNat, Nat.mod_eq_of_lt ha, Nat.mod_eq_of_lt hb, Nat.mod_eq_of_lt (Nat.and_lt_two_pow _ hb)]
set_option maxRecDepth 100000 in
theorem wb_or {a b : Nat} (ha : a < 2 ^ 64) (hb : b < 2 ^ 64) : lN a ||| lN b = lN (a ||| b) := by
  apply wb_inj
  rw [Int64.toBitVec_or, wb_tb, wb_tb, wb_tb]
  apply BitVec.eq_of_toNat_eq
  rw [BitVec.toNat_or, BitVec.toNat_ofNat, BitVec.toNat_ofNat, BitVec.toNat_ofNat, Nat.mod_eq_of_lt ha, Nat.mod_eq_of_lt hb, Nat.mod_eq_of_lt (Nat.or_lt_two_pow ha hb)]
set_option maxRecDepth 100000 in
theorem wb_mask {n k : Nat} (hn : n < 2 ^ 64) (hk : k < 64) : lN n &&& lN (2 ^ k - 1) = lN (n % 2 ^ k) := by
  rw [wb_and hn (by have := wb_lt2 hk; omega), Nat.and_two_pow_sub_one_eq_mod]
set_option maxRecDepth 100000 in
theorem wb_a1 {n : Nat} (hn : n < 2 ^ 64) : lN n &&& 1 = lN (n % 2) := wb_mask (k := 1) hn (by decide)
set_option maxRecDepth 100000 in
theorem wb_bit {n k : Nat} (hn : n < 2 ^ 64) (hk : k < 64) : ((lN n).toUInt64 >>> ((nI k).toInt64.toUInt64 &&& Int64.toUInt64 63)).toInt64 &&& 1 = lN (n / 2 ^ k % 2) := by
  rw [wb_shr hn hk, wb_a1 (Nat.lt_of_le_of_lt (Nat.div_le_self _ _) hn)]
/-! ===== order of ints, in all its forms, and through longs ===== -/
set_option maxRecDepth 100000 in
theorem fa_lt (a b : Int32) : a < b ↔ a.toInt < b.toInt := Int32.lt_iff_toInt_lt
set_option maxRecDepth 100000 in
theorem fa_le (a b : Int32) : a ≤ b ↔ a.toInt ≤ b.toInt := Int32.le_iff_toInt_le
set_option maxRecDepth 100000 in
theorem fa_eq (a b : Int32) : a = b ↔ a.toInt = b.toInt := Int32.toInt_inj.symm
set_option maxRecDepth 100000 in
theorem fa_lt64 (a b : Int64) : a < b ↔ a.toInt < b.toInt := Int64.lt_iff_toInt_lt
set_option maxRecDepth 100000 in
theorem fa_le64 (a b : Int64) : a ≤ b ↔ a.toInt ≤ b.toInt := Int64.le_iff_toInt_le
set_option maxRecDepth 100000 in
theorem fa_eq64 (a b : Int64) : a = b ↔ a.toInt = b.toInt := Int64.toInt_inj.symm
set_option maxRecDepth 100000 in
/-- a comparison of two ints taken as longs -/
theorem fa_wide_lt (a b : Int32) : a.toInt64 < b.toInt64 ↔ a < b := by rw [fa_lt64, fa_lt, Int32.toInt_toInt64, Int32.toInt_toInt64]
set_option maxRecDepth 100000 in
theorem fa_wide_le (a b : Int32) : a.toInt64 ≤ b.toInt64 ↔ a ≤ b := by rw [fa_le64, fa_le, Int32.toInt_toInt64, Int32.toInt_toInt64]
set_option maxRecDepth 100000 in
theorem fa_wide_eq (a b : Int32) : a.toInt64 = b.toInt64 ↔ a = b := by rw [fa_eq64, fa_eq, Int32.toInt_toInt64, Int32.toInt_toInt64]
set_option maxRecDepth 100000 in
/-- one strict comparison gives all the others -/
theorem fa_of_lt {a b : Int32} (h : a < b) : a ≤ b ∧ ¬ b ≤ a ∧ ¬ b < a ∧ a ≠ b ∧ b ≠ a := by
  rw [fa_lt] at h
  refine ⟨?_, ?_, ?_, ?_, ?_⟩
  · rw [fa_le]; omega
  · rw [fa_le]; omega
  · rw [fa_lt]; omega
  · intro e; rw [fa_eq] at e; omega
  · intro e; rw [fa_eq] at e; omega
set_option maxRecDepth 100000 in
theorem fa_of_nlt {a b : Int32} (h : ¬ a < b) : b ≤ a := by
  rw [fa_lt] at h
  rw [fa_le]
  omega
set_option maxRecDepth 100000 in
theorem fa_of_nle {a b : Int32} (h : ¬ a ≤ b) : b < a := by
  rw [fa_le] at h
  rw [fa_lt]
  omega
set_option maxRecDepth 100000 in
theorem fa_le_ne {a b : Int32} (h : a ≤ b) (h2 : a ≠ b) : a < b := by
  rw [fa_le] at h
  rw [fa_lt]
  have h3 : a.toInt ≠ b.toInt := fun e => h2 ((fa_eq a b).mpr e)
  omega
set_option maxRecDepth 100000 in
theorem fa_three (a b : Int32) : a < b ∨ a = b ∨ b < a := by
  rw [fa_lt, fa_lt, fa_eq]
  omega
set_option maxRecDepth 100000 in
theorem fa_trans {a b c : Int32} (h : a < b) (h2 : b ≤ c) : a < c := by
  rw [fa_lt] at *
  rw [fa_le] at h2
  omega
/-! ===== small literals as numbers ===== -/
set_option maxRecDepth 100000 in
theorem fa_lit (n : Nat) : (OfNat.ofNat n : Int32) = nI n := rfl
set_option maxRecDepth 100000 in
theorem fa_litL (n : Nat) : (OfNat.ofNat n : Int64) = lN n := rfl
/-! ===== bits of a number: 'or', masks, one bit ===== -/
set_option maxRecDepth 100000 in
theorem fa_and (a b : Nat) : nI a &&& nI b = nI (a &&& b) := by
  apply Int32.toBitVec_inj.1
  show BitVec.ofNat 32 a &&& BitVec.ofNat 32 b = BitVec.ofNat 32 (a &&& b)
  apply BitVec.eq_of_getLsbD_eq
  intro i hi
  simp [hi]
set_option maxRecDepth 100000 in
theorem fa_or (a b : Nat) : nI a ||| nI b = nI (a ||| b) := by
  apply Int32.toBitVec_inj.1
  show BitVec.ofNat 32 a ||| BitVec.ofNat 32 b = BitVec.ofNat 32 (a ||| b)
  apply BitVec.eq_of_getLsbD_eq
  intro i hi
  simp [hi]
set_option maxRecDepth 100000 in
/-- a remainder by a power of two, as a mask -/
theorem fa_mask (n k : Nat) : nI n &&& nI (2 ^ k - 1) = nI (n % 2 ^ k) := by rw [fa_and, Nat.and_two_pow_sub_one_eq_mod]
set_option maxRecDepth 100000 in
/-- 'or' of a high part and a low one that don't meet is their sum -/
theorem fa_or_sum {a k : Nat} (b : Nat) (h : a < 2 ^ k) : nI (2 ^ k * b) ||| nI a = nI (2 ^ k * b + a) := by rw [fa_or, Nat.two_pow_add_eq_or_of_lt h]
set_option maxRecDepth 100000 in
/-- one bit, by 'and' with a power of two -/
theorem fa_bit {n j : Nat} (hj : j < 31) : nI n &&& nI (2 ^ j) = 0 ↔ n.testBit j = false := by
  have h2 : (2 : Nat) ^ j < 2 ^ 31 := Nat.pow_lt_pow_right (by decide) hj
  have hle : n &&& 2 ^ j ≤ 2 ^ j := Nat.and_le_right
  have e : n &&& 2 ^ j = 0 ↔ n.testBit j = false := by
    constructor
    · intro h
      have h1 : (n &&& 2 ^ j).testBit j = false := by rw [h]; simp
      rw [Nat.testBit_and] at h1
      first | simpa using h1 | simpa [Nat.testBit_two_pow_self] using h1 | simpa [Nat.testBit_two_pow] using h1
    · intro h
      apply Nat.eq_of_testBit_eq
      intro i
      rw [Nat.testBit_and]
      by_cases hi : j = i
      · subst hi; simp [h]
      · first | (simp [Nat.testBit_two_pow, hi]; done) | (simp [Nat.testBit_two_pow_of_ne hi]; done)
  rw [fa_and]
  constructor
  · intro h
    apply e.mp
    rcases Nat.eq_zero_or_pos (n &&& 2 ^ j) with z | z
    · exact z
    · exact absurd h (nI_ne0 z (Nat.lt_of_le_of_lt hle h2))
  · intro h
    rw [e.mpr h]; exact nI_0
set_option maxRecDepth 100000 in
/-- a remainder by a power of two of a number that isn't negative, as Java divides -/
theorem fa_rem {a k : Nat} (ha : a < 2 ^ 31) (hk : k < 31) : nI a - nI a / nI (2 ^ k) * nI (2 ^ k) = nI (a % 2 ^ k) := pk_rem ha (Nat.two_pow_pos k) (Nat.pow_lt_pow_right (by decide) hk)
/-! numbers: literals as nI and lN, order, arithmetic; the pure programs' words over them -/
set_option maxRecDepth 100000 in
theorem litI (n : Nat) : (OfNat.ofNat n : Int32) = nI (OfNat.ofNat n) := congrArg (fun x => x) rfl
set_option maxRecDepth 100000 in
theorem litL (n : Nat) : (OfNat.ofNat n : Int64) = lN (OfNat.ofNat n) := congrArg (fun x => x) rfl
set_option maxRecDepth 100000 in
theorem st_e {α β : Type} (e : α) (k : α → Option β) : st e k = k e := rfl
set_option maxRecDepth 100000 in
theorem bd0_e {β : Type} (k : Option β) : bd0 (some ()) k = k := rfl
set_option maxRecDepth 100000 in
theorem bd1_e {A1 β : Type} (a1 : A1) (k : A1 → Option β) : bd1 (some a1) k = k a1 := rfl
set_option maxRecDepth 100000 in
theorem bd2_e {A1 A2 β : Type} (a1 : A1) (a2 : A2) (k : A1 → A2 → Option β) : bd2 (some (a1, a2)) k = k a1 a2 := rfl
set_option maxRecDepth 100000 in
theorem bd3_e {A1 A2 A3 β : Type} (a1 : A1) (a2 : A2) (a3 : A3) (k : A1 → A2 → A3 → Option β) : bd3 (some (a1, a2, a3)) k = k a1 a2 a3 := rfl
set_option maxRecDepth 100000 in
theorem bd4_e {A1 A2 A3 A4 β : Type} (a1 : A1) (a2 : A2) (a3 : A3) (a4 : A4) (k : A1 → A2 → A3 → A4 → Option β) : bd4 (some (a1, a2, a3, a4)) k = k a1 a2 a3 a4 := rfl
set_option maxRecDepth 100000 in
theorem bd5_e {A1 A2 A3 A4 A5 β : Type} (a1 : A1) (a2 : A2) (a3 : A3) (a4 : A4) (a5 : A5) (k : A1 → A2 → A3 → A4 → A5 → Option β) : bd5 (some (a1, a2, a3, a4, a5)) k = k a1 a2 a3 a4 a5 := rfl
set_option maxRecDepth 100000 in
theorem bd6_e {A1 A2 A3 A4 A5 A6 β : Type} (a1 : A1) (a2 : A2) (a3 : A3) (a4 : A4) (a5 : A5) (a6 : A6) (k : A1 → A2 → A3 → A4 → A5 → A6 → Option β) : bd6 (some (a1, a2, a3, a4, a5, a6)) k = k a1 a2 a3 a4 a5 a6 := rfl
set_option maxRecDepth 100000 in
theorem bd7_e {A1 A2 A3 A4 A5 A6 A7 β : Type} (a1 : A1) (a2 : A2) (a3 : A3) (a4 : A4) (a5 : A5) (a6 : A6) (a7 : A7) (k : A1 → A2 → A3 → A4 → A5 → A6 → A7 → Option β) : bd7 (some (a1, a2, a3, a4, a5, a6, a7)) k = k a1 a2 a3 a4 a5 a6 a7 := rfl
set_option maxRecDepth 100000 in
theorem bd8_e {A1 A2 A3 A4 A5 A6 A7 A8 β : Type} (a1 : A1) (a2 : A2) (a3 : A3) (a4 : A4) (a5 : A5) (a6 : A6) (a7 : A7) (a8 : A8) (k : A1 → A2 → A3 → A4 → A5 → A6 → A7 → A8 → Option β) : bd8 (some (a1, a2, a3, a4, a5, a6, a7, a8)) k = k a1 a2 a3 a4 a5 a6 a7 a8 := rfl
set_option maxRecDepth 100000 in
theorem bd9_e {A1 A2 A3 A4 A5 A6 A7 A8 A9 β : Type} (a1 : A1) (a2 : A2) (a3 : A3) (a4 : A4) (a5 : A5) (a6 : A6) (a7 : A7) (a8 : A8) (a9 : A9) (k : A1 → A2 → A3 → A4 → A5 → A6 → A7 → A8 → A9 → Option β) : bd9 (some (a1, a2, a3, a4, a5, a6, a7, a8, a9)) k = k a1 a2 a3 a4 a5 a6 a7 a8 a9 := rfl
set_option maxRecDepth 100000 in
theorem bd10_e {A1 A2 A3 A4 A5 A6 A7 A8 A9 A10 β : Type} (a1 : A1) (a2 : A2) (a3 : A3) (a4 : A4) (a5 : A5) (a6 : A6) (a7 : A7) (a8 : A8) (a9 : A9) (a10 : A10) (k : A1 → A2 → A3 → A4 → A5 → A6 → A7 → A8 → A9 → A10 → Option β) : bd10 (some (a1, a2, a3, a4, a5, a6, a7, a8, a9, a10)) k = k a1 a2 a3 a4 a5 a6 a7 a8 a9 a10 := rfl
set_option maxRecDepth 100000 in
theorem bd11_e {A1 A2 A3 A4 A5 A6 A7 A8 A9 A10 A11 β : Type} (a1 : A1) (a2 : A2) (a3 : A3) (a4 : A4) (a5 : A5) (a6 : A6) (a7 : A7) (a8 : A8) (a9 : A9) (a10 : A10) (a11 : A11) (k : A1 → A2 → A3 → A4 → A5 → A6 → A7 → A8 → A9 → A10 → A11 → Option β) : bd11 (some (a1, a2, a3, a4, a5, a6, a7, a8, a9, a10, a11)) k = k a1 a2 a3 a4 a5 a6 a7 a8 a9 a10 a11 := rfl
set_option maxRecDepth 100000 in
theorem bd12_e {A1 A2 A3 A4 A5 A6 A7 A8 A9 A10 A11 A12 β : Type} (a1 : A1) (a2 : A2) (a3 : A3) (a4 : A4) (a5 : A5) (a6 : A6) (a7 : A7) (a8 : A8) (a9 : A9) (a10 : A10) (a11 : A11) (a12 : A12) (k : A1 → A2 → A3 → A4 → A5 → A6 → A7 → A8 → A9 → A10 → A11 → A12 → Option β) : bd12 (some (a1, a2, a3, a4, a5, a6, a7, a8, a9, a10, a11, a12)) k = k a1 a2 a3 a4 a5 a6 a7 a8 a9 a10 a11 a12 := rfl
set_option maxRecDepth 100000 in
theorem bd13_e {A1 A2 A3 A4 A5 A6 A7 A8 A9 A10 A11 A12 A13 β : Type} (a1 : A1) (a2 : A2) (a3 : A3) (a4 : A4) (a5 : A5) (a6 : A6) (a7 : A7) (a8 : A8) (a9 : A9) (a10 : A10) (a11 : A11) (a12 : A12) (a13 : A13) (k : A1 → A2 → A3 → A4 → A5 → A6 → A7 → A8 → A9 → A10 → A11 → A12 → A13 → Option β) : bd13 (some (a1, a2, a3, a4, a5, a6, a7, a8, a9, a10, a11, a12, a13)) k = k a1 a2 a3 a4 a5 a6 a7 a8 a9 a10 a11 a12 a13 := rfl
set_option maxRecDepth 100000 in
theorem bd14_e {A1 A2 A3 A4 A5 A6 A7 A8 A9 A10 A11 A12 A13 A14 β : Type} (a1 : A1) (a2 : A2) (a3 : A3) (a4 : A4) (a5 : A5) (a6 : A6) (a7 : A7) (a8 : A8) (a9 : A9) (a10 : A10) (a11 : A11) (a12 : A12) (a13 : A13) (a14 : A14) (k : A1 → A2 → A3 → A4 → A5 → A6 → A7 → A8 → A9 → A10 → A11 → A12 → A13 → A14 → Option β) : bd14 (some (a1, a2, a3, a4, a5, a6, a7, a8, a9, a10, a11, a12, a13, a14)) k = k a1 a2 a3 a4 a5 a6 a7 a8 a9 a10 a11 a12 a13 a14 := rfl
set_option maxRecDepth 100000 in
theorem bd15_e {A1 A2 A3 A4 A5 A6 A7 A8 A9 A10 A11 A12 A13 A14 A15 β : Type} (a1 : A1) (a2 : A2) (a3 : A3) (a4 : A4) (a5 : A5) (a6 : A6) (a7 : A7) (a8 : A8) (a9 : A9) (a10 : A10) (a11 : A11) (a12 : A12) (a13 : A13) (a14 : A14) (a15 : A15) (k : A1 → A2 → A3 → A4 → A5 → A6 → A7 → A8 → A9 → A10 → A11 → A12 → A13 → A14 → A15 → Option β) : bd15 (some (a1, a2, a3, a4, a5, a6, a7, a8, a9, a10, a11, a12, a13, a14, a15)) k = k a1 a2 a3 a4 a5 a6 a7 a8 a9 a10 a11 a12 a13 a14 a15 := rfl
set_option maxRecDepth 100000 in
theorem bd16_e {A1 A2 A3 A4 A5 A6 A7 A8 A9 A10 A11 A12 A13 A14 A15 A16 β : Type} (a1 : A1) (a2 : A2) (a3 : A3) (a4 : A4) (a5 : A5) (a6 : A6) (a7 : A7) (a8 : A8) (a9 : A9) (a10 : A10) (a11 : A11) (a12 : A12) (a13 : A13) (a14 : A14) (a15 : A15) (a16 : A16) (k : A1 → A2 → A3 → A4 → A5 → A6 → A7 → A8 → A9 → A10 → A11 → A12 → A13 → A14 → A15 → A16 → Option β) : bd16 (some (a1, a2, a3, a4, a5, a6, a7, a8, a9, a10, a11, a12, a13, a14, a15, a16)) k = k a1 a2 a3 a4 a5 a6 a7 a8 a9 a10 a11 a12 a13 a14 a15 a16 := rfl
set_option maxRecDepth 100000 in
theorem bd17_e {A1 A2 A3 A4 A5 A6 A7 A8 A9 A10 A11 A12 A13 A14 A15 A16 A17 β : Type} (a1 : A1) (a2 : A2) (a3 : A3) (a4 : A4) (a5 : A5) (a6 : A6) (a7 : A7) (a8 : A8) (a9 : A9) (a10 : A10) (a11 : A11) (a12 : A12) (a13 : A13) (a14 : A14) (a15 : A15) (a16 : A16) (a17 : A17) (k : A1 → A2 → A3 → A4 → A5 → A6 → A7 → A8 → A9 → A10 → A11 → A12 → A13 → A14 → A15 → A16 → A17 → Option β) : bd17 (some (a1, a2, a3, a4, a5, a6, a7, a8, a9, a10, a11, a12, a13, a14, a15, a16, a17)) k = k a1 a2 a3 a4 a5 a6 a7 a8 a9 a10 a11 a12 a13 a14 a15 a16 a17 := rfl
set_option maxRecDepth 100000 in
theorem bd21_e {A1 A2 A3 A4 A5 A6 A7 A8 A9 A10 A11 A12 A13 A14 A15 A16 A17 A18 A19 A20 A21 β : Type} (a1 : A1) (a2 : A2) (a3 : A3) (a4 : A4) (a5 : A5) (a6 : A6) (a7 : A7) (a8 : A8) (a9 : A9) (a10 : A10) (a11 : A11) (a12 : A12) (a13 : A13) (a14 : A14) (a15 : A15) (a16 : A16) (a17 : A17) (a18 : A18) (a19 : A19) (a20 : A20) (a21 : A21) (k : A1 → A2 → A3 → A4 → A5 → A6 → A7 → A8 → A9 → A10 → A11 → A12 → A13 → A14 → A15 → A16 → A17 → A18 → A19 → A20 → A21 → Option β) : bd21 (some (a1, a2, a3, a4, a5, a6, a7, a8, a9, a10, a11, a12, a13, a14, a15, a16, a17, a18, a19, a20, a21)) k = k a1 a2 a3 a4 a5 a6 a7 a8 a9 a10 a11 a12 a13 a14 a15 a16 a17 a18 a19 a20 a21 := rfl
set_option maxRecDepth 100000 in
theorem ld_nI {α β : Type} {f : Nat → α} {n i : Nat} {k : α → Option β} (h : i < n) (hn : n < 2 ^ 31) : ld f n (nI i) k = k (f i) := by
  unfold ld
  rw [if_neg (nI_in h hn), nI_clamp (by omega)]
set_option maxRecDepth 100000 in
theorem sti_nI {β : Type} {f : Nat → Int32} {n i : Nat} {x : Int32} {k : (Nat → Int32) → Option β} (h : i < n) (hn : n < 2 ^ 31) : sti f n (nI i) x k = k (upd f i x) := by
  unfold sti
  rw [if_neg (nI_in h hn), nI_clamp (by omega)]
set_option maxRecDepth 100000 in
theorem stl_nI {β : Type} {f : Nat → Int64} {n i : Nat} {x : Int64} {k : (Nat → Int64) → Option β} (h : i < n) (hn : n < 2 ^ 31) : stl f n (nI i) x k = k (vp_updL f i x) := by
  unfold stl
  rw [if_neg (nI_in h hn), nI_clamp (by omega)]
set_option maxRecDepth 100000 in
theorem ckz_0 {β : Type} {k : Option β} : ckz 0 k = k := rfl
set_option maxRecDepth 100000 in
theorem ckz_1 {β : Type} {k : Option β} : ckz 1 k = k := rfl
set_option maxRecDepth 100000 in
theorem ckz_b {β : Type} {k : Option β} {c : Prop} [Decidable c] : ckz (if c then 1 else 0) k = k := by by_cases h : c <;> simp [h, ckz]
set_option maxRecDepth 100000 in
theorem ckc_nI {β : Type} {k : Option β} {n : Nat} (h : n < 65536) : ckc (nI n) k = k := by
  unfold ckc
  rw [if_pos]
  rw [pk_char, pk_tn (by omega), Nat.mod_eq_of_lt h]
set_option maxRecDepth 100000 in
theorem one_ne : ¬ (1 : Int32) = 0 := by decide
set_option maxRecDepth 100000 in
theorem fuel {d : Nat} (h : d < 1000000) : d < FU := h
set_option maxRecDepth 100000 in
theorem succ_of {d n : Nat} (h : d < n) : ∃ n', n = n' + 1 := ⟨n - 1, by omega⟩
set_option maxRecDepth 100000 in
theorem upd_e (f : Nat → Int32) (k j : Nat) (x : Int32) : upd f k x j = if j = k then x else f j := rfl
set_option maxRecDepth 100000 in
theorem updL_e (f : Nat → Int64) (k j : Nat) (x : Int64) : vp_updL f k x j = if j = k then x else f j := rfl
set_option maxRecDepth 100000 in
theorem lgc {a b : Nat} (ha : a < 2 ^ 63) (hb : b < 2 ^ 63) : lg_cmp (lN a) (lN b) = 0 ↔ a = b := by
  unfold lg_cmp
  by_cases h : a = b
  · subst h
    simp
  · have h1 : ¬ lN a = lN b := fun q => h ((pk_lEQ ha hb).mp q)
    rw [if_neg h1]
    by_cases h2 : lN a > lN b
    · simp [h2, h]
    · simp [h2, h]
set_option maxRecDepth 100000 in
theorem ush {n i : Nat} (hn : n < 2 ^ 64) (hi : i < 21) : ushrL (lN n) (nI (3 * i)) = lN (n / 8 ^ i) := by
  unfold ushrL
  rw [wb_shr hn (by omega), Nat.pow_mul]
set_option maxRecDepth 100000 in
theorem ushk {n k : Nat} (hn : n < 2 ^ 64) (hk : k < 64) : ushrL (lN n) (nI k) = lN (n / 2 ^ k) := by
  unfold ushrL
  rw [wb_shr hn hk]
set_option maxRecDepth 100000 in
theorem shlk (n : Nat) {k : Nat} (hk : k < 64) : shlL (lN n) (nI k) = lN (n * 2 ^ k) := by
  unfold shlL
  rw [wb_shl n hk]
set_option maxRecDepth 100000 in
theorem shl3 (n : Nat) {i : Nat} (hi : i < 21) : shlL (lN n) (nI (3 * i)) = lN (n * 8 ^ i) := by
  rw [shlk n (by omega), Nat.pow_mul]
set_option maxRecDepth 100000 in
theorem and7 (n : Nat) : nI n &&& nI 7 = nI (n % 8) := fa_mask n 3
set_option maxRecDepth 100000 in
theorem and7L {n : Nat} (hn : n < 2 ^ 64) : lN n &&& lN 7 = lN (n % 8) := wb_mask (k := 3) hn (by decide)
set_option maxRecDepth 100000 in
theorem or_add {a b k : Nat} (ha : a < 2 ^ k) : a ||| (b * 2 ^ k) = a + b * 2 ^ k := by
  rw [Nat.or_comm, Nat.mul_comm, ← Nat.two_pow_add_eq_or_of_lt ha, Nat.add_comm]
/-! a side packed into a long -/
def pq : List Nat → Nat
  | [] => 0
  | x :: xs => (x + 1) + 8 * pq xs
def okS (n : Nat) (xs : List Nat) : Prop := xs.length ≤ n ∧ ∀ x ∈ xs, x < 6
set_option maxRecDepth 100000 in
theorem okS.mono {a b : Nat} {xs : List Nat} (h : okS a xs) (hab : a ≤ b) : okS b xs := ⟨Nat.le_trans h.1 hab, h.2⟩
set_option maxRecDepth 100000 in
theorem okS.tail {n x : Nat} {xs : List Nat} (h : okS (n + 1) (x :: xs)) : okS n xs := ⟨by have := h.1; simp at this; omega, fun y hy => h.2 y (List.mem_cons_of_mem _ hy)⟩
set_option maxRecDepth 100000 in
theorem pq_lt : ∀ {n : Nat} {xs : List Nat}, okS n xs → pq xs < 8 ^ n
  | n, [], _ => by rw [pq]; exact Nat.pow_pos (by decide)
  | 0, x :: xs, h => by have := h.1; simp at this
  | n + 1, x :: xs, h => by
    have h1 := pq_lt (okS.tail h)
    have h2 := h.2 x List.mem_cons_self
    rw [pq, Nat.pow_succ]
    omega
set_option maxRecDepth 100000 in
theorem pq_lt13 {xs : List Nat} (h : okS 13 xs) : pq xs < 549755813888 := by
  have := pq_lt h
  have e : (8 : Nat) ^ 13 = 549755813888 := by decide
  omega
set_option maxRecDepth 100000 in
theorem pq_mod {x : Nat} {xs : List Nat} (h : x < 6) : pq (x :: xs) % 8 = x + 1 := by rw [pq]; omega
set_option maxRecDepth 100000 in
theorem pq_div {x : Nat} {xs : List Nat} (h : x < 6) : pq (x :: xs) / 8 = pq xs := by rw [pq]; omega
set_option maxRecDepth 100000 in
theorem pq_drop : ∀ (i : Nat) {xs : List Nat}, (∀ x ∈ xs, x < 6) → pq xs / 8 ^ i = pq (xs.drop i)
  | 0, xs, _ => by simp
  | i + 1, [], _ => by simp [pq]
  | i + 1, x :: xs, h => by
    rw [Nat.pow_succ', ← Nat.div_div_eq_div_mul, pq_div (h x List.mem_cons_self), List.drop_succ_cons]
    exact pq_drop i (fun y hy => h y (List.mem_cons_of_mem _ hy))
set_option maxRecDepth 100000 in
theorem pq_zero {xs : List Nat} (h : ∀ x ∈ xs, x < 6) : pq xs = 0 ↔ xs = [] := by
  cases xs with
  | nil => simp [pq]
  | cons x xs => simp [pq]
/-- the symbol at a place: its number and 1, or 0 behind the end -/
def sy (xs : List Nat) (i : Nat) : Nat := match xs[i]? with
  | none => 0
  | some x => x + 1
set_option maxRecDepth 100000 in
theorem pq_sy {xs : List Nat} (h : ∀ x ∈ xs, x < 6) (i : Nat) : pq xs / 8 ^ i % 8 = sy xs i := by
  rw [pq_drop i h]
  unfold sy
  rcases Nat.lt_or_ge i xs.length with hi | hi
  · rw [List.drop_eq_getElem_cons hi, List.getElem?_eq_getElem hi, pq_mod (h _ (List.getElem_mem hi))]
  · rw [List.drop_eq_nil_of_le hi, List.getElem?_eq_none hi, pq]
set_option maxRecDepth 100000 in
theorem sy_lt {xs : List Nat} (h : ∀ x ∈ xs, x < 6) (i : Nat) : sy xs i < 7 := by
  unfold sy
  split
  · decide
  · rename_i x hx
    have := h x (List.mem_of_getElem? hx)
    omega
set_option maxRecDepth 100000 in
theorem sy_in {xs : List Nat} {i : Nat} (hi : i < xs.length) : sy xs i = xs[i] + 1 := by unfold sy; rw [List.getElem?_eq_getElem hi]
set_option maxRecDepth 100000 in
theorem sy_out {xs : List Nat} {i : Nat} (hi : xs.length ≤ i) : sy xs i = 0 := by unfold sy; rw [List.getElem?_eq_none hi]
