def fx16 {A1 A2 A3 A4 A5 A6 A7 A8 A9 A10 A11 A12 A13 A14 A15 A16 β : Type} (body : (A1 → A2 → A3 → A4 → A5 → A6 → A7 → A8 → A9 → A10 → A11 → A12 → A13 → A14 → A15 → A16 → Option β) → A1 → A2 → A3 → A4 → A5 → A6 → A7 → A8 → A9 → A10 → A11 → A12 → A13 → A14 → A15 → A16 → Option β) : Nat → A1 → A2 → A3 → A4 → A5 → A6 → A7 → A8 → A9 → A10 → A11 → A12 → A13 → A14 → A15 → A16 → Option β
  | 0 => fun _ _ _ _ _ _ _ _ _ _ _ _ _ _ _ _ => none
  | n + 1 => fun a1 a2 a3 a4 a5 a6 a7 a8 a9 a10 a11 a12 a13 a14 a15 a16 => body (fx16 body n) a1 a2 a3 a4 a5 a6 a7 a8 a9 a10 a11 a12 a13 a14 a15 a16
theorem fx16_0 {A1 A2 A3 A4 A5 A6 A7 A8 A9 A10 A11 A12 A13 A14 A15 A16 β : Type} {body : (A1 → A2 → A3 → A4 → A5 → A6 → A7 → A8 → A9 → A10 → A11 → A12 → A13 → A14 → A15 → A16 → Option β) → A1 → A2 → A3 → A4 → A5 → A6 → A7 → A8 → A9 → A10 → A11 → A12 → A13 → A14 → A15 → A16 → Option β} {a1 : A1} {a2 : A2} {a3 : A3} {a4 : A4} {a5 : A5} {a6 : A6} {a7 : A7} {a8 : A8} {a9 : A9} {a10 : A10} {a11 : A11} {a12 : A12} {a13 : A13} {a14 : A14} {a15 : A15} {a16 : A16} {y : β} {P : Prop} (h : fx16 body 0 a1 a2 a3 a4 a5 a6 a7 a8 a9 a10 a11 a12 a13 a14 a15 a16 = some y) : P := by cases (show (none : Option β) = some y from h)
theorem fx16_s {A1 A2 A3 A4 A5 A6 A7 A8 A9 A10 A11 A12 A13 A14 A15 A16 β : Type} (body : (A1 → A2 → A3 → A4 → A5 → A6 → A7 → A8 → A9 → A10 → A11 → A12 → A13 → A14 → A15 → A16 → Option β) → A1 → A2 → A3 → A4 → A5 → A6 → A7 → A8 → A9 → A10 → A11 → A12 → A13 → A14 → A15 → A16 → Option β) (n : Nat) (a1 : A1) (a2 : A2) (a3 : A3) (a4 : A4) (a5 : A5) (a6 : A6) (a7 : A7) (a8 : A8) (a9 : A9) (a10 : A10) (a11 : A11) (a12 : A12) (a13 : A13) (a14 : A14) (a15 : A15) (a16 : A16) : fx16 body (n + 1) a1 a2 a3 a4 a5 a6 a7 a8 a9 a10 a11 a12 a13 a14 a15 a16 = body (fx16 body n) a1 a2 a3 a4 a5 a6 a7 a8 a9 a10 a11 a12 a13 a14 a15 a16 := rfl
def bd16 {A1 A2 A3 A4 A5 A6 A7 A8 A9 A10 A11 A12 A13 A14 A15 A16 β : Type} (m : Option (A1 × A2 × A3 × A4 × A5 × A6 × A7 × A8 × A9 × A10 × A11 × A12 × A13 × A14 × A15 × A16)) (k : A1 → A2 → A3 → A4 → A5 → A6 → A7 → A8 → A9 → A10 → A11 → A12 → A13 → A14 → A15 → A16 → Option β) : Option β := match m with
  | none => none
  | some (a1, a2, a3, a4, a5, a6, a7, a8, a9, a10, a11, a12, a13, a14, a15, a16) => k a1 a2 a3 a4 a5 a6 a7 a8 a9 a10 a11 a12 a13 a14 a15 a16
theorem bd16_to {A1 A2 A3 A4 A5 A6 A7 A8 A9 A10 A11 A12 A13 A14 A15 A16 β : Type} {m : Option (A1 × A2 × A3 × A4 × A5 × A6 × A7 × A8 × A9 × A10 × A11 × A12 × A13 × A14 × A15 × A16)} {k : A1 → A2 → A3 → A4 → A5 → A6 → A7 → A8 → A9 → A10 → A11 → A12 → A13 → A14 → A15 → A16 → Option β} {y : β} (h : bd16 m k = some y) : ∃ (a1 : A1) (a2 : A2) (a3 : A3) (a4 : A4) (a5 : A5) (a6 : A6) (a7 : A7) (a8 : A8) (a9 : A9) (a10 : A10) (a11 : A11) (a12 : A12) (a13 : A13) (a14 : A14) (a15 : A15) (a16 : A16), m = some (a1, a2, a3, a4, a5, a6, a7, a8, a9, a10, a11, a12, a13, a14, a15, a16) ∧ k a1 a2 a3 a4 a5 a6 a7 a8 a9 a10 a11 a12 a13 a14 a15 a16 = some y := by
  cases m with
  | none => cases h
  | some v => exact ⟨v.1, v.2.1, v.2.2.1, v.2.2.2.1, v.2.2.2.2.1, v.2.2.2.2.2.1, v.2.2.2.2.2.2.1, v.2.2.2.2.2.2.2.1, v.2.2.2.2.2.2.2.2.1, v.2.2.2.2.2.2.2.2.2.1, v.2.2.2.2.2.2.2.2.2.2.1, v.2.2.2.2.2.2.2.2.2.2.2.1, v.2.2.2.2.2.2.2.2.2.2.2.2.1, v.2.2.2.2.2.2.2.2.2.2.2.2.2.1, v.2.2.2.2.2.2.2.2.2.2.2.2.2.2.1, v.2.2.2.2.2.2.2.2.2.2.2.2.2.2.2, rfl, h⟩
def fx17 {A1 A2 A3 A4 A5 A6 A7 A8 A9 A10 A11 A12 A13 A14 A15 A16 A17 β : Type} (body : (A1 → A2 → A3 → A4 → A5 → A6 → A7 → A8 → A9 → A10 → A11 → A12 → A13 → A14 → A15 → A16 → A17 → Option β) → A1 → A2 → A3 → A4 → A5 → A6 → A7 → A8 → A9 → A10 → A11 → A12 → A13 → A14 → A15 → A16 → A17 → Option β) : Nat → A1 → A2 → A3 → A4 → A5 → A6 → A7 → A8 → A9 → A10 → A11 → A12 → A13 → A14 → A15 → A16 → A17 → Option β
  | 0 => fun _ _ _ _ _ _ _ _ _ _ _ _ _ _ _ _ _ => none
  | n + 1 => fun a1 a2 a3 a4 a5 a6 a7 a8 a9 a10 a11 a12 a13 a14 a15 a16 a17 => body (fx17 body n) a1 a2 a3 a4 a5 a6 a7 a8 a9 a10 a11 a12 a13 a14 a15 a16 a17
theorem fx17_0 {A1 A2 A3 A4 A5 A6 A7 A8 A9 A10 A11 A12 A13 A14 A15 A16 A17 β : Type} {body : (A1 → A2 → A3 → A4 → A5 → A6 → A7 → A8 → A9 → A10 → A11 → A12 → A13 → A14 → A15 → A16 → A17 → Option β) → A1 → A2 → A3 → A4 → A5 → A6 → A7 → A8 → A9 → A10 → A11 → A12 → A13 → A14 → A15 → A16 → A17 → Option β} {a1 : A1} {a2 : A2} {a3 : A3} {a4 : A4} {a5 : A5} {a6 : A6} {a7 : A7} {a8 : A8} {a9 : A9} {a10 : A10} {a11 : A11} {a12 : A12} {a13 : A13} {a14 : A14} {a15 : A15} {a16 : A16} {a17 : A17} {y : β} {P : Prop} (h : fx17 body 0 a1 a2 a3 a4 a5 a6 a7 a8 a9 a10 a11 a12 a13 a14 a15 a16 a17 = some y) : P := by cases (show (none : Option β) = some y from h)
theorem fx17_s {A1 A2 A3 A4 A5 A6 A7 A8 A9 A10 A11 A12 A13 A14 A15 A16 A17 β : Type} (body : (A1 → A2 → A3 → A4 → A5 → A6 → A7 → A8 → A9 → A10 → A11 → A12 → A13 → A14 → A15 → A16 → A17 → Option β) → A1 → A2 → A3 → A4 → A5 → A6 → A7 → A8 → A9 → A10 → A11 → A12 → A13 → A14 → A15 → A16 → A17 → Option β) (n : Nat) (a1 : A1) (a2 : A2) (a3 : A3) (a4 : A4) (a5 : A5) (a6 : A6) (a7 : A7) (a8 : A8) (a9 : A9) (a10 : A10) (a11 : A11) (a12 : A12) (a13 : A13) (a14 : A14) (a15 : A15) (a16 : A16) (a17 : A17) : fx17 body (n + 1) a1 a2 a3 a4 a5 a6 a7 a8 a9 a10 a11 a12 a13 a14 a15 a16 a17 = body (fx17 body n) a1 a2 a3 a4 a5 a6 a7 a8 a9 a10 a11 a12 a13 a14 a15 a16 a17 := rfl
def bd17 {A1 A2 A3 A4 A5 A6 A7 A8 A9 A10 A11 A12 A13 A14 A15 A16 A17 β : Type} (m : Option (A1 × A2 × A3 × A4 × A5 × A6 × A7 × A8 × A9 × A10 × A11 × A12 × A13 × A14 × A15 × A16 × A17)) (k : A1 → A2 → A3 → A4 → A5 → A6 → A7 → A8 → A9 → A10 → A11 → A12 → A13 → A14 → A15 → A16 → A17 → Option β) : Option β := match m with
  | none => none
  | some (a1, a2, a3, a4, a5, a6, a7, a8, a9, a10, a11, a12, a13, a14, a15, a16, a17) => k a1 a2 a3 a4 a5 a6 a7 a8 a9 a10 a11 a12 a13 a14 a15 a16 a17
theorem bd17_to {A1 A2 A3 A4 A5 A6 A7 A8 A9 A10 A11 A12 A13 A14 A15 A16 A17 β : Type} {m : Option (A1 × A2 × A3 × A4 × A5 × A6 × A7 × A8 × A9 × A10 × A11 × A12 × A13 × A14 × A15 × A16 × A17)} {k : A1 → A2 → A3 → A4 → A5 → A6 → A7 → A8 → A9 → A10 → A11 → A12 → A13 → A14 → A15 → A16 → A17 → Option β} {y : β} (h : bd17 m k = some y) : ∃ (a1 : A1) (a2 : A2) (a3 : A3) (a4 : A4) (a5 : A5) (a6 : A6) (a7 : A7) (a8 : A8) (a9 : A9) (a10 : A10) (a11 : A11) (a12 : A12) (a13 : A13) (a14 : A14) (a15 : A15) (a16 : A16) (a17 : A17), m = some (a1, a2, a3, a4, a5, a6, a7, a8, a9, a10, a11, a12, a13, a14, a15, a16, a17) ∧ k a1 a2 a3 a4 a5 a6 a7 a8 a9 a10 a11 a12 a13 a14 a15 a16 a17 = some y := by
  cases m with
  | none => cases h
  | some v => exact ⟨v.1, v.2.1, v.2.2.1, v.2.2.2.1, v.2.2.2.2.1, v.2.2.2.2.2.1, v.2.2.2.2.2.2.1, v.2.2.2.2.2.2.2.1, v.2.2.2.2.2.2.2.2.1, v.2.2.2.2.2.2.2.2.2.1, v.2.2.2.2.2.2.2.2.2.2.1, v.2.2.2.2.2.2.2.2.2.2.2.1, v.2.2.2.2.2.2.2.2.2.2.2.2.1, v.2.2.2.2.2.2.2.2.2.2.2.2.2.1, v.2.2.2.2.2.2.2.2.2.2.2.2.2.2.1, v.2.2.2.2.2.2.2.2.2.2.2.2.2.2.2.1, v.2.2.2.2.2.2.2.2.2.2.2.2.2.2.2.2, rfl, h⟩
def fx21 {A1 A2 A3 A4 A5 A6 A7 A8 A9 A10 A11 A12 A13 A14 A15 A16 A17 A18 A19 A20 A21 β : Type} (body : (A1 → A2 → A3 → A4 → A5 → A6 → A7 → A8 → A9 → A10 → A11 → A12 → A13 → A14 → A15 → A16 → A17 → A18 → A19 → A20 → A21 → Option β) → A1 → A2 → A3 → A4 → A5 → A6 → A7 → A8 → A9 → A10 → A11 → A12 → A13 → A14 → A15 → A16 → A17 → A18 → A19 → A20 → A21 → Option β) : Nat → A1 → A2 → A3 → A4 → A5 → A6 → A7 → A8 → A9 → A10 → A11 → A12 → A13 → A14 → A15 → A16 → A17 → A18 → A19 → A20 → A21 → Option β
  | 0 => fun _ _ _ _ _ _ _ _ _ _ _ _ _ _ _ _ _ _ _ _ _ => none
  | n + 1 => fun a1 a2 a3 a4 a5 a6 a7 a8 a9 a10 a11 a12 a13 a14 a15 a16 a17 a18 a19 a20 a21 => body (fx21 body n) a1 a2 a3 a4 a5 a6 a7 a8 a9 a10 a11 a12 a13 a14 a15 a16 a17 a18 a19 a20 a21
theorem fx21_0 {A1 A2 A3 A4 A5 A6 A7 A8 A9 A10 A11 A12 A13 A14 A15 A16 A17 A18 A19 A20 A21 β : Type} {body : (A1 → A2 → A3 → A4 → A5 → A6 → A7 → A8 → A9 → A10 → A11 → A12 → A13 → A14 → A15 → A16 → A17 → A18 → A19 → A20 → A21 → Option β) → A1 → A2 → A3 → A4 → A5 → A6 → A7 → A8 → A9 → A10 → A11 → A12 → A13 → A14 → A15 → A16 → A17 → A18 → A19 → A20 → A21 → Option β} {a1 : A1} {a2 : A2} {a3 : A3} {a4 : A4} {a5 : A5} {a6 : A6} {a7 : A7} {a8 : A8} {a9 : A9} {a10 : A10} {a11 : A11} {a12 : A12} {a13 : A13} {a14 : A14} {a15 : A15} {a16 : A16} {a17 : A17} {a18 : A18} {a19 : A19} {a20 : A20} {a21 : A21} {y : β} {P : Prop} (h : fx21 body 0 a1 a2 a3 a4 a5 a6 a7 a8 a9 a10 a11 a12 a13 a14 a15 a16 a17 a18 a19 a20 a21 = some y) : P := by cases (show (none : Option β) = some y from h)
theorem fx21_s {A1 A2 A3 A4 A5 A6 A7 A8 A9 A10 A11 A12 A13 A14 A15 A16 A17 A18 A19 A20 A21 β : Type} (body : (A1 → A2 → A3 → A4 → A5 → A6 → A7 → A8 → A9 → A10 → A11 → A12 → A13 → A14 → A15 → A16 → A17 → A18 → A19 → A20 → A21 → Option β) → A1 → A2 → A3 → A4 → A5 → A6 → A7 → A8 → A9 → A10 → A11 → A12 → A13 → A14 → A15 → A16 → A17 → A18 → A19 → A20 → A21 → Option β) (n : Nat) (a1 : A1) (a2 : A2) (a3 : A3) (a4 : A4) (a5 : A5) (a6 : A6) (a7 : A7) (a8 : A8) (a9 : A9) (a10 : A10) (a11 : A11) (a12 : A12) (a13 : A13) (a14 : A14) (a15 : A15) (a16 : A16) (a17 : A17) (a18 : A18) (a19 : A19) (a20 : A20) (a21 : A21) : fx21 body (n + 1) a1 a2 a3 a4 a5 a6 a7 a8 a9 a10 a11 a12 a13 a14 a15 a16 a17 a18 a19 a20 a21 = body (fx21 body n) a1 a2 a3 a4 a5 a6 a7 a8 a9 a10 a11 a12 a13 a14 a15 a16 a17 a18 a19 a20 a21 := rfl
def bd21 {A1 A2 A3 A4 A5 A6 A7 A8 A9 A10 A11 A12 A13 A14 A15 A16 A17 A18 A19 A20 A21 β : Type} (m : Option (A1 × A2 × A3 × A4 × A5 × A6 × A7 × A8 × A9 × A10 × A11 × A12 × A13 × A14 × A15 × A16 × A17 × A18 × A19 × A20 × A21)) (k : A1 → A2 → A3 → A4 → A5 → A6 → A7 → A8 → A9 → A10 → A11 → A12 → A13 → A14 → A15 → A16 → A17 → A18 → A19 → A20 → A21 → Option β) : Option β := match m with
  | none => none
  | some (a1, a2, a3, a4, a5, a6, a7, a8, a9, a10, a11, a12, a13, a14, a15, a16, a17, a18, a19, a20, a21) => k a1 a2 a3 a4 a5 a6 a7 a8 a9 a10 a11 a12 a13 a14 a15 a16 a17 a18 a19 a20 a21
theorem bd21_to {A1 A2 A3 A4 A5 A6 A7 A8 A9 A10 A11 A12 A13 A14 A15 A16 A17 A18 A19 A20 A21 β : Type} {m : Option (A1 × A2 × A3 × A4 × A5 × A6 × A7 × A8 × A9 × A10 × A11 × A12 × A13 × A14 × A15 × A16 × A17 × A18 × A19 × A20 × A21)} {k : A1 → A2 → A3 → A4 → A5 → A6 → A7 → A8 → A9 → A10 → A11 → A12 → A13 → A14 → A15 → A16 → A17 → A18 → A19 → A20 → A21 → Option β} {y : β} (h : bd21 m k = some y) : ∃ (a1 : A1) (a2 : A2) (a3 : A3) (a4 : A4) (a5 : A5) (a6 : A6) (a7 : A7) (a8 : A8) (a9 : A9) (a10 : A10) (a11 : A11) (a12 : A12) (a13 : A13) (a14 : A14) (a15 : A15) (a16 : A16) (a17 : A17) (a18 : A18) (a19 : A19) (a20 : A20) (a21 : A21), m = some (a1, a2, a3, a4, a5, a6, a7, a8, a9, a10, a11, a12, a13, a14, a15, a16, a17, a18, a19, a20, a21) ∧ k a1 a2 a3 a4 a5 a6 a7 a8 a9 a10 a11 a12 a13 a14 a15 a16 a17 a18 a19 a20 a21 = some y := by
  cases m with
  | none => cases h
  | some v => exact ⟨v.1, v.2.1, v.2.2.1, v.2.2.2.1, v.2.2.2.2.1, v.2.2.2.2.2.1, v.2.2.2.2.2.2.1, v.2.2.2.2.2.2.2.1, v.2.2.2.2.2.2.2.2.1, v.2.2.2.2.2.2.2.2.2.1, v.2.2.2.2.2.2.2.2.2.2.1, v.2.2.2.2.2.2.2.2.2.2.2.1, v.2.2.2.2.2.2.2.2.2.2.2.2.1, v.2.2.2.2.2.2.2.2.2.2.2.2.2.1, v.2.2.2.2.2.2.2.2.2.2.2.2.2.2.1, v.2.2.2.2.2.2.2.2.2.2.2.2.2.2.2.1, v.2.2.2.2.2.2.2.2.2.2.2.2.2.2.2.2.1, v.2.2.2.2.2.2.2.2.2.2.2.2.2.2.2.2.2.1, v.2.2.2.2.2.2.2.2.2.2.2.2.2.2.2.2.2.2.1, v.2.2.2.2.2.2.2.2.2.2.2.2.2.2.2.2.2.2.2.1, v.2.2.2.2.2.2.2.2.2.2.2.2.2.2.2.2.2.2.2.2, rfl, h⟩
def wX0 (g : GP) (aA aA_letters aA_lengths : Nat) (A_letters : Nat → Int64) (A_lengths : Nat → Int32) : va_W := [(aA, .inr (0, [.ref aA_letters, .ref aA_lengths])), (aA_letters, .inl (g.2.1 1, 8, .inr (.inl A_letters))), (aA_lengths, .inl (g.2.1 0, 8, .inl A_lengths))]
def wX1 (g : GP) (aB aB_first aQ aQ_weights aQ_possible aC aC_variables aC_relations aC_numbers aA aA_letters aA_lengths : Nat) (B_left : Int64) (B_right : Int64) (B_found : Int32) (B_least : Int32) (B_first : Nat → Int32) (Q_letterSurplus : Int32) (Q_weights : Nat → Int32) (Q_possible : Nat → Int32) (C_size : Int32) (C_variables : Nat → Int32) (C_relations : Nat → Int32) (C_numbers : Nat → Int32) (A_letters : Nat → Int64) (A_lengths : Nat → Int32) : va_W := [(aB, .inr (1, [.ref aQ, .ref aA, .ref aB_first, .long B_left, .long B_right, .int B_found, .int B_least])), (aB_first, .inl (g.2.1 0, 4, .inl B_first)), (aQ, .inr (6, [.ref aC, .ref aQ_weights, .ref aQ_possible, .int Q_letterSurplus])), (aQ_weights, .inl (g.2.1 0, 4, .inl Q_weights)), (aQ_possible, .inl (g.2.1 0, 4, .inl Q_possible)), (aC, .inr (5, [.ref aC_variables, .ref aC_relations, .ref aC_numbers, .int C_size])), (aC_variables, .inl (g.2.1 0, 4, .inl C_variables)), (aC_relations, .inl (g.2.1 2, 4, .inl C_relations)), (aC_numbers, .inl (g.2.1 0, 4, .inl C_numbers)), (aA, .inr (0, [.ref aA_letters, .ref aA_lengths])), (aA_letters, .inl (g.2.1 1, 8, .inr (.inl A_letters))), (aA_lengths, .inl (g.2.1 0, 8, .inl A_lengths))]
def wX2 (g : GP) (aE : Nat) (E_left : Int64) (E_right : Int64) : va_W := [(aE, .inr (2, [.long E_left, .long E_right]))]
def wX3 (g : GP) (aT aT_characters : Nat) (T_size : Int32) (T_characters : Nat → Int32) : va_W := [(aT, .inr (3, [.ref aT_characters, .int T_size])), (aT_characters, .inl (g.2.1 2, 40, .inl T_characters))]
def wX4 (g : GP) (aH aH_lefts aH_rights : Nat) (H_size : Int32) (H_lefts : Nat → Int64) (H_rights : Nat → Int64) : va_W := [(aH, .inr (4, [.ref aH_lefts, .ref aH_rights, .int H_size])), (aH_lefts, .inl (g.2.1 1, 14, .inr (.inl H_lefts))), (aH_rights, .inl (g.2.1 1, 14, .inr (.inl H_rights)))]
def wX5 (g : GP) (aC aC_variables aC_relations aC_numbers : Nat) (C_size : Int32) (C_variables : Nat → Int32) (C_relations : Nat → Int32) (C_numbers : Nat → Int32) : va_W := [(aC, .inr (5, [.ref aC_variables, .ref aC_relations, .ref aC_numbers, .int C_size])), (aC_variables, .inl (g.2.1 0, 4, .inl C_variables)), (aC_relations, .inl (g.2.1 2, 4, .inl C_relations)), (aC_numbers, .inl (g.2.1 0, 4, .inl C_numbers))]
def wX6 (g : GP) (aQ aQ_weights aQ_possible aC aC_variables aC_relations aC_numbers : Nat) (Q_letterSurplus : Int32) (Q_weights : Nat → Int32) (Q_possible : Nat → Int32) (C_size : Int32) (C_variables : Nat → Int32) (C_relations : Nat → Int32) (C_numbers : Nat → Int32) : va_W := [(aQ, .inr (6, [.ref aC, .ref aQ_weights, .ref aQ_possible, .int Q_letterSurplus])), (aQ_weights, .inl (g.2.1 0, 4, .inl Q_weights)), (aQ_possible, .inl (g.2.1 0, 4, .inl Q_possible)), (aC, .inr (5, [.ref aC_variables, .ref aC_relations, .ref aC_numbers, .int C_size])), (aC_variables, .inl (g.2.1 0, 4, .inl C_variables)), (aC_relations, .inl (g.2.1 2, 4, .inl C_relations)), (aC_numbers, .inl (g.2.1 0, 4, .inl C_numbers))]
def wX7 (g : GP) (aN aN_lefts aN_rights aN_parents aN_rules aN_depths : Nat) (N_size : Int32) (N_solved : Int32) (N_dropped : Int32) (N_lefts : Nat → Int64) (N_rights : Nat → Int64) (N_parents : Nat → Int32) (N_rules : Nat → Int32) (N_depths : Nat → Int32) : va_W := [(aN, .inr (7, [.ref aN_lefts, .ref aN_rights, .ref aN_parents, .ref aN_rules, .ref aN_depths, .int N_size, .int N_solved, .int N_dropped])), (aN_lefts, .inl (g.2.1 1, 200, .inr (.inl N_lefts))), (aN_rights, .inl (g.2.1 1, 200, .inr (.inl N_rights))), (aN_parents, .inl (g.2.1 0, 200, .inl N_parents)), (aN_rules, .inl (g.2.1 0, 200, .inl N_rules)), (aN_depths, .inl (g.2.1 0, 200, .inl N_depths))]
def wX8 (g : GP) (aK aB aB_first aQ aQ_weights aQ_possible aC aC_variables aC_relations aC_numbers aA aA_letters aA_lengths aN aN_lefts aN_rights aN_parents aN_rules aN_depths aE : Nat) (B_left : Int64) (B_right : Int64) (B_found : Int32) (B_least : Int32) (B_first : Nat → Int32) (Q_letterSurplus : Int32) (Q_weights : Nat → Int32) (Q_possible : Nat → Int32) (C_size : Int32) (C_variables : Nat → Int32) (C_relations : Nat → Int32) (C_numbers : Nat → Int32) (A_letters : Nat → Int64) (A_lengths : Nat → Int32) (N_size : Int32) (N_solved : Int32) (N_dropped : Int32) (N_lefts : Nat → Int64) (N_rights : Nat → Int64) (N_parents : Nat → Int32) (N_rules : Nat → Int32) (N_depths : Nat → Int32) (E_left : Int64) (E_right : Int64) : va_W := [(aK, .inr (8, [.ref aB, .ref aN, .ref aE])), (aB, .inr (1, [.ref aQ, .ref aA, .ref aB_first, .long B_left, .long B_right, .int B_found, .int B_least])), (aB_first, .inl (g.2.1 0, 4, .inl B_first)), (aQ, .inr (6, [.ref aC, .ref aQ_weights, .ref aQ_possible, .int Q_letterSurplus])), (aQ_weights, .inl (g.2.1 0, 4, .inl Q_weights)), (aQ_possible, .inl (g.2.1 0, 4, .inl Q_possible)), (aC, .inr (5, [.ref aC_variables, .ref aC_relations, .ref aC_numbers, .int C_size])), (aC_variables, .inl (g.2.1 0, 4, .inl C_variables)), (aC_relations, .inl (g.2.1 2, 4, .inl C_relations)), (aC_numbers, .inl (g.2.1 0, 4, .inl C_numbers)), (aA, .inr (0, [.ref aA_letters, .ref aA_lengths])), (aA_letters, .inl (g.2.1 1, 8, .inr (.inl A_letters))), (aA_lengths, .inl (g.2.1 0, 8, .inl A_lengths)), (aN, .inr (7, [.ref aN_lefts, .ref aN_rights, .ref aN_parents, .ref aN_rules, .ref aN_depths, .int N_size, .int N_solved, .int N_dropped])), (aN_lefts, .inl (g.2.1 1, 200, .inr (.inl N_lefts))), (aN_rights, .inl (g.2.1 1, 200, .inr (.inl N_rights))), (aN_parents, .inl (g.2.1 0, 200, .inl N_parents)), (aN_rules, .inl (g.2.1 0, 200, .inl N_rules)), (aN_depths, .inl (g.2.1 0, 200, .inl N_depths)), (aE, .inr (2, [.long E_left, .long E_right]))]
def wX10 (g : GP) (aS aS_lefts aS_rights aS_filled : Nat) (S_lefts : Nat → Int64) (S_rights : Nat → Int64) (S_filled : Nat → Int32) : va_W := [(aS, .inr (9, [.ref aS_lefts, .ref aS_rights, .ref aS_filled])), (aS_lefts, .inl (g.2.1 1, 2, .inr (.inl S_lefts))), (aS_rights, .inl (g.2.1 1, 2, .inr (.inl S_rights))), (aS_filled, .inl (g.2.1 3, 2, .inl S_filled))]
def wX11 (g : GP) (aX aT aT_characters aE aH aH_lefts aH_rights aS aS_lefts aS_rights aS_filled aA aA_letters aA_lengths aK aB aB_first aQ aQ_weights aQ_possible aC aC_variables aC_relations aC_numbers aA2 aA2_letters aA2_lengths aN aN_lefts aN_rights aN_parents aN_rules aN_depths aE2 : Nat) (T_size : Int32) (T_characters : Nat → Int32) (E_left : Int64) (E_right : Int64) (H_size : Int32) (H_lefts : Nat → Int64) (H_rights : Nat → Int64) (S_lefts : Nat → Int64) (S_rights : Nat → Int64) (S_filled : Nat → Int32) (A_letters : Nat → Int64) (A_lengths : Nat → Int32) (B_left : Int64) (B_right : Int64) (B_found : Int32) (B_least : Int32) (B_first : Nat → Int32) (Q_letterSurplus : Int32) (Q_weights : Nat → Int32) (Q_possible : Nat → Int32) (C_size : Int32) (C_variables : Nat → Int32) (C_relations : Nat → Int32) (C_numbers : Nat → Int32) (A2_letters : Nat → Int64) (A2_lengths : Nat → Int32) (N_size : Int32) (N_solved : Int32) (N_dropped : Int32) (N_lefts : Nat → Int64) (N_rights : Nat → Int64) (N_parents : Nat → Int32) (N_rules : Nat → Int32) (N_depths : Nat → Int32) (E2_left : Int64) (E2_right : Int64) : va_W := [(aX, .inr (10, [.ref aT, .ref aE, .ref aC, .ref aH, .ref aS, .ref aA, .ref aQ, .ref aB, .ref aN, .ref aK])), (aT, .inr (3, [.ref aT_characters, .int T_size])), (aT_characters, .inl (g.2.1 2, 40, .inl T_characters)), (aE, .inr (2, [.long E_left, .long E_right])), (aH, .inr (4, [.ref aH_lefts, .ref aH_rights, .int H_size])), (aH_lefts, .inl (g.2.1 1, 14, .inr (.inl H_lefts))), (aH_rights, .inl (g.2.1 1, 14, .inr (.inl H_rights))), (aS, .inr (9, [.ref aS_lefts, .ref aS_rights, .ref aS_filled])), (aS_lefts, .inl (g.2.1 1, 2, .inr (.inl S_lefts))), (aS_rights, .inl (g.2.1 1, 2, .inr (.inl S_rights))), (aS_filled, .inl (g.2.1 3, 2, .inl S_filled)), (aA, .inr (0, [.ref aA_letters, .ref aA_lengths])), (aA_letters, .inl (g.2.1 1, 8, .inr (.inl A_letters))), (aA_lengths, .inl (g.2.1 0, 8, .inl A_lengths)), (aK, .inr (8, [.ref aB, .ref aN, .ref aE2])), (aB, .inr (1, [.ref aQ, .ref aA2, .ref aB_first, .long B_left, .long B_right, .int B_found, .int B_least])), (aB_first, .inl (g.2.1 0, 4, .inl B_first)), (aQ, .inr (6, [.ref aC, .ref aQ_weights, .ref aQ_possible, .int Q_letterSurplus])), (aQ_weights, .inl (g.2.1 0, 4, .inl Q_weights)), (aQ_possible, .inl (g.2.1 0, 4, .inl Q_possible)), (aC, .inr (5, [.ref aC_variables, .ref aC_relations, .ref aC_numbers, .int C_size])), (aC_variables, .inl (g.2.1 0, 4, .inl C_variables)), (aC_relations, .inl (g.2.1 2, 4, .inl C_relations)), (aC_numbers, .inl (g.2.1 0, 4, .inl C_numbers)), (aA2, .inr (0, [.ref aA2_letters, .ref aA2_lengths])), (aA2_letters, .inl (g.2.1 1, 8, .inr (.inl A2_letters))), (aA2_lengths, .inl (g.2.1 0, 8, .inl A2_lengths)), (aN, .inr (7, [.ref aN_lefts, .ref aN_rights, .ref aN_parents, .ref aN_rules, .ref aN_depths, .int N_size, .int N_solved, .int N_dropped])), (aN_lefts, .inl (g.2.1 1, 200, .inr (.inl N_lefts))), (aN_rights, .inl (g.2.1 1, 200, .inr (.inl N_rights))), (aN_parents, .inl (g.2.1 0, 200, .inl N_parents)), (aN_rules, .inl (g.2.1 0, 200, .inl N_rules)), (aN_depths, .inl (g.2.1 0, 200, .inl N_depths)), (aE2, .inr (2, [.long E2_left, .long E2_right]))]
def wX12 (g : GP) (aM aM_text aM_now aM_trial aM_read aM_diary aM_kept aM_isKept aM_constraint aM_readConstraint aM_word aM_size aM_number aM_firstOne aM_node aM_parent aM_rule aM_child aM_proof aM_witness aM_witnessSize aM_built aM_copyRow : Nat) (M_length : Int32) (M_acts : Int32) (M_next : Int32) (M_many : Int32) (M_readMany : Int32) (M_found : Int32) (M_shortest : Int32) (M_nodes : Int32) (M_solved : Int32) (M_dropped : Int32) (M_fits : Int32) (M_proofSize : Int32) (M_tooLong : Int32) (M_text : Nat → Int32) (M_now : Nat → Int32) (M_trial : Nat → Int32) (M_read : Nat → Int32) (M_diary : Nat → Int32) (M_kept : Nat → Int32) (M_isKept : Nat → Int32) (M_constraint : Nat → Int32) (M_readConstraint : Nat → Int32) (M_word : Nat → Int32) (M_size : Nat → Int32) (M_number : Nat → Int32) (M_firstOne : Nat → Int32) (M_node : Nat → Int32) (M_parent : Nat → Int32) (M_rule : Nat → Int32) (M_child : Nat → Int32) (M_proof : Nat → Int32) (M_witness : Nat → Int32) (M_witnessSize : Nat → Int32) (M_built : Nat → Int32) (M_copyRow : Nat → Int32) : va_W := [(aM, .inr (11, [.ref aM_text, .int M_length, .ref aM_now, .ref aM_trial, .ref aM_read, .ref aM_diary, .int M_acts, .int M_next, .ref aM_kept, .ref aM_isKept, .int M_many, .ref aM_constraint, .int M_readMany, .ref aM_readConstraint, .ref aM_word, .ref aM_size, .ref aM_number, .ref aM_firstOne, .int M_found, .int M_shortest, .ref aM_node, .ref aM_parent, .ref aM_rule, .int M_nodes, .int M_solved, .int M_dropped, .ref aM_child, .int M_fits, .ref aM_proof, .int M_proofSize, .ref aM_witness, .ref aM_witnessSize, .int M_tooLong, .ref aM_built, .ref aM_copyRow])), (aM_text, .inl (g.2.1 0, 40, .inl M_text)), (aM_now, .inl (g.2.1 0, 26, .inl M_now)), (aM_trial, .inl (g.2.1 0, 26, .inl M_trial)), (aM_read, .inl (g.2.1 0, 26, .inl M_read)), (aM_diary, .inl (g.2.1 0, 364, .inl M_diary)), (aM_kept, .inl (g.2.1 0, 52, .inl M_kept)), (aM_isKept, .inl (g.2.1 3, 2, .inl M_isKept)), (aM_constraint, .inl (g.2.1 0, 12, .inl M_constraint)), (aM_readConstraint, .inl (g.2.1 0, 12, .inl M_readConstraint)), (aM_word, .inl (g.2.1 0, 120, .inl M_word)), (aM_size, .inl (g.2.1 0, 2, .inl M_size)), (aM_number, .inl (g.2.1 0, 4, .inl M_number)), (aM_firstOne, .inl (g.2.1 0, 4, .inl M_firstOne)), (aM_node, .inl (g.2.1 0, 5200, .inl M_node)), (aM_parent, .inl (g.2.1 0, 200, .inl M_parent)), (aM_rule, .inl (g.2.1 0, 200, .inl M_rule)), (aM_child, .inl (g.2.1 0, 26, .inl M_child)), (aM_proof, .inl (g.2.1 0, 200, .inl M_proof)), (aM_witness, .inl (g.2.1 0, 240, .inl M_witness)), (aM_witnessSize, .inl (g.2.1 0, 4, .inl M_witnessSize)), (aM_built, .inl (g.2.1 0, 60, .inl M_built)), (aM_copyRow, .inl (g.2.1 0, 26, .inl M_copyRow))]
theorem inBX0 : ∀ w ∈ u_ws RX0 TX0 2, w ∈ TB := by
  intro w hw
  obtain ⟨k, hk, rfl⟩ := List.mem_map.mp hw
  have hk := List.mem_range.mp hk
  match k, hk with
  | 0, _ => exact wd1_129
  | 1, _ => exact wd1_131
theorem inBX1 : ∀ w ∈ u_ws RX1 TX1 7, w ∈ TB := by
  intro w hw
  obtain ⟨k, hk, rfl⟩ := List.mem_map.mp hw
  have hk := List.mem_range.mp hk
  match k, hk with
  | 0, _ => exact wd1_168
  | 1, _ => exact wd1_170
  | 2, _ => exact wd1_172
  | 3, _ => exact wd1_174
  | 4, _ => exact wd1_176
  | 5, _ => exact wd1_178
  | 6, _ => exact wd1_180
theorem inBX2 : ∀ w ∈ u_ws RX2 TX2 2, w ∈ TB := by
  intro w hw
  obtain ⟨k, hk, rfl⟩ := List.mem_map.mp hw
  have hk := List.mem_range.mp hk
  match k, hk with
  | 0, _ => exact wd1_62
  | 1, _ => exact wd1_64
theorem inBX3 : ∀ w ∈ u_ws RX3 TX3 2, w ∈ TB := by
  intro w hw
  obtain ⟨k, hk, rfl⟩ := List.mem_map.mp hw
  have hk := List.mem_range.mp hk
  match k, hk with
  | 0, _ => exact wd1_36
  | 1, _ => exact wd1_38
theorem inBX4 : ∀ w ∈ u_ws RX4 TX4 3, w ∈ TB := by
  intro w hw
  obtain ⟨k, hk, rfl⟩ := List.mem_map.mp hw
  have hk := List.mem_range.mp hk
  match k, hk with
  | 0, _ => exact wd1_96
  | 1, _ => exact wd1_98
  | 2, _ => exact wd1_100
theorem inBX5 : ∀ w ∈ u_ws RX5 TX5 4, w ∈ TB := by
  intro w hw
  obtain ⟨k, hk, rfl⟩ := List.mem_map.mp hw
  have hk := List.mem_range.mp hk
  match k, hk with
  | 0, _ => exact wd1_77
  | 1, _ => exact wd1_79
  | 2, _ => exact wd1_81
  | 3, _ => exact wd1_83
theorem inBX6 : ∀ w ∈ u_ws RX6 TX6 4, w ∈ TB := by
  intro w hw
  obtain ⟨k, hk, rfl⟩ := List.mem_map.mp hw
  have hk := List.mem_range.mp hk
  match k, hk with
  | 0, _ => exact wd1_144
  | 1, _ => exact wd1_146
  | 2, _ => exact wd1_148
  | 3, _ => exact wd1_150
theorem inBX7 : ∀ w ∈ u_ws RX7 TX7 8, w ∈ TB := by
  intro w hw
  obtain ⟨k, hk, rfl⟩ := List.mem_map.mp hw
  have hk := List.mem_range.mp hk
  match k, hk with
  | 0, _ => exact wd1_197
  | 1, _ => exact wd1_199
  | 2, _ => exact wd1_201
  | 3, _ => exact wd1_203
  | 4, _ => exact wd1_205
  | 5, _ => exact wd1_207
  | 6, _ => exact wd1_209
  | 7, _ => exact wd1_211
theorem inBX8 : ∀ w ∈ u_ws RX8 TX8 3, w ∈ TB := by
  intro w hw
  obtain ⟨k, hk, rfl⟩ := List.mem_map.mp hw
  have hk := List.mem_range.mp hk
  match k, hk with
  | 0, _ => exact wd1_225
  | 1, _ => exact wd1_227
  | 2, _ => exact wd1_229
theorem inBX10 : ∀ w ∈ u_ws RX10 TX10 3, w ∈ TB := by
  intro w hw
  obtain ⟨k, hk, rfl⟩ := List.mem_map.mp hw
  have hk := List.mem_range.mp hk
  match k, hk with
  | 0, _ => exact wd1_113
  | 1, _ => exact wd1_115
  | 2, _ => exact wd1_117
theorem inBX11 : ∀ w ∈ u_ws RX11 TX11 10, w ∈ TB := by
  intro w hw
  obtain ⟨k, hk, rfl⟩ := List.mem_map.mp hw
  have hk := List.mem_range.mp hk
  match k, hk with
  | 0, _ => exact wd2_2
  | 1, _ => exact wd2_4
  | 2, _ => exact wd2_6
  | 3, _ => exact wd2_8
  | 4, _ => exact wd2_10
  | 5, _ => exact wd2_12
  | 6, _ => exact wd2_14
  | 7, _ => exact wd2_16
  | 8, _ => exact wd2_18
  | 9, _ => exact wd2_20
theorem inBX12 : ∀ w ∈ u_ws RX12 TX12 35, w ∈ TB := by
  intro w hw
  obtain ⟨k, hk, rfl⟩ := List.mem_map.mp hw
  have hk := List.mem_range.mp hk
  match k, hk with
  | 0, _ => exact wd4_231
  | 1, _ => exact wd4_233
  | 2, _ => exact wd4_235
  | 3, _ => exact wd4_237
  | 4, _ => exact wd4_239
  | 5, _ => exact wd5_1
  | 6, _ => exact wd5_3
  | 7, _ => exact wd5_5
  | 8, _ => exact wd5_7
  | 9, _ => exact wd5_9
  | 10, _ => exact wd5_11
  | 11, _ => exact wd5_13
  | 12, _ => exact wd5_15
  | 13, _ => exact wd5_17
  | 14, _ => exact wd5_19
  | 15, _ => exact wd5_21
  | 16, _ => exact wd5_23
  | 17, _ => exact wd5_25
  | 18, _ => exact wd5_27
  | 19, _ => exact wd5_29
  | 20, _ => exact wd5_31
  | 21, _ => exact wd5_33
  | 22, _ => exact wd5_35
  | 23, _ => exact wd5_37
  | 24, _ => exact wd5_39
  | 25, _ => exact wd5_41
  | 26, _ => exact wd5_43
  | 27, _ => exact wd5_45
  | 28, _ => exact wd5_47
  | 29, _ => exact wd5_49
  | 30, _ => exact wd5_51
  | 31, _ => exact wd5_53
  | 32, _ => exact wd5_55
  | 33, _ => exact wd5_57
  | 34, _ => exact wd5_59
  | k + 35, h => exact absurd h (by omega)
def rmX3_add : Room := { frames := 0, cells := 0, slots := 0, locals := 0 }
theorem okX3_add : OKV yX3_add RX3 cX3_add 2 (some .boolean) 1 := ⟨wd2_28, wd2_29, wd1_2, wd2_30, by decide +kernel⟩
def rmX3_size : Room := { frames := 0, cells := 0, slots := 0, locals := 0 }
theorem okX3_size : OKV yX3_size RX3 cX3_size 1 (some .int) 0 := ⟨wd2_32, wd2_33, wd1_2, wd2_34, by decide +kernel⟩
def rmX11_append : Room := { frames := 1, cells := 0, slots := 0, locals := 21 }
theorem okX11_append : OKV yX11_append RX11 cX11_append 2 (some .int) 1 := ⟨wd2_24, wd2_25, wd1_1, wd2_26, by decide +kernel⟩
def rmX3_empty : Room := { frames := 0, cells := 0, slots := 0, locals := 0 }
theorem okX3_empty : OKV yX3_empty RX3 cX3_empty 1 none 0 := ⟨wd2_40, wd2_41, wd1_2, wd2_42, by decide +kernel⟩
def rmX11_clearText : Room := { frames := 1, cells := 0, slots := 0, locals := 20 }
theorem okX11_clearText : OKV yX11_clearText RX11 cX11_clearText 2 (some .int) 0 := ⟨wd2_36, wd2_37, wd1_1, wd2_38, by decide +kernel⟩
def rmX3_at : Room := { frames := 0, cells := 0, slots := 0, locals := 0 }
theorem okX3_at : OKV yX3_at RX3 cX3_at 2 (some .char) 1 := ⟨wd2_57, ws_1, wd1_2, wd2_58, by decide +kernel⟩
def rmJ0_isLatin1_aae02 : Room := { frames := 0, cells := 0, slots := 0, locals := 0 }
theorem okJ0_isLatin1_aae02 : OKV yJ0_isLatin1_aae02 RJ0 cJ0_isLatin1_aae02 1 (some .boolean) 0 := ⟨wd2_72, wd2_73, wd1_14, wd2_74, by decide +kernel⟩
def rmJ0_coder_7d493 : Room := { frames := 0, cells := 0, slots := 0, locals := 0 }
theorem okJ0_coder_7d493 : OKV yJ0_coder_7d493 RJ0 cJ0_coder_7d493 1 (some .byte) 0 := ⟨wd2_82, wd2_83, wd1_14, wd2_84, by decide +kernel⟩
def rmJ0_length_8abf5 : Room := { frames := 1, cells := 0, slots := 0, locals := 20 }
theorem okJ0_length_8abf5 : OKV yJ0_length_8abf5 RJ0 cJ0_length_8abf5 1 (some .int) 0 := ⟨wd2_78, wd2_79, wd1_14, wd2_80, by decide +kernel⟩
def rmJ1_canEncode_9a6ad : Room := { frames := 0, cells := 0, slots := 0, locals := 0 }
theorem okJ1_canEncode_9a6ad : OKS yJ1_canEncode_9a6ad cJ1_canEncode_9a6ad 1 (some .boolean) 1 := ⟨wd2_89, wd1_15, wd2_90, by decide +kernel⟩
def rmJ9_max_7cf53 : Room := { frames := 0, cells := 0, slots := 0, locals := 0 }
theorem okJ9_max_7cf53 : OKS yJ9_max_7cf53 cJ9_max_7cf53 2 (some .int) 2 := ⟨wd2_92, wd1_16, wd2_93, by decide +kernel⟩
def rmJ9_min_7cf53 : Room := { frames := 0, cells := 0, slots := 0, locals := 0 }
theorem okJ9_min_7cf53 : OKS yJ9_min_7cf53 cJ9_min_7cf53 2 (some .int) 2 := ⟨wd2_95, wd1_16, wd2_96, by decide +kernel⟩
def rmJ1_indexOfChar_4cfef : Room := { frames := 0, cells := 0, slots := 0, locals := 0 }
theorem okJ1_indexOfChar_4cfef : OKS yJ1_indexOfChar_4cfef cJ1_indexOfChar_4cfef 6 (some .int) 4 := ⟨wd2_98, wd1_15, wd2_99, by decide +kernel⟩
def rmJ1_indexOf_4cfef : Room := { frames := 1, cells := 0, slots := 0, locals := 25 }
theorem okJ1_indexOf_4cfef : OKS yJ1_indexOf_4cfef cJ1_indexOf_4cfef 4 (some .int) 4 := ⟨wd2_86, wd1_15, wd2_87, by decide +kernel⟩
def rmJ0_indexOf_7cf53 : Room := { frames := 2, cells := 0, slots := 0, locals := 48 }
theorem okJ0_indexOf_7cf53 : OKV yJ0_indexOf_7cf53 RJ0 cJ0_indexOf_7cf53 3 (some .int) 2 := ⟨wd2_68, wd2_69, wd1_14, wd2_70, by decide +kernel⟩
def rmJ0_indexOf_0f7a4 : Room := { frames := 3, cells := 0, slots := 0, locals := 70 }
theorem okJ0_indexOf_0f7a4 : OKV yJ0_indexOf_0f7a4 RJ0 cJ0_indexOf_0f7a4 2 (some .int) 1 := ⟨wd2_64, wd2_65, wd1_14, wd2_66, by decide +kernel⟩
def rmX9_symbolOf : Room := { frames := 4, cells := 0, slots := 0, locals := 91 }
theorem okX9_symbolOf : OKS yX9_symbolOf cX9_symbolOf 1 (some .int) 1 := ⟨wd2_60, wd1_13, wd2_61, by decide +kernel⟩
def rmX3_endOfSide : Room := { frames := 5, cells := 0, slots := 0, locals := 111 }
theorem okX3_endOfSide : OKV yX3_endOfSide RX3 cX3_endOfSide 3 (some .int) 1 := ⟨wd2_53, ws_0, wd1_2, wd2_54, by decide +kernel⟩
def rmX9_isVariableSymbol : Room := { frames := 0, cells := 0, slots := 0, locals := 0 }
theorem okX9_isVariableSymbol : OKS yX9_isVariableSymbol cX9_isVariableSymbol 1 (some .boolean) 1 := ⟨wd2_153, wd1_13, wd2_154, by decide +kernel⟩
def rmX3_fits : Room := { frames := 5, cells := 0, slots := 0, locals := 111 }
theorem okX3_fits : OKS yX3_fits cX3_fits 2 (some .boolean) 2 := ⟨wd2_150, wd1_2, wd2_151, by decide +kernel⟩
def rmX3_firstError : Room := { frames := 6, cells := 0, slots := 0, locals := 133 }
theorem okX3_firstError : OKV yX3_firstError RX3 cX3_firstError 5 (some .int) 0 := ⟨wd2_48, wd2_49, wd1_2, wd2_50, by decide +kernel⟩
def rmX11_errorPosition : Room := { frames := 7, cells := 0, slots := 0, locals := 157 }
theorem okX11_errorPosition : OKV yX11_errorPosition RX11 cX11_errorPosition 1 (some .int) 0 := ⟨wd2_44, wd2_45, wd1_1, wd2_46, by decide +kernel⟩
def rmX9_one : Room := { frames := 0, cells := 0, slots := 0, locals := 0 }
theorem okX9_one : OKS yX9_one cX9_one 2 (some .long) 2 := ⟨wd2_169, wd1_13, wd2_170, by decide +kernel⟩
def rmX3_packed : Room := { frames := 5, cells := 0, slots := 0, locals := 111 }
theorem okX3_packed : OKV yX3_packed RX3 cX3_packed 6 (some .long) 2 := ⟨wd2_165, wd2_166, wd1_2, wd2_167, by decide +kernel⟩
def rmX2_set : Room := { frames := 0, cells := 0, slots := 0, locals := 0 }
theorem okX2_set : OKV yX2_set RX2 cX2_set 5 none 2 := ⟨wd2_172, wd2_173, wd1_3, wd2_174, by decide +kernel⟩
def rmX3_readEquation : Room := { frames := 6, cells := 0, slots := 0, locals := 136 }
theorem okX3_readEquation : OKV yX3_readEquation RX3 cX3_readEquation 3 none 1 := ⟨wd2_161, wd2_162, wd1_2, wd2_163, by decide +kernel⟩
def rmX5_empty : Room := { frames := 0, cells := 0, slots := 0, locals := 0 }
theorem okX5_empty : OKV yX5_empty RX5 cX5_empty 1 none 0 := ⟨wd2_180, wd2_181, wd1_4, wd2_182, by decide +kernel⟩
def rmX5_add : Room := { frames := 0, cells := 0, slots := 0, locals := 0 }
theorem okX5_add : OKV yX5_add RX5 cX5_add 4 none 3 := ⟨wd2_184, wd2_185, wd1_4, wd2_186, by decide +kernel⟩
def rmX3_readConstraints : Room := { frames := 6, cells := 0, slots := 0, locals := 133 }
theorem okX3_readConstraints : OKV yX3_readConstraints RX3 cX3_readConstraints 5 none 1 := ⟨wd2_176, wd2_177, wd1_2, wd2_178, by decide +kernel⟩
def rmX4_forget : Room := { frames := 0, cells := 0, slots := 0, locals := 0 }
theorem okX4_forget : OKV yX4_forget RX4 cX4_forget 1 none 0 := ⟨wd2_188, wd2_189, wd1_5, wd2_190, by decide +kernel⟩
def rmX10_empty : Room := { frames := 0, cells := 0, slots := 0, locals := 0 }
theorem okX10_empty : OKV yX10_empty RX10 cX10_empty 2 none 0 := ⟨wd2_192, wd2_193, wd1_6, wd2_194, by decide +kernel⟩
def rmX5_size : Room := { frames := 0, cells := 0, slots := 0, locals := 0 }
theorem okX5_size : OKV yX5_size RX5 cX5_size 1 (some .int) 0 := ⟨wd2_196, wd2_197, wd1_4, wd2_198, by decide +kernel⟩
def rmX11_load : Room := { frames := 7, cells := 0, slots := 0, locals := 158 }
theorem okX11_load : OKV yX11_load RX11 cX11_load 1 (some .int) 0 := ⟨wd2_157, wd2_158, wd1_1, wd2_159, by decide +kernel⟩
def rmX11_isSide : Room := { frames := 0, cells := 0, slots := 0, locals := 0 }
theorem okX11_isSide : OKS yX11_isSide cX11_isSide 1 (some .boolean) 1 := ⟨wd2_204, wd1_1, wd2_205, by decide +kernel⟩
def rmX2_side : Room := { frames := 0, cells := 0, slots := 0, locals := 0 }
theorem okX2_side : OKV yX2_side RX2 cX2_side 2 (some .long) 1 := ⟨wd2_207, wd2_208, wd1_3, wd2_209, by decide +kernel⟩
def rmX9_size : Room := { frames := 0, cells := 0, slots := 0, locals := 0 }
theorem okX9_size : OKS yX9_size cX9_size 3 (some .int) 1 := ⟨wd2_211, wd1_13, wd2_212, by decide +kernel⟩
def rmX11_sideLength : Room := { frames := 1, cells := 0, slots := 0, locals := 22 }
theorem okX11_sideLength : OKV yX11_sideLength RX11 cX11_sideLength 2 (some .int) 1 := ⟨wd2_200, wd2_201, wd1_1, wd2_202, by decide +kernel⟩
def rmX9_symbol : Room := { frames := 0, cells := 0, slots := 0, locals := 0 }
theorem okX9_symbol : OKS yX9_symbol cX9_symbol 3 (some .int) 2 := ⟨wd2_218, wd1_13, wd2_219, by decide +kernel⟩
def rmJ3_checkIndex_8e157 : Room := { frames := 0, cells := 0, slots := 0, locals := 0 }
theorem okJ3_checkIndex_8e157 : OKS yJ3_checkIndex_8e157 cJ3_checkIndex_8e157 3 (some .int) 3 := ⟨wd2_235, wd1_18, wd2_236, by decide +kernel⟩
def rmJ0_checkIndex_df160 : Room := { frames := 1, cells := 0, slots := 0, locals := 22 }
theorem okJ0_checkIndex_df160 : OKS yJ0_checkIndex_df160 cJ0_checkIndex_df160 2 none 2 := ⟨wd2_232, wd1_14, wd2_233, by decide +kernel⟩
def rmJ1_charAt_3b067 : Room := { frames := 2, cells := 0, slots := 0, locals := 43 }
theorem okJ1_charAt_3b067 : OKS yJ1_charAt_3b067 cJ1_charAt_3b067 2 (some .char) 2 := ⟨wd2_229, wd1_15, wd2_230, by decide +kernel⟩
def rmJ0_charAt_5068e : Room := { frames := 3, cells := 0, slots := 0, locals := 64 }
theorem okJ0_charAt_5068e : OKV yJ0_charAt_5068e RJ0 cJ0_charAt_5068e 2 (some .char) 1 := ⟨wd2_225, wd2_226, wd1_14, wd2_227, by decide +kernel⟩
def rmX9_character : Room := { frames := 4, cells := 0, slots := 0, locals := 85 }
theorem okX9_character : OKS yX9_character cX9_character 1 (some .char) 1 := ⟨wd2_221, wd1_13, wd2_222, by decide +kernel⟩
def rmX11_symbolAt : Room := { frames := 5, cells := 0, slots := 0, locals := 105 }
theorem okX11_symbolAt : OKV yX11_symbolAt RX11 cX11_symbolAt 3 (some .int) 2 := ⟨wd2_214, wd2_215, wd1_1, wd2_216, by decide +kernel⟩
def rmX11_isVariable : Room := { frames := 0, cells := 0, slots := 0, locals := 0 }
theorem okX11_isVariable : OKS yX11_isVariable cX11_isVariable 1 (some .boolean) 1 := ⟨wd3_9, wd1_1, wd3_10, by decide +kernel⟩
def rmX9_variable : Room := { frames := 0, cells := 0, slots := 0, locals := 0 }
theorem okX9_variable : OKS yX9_variable cX9_variable 1 (some .int) 1 := ⟨wd3_12, wd1_13, wd3_13, by decide +kernel⟩
def rmX9_countOf : Room := { frames := 0, cells := 0, slots := 0, locals := 0 }
theorem okX9_countOf : OKS yX9_countOf cX9_countOf 5 (some .int) 2 := ⟨wd3_15, wd1_13, wd3_16, by decide +kernel⟩
def rmX11_occurrences : Room := { frames := 1, cells := 0, slots := 0, locals := 24 }
theorem okX11_occurrences : OKV yX11_occurrences RX11 cX11_occurrences 3 (some .int) 2 := ⟨wd3_5, wd3_6, wd1_1, wd3_7, by decide +kernel⟩
def rmX4_forgetOldest : Room := { frames := 0, cells := 0, slots := 0, locals := 0 }
theorem okX4_forgetOldest : OKV yX4_forgetOldest RX4 cX4_forgetOldest 2 none 0 := ⟨wd3_28, ws_2, wd1_5, wd3_29, by decide +kernel⟩
def rmX4_remember : Room := { frames := 1, cells := 0, slots := 0, locals := 21 }
theorem okX4_remember : OKV yX4_remember RX4 cX4_remember 2 none 1 := ⟨wd3_23, wd3_24, wd1_5, wd3_25, by decide +kernel⟩
def rmX2_swap : Room := { frames := 1, cells := 0, slots := 0, locals := 24 }
theorem okX2_swap : OKV yX2_swap RX2 cX2_swap 1 none 0 := ⟨wd3_31, wd3_32, wd1_3, wd3_33, by decide +kernel⟩
def rmX11_swapSides : Room := { frames := 2, cells := 0, slots := 0, locals := 44 }
theorem okX11_swapSides : OKV yX11_swapSides RX11 cX11_swapSides 1 (some .int) 0 := ⟨wd3_19, wd3_20, wd1_1, wd3_21, by decide +kernel⟩
def rmX9_reversed : Room := { frames := 1, cells := 0, slots := 0, locals := 22 }
theorem okX9_reversed : OKS yX9_reversed cX9_reversed 6 (some .long) 1 := ⟨wd3_44, wd1_13, wd3_45, by decide +kernel⟩
def rmX2_turn : Room := { frames := 2, cells := 0, slots := 0, locals := 47 }
theorem okX2_turn : OKV yX2_turn RX2 cX2_turn 1 none 0 := ⟨wd3_40, wd3_41, wd1_3, wd3_42, by decide +kernel⟩
def rmX2_size : Room := { frames := 1, cells := 0, slots := 0, locals := 22 }
theorem okX2_size : OKV yX2_size RX2 cX2_size 1 (some .int) 0 := ⟨wd3_49, wd3_50, wd1_3, wd3_51, by decide +kernel⟩
def rmX11_reverse : Room := { frames := 3, cells := 0, slots := 0, locals := 67 }
theorem okX11_reverse : OKV yX11_reverse RX11 cX11_reverse 1 (some .int) 0 := ⟨wd3_36, wd3_37, wd1_1, wd3_38, by decide +kernel⟩
def rmX9_head : Room := { frames := 0, cells := 0, slots := 0, locals := 0 }
theorem okX9_head : OKS yX9_head cX9_head 2 (some .int) 1 := ⟨wd3_66, wd1_13, wd3_67, by decide +kernel⟩
def rmX9_tail : Room := { frames := 0, cells := 0, slots := 0, locals := 0 }
theorem okX9_tail : OKS yX9_tail cX9_tail 2 (some .long) 1 := ⟨wd3_69, wd1_13, wd3_70, by decide +kernel⟩
def rmX2_cancelHeads : Room := { frames := 1, cells := 0, slots := 0, locals := 24 }
theorem okX2_cancelHeads : OKV yX2_cancelHeads RX2 cX2_cancelHeads 2 (some .int) 0 := ⟨wd3_63, ws_3, wd1_3, wd3_64, by decide +kernel⟩
def rmX2_cancelEnds : Room := { frames := 3, cells := 0, slots := 0, locals := 67 }
theorem okX2_cancelEnds : OKV yX2_cancelEnds RX2 cX2_cancelEnds 2 (some .int) 0 := ⟨wd3_58, wd3_59, wd1_3, wd3_60, by decide +kernel⟩
def rmX11_cancel : Room := { frames := 4, cells := 0, slots := 0, locals := 88 }
theorem okX11_cancel : OKV yX11_cancel RX11 cX11_cancel 1 (some .int) 0 := ⟨wd3_54, wd3_55, wd1_1, wd3_56, by decide +kernel⟩
def rmX9_exchanged : Room := { frames := 1, cells := 0, slots := 0, locals := 22 }
theorem okX9_exchanged : OKS yX9_exchanged cX9_exchanged 7 (some .long) 1 := ⟨wd3_81, wd1_13, wd3_82, by decide +kernel⟩
def rmX2_exchange : Room := { frames := 2, cells := 0, slots := 0, locals := 48 }
theorem okX2_exchange : OKV yX2_exchange RX2 cX2_exchange 1 none 0 := ⟨wd3_77, wd3_78, wd1_3, wd3_79, by decide +kernel⟩
def rmX2_total : Room := { frames := 1, cells := 0, slots := 0, locals := 24 }
theorem okX2_total : OKV yX2_total RX2 cX2_total 2 (some .int) 1 := ⟨wd3_85, wd3_86, wd1_3, wd3_87, by decide +kernel⟩
def rmX11_exchangeLetters : Room := { frames := 3, cells := 0, slots := 0, locals := 68 }
theorem okX11_exchangeLetters : OKV yX11_exchangeLetters RX11 cX11_exchangeLetters 1 (some .int) 0 := ⟨wd3_73, wd3_74, wd1_1, wd3_75, by decide +kernel⟩
def rmX9_replaced : Room := { frames := 1, cells := 0, slots := 0, locals := 22 }
theorem okX9_replaced : OKS yX9_replaced cX9_replaced 12 (some .long) 3 := ⟨wd3_99, wd1_13, wd3_100, by decide +kernel⟩
def rmX2_replace : Room := { frames := 2, cells := 0, slots := 0, locals := 53 }
theorem okX2_replace : OKV yX2_replace RX2 cX2_replace 5 (some .int) 2 := ⟨wd3_94, wd3_95, wd1_3, wd3_96, by decide +kernel⟩
def rmX11_eliminate : Room := { frames := 3, cells := 0, slots := 0, locals := 77 }
theorem okX11_eliminate : OKV yX11_eliminate RX11 cX11_eliminate 2 (some .int) 1 := ⟨wd3_90, wd3_91, wd1_1, wd3_92, by decide +kernel⟩
def rmX3_hasOnlySymbols : Room := { frames := 5, cells := 0, slots := 0, locals := 111 }
theorem okX3_hasOnlySymbols : OKV yX3_hasOnlySymbols RX3 cX3_hasOnlySymbols 2 (some .boolean) 0 := ⟨wd3_106, wd3_107, wd1_2, wd3_108, by decide +kernel⟩
def rmX9_sizeAfter : Room := { frames := 1, cells := 0, slots := 0, locals := 24 }
theorem okX9_sizeAfter : OKS yX9_sizeAfter cX9_sizeAfter 4 (some .int) 3 := ⟨wd3_114, wd1_13, wd3_115, by decide +kernel⟩
def rmX2_longestAfter : Room := { frames := 2, cells := 0, slots := 0, locals := 47 }
theorem okX2_longestAfter : OKV yX2_longestAfter RX2 cX2_longestAfter 3 (some .int) 2 := ⟨wd3_110, wd3_111, wd1_3, wd3_112, by decide +kernel⟩
def rmX11_substitute : Room := { frames := 6, cells := 0, slots := 0, locals := 136 }
theorem okX11_substitute : OKV yX11_substitute RX11 cX11_substitute 3 (some .int) 1 := ⟨wd3_102, wd3_103, wd1_1, wd3_104, by decide +kernel⟩
def rmX4_size : Room := { frames := 0, cells := 0, slots := 0, locals := 0 }
theorem okX4_size : OKV yX4_size RX4 cX4_size 1 (some .int) 0 := ⟨wd3_124, wd3_125, wd1_5, wd3_126, by decide +kernel⟩
def rmX4_takeBack : Room := { frames := 1, cells := 0, slots := 0, locals := 24 }
theorem okX4_takeBack : OKV yX4_takeBack RX4 cX4_takeBack 2 none 1 := ⟨wd3_128, wd3_129, wd1_5, wd3_130, by decide +kernel⟩
def rmX11_undo : Room := { frames := 2, cells := 0, slots := 0, locals := 45 }
theorem okX11_undo : OKV yX11_undo RX11 cX11_undo 1 (some .int) 0 := ⟨wd3_120, wd3_121, wd1_1, wd3_122, by decide +kernel⟩
def rmX11_isWordNumber : Room := { frames := 0, cells := 0, slots := 0, locals := 0 }
theorem okX11_isWordNumber : OKS yX11_isWordNumber cX11_isWordNumber 1 (some .boolean) 1 := ⟨wd3_137, wd1_1, wd3_138, by decide +kernel⟩
def rmX0_give : Room := { frames := 1, cells := 0, slots := 0, locals := 20 }
theorem okX0_give : OKV yX0_give RX0 cX0_give 5 none 3 := ⟨wd3_148, wd3_149, wd1_7, wd3_150, by decide +kernel⟩
def rmX0_giveNumber : Room := { frames := 2, cells := 0, slots := 0, locals := 44 }
theorem okX0_giveNumber : OKV yX0_giveNumber RX0 cX0_giveNumber 5 none 2 := ⟨wd3_144, wd3_145, wd1_7, wd3_146, by decide +kernel⟩
def rmX0_lengthOf : Room := { frames := 0, cells := 0, slots := 0, locals := 0 }
theorem okX0_lengthOf : OKV yX0_lengthOf RX0 cX0_lengthOf 2 (some .int) 1 := ⟨wd3_153, wd3_154, wd1_7, wd3_155, by decide +kernel⟩
def rmX5_holds : Room := { frames := 0, cells := 0, slots := 0, locals := 0 }
theorem okX5_holds : OKS yX5_holds cX5_holds 3 (some .boolean) 3 := ⟨wd3_161, wd1_4, wd3_162, by decide +kernel⟩
def rmX5_allow : Room := { frames := 1, cells := 0, slots := 0, locals := 22 }
theorem okX5_allow : OKV yX5_allow RX5 cX5_allow 4 (some .boolean) 2 := ⟨wd3_157, wd3_158, wd1_4, wd3_159, by decide +kernel⟩
def rmX0_spelled : Room := { frames := 0, cells := 0, slots := 0, locals := 0 }
theorem okX0_spelled : OKV yX0_spelled RX0 cX0_spelled 9 (some .long) 1 := ⟨wd3_169, ws_5, wd1_7, wd3_170, by decide +kernel⟩
def rmX0_equates : Room := { frames := 1, cells := 0, slots := 0, locals := 28 }
theorem okX0_equates : OKV yX0_equates RX0 cX0_equates 5 (some .boolean) 2 := ⟨wd3_164, wd3_165, wd1_7, wd3_166, by decide +kernel⟩
def rmX11_holdsFor : Room := { frames := 3, cells := 0, slots := 0, locals := 68 }
theorem okX11_holdsFor : OKV yX11_holdsFor RX11 cX11_holdsFor 6 (some .boolean) 4 := ⟨wd3_141, ws_4, wd1_1, wd3_142, by decide +kernel⟩
def rmX11_satisfies : Room := { frames := 4, cells := 0, slots := 0, locals := 93 }
theorem okX11_satisfies : OKV yX11_satisfies RX11 cX11_satisfies 5 (some .int) 4 := ⟨wd3_133, wd3_134, wd1_1, wd3_135, by decide +kernel⟩
def rmX2_surplus : Room := { frames := 1, cells := 0, slots := 0, locals := 24 }
theorem okX2_surplus : OKV yX2_surplus RX2 cX2_surplus 2 (some .int) 1 := ⟨wd3_184, wd3_185, wd1_3, wd3_186, by decide +kernel⟩
def rmX6_possibleUpTo : Room := { frames := 2, cells := 0, slots := 0, locals := 45 }
theorem okX6_possibleUpTo : OKV yX6_possibleUpTo RX6 cX6_possibleUpTo 5 (some .int) 2 := ⟨wd3_191, ws_6, wd1_8, wd3_192, by decide +kernel⟩
def rmX6_prepare : Room := { frames := 3, cells := 0, slots := 0, locals := 69 }
theorem okX6_prepare : OKV yX6_prepare RX6 cX6_prepare 5 none 2 := ⟨wd3_180, wd3_181, wd1_8, wd3_182, by decide +kernel⟩
def rmX6_letterSurplus : Room := { frames := 0, cells := 0, slots := 0, locals := 0 }
theorem okX6_letterSurplus : OKV yX6_letterSurplus RX6 cX6_letterSurplus 1 (some .int) 0 := ⟨wd3_195, wd3_196, wd1_8, wd3_197, by decide +kernel⟩
def rmX0_numberOf : Room := { frames := 0, cells := 0, slots := 0, locals := 0 }
theorem okX0_numberOf : OKV yX0_numberOf RX0 cX0_numberOf 3 (some .int) 1 := ⟨wd3_211, wd3_212, wd1_7, wd3_213, by decide +kernel⟩
def rmX1_record : Room := { frames := 1, cells := 0, slots := 0, locals := 22 }
theorem okX1_record : OKV yX1_record RX1 cX1_record 4 none 0 := ⟨wd3_206, ws_8, wd1_9, wd3_207, by decide +kernel⟩
def rmX6_allows : Room := { frames := 1, cells := 0, slots := 0, locals := 20 }
theorem okX6_allows : OKV yX6_allows RX6 cX6_allows 3 (some .boolean) 2 := ⟨wd3_216, wd3_217, wd1_8, wd3_218, by decide +kernel⟩
def rmX6_surplusWith : Room := { frames := 1, cells := 0, slots := 0, locals := 20 }
theorem okX6_surplusWith : OKV yX6_surplusWith RX6 cX6_surplusWith 4 (some .int) 3 := ⟨wd3_221, wd3_222, wd1_8, wd3_223, by decide +kernel⟩
def rmX6_waysFrom (d : Nat) : Room := { frames := d, cells := 0, slots := 0, locals := 40 * d }
theorem okX6_waysFrom : OKV yX6_waysFrom RX6 cX6_waysFrom 5 (some .int) 2 := ⟨wd3_234, ws_10, wd1_8, wd3_235, by decide +kernel⟩
def rmX6_canBalance : Room := { frames := 9, cells := 0, slots := 0, locals := 344 }
theorem okX6_canBalance : OKV yX6_canBalance RX6 cX6_canBalance 3 (some .boolean) 2 := ⟨wd3_229, wd3_230, wd1_8, wd3_231, by decide +kernel⟩
def rmX1_chooseLetters (d : Nat) : Room := { frames := 2 * d + 21, cells := 0, slots := 0, locals := 60 * d + 1030 }
theorem okX1_chooseLetters : OKV yX1_chooseLetters RX1 cX1_chooseLetters 5 none 3 := ⟨wd3_226, ws_9, wd1_9, wd3_227, by decide +kernel⟩
def rmX1_chooseWord (d : Nat) : Room := { frames := 2 * d + 20, cells := 0, slots := 0, locals := 60 * d + 1000 }
theorem okX1_chooseWord : OKV yX1_chooseWord RX1 cX1_chooseWord 4 none 2 := ⟨wd3_200, ws_7, wd1_9, wd3_201, by decide +kernel⟩
def rmX1_enumerate : Room := { frames := 37, cells := 0, slots := 0, locals := 1503 }
theorem okX1_enumerate : OKV yX1_enumerate RX1 cX1_enumerate 3 (some .int) 2 := ⟨wd3_176, wd3_177, wd1_9, wd3_178, by decide +kernel⟩
def rmX11_countSolutions : Room := { frames := 38, cells := 0, slots := 0, locals := 1525 }
theorem okX11_countSolutions : OKV yX11_countSolutions RX11 cX11_countSolutions 2 (some .int) 1 := ⟨wd3_172, wd3_173, wd1_1, wd3_174, by decide +kernel⟩
def rmX1_firstNumber : Room := { frames := 1, cells := 0, slots := 0, locals := 20 }
theorem okX1_firstNumber : OKV yX1_firstNumber RX1 cX1_firstNumber 2 (some .int) 1 := ⟨wd4_2, wd4_3, wd1_9, wd4_4, by decide +kernel⟩
def rmX11_firstSolution : Room := { frames := 38, cells := 0, slots := 0, locals := 1525 }
theorem okX11_firstSolution : OKV yX11_firstSolution RX11 cX11_firstSolution 3 (some .int) 2 := ⟨wd3_238, wd3_239, wd1_1, wd4_0, by decide +kernel⟩
def rmX1_leastTotal : Room := { frames := 0, cells := 0, slots := 0, locals := 0 }
theorem okX1_leastTotal : OKV yX1_leastTotal RX1 cX1_leastTotal 1 (some .int) 0 := ⟨wd4_10, wd4_11, wd1_9, wd4_12, by decide +kernel⟩
def rmX11_leastTotalLength : Room := { frames := 38, cells := 0, slots := 0, locals := 1525 }
theorem okX11_leastTotalLength : OKV yX11_leastTotalLength RX11 cX11_leastTotalLength 2 (some .int) 1 := ⟨wd4_6, wd4_7, wd1_1, wd4_8, by decide +kernel⟩
def rmX6_solutions : Room := { frames := 9, cells := 0, slots := 0, locals := 344 }
theorem okX6_solutions : OKV yX6_solutions RX6 cX6_solutions 1 (some .int) 0 := ⟨wd4_19, wd4_20, wd1_8, wd4_21, by decide +kernel⟩
def rmX11_countLengths : Room := { frames := 10, cells := 0, slots := 0, locals := 364 }
theorem okX11_countLengths : OKV yX11_countLengths RX11 cX11_countLengths 2 (some .int) 1 := ⟨wd4_14, wd4_15, wd1_1, wd4_16, by decide +kernel⟩
def rmX11_refutedByCounting : Room := { frames := 2, cells := 0, slots := 0, locals := 45 }
theorem okX11_refutedByCounting : OKV yX11_refutedByCounting RX11 cX11_refutedByCounting 2 (some .int) 0 := ⟨wd4_23, wd4_24, wd1_1, wd4_25, by decide +kernel⟩
def rmX7_isKnown : Room := { frames := 0, cells := 0, slots := 0, locals := 0 }
theorem okX7_isKnown : OKV yX7_isKnown RX7 cX7_isKnown 6 (some .boolean) 2 := ⟨wd4_41, ws_12, wd1_10, wd4_42, by decide +kernel⟩
def rmX7_isNode : Room := { frames := 0, cells := 0, slots := 0, locals := 0 }
theorem okX7_isNode : OKV yX7_isNode RX7 cX7_isNode 2 (some .boolean) 1 := ⟨wd4_45, ws_13, wd1_10, wd4_46, by decide +kernel⟩
def rmX7_addNode : Room := { frames := 1, cells := 0, slots := 0, locals := 25 }
theorem okX7_addNode : OKV yX7_addNode RX7 cX7_addNode 7 none 4 := ⟨wd4_37, ws_11, wd1_10, wd4_38, by decide +kernel⟩
def rmX7_addWithout : Room := { frames := 2, cells := 0, slots := 0, locals := 53 }
theorem okX7_addWithout : OKV yX7_addWithout RX7 cX7_addWithout 8 none 3 := ⟨wd4_56, ws_15, wd1_10, wd4_57, by decide +kernel⟩
def rmX7_addLonger : Room := { frames := 2, cells := 0, slots := 0, locals := 53 }
theorem okX7_addLonger : OKV yX7_addLonger RX7 cX7_addLonger 12 none 4 := ⟨wd4_61, ws_16, wd1_10, wd4_62, by decide +kernel⟩
def rmX7_addChildren : Room := { frames := 3, cells := 0, slots := 0, locals := 84 }
theorem okX7_addChildren : OKV yX7_addChildren RX7 cX7_addChildren 6 none 1 := ⟨wd4_49, ws_14, wd1_10, wd4_50, by decide +kernel⟩
def rmX7_answerFor : Room := { frames := 4, cells := 0, slots := 0, locals := 109 }
theorem okX7_answerFor : OKV yX7_answerFor RX7 cX7_answerFor 3 (some .int) 1 := ⟨wd4_32, wd4_33, wd1_10, wd4_34, by decide +kernel⟩
def rmX11_decide : Room := { frames := 5, cells := 0, slots := 0, locals := 131 }
theorem okX11_decide : OKV yX11_decide RX11 cX11_decide 1 (some .int) 0 := ⟨wd4_28, wd4_29, wd1_1, wd4_30, by decide +kernel⟩
def rmX7_size : Room := { frames := 0, cells := 0, slots := 0, locals := 0 }
theorem okX7_size : OKV yX7_size RX7 cX7_size 1 (some .int) 0 := ⟨wd4_70, wd4_71, wd1_10, wd4_72, by decide +kernel⟩
def rmX11_nodeCount : Room := { frames := 5, cells := 0, slots := 0, locals := 131 }
theorem okX11_nodeCount : OKV yX11_nodeCount RX11 cX11_nodeCount 1 (some .int) 0 := ⟨wd4_66, wd4_67, wd1_1, wd4_68, by decide +kernel⟩
def rmX7_proofSize : Room := { frames := 1, cells := 0, slots := 0, locals := 21 }
theorem okX7_proofSize : OKV yX7_proofSize RX7 cX7_proofSize 1 (some .int) 0 := ⟨wd4_78, wd4_79, wd1_10, wd4_80, by decide +kernel⟩
def rmX11_proofLength : Room := { frames := 5, cells := 0, slots := 0, locals := 131 }
theorem okX11_proofLength : OKV yX11_proofLength RX11 cX11_proofLength 1 (some .int) 0 := ⟨wd4_74, wd4_75, wd1_1, wd4_76, by decide +kernel⟩
def rmX7_ruleOfProof : Room := { frames := 2, cells := 0, slots := 0, locals := 41 }
theorem okX7_ruleOfProof : OKV yX7_ruleOfProof RX7 cX7_ruleOfProof 4 (some .int) 1 := ⟨wd4_86, wd4_87, wd1_10, wd4_88, by decide +kernel⟩
def rmX11_proofRule : Room := { frames := 5, cells := 0, slots := 0, locals := 131 }
theorem okX11_proofRule : OKV yX11_proofRule RX11 cX11_proofRule 2 (some .int) 1 := ⟨wd4_82, wd4_83, wd1_1, wd4_84, by decide +kernel⟩
def rmX0_empty : Room := { frames := 2, cells := 0, slots := 0, locals := 44 }
theorem okX0_empty : OKV yX0_empty RX0 cX0_empty 2 none 0 := ⟨wd4_99, wd4_100, wd1_7, wd4_101, by decide +kernel⟩
def rmX0_prepend : Room := { frames := 2, cells := 0, slots := 0, locals := 44 }
theorem okX0_prepend : OKV yX0_prepend RX0 cX0_prepend 5 (some .boolean) 2 := ⟨wd4_109, wd4_110, wd1_7, wd4_111, by decide +kernel⟩
def rmX7_takeRuleBack : Room := { frames := 3, cells := 0, slots := 0, locals := 68 }
theorem okX7_takeRuleBack : OKV yX7_takeRuleBack RX7 cX7_takeRuleBack 6 (some .boolean) 2 := ⟨wd4_105, ws_17, wd1_10, wd4_106, by decide +kernel⟩
def rmX7_buildWitness : Room := { frames := 4, cells := 0, slots := 0, locals := 93 }
theorem okX7_buildWitness : OKV yX7_buildWitness RX7 cX7_buildWitness 4 (some .boolean) 1 := ⟨wd4_95, wd4_96, wd1_10, wd4_97, by decide +kernel⟩
def rmX11_witnessLength : Room := { frames := 5, cells := 0, slots := 0, locals := 131 }
theorem okX11_witnessLength : OKV yX11_witnessLength RX11 cX11_witnessLength 2 (some .int) 1 := ⟨wd4_91, wd4_92, wd1_1, wd4_93, by decide +kernel⟩
def rmX0_letterOf : Room := { frames := 1, cells := 0, slots := 0, locals := 21 }
theorem okX0_letterOf : OKV yX0_letterOf RX0 cX0_letterOf 4 (some .int) 2 := ⟨wd4_118, wd4_119, wd1_7, wd4_120, by decide +kernel⟩
def rmX11_witnessLetter : Room := { frames := 5, cells := 0, slots := 0, locals := 131 }
theorem okX11_witnessLetter : OKV yX11_witnessLetter RX11 cX11_witnessLetter 4 (some .int) 2 := ⟨wd4_114, wd4_115, wd1_1, wd4_116, by decide +kernel⟩
def rmX8_withoutLast : Room := { frames := 0, cells := 0, slots := 0, locals := 0 }
theorem okX8_withoutLast : OKS yX8_withoutLast cX8_withoutLast 6 (some .long) 2 := ⟨wd4_126, wd1_11, wd4_127, by decide +kernel⟩
def rmX8_begin : Room := { frames := 1, cells := 0, slots := 0, locals := 24 }
theorem okX8_begin : OKV yX8_begin RX8 cX8_begin 2 none 1 := ⟨wd4_130, wd4_131, wd1_11, wd4_132, by decide +kernel⟩
def rmX8_removes : Room := { frames := 3, cells := 0, slots := 0, locals := 77 }
theorem okX8_removes : OKV yX8_removes RX8 cX8_removes 2 (some .boolean) 1 := ⟨wd4_141, ws_18, wd1_11, wd4_142, by decide +kernel⟩
def rmX8_rewrites : Room := { frames := 4, cells := 0, slots := 0, locals := 88 }
theorem okX8_rewrites : OKV yX8_rewrites RX8 cX8_rewrites 2 (some .boolean) 1 := ⟨wd4_154, ws_19, wd1_11, wd4_155, by decide +kernel⟩
def rmX8_succeeds : Room := { frames := 38, cells := 0, slots := 0, locals := 1525 }
theorem okX8_succeeds : OKV yX8_succeeds RX8 cX8_succeeds 4 (some .boolean) 1 := ⟨wd4_136, wd4_137, wd1_11, wd4_138, by decide +kernel⟩
def rmX11_runScript : Room := { frames := 39, cells := 0, slots := 0, locals := 1548 }
theorem okX11_runScript : OKV yX11_runScript RX11 cX11_runScript 5 (some .int) 2 := ⟨wd4_122, wd4_123, wd1_1, wd4_124, by decide +kernel⟩
def rmX11_randomChecks : Room := { frames := 4, cells := 0, slots := 0, locals := 93 }
theorem okX11_randomChecks : OKV yX11_randomChecks RX11 cX11_randomChecks 9 (some .int) 2 := ⟨wd4_160, wd4_161, wd1_1, wd4_162, by decide +kernel⟩
def rmX10_has : Room := { frames := 0, cells := 0, slots := 0, locals := 0 }
theorem okX10_has : OKS yX10_has cX10_has 1 (some .boolean) 1 := ⟨wd4_170, wd1_6, wd4_171, by decide +kernel⟩
def rmX10_store : Room := { frames := 1, cells := 0, slots := 0, locals := 20 }
theorem okX10_store : OKV yX10_store RX10 cX10_store 3 none 2 := ⟨wd4_173, wd4_174, wd1_6, wd4_175, by decide +kernel⟩
def rmX11_save : Room := { frames := 2, cells := 0, slots := 0, locals := 42 }
theorem okX11_save : OKV yX11_save RX11 cX11_save 2 (some .int) 1 := ⟨wd4_166, wd4_167, wd1_1, wd4_168, by decide +kernel⟩
def rmX10_isFilled : Room := { frames := 1, cells := 0, slots := 0, locals := 20 }
theorem okX10_isFilled : OKV yX10_isFilled RX10 cX10_isFilled 2 (some .boolean) 1 := ⟨wd4_182, wd4_183, wd1_6, wd4_184, by decide +kernel⟩
def rmX10_fetch : Room := { frames := 1, cells := 0, slots := 0, locals := 24 }
theorem okX10_fetch : OKV yX10_fetch RX10 cX10_fetch 3 none 2 := ⟨wd4_186, wd4_187, wd1_6, wd4_188, by decide +kernel⟩
def rmX11_restore : Room := { frames := 2, cells := 0, slots := 0, locals := 46 }
theorem okX11_restore : OKV yX11_restore RX11 cX11_restore 2 (some .int) 1 := ⟨wd4_178, wd4_179, wd1_1, wd4_180, by decide +kernel⟩
def rmX12_in : Room := { frames := 0, cells := 0, slots := 0, locals := 0 }
theorem okX12_in : OKS yX12_in cX12_in 6 (some .boolean) 3 := ⟨wd5_68, wd1_12, wd5_69, by decide +kernel⟩
def rmX12_append : Room := { frames := 1, cells := 0, slots := 0, locals := 25 }
theorem okX12_append : OKV yX12_append RX12 cX12_append 2 (some .int) 1 := ⟨wd5_63, wd5_64, wd1_12, wd5_65, by decide +kernel⟩
def rmX12_clearText : Room := { frames := 0, cells := 0, slots := 0, locals := 0 }
theorem okX12_clearText : OKV yX12_clearText RX12 cX12_clearText 2 (some .int) 0 := ⟨wd5_71, wd5_72, wd1_12, wd5_73, by decide +kernel⟩
def rmX12_symbolOf : Room := { frames := 1, cells := 0, slots := 0, locals := 25 }
theorem okX12_symbolOf : OKS yX12_symbolOf cX12_symbolOf 1 (some .int) 1 := ⟨wd5_83, wd1_12, wd5_84, by decide +kernel⟩
def rmX12_at : Room := { frames := 0, cells := 0, slots := 0, locals := 0 }
theorem okX12_at : OKS yX12_at cX12_at 2 (some .int) 2 := ⟨wd5_88, wd1_12, wd5_89, by decide +kernel⟩
def rmX12_takeOfConstraint : Room := { frames := 1, cells := 0, slots := 0, locals := 25 }
theorem okX12_takeOfConstraint : OKV yX12_takeOfConstraint RX12 cX12_takeOfConstraint 4 (some .boolean) 2 := ⟨wd5_92, ws_21, wd1_12, wd5_93, by decide +kernel⟩
def rmX12_readText : Room := { frames := 2, cells := 0, slots := 0, locals := 48 }
theorem okX12_readText : OKV yX12_readText RX12 cX12_readText 7 (some .int) 0 := ⟨wd5_80, ws_20, wd1_12, wd5_81, by decide +kernel⟩
def rmX12_errorPosition : Room := { frames := 3, cells := 0, slots := 0, locals := 74 }
theorem okX12_errorPosition : OKV yX12_errorPosition RX12 cX12_errorPosition 1 (some .int) 0 := ⟨wd5_75, wd5_76, wd1_12, wd5_77, by decide +kernel⟩
def rmX12_copy : Room := { frames := 0, cells := 0, slots := 0, locals := 0 }
theorem okX12_copy : OKS yX12_copy cX12_copy 3 none 2 := ⟨wd5_103, wd1_12, wd5_104, by decide +kernel⟩
def rmX12_load : Room := { frames := 3, cells := 0, slots := 0, locals := 74 }
theorem okX12_load : OKV yX12_load RX12 cX12_load 2 (some .int) 0 := ⟨wd5_99, wd5_100, wd1_12, wd5_101, by decide +kernel⟩
def rmX12_sideLength : Room := { frames := 1, cells := 0, slots := 0, locals := 25 }
theorem okX12_sideLength : OKV yX12_sideLength RX12 cX12_sideLength 2 (some .int) 1 := ⟨wd5_106, wd5_107, wd1_12, wd5_108, by decide +kernel⟩
def rmX12_charOf : Room := { frames := 0, cells := 0, slots := 0, locals := 0 }
theorem okX12_charOf : OKS yX12_charOf cX12_charOf 1 (some .int) 1 := ⟨wd5_114, wd1_12, wd5_115, by decide +kernel⟩
def rmX12_symbolAt : Room := { frames := 1, cells := 0, slots := 0, locals := 25 }
theorem okX12_symbolAt : OKV yX12_symbolAt RX12 cX12_symbolAt 3 (some .int) 2 := ⟨wd5_110, wd5_111, wd1_12, wd5_112, by decide +kernel⟩
def rmX12_isVariable : Room := { frames := 1, cells := 0, slots := 0, locals := 25 }
theorem okX12_isVariable : OKS yX12_isVariable cX12_isVariable 1 (some .boolean) 1 := ⟨wd5_121, wd1_12, wd5_122, by decide +kernel⟩
def rmX12_countOf : Room := { frames := 1, cells := 0, slots := 0, locals := 21 }
theorem okX12_countOf : OKS yX12_countOf cX12_countOf 5 (some .int) 3 := ⟨wd5_125, wd1_12, wd5_126, by decide +kernel⟩
def rmX12_occurrences : Room := { frames := 2, cells := 0, slots := 0, locals := 45 }
theorem okX12_occurrences : OKV yX12_occurrences RX12 cX12_occurrences 3 (some .int) 2 := ⟨wd5_117, wd5_118, wd1_12, wd5_119, by decide +kernel⟩
def rmX12_note : Room := { frames := 0, cells := 0, slots := 0, locals := 0 }
theorem okX12_note : OKV yX12_note RX12 cX12_note 2 none 0 := ⟨wd5_133, ws_22, wd1_12, wd5_134, by decide +kernel⟩
def rmX12_swapIn : Room := { frames := 1, cells := 0, slots := 0, locals := 21 }
theorem okX12_swapIn : OKS yX12_swapIn cX12_swapIn 4 none 1 := ⟨wd5_136, wd1_12, wd5_137, by decide +kernel⟩
def rmX12_swapSides : Room := { frames := 2, cells := 0, slots := 0, locals := 44 }
theorem okX12_swapSides : OKV yX12_swapSides RX12 cX12_swapSides 1 (some .int) 0 := ⟨wd5_128, wd5_129, wd1_12, wd5_130, by decide +kernel⟩
def rmX12_reverseIn : Room := { frames := 1, cells := 0, slots := 0, locals := 21 }
theorem okX12_reverseIn : OKS yX12_reverseIn cX12_reverseIn 5 none 1 := ⟨wd5_143, wd1_12, wd5_144, by decide +kernel⟩
def rmX12_reverse : Room := { frames := 2, cells := 0, slots := 0, locals := 45 }
theorem okX12_reverse : OKV yX12_reverse RX12 cX12_reverse 1 (some .int) 0 := ⟨wd5_139, wd5_140, wd1_12, wd5_141, by decide +kernel⟩
def rmX12_dropFirst : Room := { frames := 1, cells := 0, slots := 0, locals := 21 }
theorem okX12_dropFirst : OKS yX12_dropFirst cX12_dropFirst 3 none 2 := ⟨wd5_153, wd1_12, wd5_154, by decide +kernel⟩
def rmX12_cancelIn : Room := { frames := 2, cells := 0, slots := 0, locals := 43 }
theorem okX12_cancelIn : OKS yX12_cancelIn cX12_cancelIn 2 (some .int) 1 := ⟨wd5_150, wd1_12, wd5_151, by decide +kernel⟩
def rmX12_cancel : Room := { frames := 3, cells := 0, slots := 0, locals := 64 }
theorem okX12_cancel : OKV yX12_cancel RX12 cX12_cancel 1 (some .int) 0 := ⟨wd5_146, wd5_147, wd1_12, wd5_148, by decide +kernel⟩
def rmX12_exchangeLetters : Room := { frames := 1, cells := 0, slots := 0, locals := 21 }
theorem okX12_exchangeLetters : OKV yX12_exchangeLetters RX12 cX12_exchangeLetters 5 (some .int) 0 := ⟨wd5_156, wd5_157, wd1_12, wd5_158, by decide +kernel⟩
def rmX12_eliminateIn : Room := { frames := 1, cells := 0, slots := 0, locals := 21 }
theorem okX12_eliminateIn : OKS yX12_eliminateIn cX12_eliminateIn 7 (some .int) 2 := ⟨wd5_164, wd1_12, wd5_165, by decide +kernel⟩
def rmX12_eliminate : Room := { frames := 2, cells := 0, slots := 0, locals := 47 }
theorem okX12_eliminate : OKV yX12_eliminate RX12 cX12_eliminate 2 (some .int) 1 := ⟨wd5_160, wd5_161, wd1_12, wd5_162, by decide +kernel⟩
def rmX12_substitute : Room := { frames := 2, cells := 0, slots := 0, locals := 45 }
theorem okX12_substitute : OKV yX12_substitute RX12 cX12_substitute 9 (some .int) 1 := ⟨wd5_167, wd5_168, wd1_12, wd5_169, by decide +kernel⟩
def rmX12_undo : Room := { frames := 0, cells := 0, slots := 0, locals := 0 }
theorem okX12_undo : OKV yX12_undo RX12 cX12_undo 2 (some .int) 0 := ⟨wd5_171, wd5_172, wd1_12, wd5_173, by decide +kernel⟩
def rmX12_lengthOf : Room := { frames := 0, cells := 0, slots := 0, locals := 0 }
theorem okX12_lengthOf : OKS yX12_lengthOf cX12_lengthOf 2 (some .int) 1 := ⟨wd5_183, wd1_12, wd5_184, by decide +kernel⟩
def rmX12_holds : Room := { frames := 0, cells := 0, slots := 0, locals := 0 }
theorem okX12_holds : OKV yX12_holds RX12 cX12_holds 8 (some .boolean) 2 := ⟨wd5_187, ws_24, wd1_12, wd5_188, by decide +kernel⟩
def rmX12_isSolution : Room := { frames := 1, cells := 0, slots := 0, locals := 27 }
theorem okX12_isSolution : OKV yX12_isSolution RX12 cX12_isSolution 10 (some .boolean) 1 := ⟨wd5_180, ws_23, wd1_12, wd5_181, by decide +kernel⟩
def rmX12_satisfies : Room := { frames := 2, cells := 0, slots := 0, locals := 56 }
theorem okX12_satisfies : OKV yX12_satisfies RX12 cX12_satisfies 5 (some .int) 4 := ⟨wd5_175, wd5_176, wd1_12, wd5_177, by decide +kernel⟩
def rmX12_isUsed : Room := { frames := 2, cells := 0, slots := 0, locals := 45 }
theorem okX12_isUsed : OKS yX12_isUsed cX12_isUsed 2 (some .boolean) 2 := ⟨wd5_202, wd1_12, wd5_203, by decide +kernel⟩
def rmX12_goOn : Room := { frames := 3, cells := 0, slots := 0, locals := 66 }
theorem okX12_goOn : OKV yX12_goOn RX12 cX12_goOn 4 (some .boolean) 2 := ⟨wd5_199, ws_26, wd1_12, wd5_200, by decide +kernel⟩
def rmX12_lookThrough : Room := { frames := 4, cells := 0, slots := 0, locals := 89 }
theorem okX12_lookThrough : OKV yX12_lookThrough RX12 cX12_lookThrough 6 none 2 := ⟨wd5_195, ws_25, wd1_12, wd5_196, by decide +kernel⟩
def rmX12_countSolutions : Room := { frames := 5, cells := 0, slots := 0, locals := 114 }
theorem okX12_countSolutions : OKV yX12_countSolutions RX12 cX12_countSolutions 2 (some .int) 1 := ⟨wd5_190, wd5_191, wd1_12, wd5_192, by decide +kernel⟩
def rmX12_firstSolution : Room := { frames := 5, cells := 0, slots := 0, locals := 114 }
theorem okX12_firstSolution : OKV yX12_firstSolution RX12 cX12_firstSolution 3 (some .int) 2 := ⟨wd5_205, wd5_206, wd1_12, wd5_207, by decide +kernel⟩
def rmX12_leastTotalLength : Room := { frames := 5, cells := 0, slots := 0, locals := 114 }
theorem okX12_leastTotalLength : OKV yX12_leastTotalLength RX12 cX12_leastTotalLength 2 (some .int) 1 := ⟨wd5_209, wd5_210, wd1_12, wd5_211, by decide +kernel⟩
def rmX12_countLengths : Room := { frames := 4, cells := 0, slots := 0, locals := 89 }
theorem okX12_countLengths : OKV yX12_countLengths RX12 cX12_countLengths 8 (some .int) 1 := ⟨wd5_213, wd5_214, wd1_12, wd5_215, by decide +kernel⟩
def rmX12_refutedByCounting : Room := { frames := 2, cells := 0, slots := 0, locals := 45 }
theorem okX12_refutedByCounting : OKV yX12_refutedByCounting RX12 cX12_refutedByCounting 3 (some .int) 0 := ⟨wd5_218, wd5_219, wd1_12, wd5_220, by decide +kernel⟩
def rmX12_layNode : Room := { frames := 0, cells := 0, slots := 0, locals := 0 }
theorem okX12_layNode : OKV yX12_layNode RX12 cX12_layNode 4 none 2 := ⟨wd5_231, ws_28, wd1_12, wd5_232, by decide +kernel⟩
def rmX12_applies : Room := { frames := 1, cells := 0, slots := 0, locals := 21 }
theorem okX12_applies : OKV yX12_applies RX12 cX12_applies 6 (some .boolean) 1 := ⟨wd5_235, ws_29, wd1_12, wd5_236, by decide +kernel⟩
def rmX12_layChild : Room := { frames := 1, cells := 0, slots := 0, locals := 25 }
theorem okX12_layChild : OKV yX12_layChild RX12 cX12_layChild 15 none 1 := ⟨wd6_3, ws_31, wd1_12, wd6_4, by decide +kernel⟩
def rmX12_sameNode : Room := { frames := 0, cells := 0, slots := 0, locals := 0 }
theorem okX12_sameNode : OKV yX12_sameNode RX12 cX12_sameNode 4 (some .int) 0 := ⟨wd6_8, ws_32, wd1_12, wd6_9, by decide +kernel⟩
def rmX12_addChild : Room := { frames := 2, cells := 0, slots := 0, locals := 59 }
theorem okX12_addChild : OKV yX12_addChild RX12 cX12_addChild 4 none 2 := ⟨wd5_239, ws_30, wd1_12, wd6_0, by decide +kernel⟩
def rmX12_search : Room := { frames := 3, cells := 0, slots := 0, locals := 82 }
theorem okX12_search : OKV yX12_search RX12 cX12_search 4 (some .int) 1 := ⟨wd5_227, ws_27, wd1_12, wd5_228, by decide +kernel⟩
def rmX12_decide : Room := { frames := 4, cells := 0, slots := 0, locals := 105 }
theorem okX12_decide : OKV yX12_decide RX12 cX12_decide 1 (some .int) 0 := ⟨wd5_222, wd5_223, wd1_12, wd5_224, by decide +kernel⟩
def rmX12_nodeCount : Room := { frames := 4, cells := 0, slots := 0, locals := 105 }
theorem okX12_nodeCount : OKV yX12_nodeCount RX12 cX12_nodeCount 2 (some .int) 0 := ⟨wd6_11, wd6_12, wd1_12, wd6_13, by decide +kernel⟩
def rmX12_layProof : Room := { frames := 4, cells := 0, slots := 0, locals := 105 }
theorem okX12_layProof : OKV yX12_layProof RX12 cX12_layProof 3 (some .boolean) 0 := ⟨wd6_20, ws_33, wd1_12, wd6_21, by decide +kernel⟩
def rmX12_proofLength : Room := { frames := 5, cells := 0, slots := 0, locals := 127 }
theorem okX12_proofLength : OKV yX12_proofLength RX12 cX12_proofLength 1 (some .int) 0 := ⟨wd6_15, wd6_16, wd1_12, wd6_17, by decide +kernel⟩
def rmX12_proofRule : Room := { frames := 5, cells := 0, slots := 0, locals := 127 }
theorem okX12_proofRule : OKV yX12_proofRule RX12 cX12_proofRule 2 (some .int) 1 := ⟨wd6_23, wd6_24, wd1_12, wd6_25, by decide +kernel⟩
def rmX12_putAhead : Room := { frames := 0, cells := 0, slots := 0, locals := 0 }
theorem okX12_putAhead : OKV yX12_putAhead RX12 cX12_putAhead 5 none 2 := ⟨wd6_36, ws_35, wd1_12, wd6_37, by decide +kernel⟩
def rmX12_layWitness : Room := { frames := 5, cells := 0, slots := 0, locals := 127 }
theorem okX12_layWitness : OKV yX12_layWitness RX12 cX12_layWitness 5 (some .boolean) 0 := ⟨wd6_32, ws_34, wd1_12, wd6_33, by decide +kernel⟩
def rmX12_witnessLength : Room := { frames := 6, cells := 0, slots := 0, locals := 151 }
theorem okX12_witnessLength : OKV yX12_witnessLength RX12 cX12_witnessLength 2 (some .int) 1 := ⟨wd6_27, wd6_28, wd1_12, wd6_29, by decide +kernel⟩
def rmX12_witnessLetter : Room := { frames := 6, cells := 0, slots := 0, locals := 151 }
theorem okX12_witnessLetter : OKV yX12_witnessLetter RX12 cX12_witnessLetter 3 (some .int) 2 := ⟨wd6_39, wd6_40, wd1_12, wd6_41, by decide +kernel⟩
def rmX12_thousands : Room := { frames := 0, cells := 0, slots := 0, locals := 0 }
theorem okX12_thousands : OKS yX12_thousands cX12_thousands 4 (some .long) 1 := ⟨wd6_48, wd1_12, wd6_49, by decide +kernel⟩
def rmX12_command : Room := { frames := 5, cells := 0, slots := 0, locals := 114 }
theorem okX12_command : OKV yX12_command RX12 cX12_command 5 (some .boolean) 3 := ⟨wd6_53, ws_36, wd1_12, wd6_54, by decide +kernel⟩
def rmX12_runScript : Room := { frames := 6, cells := 0, slots := 0, locals := 138 }
theorem okX12_runScript : OKV yX12_runScript RX12 cX12_runScript 6 (some .int) 2 := ⟨wd6_43, wd6_44, wd1_12, wd6_45, by decide +kernel⟩
def rmX12_randomChecks : Room := { frames := 2, cells := 0, slots := 0, locals := 56 }
theorem okX12_randomChecks : OKV yX12_randomChecks RX12 cX12_randomChecks 10 (some .int) 2 := ⟨wd6_56, wd6_57, wd1_12, wd6_58, by decide +kernel⟩
def rmX12_save : Room := { frames := 1, cells := 0, slots := 0, locals := 25 }
theorem okX12_save : OKV yX12_save RX12 cX12_save 3 (some .int) 1 := ⟨wd6_63, wd6_64, wd1_12, wd6_65, by decide +kernel⟩
def rmX12_restore : Room := { frames := 1, cells := 0, slots := 0, locals := 25 }
theorem okX12_restore : OKV yX12_restore RX12 cX12_restore 3 (some .int) 1 := ⟨wd6_67, wd6_68, wd1_12, wd6_69, by decide +kernel⟩
