/-! what ties the class's store to the reference's -/
def primes : List Nat := [2, 3, 5, 7, 11, 13, 17, 19, 23, 29, 31, 37, 41, 43, 47, 53, 59, 61, 67, 71, 73, 79, 83, 89, 97]
/-- the numbers that AN IMAGE keeps are as they may be -/
def Dat (q w n : Int32) (ki we : Nat → Int32) (en li : Nat → Int32) : Prop :=
  (∃ a : Nat, a ∈ primes ∧ q = nI a) ∧ (∃ a : Nat, 1 ≤ a ∧ a ≤ 6 ∧ w = nI a) ∧ (∃ a : Nat, a ≤ 10 ∧ n = nI a) ∧
  (∀ j, j < 10 → ∃ a : Nat, a ≤ 5 ∧ ki j = nI a) ∧ (∀ j, j < 10 → ∃ a : Nat, a ≤ 999 ∧ we j = nI a) ∧ (∀ j, j < 120 → -99 ≤ (en j).toInt ∧ (en j).toInt ≤ 99) ∧
  ∃ g : Nat → Nat, (∀ j, j < 8 → g j < 256 ∧ li j = nI (g j)) ∧ (∀ i j, i < 8 → j < 8 → (g i).testBit j = (g j).testBit i) ∧ ∀ j, j < 8 → fb_ct (fun i => (g j).testBit i) 8 ≤ 3
def MainRel (S T : Sg) : Prop := S.1 1 0 = T.1 0 0 ∧ S.1 1 1 = T.1 0 1 ∧ S.1 1 2 = T.1 0 2 ∧ S.1 2 = T.1 1 ∧ S.1 3 = T.1 2 ∧ S.2 4 = T.2 3 ∧ S.1 5 = T.1 4 ∧ S.1 6 = T.1 5
def KeptRel (S T : Sg) : Prop := S.1 0 2 = T.1 0 24 ∧ (T.1 0 24 = 0 ∨ (T.1 0 24 = 1 ∧ S.1 7 0 = T.1 18 0 ∧ S.1 7 1 = T.1 18 1 ∧ S.1 7 2 = T.1 18 2 ∧ (∀ j, j < 10 → S.1 8 j = T.1 18 (3 + j)) ∧ (∀ j, j < 10 → S.1 9 j = T.1 18 (13 + j)) ∧ (∀ j, j < 10 → S.2 10 j = T.2 19 j) ∧ (∀ j, j < 120 → S.1 11 j = T.1 18 (23 + j)) ∧ (∀ j, j < 8 → S.1 12 j = T.1 18 (143 + j)) ∧
  Dat (T.1 18 0) (T.1 18 1) (T.1 18 2) (fun j => T.1 18 (3 + j)) (fun j => T.1 18 (13 + j)) (fun j => T.1 18 (23 + j)) (fun j => T.1 18 (143 + j))))
def SheetRel (S T : Sg) : Prop := ∀ s, s < 4 → S.1 (32 + 2 * s) 0 = T.1 15 s ∧ S.1 (32 + 2 * s) 1 = T.1 16 s ∧ (T.1 15 s = -1 ∨ T.1 15 s = 0 ∨ T.1 15 s = 1) ∧ ∃ a : Nat, a ≤ 30 ∧ T.1 16 s = nI a ∧ ∀ i, i < a → S.2 (33 + 2 * s) i = T.2 17 (30 * s + i)
def HandRel (S T : Sg) : Prop := ∀ h, h < 4 → S.1 (41 + 2 * h) 0 = T.1 10 h ∧ S.1 (41 + 2 * h) 1 = T.1 11 h ∧ S.1 (41 + 2 * h) 2 = T.1 12 h ∧ S.1 (41 + 2 * h) 3 = T.1 13 h ∧ (∀ i, i < 6 → S.1 (42 + 2 * h) i = T.1 14 (6 * h + i)) ∧ (T.1 10 h = 0 ∨ T.1 10 h = 1 ∨ T.1 10 h = 2) ∧ (∃ a : Nat, a ≤ 5 ∧ T.1 11 h = nI a) ∧ (∃ a : Nat, a ≤ 6 ∧ T.1 13 h = nI a) ∧ ∀ i, i < 6 → 0 ≤ (T.1 14 (6 * h + i)).toInt
def Rel (S T : Sg) : Prop := MainRel S T ∧ Dat (T.1 0 0) (T.1 0 1) (T.1 0 2) (T.1 1) (T.1 2) (T.1 4) (T.1 5) ∧ KeptRel S T ∧ SheetRel S T ∧ HandRel S T
