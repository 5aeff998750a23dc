/-! ===== the heap behind the two constructors, as the fixed heap of numbered cells ===== -/
def zM0 : zM := fun q => if q = 1 ∨ q = 23 ∨ q = 45 then (fun k => if k = 12 then 1 else 0) else if q = 2 ∨ q = 24 ∨ q = 46 then (fun j => if j < 24 then 30 else 0) else if q = 88 then rfl8 24 else fun _ => 0
def zA (u7 u8 : Nat → Nat) : Nat → Nat := fun q => if q < 87 then u7 q else u8 (q - 87)
def zpos : List Nat := [102, 101, 100, 99, 98, 97, 96, 89, 88, 87, 86, 85, 84, 83, 82, 81, 80, 95, 94, 93, 92, 91, 90, 79, 78, 77, 76, 75, 74, 67, 66, 65, 64, 63, 62, 61, 60, 59, 58, 73, 72, 71, 70, 69, 68, 57, 56, 55, 54, 53, 52, 45, 44, 43, 42, 41, 40, 39, 38, 37, 36, 51, 50, 49, 48, 47, 46, 35, 34, 33, 32, 31, 30, 29, 28, 27, 26, 25, 24, 19, 18, 17, 20, 21, 22, 23, 16, 15, 14, 13, 12, 11, 10, 9, 8, 7, 6, 5, 4, 3, 2, 1, 0]
abbrev zWS (cy : Nat → ClassId) (u7 u8 : Nat → Nat) : va_W := nc8 cy u8 ++ (nc7 cy u7 ++ [])
theorem zw_0 (cy : Nat → ClassId) (u7 u8 : Nat → Nat) : (zWS cy u7 u8)[102]? = some (zA u7 u8 0, zsh cy (zA u7 u8) 0 (zM0 0)) := rfl
theorem zw_1 (cy : Nat → ClassId) (u7 u8 : Nat → Nat) : (zWS cy u7 u8)[101]? = some (zA u7 u8 1, zsh cy (zA u7 u8) 1 (zM0 1)) := rfl
theorem zw_2 (cy : Nat → ClassId) (u7 u8 : Nat → Nat) : (zWS cy u7 u8)[100]? = some (zA u7 u8 2, zsh cy (zA u7 u8) 2 (zM0 2)) := rfl
theorem zw_3 (cy : Nat → ClassId) (u7 u8 : Nat → Nat) : (zWS cy u7 u8)[99]? = some (zA u7 u8 3, zsh cy (zA u7 u8) 3 (zM0 3)) := rfl
theorem zw_4 (cy : Nat → ClassId) (u7 u8 : Nat → Nat) : (zWS cy u7 u8)[98]? = some (zA u7 u8 4, zsh cy (zA u7 u8) 4 (zM0 4)) := rfl
theorem zw_5 (cy : Nat → ClassId) (u7 u8 : Nat → Nat) : (zWS cy u7 u8)[97]? = some (zA u7 u8 5, zsh cy (zA u7 u8) 5 (zM0 5)) := rfl
theorem zw_6 (cy : Nat → ClassId) (u7 u8 : Nat → Nat) : (zWS cy u7 u8)[96]? = some (zA u7 u8 6, zsh cy (zA u7 u8) 6 (zM0 6)) := by
  have e : (fun i => if i < 8 then some (u7 (1 + (8 + i))) else none) = (fun i => if i < 8 then some (zA u7 u8 (1 + 8 + i)) else none) := funext fun i => by
    by_cases c : i < 8
    · rw [if_pos c, if_pos c]
      show _ = some (if 1 + 8 + i < 87 then u7 (1 + 8 + i) else u8 (1 + 8 + i - 87))
      rw [if_pos (by omega), Nat.add_assoc]
    · rw [if_neg c, if_neg c]
  exact congrArg (fun f : Nat → Option Nat => some (u7 6, (Sum.inl (cy 2, 8, Sum.inr (Sum.inr (Sum.inr (Sum.inr f)))) : va_E))) e
theorem zw_7 (cy : Nat → ClassId) (u7 u8 : Nat → Nat) : (zWS cy u7 u8)[89]? = some (zA u7 u8 7, zsh cy (zA u7 u8) 7 (zM0 7)) := rfl
theorem zw_8 (cy : Nat → ClassId) (u7 u8 : Nat → Nat) : (zWS cy u7 u8)[88]? = some (zA u7 u8 8, zsh cy (zA u7 u8) 8 (zM0 8)) := rfl
theorem zw_9 (cy : Nat → ClassId) (u7 u8 : Nat → Nat) : (zWS cy u7 u8)[87]? = some (zA u7 u8 9, zsh cy (zA u7 u8) 9 (zM0 9)) := rfl
theorem zw_10 (cy : Nat → ClassId) (u7 u8 : Nat → Nat) : (zWS cy u7 u8)[86]? = some (zA u7 u8 10, zsh cy (zA u7 u8) 10 (zM0 10)) := rfl
theorem zw_11 (cy : Nat → ClassId) (u7 u8 : Nat → Nat) : (zWS cy u7 u8)[85]? = some (zA u7 u8 11, zsh cy (zA u7 u8) 11 (zM0 11)) := rfl
theorem zw_12 (cy : Nat → ClassId) (u7 u8 : Nat → Nat) : (zWS cy u7 u8)[84]? = some (zA u7 u8 12, zsh cy (zA u7 u8) 12 (zM0 12)) := rfl
theorem zw_13 (cy : Nat → ClassId) (u7 u8 : Nat → Nat) : (zWS cy u7 u8)[83]? = some (zA u7 u8 13, zsh cy (zA u7 u8) 13 (zM0 13)) := rfl
theorem zw_14 (cy : Nat → ClassId) (u7 u8 : Nat → Nat) : (zWS cy u7 u8)[82]? = some (zA u7 u8 14, zsh cy (zA u7 u8) 14 (zM0 14)) := rfl
theorem zw_15 (cy : Nat → ClassId) (u7 u8 : Nat → Nat) : (zWS cy u7 u8)[81]? = some (zA u7 u8 15, zsh cy (zA u7 u8) 15 (zM0 15)) := rfl
theorem zw_16 (cy : Nat → ClassId) (u7 u8 : Nat → Nat) : (zWS cy u7 u8)[80]? = some (zA u7 u8 16, zsh cy (zA u7 u8) 16 (zM0 16)) := rfl
theorem zw_17 (cy : Nat → ClassId) (u7 u8 : Nat → Nat) : (zWS cy u7 u8)[95]? = some (zA u7 u8 17, zsh cy (zA u7 u8) 17 (zM0 17)) := rfl
theorem zw_18 (cy : Nat → ClassId) (u7 u8 : Nat → Nat) : (zWS cy u7 u8)[94]? = some (zA u7 u8 18, zsh cy (zA u7 u8) 18 (zM0 18)) := rfl
theorem zw_19 (cy : Nat → ClassId) (u7 u8 : Nat → Nat) : (zWS cy u7 u8)[93]? = some (zA u7 u8 19, zsh cy (zA u7 u8) 19 (zM0 19)) := rfl
theorem zw_20 (cy : Nat → ClassId) (u7 u8 : Nat → Nat) : (zWS cy u7 u8)[92]? = some (zA u7 u8 20, zsh cy (zA u7 u8) 20 (zM0 20)) := rfl
theorem zw_21 (cy : Nat → ClassId) (u7 u8 : Nat → Nat) : (zWS cy u7 u8)[91]? = some (zA u7 u8 21, zsh cy (zA u7 u8) 21 (zM0 21)) := rfl
theorem zw_22 (cy : Nat → ClassId) (u7 u8 : Nat → Nat) : (zWS cy u7 u8)[90]? = some (zA u7 u8 22, zsh cy (zA u7 u8) 22 (zM0 22)) := rfl
theorem zw_23 (cy : Nat → ClassId) (u7 u8 : Nat → Nat) : (zWS cy u7 u8)[79]? = some (zA u7 u8 23, zsh cy (zA u7 u8) 23 (zM0 23)) := rfl
theorem zw_24 (cy : Nat → ClassId) (u7 u8 : Nat → Nat) : (zWS cy u7 u8)[78]? = some (zA u7 u8 24, zsh cy (zA u7 u8) 24 (zM0 24)) := rfl
theorem zw_25 (cy : Nat → ClassId) (u7 u8 : Nat → Nat) : (zWS cy u7 u8)[77]? = some (zA u7 u8 25, zsh cy (zA u7 u8) 25 (zM0 25)) := rfl
theorem zw_26 (cy : Nat → ClassId) (u7 u8 : Nat → Nat) : (zWS cy u7 u8)[76]? = some (zA u7 u8 26, zsh cy (zA u7 u8) 26 (zM0 26)) := rfl
theorem zw_27 (cy : Nat → ClassId) (u7 u8 : Nat → Nat) : (zWS cy u7 u8)[75]? = some (zA u7 u8 27, zsh cy (zA u7 u8) 27 (zM0 27)) := rfl
theorem zw_28 (cy : Nat → ClassId) (u7 u8 : Nat → Nat) : (zWS cy u7 u8)[74]? = some (zA u7 u8 28, zsh cy (zA u7 u8) 28 (zM0 28)) := by
  have e : (fun i => if i < 8 then some (u7 (23 + (8 + i))) else none) = (fun i => if i < 8 then some (zA u7 u8 (23 + 8 + i)) else none) := funext fun i => by
    by_cases c : i < 8
    · rw [if_pos c, if_pos c]
      show _ = some (if 23 + 8 + i < 87 then u7 (23 + 8 + i) else u8 (23 + 8 + i - 87))
      rw [if_pos (by omega), Nat.add_assoc]
    · rw [if_neg c, if_neg c]
  exact congrArg (fun f : Nat → Option Nat => some (u7 28, (Sum.inl (cy 2, 8, Sum.inr (Sum.inr (Sum.inr (Sum.inr f)))) : va_E))) e
theorem zw_29 (cy : Nat → ClassId) (u7 u8 : Nat → Nat) : (zWS cy u7 u8)[67]? = some (zA u7 u8 29, zsh cy (zA u7 u8) 29 (zM0 29)) := rfl
theorem zw_30 (cy : Nat → ClassId) (u7 u8 : Nat → Nat) : (zWS cy u7 u8)[66]? = some (zA u7 u8 30, zsh cy (zA u7 u8) 30 (zM0 30)) := rfl
theorem zw_31 (cy : Nat → ClassId) (u7 u8 : Nat → Nat) : (zWS cy u7 u8)[65]? = some (zA u7 u8 31, zsh cy (zA u7 u8) 31 (zM0 31)) := rfl
theorem zw_32 (cy : Nat → ClassId) (u7 u8 : Nat → Nat) : (zWS cy u7 u8)[64]? = some (zA u7 u8 32, zsh cy (zA u7 u8) 32 (zM0 32)) := rfl
theorem zw_33 (cy : Nat → ClassId) (u7 u8 : Nat → Nat) : (zWS cy u7 u8)[63]? = some (zA u7 u8 33, zsh cy (zA u7 u8) 33 (zM0 33)) := rfl
theorem zw_34 (cy : Nat → ClassId) (u7 u8 : Nat → Nat) : (zWS cy u7 u8)[62]? = some (zA u7 u8 34, zsh cy (zA u7 u8) 34 (zM0 34)) := rfl
theorem zw_35 (cy : Nat → ClassId) (u7 u8 : Nat → Nat) : (zWS cy u7 u8)[61]? = some (zA u7 u8 35, zsh cy (zA u7 u8) 35 (zM0 35)) := rfl
theorem zw_36 (cy : Nat → ClassId) (u7 u8 : Nat → Nat) : (zWS cy u7 u8)[60]? = some (zA u7 u8 36, zsh cy (zA u7 u8) 36 (zM0 36)) := rfl
theorem zw_37 (cy : Nat → ClassId) (u7 u8 : Nat → Nat) : (zWS cy u7 u8)[59]? = some (zA u7 u8 37, zsh cy (zA u7 u8) 37 (zM0 37)) := rfl
theorem zw_38 (cy : Nat → ClassId) (u7 u8 : Nat → Nat) : (zWS cy u7 u8)[58]? = some (zA u7 u8 38, zsh cy (zA u7 u8) 38 (zM0 38)) := rfl
theorem zw_39 (cy : Nat → ClassId) (u7 u8 : Nat → Nat) : (zWS cy u7 u8)[73]? = some (zA u7 u8 39, zsh cy (zA u7 u8) 39 (zM0 39)) := rfl
theorem zw_40 (cy : Nat → ClassId) (u7 u8 : Nat → Nat) : (zWS cy u7 u8)[72]? = some (zA u7 u8 40, zsh cy (zA u7 u8) 40 (zM0 40)) := rfl
theorem zw_41 (cy : Nat → ClassId) (u7 u8 : Nat → Nat) : (zWS cy u7 u8)[71]? = some (zA u7 u8 41, zsh cy (zA u7 u8) 41 (zM0 41)) := rfl
theorem zw_42 (cy : Nat → ClassId) (u7 u8 : Nat → Nat) : (zWS cy u7 u8)[70]? = some (zA u7 u8 42, zsh cy (zA u7 u8) 42 (zM0 42)) := rfl
theorem zw_43 (cy : Nat → ClassId) (u7 u8 : Nat → Nat) : (zWS cy u7 u8)[69]? = some (zA u7 u8 43, zsh cy (zA u7 u8) 43 (zM0 43)) := rfl
theorem zw_44 (cy : Nat → ClassId) (u7 u8 : Nat → Nat) : (zWS cy u7 u8)[68]? = some (zA u7 u8 44, zsh cy (zA u7 u8) 44 (zM0 44)) := rfl
theorem zw_45 (cy : Nat → ClassId) (u7 u8 : Nat → Nat) : (zWS cy u7 u8)[57]? = some (zA u7 u8 45, zsh cy (zA u7 u8) 45 (zM0 45)) := rfl
theorem zw_46 (cy : Nat → ClassId) (u7 u8 : Nat → Nat) : (zWS cy u7 u8)[56]? = some (zA u7 u8 46, zsh cy (zA u7 u8) 46 (zM0 46)) := rfl
theorem zw_47 (cy : Nat → ClassId) (u7 u8 : Nat → Nat) : (zWS cy u7 u8)[55]? = some (zA u7 u8 47, zsh cy (zA u7 u8) 47 (zM0 47)) := rfl
theorem zw_48 (cy : Nat → ClassId) (u7 u8 : Nat → Nat) : (zWS cy u7 u8)[54]? = some (zA u7 u8 48, zsh cy (zA u7 u8) 48 (zM0 48)) := rfl
theorem zw_49 (cy : Nat → ClassId) (u7 u8 : Nat → Nat) : (zWS cy u7 u8)[53]? = some (zA u7 u8 49, zsh cy (zA u7 u8) 49 (zM0 49)) := rfl
theorem zw_50 (cy : Nat → ClassId) (u7 u8 : Nat → Nat) : (zWS cy u7 u8)[52]? = some (zA u7 u8 50, zsh cy (zA u7 u8) 50 (zM0 50)) := by
  have e : (fun i => if i < 8 then some (u7 (45 + (8 + i))) else none) = (fun i => if i < 8 then some (zA u7 u8 (45 + 8 + i)) else none) := funext fun i => by
    by_cases c : i < 8
    · rw [if_pos c, if_pos c]
      show _ = some (if 45 + 8 + i < 87 then u7 (45 + 8 + i) else u8 (45 + 8 + i - 87))
      rw [if_pos (by omega), Nat.add_assoc]
    · rw [if_neg c, if_neg c]
  exact congrArg (fun f : Nat → Option Nat => some (u7 50, (Sum.inl (cy 2, 8, Sum.inr (Sum.inr (Sum.inr (Sum.inr f)))) : va_E))) e
theorem zw_51 (cy : Nat → ClassId) (u7 u8 : Nat → Nat) : (zWS cy u7 u8)[45]? = some (zA u7 u8 51, zsh cy (zA u7 u8) 51 (zM0 51)) := rfl
theorem zw_52 (cy : Nat → ClassId) (u7 u8 : Nat → Nat) : (zWS cy u7 u8)[44]? = some (zA u7 u8 52, zsh cy (zA u7 u8) 52 (zM0 52)) := rfl
theorem zw_53 (cy : Nat → ClassId) (u7 u8 : Nat → Nat) : (zWS cy u7 u8)[43]? = some (zA u7 u8 53, zsh cy (zA u7 u8) 53 (zM0 53)) := rfl
theorem zw_54 (cy : Nat → ClassId) (u7 u8 : Nat → Nat) : (zWS cy u7 u8)[42]? = some (zA u7 u8 54, zsh cy (zA u7 u8) 54 (zM0 54)) := rfl
theorem zw_55 (cy : Nat → ClassId) (u7 u8 : Nat → Nat) : (zWS cy u7 u8)[41]? = some (zA u7 u8 55, zsh cy (zA u7 u8) 55 (zM0 55)) := rfl
theorem zw_56 (cy : Nat → ClassId) (u7 u8 : Nat → Nat) : (zWS cy u7 u8)[40]? = some (zA u7 u8 56, zsh cy (zA u7 u8) 56 (zM0 56)) := rfl
theorem zw_57 (cy : Nat → ClassId) (u7 u8 : Nat → Nat) : (zWS cy u7 u8)[39]? = some (zA u7 u8 57, zsh cy (zA u7 u8) 57 (zM0 57)) := rfl
theorem zw_58 (cy : Nat → ClassId) (u7 u8 : Nat → Nat) : (zWS cy u7 u8)[38]? = some (zA u7 u8 58, zsh cy (zA u7 u8) 58 (zM0 58)) := rfl
theorem zw_59 (cy : Nat → ClassId) (u7 u8 : Nat → Nat) : (zWS cy u7 u8)[37]? = some (zA u7 u8 59, zsh cy (zA u7 u8) 59 (zM0 59)) := rfl
theorem zw_60 (cy : Nat → ClassId) (u7 u8 : Nat → Nat) : (zWS cy u7 u8)[36]? = some (zA u7 u8 60, zsh cy (zA u7 u8) 60 (zM0 60)) := rfl
theorem zw_61 (cy : Nat → ClassId) (u7 u8 : Nat → Nat) : (zWS cy u7 u8)[51]? = some (zA u7 u8 61, zsh cy (zA u7 u8) 61 (zM0 61)) := rfl
theorem zw_62 (cy : Nat → ClassId) (u7 u8 : Nat → Nat) : (zWS cy u7 u8)[50]? = some (zA u7 u8 62, zsh cy (zA u7 u8) 62 (zM0 62)) := rfl
theorem zw_63 (cy : Nat → ClassId) (u7 u8 : Nat → Nat) : (zWS cy u7 u8)[49]? = some (zA u7 u8 63, zsh cy (zA u7 u8) 63 (zM0 63)) := rfl
theorem zw_64 (cy : Nat → ClassId) (u7 u8 : Nat → Nat) : (zWS cy u7 u8)[48]? = some (zA u7 u8 64, zsh cy (zA u7 u8) 64 (zM0 64)) := rfl
theorem zw_65 (cy : Nat → ClassId) (u7 u8 : Nat → Nat) : (zWS cy u7 u8)[47]? = some (zA u7 u8 65, zsh cy (zA u7 u8) 65 (zM0 65)) := rfl
theorem zw_66 (cy : Nat → ClassId) (u7 u8 : Nat → Nat) : (zWS cy u7 u8)[46]? = some (zA u7 u8 66, zsh cy (zA u7 u8) 66 (zM0 66)) := rfl
theorem zw_67 (cy : Nat → ClassId) (u7 u8 : Nat → Nat) : (zWS cy u7 u8)[35]? = some (zA u7 u8 67, zsh cy (zA u7 u8) 67 (zM0 67)) := rfl
theorem zw_68 (cy : Nat → ClassId) (u7 u8 : Nat → Nat) : (zWS cy u7 u8)[34]? = some (zA u7 u8 68, zsh cy (zA u7 u8) 68 (zM0 68)) := rfl
theorem zw_69 (cy : Nat → ClassId) (u7 u8 : Nat → Nat) : (zWS cy u7 u8)[33]? = some (zA u7 u8 69, zsh cy (zA u7 u8) 69 (zM0 69)) := rfl
theorem zw_70 (cy : Nat → ClassId) (u7 u8 : Nat → Nat) : (zWS cy u7 u8)[32]? = some (zA u7 u8 70, zsh cy (zA u7 u8) 70 (zM0 70)) := rfl
theorem zw_71 (cy : Nat → ClassId) (u7 u8 : Nat → Nat) : (zWS cy u7 u8)[31]? = some (zA u7 u8 71, zsh cy (zA u7 u8) 71 (zM0 71)) := rfl
theorem zw_72 (cy : Nat → ClassId) (u7 u8 : Nat → Nat) : (zWS cy u7 u8)[30]? = some (zA u7 u8 72, zsh cy (zA u7 u8) 72 (zM0 72)) := rfl
theorem zw_73 (cy : Nat → ClassId) (u7 u8 : Nat → Nat) : (zWS cy u7 u8)[29]? = some (zA u7 u8 73, zsh cy (zA u7 u8) 73 (zM0 73)) := rfl
theorem zw_74 (cy : Nat → ClassId) (u7 u8 : Nat → Nat) : (zWS cy u7 u8)[28]? = some (zA u7 u8 74, zsh cy (zA u7 u8) 74 (zM0 74)) := rfl
theorem zw_75 (cy : Nat → ClassId) (u7 u8 : Nat → Nat) : (zWS cy u7 u8)[27]? = some (zA u7 u8 75, zsh cy (zA u7 u8) 75 (zM0 75)) := rfl
theorem zw_76 (cy : Nat → ClassId) (u7 u8 : Nat → Nat) : (zWS cy u7 u8)[26]? = some (zA u7 u8 76, zsh cy (zA u7 u8) 76 (zM0 76)) := rfl
theorem zw_77 (cy : Nat → ClassId) (u7 u8 : Nat → Nat) : (zWS cy u7 u8)[25]? = some (zA u7 u8 77, zsh cy (zA u7 u8) 77 (zM0 77)) := rfl
theorem zw_78 (cy : Nat → ClassId) (u7 u8 : Nat → Nat) : (zWS cy u7 u8)[24]? = some (zA u7 u8 78, zsh cy (zA u7 u8) 78 (zM0 78)) := rfl
theorem zw_79 (cy : Nat → ClassId) (u7 u8 : Nat → Nat) : (zWS cy u7 u8)[19]? = some (zA u7 u8 79, zsh cy (zA u7 u8) 79 (zM0 79)) := by
  have e : (fun i => if i < 4 then some (u7 (78 + (4 + i))) else none) = (fun i => if i < 4 then some (zA u7 u8 (82 + i)) else none) := funext fun i => by
    by_cases c : i < 4
    · rw [if_pos c, if_pos c]
      show _ = some (if 82 + i < 87 then u7 (82 + i) else u8 (82 + i - 87))
      rw [if_pos (by omega), show 78 + (4 + i) = 82 + i by omega]
    · rw [if_neg c, if_neg c]
  exact congrArg (fun f : Nat → Option Nat => some (u7 79, (Sum.inl (cy 3, 4, Sum.inr (Sum.inr (Sum.inr (Sum.inr f)))) : va_E))) e
theorem zw_80 (cy : Nat → ClassId) (u7 u8 : Nat → Nat) : (zWS cy u7 u8)[18]? = some (zA u7 u8 80, zsh cy (zA u7 u8) 80 (zM0 80)) := rfl
theorem zw_81 (cy : Nat → ClassId) (u7 u8 : Nat → Nat) : (zWS cy u7 u8)[17]? = some (zA u7 u8 81, zsh cy (zA u7 u8) 81 (zM0 81)) := rfl
theorem zw_82 (cy : Nat → ClassId) (u7 u8 : Nat → Nat) : (zWS cy u7 u8)[20]? = some (zA u7 u8 82, zsh cy (zA u7 u8) 82 (zM0 82)) := rfl
theorem zw_83 (cy : Nat → ClassId) (u7 u8 : Nat → Nat) : (zWS cy u7 u8)[21]? = some (zA u7 u8 83, zsh cy (zA u7 u8) 83 (zM0 83)) := rfl
theorem zw_84 (cy : Nat → ClassId) (u7 u8 : Nat → Nat) : (zWS cy u7 u8)[22]? = some (zA u7 u8 84, zsh cy (zA u7 u8) 84 (zM0 84)) := rfl
theorem zw_85 (cy : Nat → ClassId) (u7 u8 : Nat → Nat) : (zWS cy u7 u8)[23]? = some (zA u7 u8 85, zsh cy (zA u7 u8) 85 (zM0 85)) := rfl
theorem zw_86 (cy : Nat → ClassId) (u7 u8 : Nat → Nat) : (zWS cy u7 u8)[16]? = some (zA u7 u8 86, zsh cy (zA u7 u8) 86 (zM0 86)) := rfl
theorem zw_87 (cy : Nat → ClassId) (u7 u8 : Nat → Nat) : (zWS cy u7 u8)[15]? = some (zA u7 u8 87, zsh cy (zA u7 u8) 87 (zM0 87)) := rfl
theorem zw_88 (cy : Nat → ClassId) (u7 u8 : Nat → Nat) : (zWS cy u7 u8)[14]? = some (zA u7 u8 88, zsh cy (zA u7 u8) 88 (zM0 88)) := rfl
theorem zw_89 (cy : Nat → ClassId) (u7 u8 : Nat → Nat) : (zWS cy u7 u8)[13]? = some (zA u7 u8 89, zsh cy (zA u7 u8) 89 (zM0 89)) := rfl
theorem zw_90 (cy : Nat → ClassId) (u7 u8 : Nat → Nat) : (zWS cy u7 u8)[12]? = some (zA u7 u8 90, zsh cy (zA u7 u8) 90 (zM0 90)) := rfl
theorem zw_91 (cy : Nat → ClassId) (u7 u8 : Nat → Nat) : (zWS cy u7 u8)[11]? = some (zA u7 u8 91, zsh cy (zA u7 u8) 91 (zM0 91)) := rfl
theorem zw_92 (cy : Nat → ClassId) (u7 u8 : Nat → Nat) : (zWS cy u7 u8)[10]? = some (zA u7 u8 92, zsh cy (zA u7 u8) 92 (zM0 92)) := rfl
theorem zw_93 (cy : Nat → ClassId) (u7 u8 : Nat → Nat) : (zWS cy u7 u8)[9]? = some (zA u7 u8 93, zsh cy (zA u7 u8) 93 (zM0 93)) := rfl
theorem zw_94 (cy : Nat → ClassId) (u7 u8 : Nat → Nat) : (zWS cy u7 u8)[8]? = some (zA u7 u8 94, zsh cy (zA u7 u8) 94 (zM0 94)) := rfl
theorem zw_95 (cy : Nat → ClassId) (u7 u8 : Nat → Nat) : (zWS cy u7 u8)[7]? = some (zA u7 u8 95, zsh cy (zA u7 u8) 95 (zM0 95)) := rfl
theorem zw_96 (cy : Nat → ClassId) (u7 u8 : Nat → Nat) : (zWS cy u7 u8)[6]? = some (zA u7 u8 96, zsh cy (zA u7 u8) 96 (zM0 96)) := rfl
theorem zw_97 (cy : Nat → ClassId) (u7 u8 : Nat → Nat) : (zWS cy u7 u8)[5]? = some (zA u7 u8 97, zsh cy (zA u7 u8) 97 (zM0 97)) := rfl
theorem zw_98 (cy : Nat → ClassId) (u7 u8 : Nat → Nat) : (zWS cy u7 u8)[4]? = some (zA u7 u8 98, zsh cy (zA u7 u8) 98 (zM0 98)) := rfl
theorem zw_99 (cy : Nat → ClassId) (u7 u8 : Nat → Nat) : (zWS cy u7 u8)[3]? = some (zA u7 u8 99, zsh cy (zA u7 u8) 99 (zM0 99)) := rfl
theorem zw_100 (cy : Nat → ClassId) (u7 u8 : Nat → Nat) : (zWS cy u7 u8)[2]? = some (zA u7 u8 100, zsh cy (zA u7 u8) 100 (zM0 100)) := rfl
theorem zw_101 (cy : Nat → ClassId) (u7 u8 : Nat → Nat) : (zWS cy u7 u8)[1]? = some (zA u7 u8 101, zsh cy (zA u7 u8) 101 (zM0 101)) := rfl
theorem zw_102 (cy : Nat → ClassId) (u7 u8 : Nat → Nat) : (zWS cy u7 u8)[0]? = some (zA u7 u8 102, zsh cy (zA u7 u8) 102 (zM0 102)) := rfl
theorem zr103 : List.range 103 = [0, 1, 2, 3, 4, 5, 6, 7, 8, 9, 10, 11, 12, 13, 14, 15, 16, 17, 18, 19, 20, 21, 22, 23, 24, 25, 26, 27, 28, 29, 30, 31, 32, 33, 34, 35, 36, 37, 38, 39, 40, 41, 42, 43, 44, 45, 46, 47, 48, 49, 50, 51, 52, 53, 54, 55, 56, 57, 58, 59, 60, 61, 62, 63, 64, 65, 66, 67, 68, 69, 70, 71, 72, 73, 74, 75, 76, 77, 78, 79, 80, 81, 82, 83, 84, 85, 86, 87, 88, 89, 90, 91, 92, 93, 94, 95, 96, 97, 98, 99, 100, 101, 102] := by decide +kernel
set_option maxRecDepth 20000 in
theorem zw_all (cy : Nat → ClassId) (u7 u8 : Nat → Nat) : ∀ q, q < 103 → (zWS cy u7 u8)[zpos.getD q 0]? = some (zA u7 u8 q, zsh cy (zA u7 u8) q (zM0 q)) := by
  have h : ∀ q ∈ List.range 103, (zWS cy u7 u8)[zpos.getD q 0]? = some (zA u7 u8 q, zsh cy (zA u7 u8) q (zM0 q)) := by
    rw [zr103]
    exact List.forall_mem_cons.mpr ⟨zw_0 cy u7 u8, List.forall_mem_cons.mpr ⟨zw_1 cy u7 u8, List.forall_mem_cons.mpr ⟨zw_2 cy u7 u8, List.forall_mem_cons.mpr ⟨zw_3 cy u7 u8, List.forall_mem_cons.mpr ⟨zw_4 cy u7 u8, List.forall_mem_cons.mpr ⟨zw_5 cy u7 u8, List.forall_mem_cons.mpr ⟨zw_6 cy u7 u8, List.forall_mem_cons.mpr ⟨zw_7 cy u7 u8, List.forall_mem_cons.mpr ⟨zw_8 cy u7 u8, List.forall_mem_cons.mpr ⟨zw_9 cy u7 u8, List.forall_mem_cons.mpr ⟨zw_10 cy u7 u8, List.forall_mem_cons.mpr ⟨zw_11 cy u7 u8, List.forall_mem_cons.mpr ⟨zw_12 cy u7 u8, List.forall_mem_cons.mpr ⟨zw_13 cy u7 u8, List.forall_mem_cons.mpr ⟨zw_14 cy u7 u8, List.forall_mem_cons.mpr ⟨zw_15 cy u7 u8, List.forall_mem_cons.mpr ⟨zw_16 cy u7 u8, List.forall_mem_cons.mpr ⟨zw_17 cy u7 u8, List.forall_mem_cons.mpr ⟨zw_18 cy u7 u8, List.forall_mem_cons.mpr ⟨zw_19 cy u7 u8, List.forall_mem_cons.mpr ⟨zw_20 cy u7 u8, List.forall_mem_cons.mpr ⟨zw_21 cy u7 u8, List.forall_mem_cons.mpr ⟨zw_22 cy u7 u8, List.forall_mem_cons.mpr ⟨zw_23 cy u7 u8, List.forall_mem_cons.mpr ⟨zw_24 cy u7 u8, List.forall_mem_cons.mpr ⟨zw_25 cy u7 u8, List.forall_mem_cons.mpr ⟨zw_26 cy u7 u8, List.forall_mem_cons.mpr ⟨zw_27 cy u7 u8, List.forall_mem_cons.mpr ⟨zw_28 cy u7 u8, List.forall_mem_cons.mpr ⟨zw_29 cy u7 u8, List.forall_mem_cons.mpr ⟨zw_30 cy u7 u8, List.forall_mem_cons.mpr ⟨zw_31 cy u7 u8, List.forall_mem_cons.mpr ⟨zw_32 cy u7 u8, List.forall_mem_cons.mpr ⟨zw_33 cy u7 u8, List.forall_mem_cons.mpr ⟨zw_34 cy u7 u8, List.forall_mem_cons.mpr ⟨zw_35 cy u7 u8, List.forall_mem_cons.mpr ⟨zw_36 cy u7 u8, List.forall_mem_cons.mpr ⟨zw_37 cy u7 u8, List.forall_mem_cons.mpr ⟨zw_38 cy u7 u8, List.forall_mem_cons.mpr ⟨zw_39 cy u7 u8, List.forall_mem_cons.mpr ⟨zw_40 cy u7 u8, List.forall_mem_cons.mpr ⟨zw_41 cy u7 u8, List.forall_mem_cons.mpr ⟨zw_42 cy u7 u8, List.forall_mem_cons.mpr ⟨zw_43 cy u7 u8, List.forall_mem_cons.mpr ⟨zw_44 cy u7 u8, List.forall_mem_cons.mpr ⟨zw_45 cy u7 u8, List.forall_mem_cons.mpr ⟨zw_46 cy u7 u8, List.forall_mem_cons.mpr ⟨zw_47 cy u7 u8, List.forall_mem_cons.mpr ⟨zw_48 cy u7 u8, List.forall_mem_cons.mpr ⟨zw_49 cy u7 u8, List.forall_mem_cons.mpr ⟨zw_50 cy u7 u8, List.forall_mem_cons.mpr ⟨zw_51 cy u7 u8, List.forall_mem_cons.mpr ⟨zw_52 cy u7 u8, List.forall_mem_cons.mpr ⟨zw_53 cy u7 u8, List.forall_mem_cons.mpr ⟨zw_54 cy u7 u8, List.forall_mem_cons.mpr ⟨zw_55 cy u7 u8, List.forall_mem_cons.mpr ⟨zw_56 cy u7 u8, List.forall_mem_cons.mpr ⟨zw_57 cy u7 u8, List.forall_mem_cons.mpr ⟨zw_58 cy u7 u8, List.forall_mem_cons.mpr ⟨zw_59 cy u7 u8, List.forall_mem_cons.mpr ⟨zw_60 cy u7 u8, List.forall_mem_cons.mpr ⟨zw_61 cy u7 u8, List.forall_mem_cons.mpr ⟨zw_62 cy u7 u8, List.forall_mem_cons.mpr ⟨zw_63 cy u7 u8, List.forall_mem_cons.mpr ⟨zw_64 cy u7 u8, List.forall_mem_cons.mpr ⟨zw_65 cy u7 u8, List.forall_mem_cons.mpr ⟨zw_66 cy u7 u8, List.forall_mem_cons.mpr ⟨zw_67 cy u7 u8, List.forall_mem_cons.mpr ⟨zw_68 cy u7 u8, List.forall_mem_cons.mpr ⟨zw_69 cy u7 u8, List.forall_mem_cons.mpr ⟨zw_70 cy u7 u8, List.forall_mem_cons.mpr ⟨zw_71 cy u7 u8, List.forall_mem_cons.mpr ⟨zw_72 cy u7 u8, List.forall_mem_cons.mpr ⟨zw_73 cy u7 u8, List.forall_mem_cons.mpr ⟨zw_74 cy u7 u8, List.forall_mem_cons.mpr ⟨zw_75 cy u7 u8, List.forall_mem_cons.mpr ⟨zw_76 cy u7 u8, List.forall_mem_cons.mpr ⟨zw_77 cy u7 u8, List.forall_mem_cons.mpr ⟨zw_78 cy u7 u8, List.forall_mem_cons.mpr ⟨zw_79 cy u7 u8, List.forall_mem_cons.mpr ⟨zw_80 cy u7 u8, List.forall_mem_cons.mpr ⟨zw_81 cy u7 u8, List.forall_mem_cons.mpr ⟨zw_82 cy u7 u8, List.forall_mem_cons.mpr ⟨zw_83 cy u7 u8, List.forall_mem_cons.mpr ⟨zw_84 cy u7 u8, List.forall_mem_cons.mpr ⟨zw_85 cy u7 u8, List.forall_mem_cons.mpr ⟨zw_86 cy u7 u8, List.forall_mem_cons.mpr ⟨zw_87 cy u7 u8, List.forall_mem_cons.mpr ⟨zw_88 cy u7 u8, List.forall_mem_cons.mpr ⟨zw_89 cy u7 u8, List.forall_mem_cons.mpr ⟨zw_90 cy u7 u8, List.forall_mem_cons.mpr ⟨zw_91 cy u7 u8, List.forall_mem_cons.mpr ⟨zw_92 cy u7 u8, List.forall_mem_cons.mpr ⟨zw_93 cy u7 u8, List.forall_mem_cons.mpr ⟨zw_94 cy u7 u8, List.forall_mem_cons.mpr ⟨zw_95 cy u7 u8, List.forall_mem_cons.mpr ⟨zw_96 cy u7 u8, List.forall_mem_cons.mpr ⟨zw_97 cy u7 u8, List.forall_mem_cons.mpr ⟨zw_98 cy u7 u8, List.forall_mem_cons.mpr ⟨zw_99 cy u7 u8, List.forall_mem_cons.mpr ⟨zw_100 cy u7 u8, List.forall_mem_cons.mpr ⟨zw_101 cy u7 u8, List.forall_mem_cons.mpr ⟨zw_102 cy u7 u8, fun _ h => absurd h List.not_mem_nil⟩⟩⟩⟩⟩⟩⟩⟩⟩⟩⟩⟩⟩⟩⟩⟩⟩⟩⟩⟩⟩⟩⟩⟩⟩⟩⟩⟩⟩⟩⟩⟩⟩⟩⟩⟩⟩⟩⟩⟩⟩⟩⟩⟩⟩⟩⟩⟩⟩⟩⟩⟩⟩⟩⟩⟩⟩⟩⟩⟩⟩⟩⟩⟩⟩⟩⟩⟩⟩⟩⟩⟩⟩⟩⟩⟩⟩⟩⟩⟩⟩⟩⟩⟩⟩⟩⟩⟩⟩⟩⟩⟩⟩⟩⟩⟩⟩⟩⟩⟩⟩⟩⟩
  exact fun q hq => h q (List.mem_range.mpr hq)
theorem zpos_inj : ∀ i, i < 103 → ∀ j, j < 103 → zpos.getD i 0 = zpos.getD j 0 → i = j := by decide +kernel
theorem zworld {D : va_G} {cy : Nat → ClassId} {u7 u8 : Nat → Nat} {A : Nat → Prop} {H : Heap} (hP : va_P D vwCl (zWS cy u7 u8) H) (hD : va_D A (zWS cy u7 u8)) : va_P D vwCl (zwC cy (zA u7 u8) zM0) H ∧ va_D A (zwC cy (zA u7 u8) zM0) := by
  have hl : ∀ (k : Nat) (x : Nat × va_E), (zwC cy (zA u7 u8) zM0)[k]? = some x → k < 103 ∧ (zWS cy u7 u8)[zpos.getD k 0]? = some x := fun k x hk => by
    have h1 : k < 103 := by
      have := (List.getElem?_eq_some_iff.mp hk).1
      simpa [zwC] using this
    rw [zwC_at h1] at hk
    cases hk
    exact ⟨h1, zw_all cy u7 u8 k h1⟩
  refine ⟨fun k x hk => hP _ _ (hl k x hk).2, fun i j x y hi hj e => ?_, fun k x hk => hD.2 _ _ (hl k x hk).2⟩
  obtain ⟨a1, a2⟩ := hl i x hi
  obtain ⟨b1, b2⟩ := hl j y hj
  exact zpos_inj i a1 j b1 (hD.1 _ _ x y a2 b2 e)
/-! ===== the numbers at the start: the class's stand for the reference's ===== -/
theorem zM0_z {q : Nat} (h : q ≠ 1 ∧ q ≠ 23 ∧ q ≠ 45 ∧ q ≠ 2 ∧ q ≠ 24 ∧ q ≠ 46 ∧ q ≠ 88) : zM0 q = fun _ => 0 := by
  unfold zM0
  rw [if_neg (by omega), if_neg (by omega), if_neg (by omega)]
theorem zM0_8 {k : Nat} (h1 : k ≠ 5) (h2 : ¬ (6 ≤ k ∧ k < 30)) : zM0 88 k = 0 := by
  show rfl8 24 k = 0
  unfold rfl8
  rw [if_neg h1, if_neg (by omega)]
theorem zM0_f {j : Nat} (h : j < 24) : zM0 88 (6 + j) = 30 := by
  show rfl8 24 (6 + j) = 30
  unfold rfl8
  rw [if_neg (by omega), if_pos (by omega)]
theorem zbd0 {x : Int32} {n : Int} (h : x = 0) (hn : 0 ≤ n) : zbd x n := by
  subst h
  exact ⟨by decide, hn⟩
theorem zvt0 (u : Nat) (tk : Nat → Int32 × Int32) : zVT u tk 0 := ⟨by omega, fun k hk => absurd hk (Nat.not_lt_zero k), fun h => absurd h (Nat.lt_irrefl 0)⟩
theorem rel0 : Rel2 zM0 zM0 := by
  have nz : ∀ {x : Int32}, x = 0 → x = nI 0 := fun h => h
  have cl : ∀ (lam b u : Nat), lam ≠ 1 ∧ lam ≠ 23 ∧ lam ≠ 45 ∧ lam ≠ 2 ∧ lam ≠ 24 ∧ lam ≠ 46 ∧ lam ≠ 88 → 30 ≤ b → CLX lam zM0 (zM0 88) b u := fun lam b u h hb => by
    have e : zM0 88 b = 0 := zM0_8 (by omega) (by omega)
    refine ⟨by rw [zM0_z h, e], fun c hc hc6 k hk => ?_⟩
    have : 0 = c := nI_inj' ((nz e).symm.trans hc) (by omega) (by omega)
    omega
  refine ⟨⟨0, 0, ⟨by omega, nz (zM0_8 (by omega) (by omega)), nz (zM0_8 (by omega) (by omega)), by omega, zbd0 (zM0_8 (by omega) (by omega)) (by decide), fun j hj => ?_, fun j hj => zbd0 (zM0_8 (by omega) (by omega)) (by decide), fun j hj => ⟨zbd0 (zM0_8 (by omega) (by omega)) (by decide), zbd0 (zM0_8 (by omega) (by omega)) (by decide)⟩, fun w hw => absurd hw (Nat.not_lt_zero w), ⟨0, nz (zM0_8 (by omega) (by omega)), zvt0 _ _⟩, ⟨0, nz (zM0_8 (by omega) (by omega)), zvt0 _ _⟩⟩, by omega, ?_⟩, ?_, ?_, ?_, ?_, ?_, ?_⟩
  · rw [zM0_f hj]
    exact ⟨by decide, by decide⟩
  · refine ⟨(zM0_8 (k := 0) (by omega) (by omega)).symm, (zM0_8 (k := 1) (by omega) (by omega)).symm, (zM0_8 (k := 2) (by omega) (by omega)).symm, rfl, fun j hj => ?_, fun j hj => ?_, fun j hj => ⟨?_, ?_⟩, fun w hw => absurd hw (Nat.not_lt_zero w), cl _ _ _ (by decide) (by decide), cl _ _ _ (by decide) (by decide)⟩
    · rw [zM0_f hj]
      show (if j < 24 then (30 : Int32) else 0) = 30
      rw [if_pos hj]
    · rw [zM0_8 (by omega) (by omega)]
      rfl
    · rw [zM0_8 (by omega) (by omega)]
      rfl
    · rw [zM0_8 (by omega) (by omega)]
      rfl
  · exact ⟨0, 0, by omega, by omega, nz (zM0_8 (by omega) (by omega)), rfl, nz (zM0_8 (by omega) (by omega)), rfl, fun j _ => by rw [zM0_z (by decide)]; rfl, fun j hj => absurd hj (Nat.not_lt_zero j), fun j hj => absurd hj (Nat.not_lt_zero j)⟩
  · rfl
  · exact fun h => absurd rfl h
  · exact fun k _ => rfl
  · exact ⟨0, by omega, rfl, rfl, fun j hj => absurd hj (Nat.not_lt_zero j)⟩
  · intro k hk
    exact ⟨Or.inl rfl, rfl, 0, by omega, rfl, rfl, fun j _ => by rw [zM0_z (by omega), zM0_z (by decide)]⟩
/-! ===== what the tables give at the start ===== -/
theorem zK0 {args : Array Value} {s : State} (hW : ∀ w ∈ zW0, w.before args s = true) (h1 : va_AO "WheelBrook$Wheel" s) (h2 : zAOA .int s) : ∃ (D : va_G) (cy : Nat → ClassId), va_K D vwCl (zTY cy) s := by
  obtain ⟨c0, i0, k0⟩ := u_known (C := RX0) (T := TX0) (N := 15) (n := 15) hW inlX0 (hW _ zm_1_14)
  obtain ⟨c1, i1, k1⟩ := u_known (C := RX1) (T := TX1) (N := 4) (n := 4) hW inlX1 (hW _ zm_1_20)
  obtain ⟨c2, i2, k2⟩ := u_known (C := RX2) (T := TX2) (N := 3) (n := 3) hW inlX2 (hW _ zm_3_1)
  obtain ⟨c3, i3, k3⟩ := u_known (C := RX3) (T := TX3) (N := 8) (n := 8) hW inlX3 (hW _ zm_2_1)
  obtain ⟨c4, i4, k4⟩ := u_known (C := RX4) (T := TX4) (N := 3) (n := 3) hW inlX4 (hW _ zm_2_9)
  obtain ⟨c5, i5, k5⟩ := u_known (C := RX5) (T := TX5) (N := 6) (n := 6) hW inlX5 (hW _ zm_2_5)
  obtain ⟨c6, i6, k6⟩ := u_known (C := RX6) (T := TX6) (N := 9) (n := 9) hW inlX6 (hW _ zm_3_8)
  obtain ⟨c7, i7, k7⟩ := u_known (C := RX7) (T := TX7) (N := 10) (n := 10) hW inlX7 (hW _ zm_1_1)
  obtain ⟨c8, i8, k8⟩ := u_known (C := RX8) (T := TX8) (N := 27) (n := 27) hW inlX8 (hW _ zm_1_4)
  obtain ⟨ya, ka, ma, a1, a2, a3⟩ := Cond.arrayClass_spec (hW _ zm_2_12)
  obtain ⟨yb, kb, mb, b1, b2, b3⟩ := Cond.arrayClass_spec (hW _ zm_3_21)
  obtain ⟨md, yd, kd, d1, -, d2, d3, d4⟩ := Cond.arrayOver_spec (va_AO.use (A := #[]) h1)
  obtain ⟨me, ye, ke, e1, e2, e3, e4⟩ := Cond.arrayOver_specA (zAOA.use (A := #[]) h2)
  refine ⟨(fun k => [c0, c1, c2, c3, c4, c5, c6, c7, c8].getD k 0, fun k => [i0, i1, i2, i3, i4, i5, i6, i7, i8].getD k i0), fun k => [ya, yb, yd, ye].getD k 0, fun k q hq => ?_, fun k q hq => ?_⟩
  · match k, hq with
    | 0, hq => cases hq; exact k0
    | 1, hq => cases hq; exact k1
    | 2, hq => cases hq; exact k2
    | 3, hq => cases hq; exact k3
    | 4, hq => cases hq; exact k4
    | 5, hq => cases hq; exact k5
    | 6, hq => cases hq; exact k6
    | 7, hq => cases hq; exact k7
    | 8, hq => cases hq; exact k8
    | k + 9, hq => cases hq
  · match k, hq with
    | 0, hq => cases hq; exact ⟨fun n z => ⟨fun k h => (by cases h), ka, a2, ma, a3⟩, a1⟩
    | 1, hq => cases hq; exact ⟨fun n z => ⟨fun k h => (by cases h), kb, b2, mb, b3⟩, b1⟩
    | 2, hq => cases hq; exact ⟨fun n z => ⟨fun k h => (by cases h), kd, d2, md, d3⟩, kd, md, d2, d3, d1, d4⟩
    | 3, hq => cases hq; exact ⟨fun n z => ⟨fun k h => (by cases h), ke, e2, me, e3⟩, e4⟩
    | k + 4, hq => cases hq
theorem zST_of {args : Array Value} {s : State} {C n : String} {N : Nat} {f : Nat → Int32} {A : Nat → Prop} (hN : N < 2 ^ 31) (hl : (Cond.laysStatic C n "[I").before args s = true) (hini : (Cond.initialized C).before args s = true) (harr : (Cond.arrayOf (.static C n "[I") .int).before args s = true) (hlen : (Cond.eq (.length (.static C n "[I")) (.int (Int32.ofNat N))).before args s = true) (hel : ∀ j, j < N → (Cond.eq (.elem (.static C n "[I") (.int (Int32.ofNat j))) (.int (f j))).before args s = true) (hA : ∀ a : Nat, a < s.heap.size → ¬ A a) : zST C n N f A s := by
  obtain ⟨t, h1, h2⟩ := va_Tof (f := fun j => .int (f j)) hN harr (va_eqt hlen) (fun j hj => va_eqt (hel j hj)) hA
  exact ⟨t, va_Zof hl hini h1 hA, h2⟩
abbrev zFL : List Cond := flatC (Cond.and given_1 narrow_1)
theorem zf_a1 : Cond.arrayOf (.static "WheelBrook" "ABOVE" "[I") .int ∈ zFL := by decide +kernel
theorem zf_a2 : Cond.eq (.length (.static "WheelBrook" "ABOVE" "[I")) (.int (Int32.ofNat 7)) ∈ zFL := by decide +kernel
theorem zf_a3 : ∀ j, j < 7 → Cond.eq (.elem (.static "WheelBrook" "ABOVE" "[I") (.int (Int32.ofNat j))) (.int (zABOVE j)) ∈ zFL := by decide +kernel
theorem zf_b1 : Cond.arrayOf (.static "WheelBrook" "MOST_SET" "[I") .int ∈ zFL := by decide +kernel
theorem zf_b2 : Cond.eq (.length (.static "WheelBrook" "MOST_SET" "[I")) (.int (Int32.ofNat 6)) ∈ zFL := by decide +kernel
theorem zf_b3 : ∀ j, j < 6 → Cond.eq (.elem (.static "WheelBrook" "MOST_SET" "[I") (.int (Int32.ofNat j))) (.int (zMSET j)) ∈ zFL := by decide +kernel
theorem zf_c1 : Cond.arrayOf (.static "WheelBrook$Speaker" "BODIES" "[I") .int ∈ zFL := by decide +kernel
theorem zf_c2 : Cond.eq (.length (.static "WheelBrook$Speaker" "BODIES" "[I")) (.int (Int32.ofNat 28)) ∈ zFL := by decide +kernel
theorem zf_c3 : ∀ j, j < 28 → Cond.eq (.elem (.static "WheelBrook$Speaker" "BODIES" "[I") (.int (Int32.ofNat j))) (.int (zBODY j)) ∈ zFL := by decide +kernel
theorem zf_d : Cond.eq (.static "java/lang/String" "COMPACT_STRINGS" "Z") (.int 1) ∈ zFL := by decide +kernel
def zTM (i : Nat) : Term := .string "WheelBrook$Reader" (if i = 0 then 62 else 64)
theorem zf_s1 : ∀ i, i < 2 → Cond.exactly (zTM i) "java/lang/String" ∈ zFL := by decide +kernel
theorem zf_s2 : ∀ i, i < 2 → Cond.eq (.field (zTM i) "java/lang/String" "coder" "B") (.int 0) ∈ zFL := by decide +kernel
theorem zf_s3 : ∀ i, i < 2 → Cond.arrayOf (.field (zTM i) "java/lang/String" "value" "[B") .byte ∈ zFL := by decide +kernel
theorem zf_s4 : ∀ i, i < 2 → Cond.eq (.length (.field (zTM i) "java/lang/String" "value" "[B")) (.int (Int32.ofNat (zsLen.getD i 0))) ∈ zFL := by decide +kernel
theorem zf_s5 : ∀ i, i < 2 → ∀ j, j < zsLen.getD i 0 → Cond.eq (.elem (.field (zTM i) "java/lang/String" "value" "[B") (.int (Int32.ofNat j))) (.int ((zsByt.getD i []).getD j 0)) ∈ zFL := by decide +kernel
theorem zf_s6 : Cond.not (Cond.eq (zTM 0) (zTM 1)) ∈ zFL := by decide +kernel
theorem zEN0 {args : Array Value} {s : State} {A : Nat → Prop} (hts : ∀ w ∈ lw_tbl, w.before args s = true) (hgv : (Cond.and given_1 narrow_1).before args s = true) (hA : ∀ a : Nat, a < s.heap.size → ¬ A a) : zEN A s := by
  have hf : ∀ c ∈ zFL, c.before args s = true := flat_of_before _ hgv
  have hW : ∀ w ∈ zW0, w.before args s = true := fun w h => hts w (zt_all w h)
  refine ⟨⟨va_Nw.of rfl (hts _ (by decide +kernel)), va_Nw.of rfl (hts _ (by decide +kernel))⟩, zST_of (by decide) (hts _ (by decide +kernel)) (hts _ (by decide +kernel)) (hf _ zf_a1) (hf _ zf_a2) (fun j hj => hf _ (zf_a3 j hj)) hA, zST_of (by decide) (hts _ (by decide +kernel)) (hts _ (by decide +kernel)) (hf _ zf_b1) (hf _ zf_b2) (fun j hj => hf _ (zf_b3 j hj)) hA, zST_of (by decide) (hts _ (by decide +kernel)) (hts _ (by decide +kernel)) (hf _ zf_c1) (hf _ zf_c2) (fun j hj => hf _ (zf_c3 j hj)) hA, va_Zof (hts _ (by decide +kernel)) (hts _ (by decide +kernel)) (va_eqi (hf _ zf_d)) hA, ?_⟩
  obtain ⟨adK, adV, h1, h2⟩ := vk_Sof (N := 2) (tm := zTM) (len := zsLen) (byt := zsByt) (A := A) (by decide) (fun i hi => hf _ (zf_s1 i hi)) (fun i hi => hf _ (zf_s2 i hi)) (fun i hi => hf _ (zf_s3 i hi)) (fun i hi => hf _ (zf_s4 i hi)) (fun i hi j hj => hf _ (zf_s5 i hi j hj)) (fun i j hi hj hne => by
    have h : (i = 0 ∧ j = 1) ∨ (i = 1 ∧ j = 0) := by omega
    rcases h with ⟨rfl, rfl⟩ | ⟨rfl, rfl⟩
    · exact Or.inl (hf _ zf_s6)
    · exact Or.inr (hf _ zf_s6)) hA
  exact ⟨adK, adV, h1, vk_R.of (hts _ (by decide +kernel)) (h2 0 (by omega)), vk_R.of (hts _ (by decide +kernel)) (h2 1 (by omega))⟩
theorem zNX0 {args : Array Value} {s : State} (hts : ∀ w ∈ lw_tbl, w.before args s = true) : zNX s :=
  ⟨va_AO.of (hts _ (by decide +kernel)), zAOA.of (hts _ (by decide +kernel)), va_Nw.of rfl (hts _ (by decide +kernel)), va_Nw.of rfl (hts _ (by decide +kernel)), va_Nw.of rfl (hts _ (by decide +kernel)), va_Nw.of rfl (hts _ (by decide +kernel)), va_Nw.of rfl (hts _ (by decide +kernel)), va_Nw.of rfl (hts _ (by decide +kernel))⟩
