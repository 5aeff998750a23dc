/-! ===== the shallow words: a guard, a call's answer, a name ===== -/
abbrev zM : Type := Nat → Nat → Int32
def zst (M : zM) (q k : Nat) (v : Int32) : zM := fun j => if j = q then upd (M q) k v else M j
def zup (M : zM) (q : Nat) (f : Nat → Int32) : zM := fun j => if j = q then f else M j
def zgd {β : Type} (c : Prop) [Decidable c] (k : Option β) : Option β := if c then none else k
def zbi {α β : Type} (x : Option (α × zM)) (k : α → zM → Option β) : Option β := match x with
  | none => none
  | some q => k q.1 q.2
def zbv {β : Type} (x : Option zM) (k : zM → Option β) : Option β := match x with
  | none => none
  | some q => k q
def zlt {α β : Type} (x : α) (k : α → β) : β := k x
def zF : Nat := 1000
theorem zgd_e {β : Type} {c : Prop} [Decidable c] {k : Option β} {z : β} (h : zgd c k = some z) : ¬ c ∧ k = some z := by
  unfold zgd at h
  by_cases hc : c
  · rw [if_pos hc] at h
    cases h
  · rw [if_neg hc] at h
    exact ⟨hc, h⟩
theorem zbi_e {α β : Type} {x : Option (α × zM)} {k : α → zM → Option β} {z : β} (h : zbi x k = some z) : ∃ (r : α) (M : zM), x = some (r, M) ∧ k r M = some z := by
  match x, h with
  | some q, h => exact ⟨q.1, q.2, rfl, h⟩
theorem zbv_e {β : Type} {x : Option zM} {k : zM → Option β} {z : β} (h : zbv x k = some z) : ∃ (M : zM), x = some M ∧ k M = some z := by
  match x, h with
  | some q, h => exact ⟨q, rfl, h⟩
theorem zlt_s {α β : Type} {x y : α} {k : α → β} {z : β} (e : y = x) (h : zlt x k = z) : k y = z := by
  rw [e]
  exact h
theorem zif_t {β : Type} {c : Prop} [Decidable c] {a b z : β} (hc : c) (h : (if c then a else b) = z) : a = z := (if_pos hc).symm.trans h
theorem zif_f {β : Type} {c : Prop} [Decidable c] {a b z : β} (hc : ¬ c) (h : (if c then a else b) = z) : b = z := (if_neg hc).symm.trans h
/-! ===== the fixed heap: numbered cells ===== -/
def zshB (cy : Nat → ClassId) (a : Nat → Nat) (b o : Nat) (f : Nat → Int32) : va_E := match o with
  | 0 => .inr (0, [.ref (a (b + 1)), .ref (a (b + 2)), .ref (a (b + 3)), .ref (a (b + 4)), .ref (a (b + 5)), .ref (a (b + 16)), .ref (a (b + 19)), .ref (a (b + 6)), .ref (a (b + 7)), .int (f 9), .int (f 10), .int (f 11), .int (f 12), .int (f 13), .int (f 14)])
  | 1 => .inl (cy 0, 24, .inl f)
  | 2 => .inl (cy 0, 12, .inl f)
  | 3 => .inl (cy 0, 5, .inl f)
  | 4 => .inl (cy 0, 5, .inl f)
  | 5 => .inl (cy 2, 8, .inr (.inr (.inr (.inr (fun i => if i < 8 then some (a (b + 8 + i)) else none)))))
  | 6 => .inl (cy 0, 4, .inl f)
  | 7 => .inl (cy 0, 12, .inl f)
  | 16 => .inr (2, [.ref (a (b + 17)), .ref (a (b + 18)), .int (f 2)])
  | 17 => .inl (cy 0, 60, .inl f)
  | 18 => .inl (cy 0, 60, .inl f)
  | 19 => .inr (2, [.ref (a (b + 20)), .ref (a (b + 21)), .int (f 2)])
  | 20 => .inl (cy 0, 60, .inl f)
  | 21 => .inl (cy 0, 60, .inl f)
  | _ => .inr (6, [.int (f 0), .int (f 1), .int (f 2), .int (f 3), .int (f 4), .int (f 5), .int (f 6), .int (f 7), .int (f 8)])
def zshR (cy : Nat → ClassId) (a : Nat → Nat) (q : Nat) (f : Nat → Int32) : va_E := match q with
  | 0 => .inr (8, [.ref (a 88), .ref (a 89), .ref (a 90), .int (f 3), .ref (a 91), .int (f 5), .int (f 6), .int (f 7), .int (f 8), .ref (a 92), .ref (a 93), .ref (a 94), .ref (a 95), .ref (a 96), .int (f 14), .int (f 15), .ref (a 97), .int (f 17), .int (f 18), .ref (a 98), .int (f 20), .int (f 21), .int (f 22), .ref (a 99), .ref (a 100), .ref (a 101), .ref (a 102)])
  | 1 => .inl (cy 0, 449, .inl f)
  | 2 => .inl (cy 0, 449, .inl f)
  | 3 => .inl (cy 0, 449, .inl f)
  | 4 => .inl (cy 0, 7, .inl f)
  | 5 => .inl (cy 0, 124, .inl f)
  | 6 => .inl (cy 0, 128, .inl f)
  | 7 => .inl (cy 0, 64, .inl f)
  | 8 => .inl (cy 0, 13, .inl f)
  | 9 => .inl (cy 0, 9, .inl f)
  | 10 => .inl (cy 0, 9, .inl f)
  | 11 => .inl (cy 0, 30, .inl f)
  | 12 => .inl (cy 0, 4, .inl f)
  | 13 => .inl (cy 0, 4, .inl f)
  | 14 => .inl (cy 0, 96, .inl f)
  | _ => .inl (cy 0, 24, .inl f)
def zshO (cy : Nat → ClassId) (a : Nat → Nat) (q : Nat) (f : Nat → Int32) : va_E := match q with
  | 0 => .inr (1, [.ref (a 68), .ref (a 69), .int (f 2), .int (f 3)])
  | 1 => .inl (cy 1, 60, .inl f)
  | 2 => .inl (cy 0, 24, .inl f)
  | 3 => .inr (1, [.ref (a 71), .ref (a 72), .int (f 2), .int (f 3)])
  | 4 => .inl (cy 1, 60, .inl f)
  | 5 => .inl (cy 0, 24, .inl f)
  | 6 => .inr (3, [.ref (a 74), .ref (a 75), .int (f 2), .int (f 3), .int (f 4), .int (f 5), .int (f 6), .int (f 7)])
  | 7 => .inl (cy 0, 60, .inl f)
  | 8 => .inl (cy 0, 60, .inl f)
  | 9 => .inr (5, [.ref (a 77), .int (f 1), .int (f 2), .int (f 3), .int (f 4), .int (f 5)])
  | 10 => .inl (cy 0, 30, .inl f)
  | 11 => .inr (4, [.ref (a 79), .ref (a 80), .ref (a 81)])
  | 12 => .inl (cy 3, 4, .inr (.inr (.inr (.inr (fun i => if i < 4 then some (a (82 + i)) else none)))))
  | 13 => .inl (cy 0, 4, .inl f)
  | 14 => .inl (cy 0, 4, .inl f)
  | 19 => .inl (cy 0, 7, .inl f)
  | _ => .inl (cy 0, 24, .inl f)
def zsh (cy : Nat → ClassId) (a : Nat → Nat) (q : Nat) (f : Nat → Int32) : va_E :=
  if q = 0 then .inr (7, [.ref (a 1), .ref (a 23), .ref (a 45), .ref (a 67), .ref (a 70), .ref (a 73), .ref (a 76), .ref (a 78), .ref (a 86), .int (f 9)])
  else if q < 67 then zshB cy a (1 + 22 * ((q - 1) / 22)) ((q - 1) % 22) f
  else if q < 87 then zshO cy a (q - 67) f
  else zshR cy a (q - 87) f
def zwC (cy : Nat → ClassId) (a : Nat → Nat) (M : zM) : va_W := (List.range 103).map (fun q => (a q, zsh cy a q (M q)))
theorem zwC_at {cy : Nat → ClassId} {a : Nat → Nat} {M : zM} {q : Nat} (h : q < 103) : (zwC cy a M)[q]? = some (a q, zsh cy a q (M q)) := by
  simp [zwC, h]
theorem zwC_set {cy : Nat → ClassId} {a : Nat → Nat} {M : zM} {q : Nat} {f : Nat → Int32} : (zwC cy a M).set q (a q, zsh cy a q f) = zwC cy a (zup M q f) := by
  apply List.ext_getElem?
  intro i
  rw [List.getElem?_set]
  by_cases hi : i < 103
  · by_cases hq : q = i
    · subst hq
      simp [zwC, zup, hi]
    · rw [if_neg hq, zwC_at hi, zwC_at hi]
      simp [zup, show ¬ i = q from fun e => hq e.symm]
  · by_cases hq : q = i
    · subst hq
      simp [zwC, hi]
    · rw [if_neg hq]
      simp [zwC, hi]
/-- the kinds of cells -/
def zX0 (q : Nat) : Prop := q = 1 ∨ q = 23 ∨ q = 45
def zX1 (q : Nat) : Prop := q = 67 ∨ q = 70
def zX2 (q : Nat) : Prop := q = 17 ∨ q = 20 ∨ q = 39 ∨ q = 42 ∨ q = 61 ∨ q = 64
def zX3 (q : Nat) : Prop := q = 73
def zX4 (q : Nat) : Prop := q = 78
def zX5 (q : Nat) : Prop := q = 76
def zX6 (q : Nat) : Prop := (∃ i, i < 8 ∧ q = 9 + i) ∨ (∃ i, i < 8 ∧ q = 31 + i) ∨ (∃ i, i < 8 ∧ q = 53 + i)
def zX7 (q : Nat) : Prop := q = 0
def zX8 (q : Nat) : Prop := q = 87
def zI (q n : Nat) : Prop := q < 103 ∧ ∀ (cy : Nat → ClassId) (a : Nat → Nat) (f : Nat → Int32), zsh cy a q f = .inl (cy 0, n, .inl f)
def zB (q n : Nat) : Prop := q < 103 ∧ ∀ (cy : Nat → ClassId) (a : Nat → Nat) (f : Nat → Int32), zsh cy a q f = .inl (cy 1, n, .inl f)
def zRW (q b : Nat) : Prop := q < 103 ∧ (∀ i, i < 8 → zX6 (b + i)) ∧ ∀ (cy : Nat → ClassId) (a : Nat → Nat) (f : Nat → Int32), zsh cy a q f = .inl (cy 2, 8, .inr (.inr (.inr (.inr (fun i => if i < 8 then some (a (b + i)) else none)))))
theorem zX0_lt {q : Nat} (h : zX0 q) : q < 103 := by unfold zX0 at h; omega
theorem zX1_lt {q : Nat} (h : zX1 q) : q < 103 := by unfold zX1 at h; omega
theorem zX2_lt {q : Nat} (h : zX2 q) : q < 103 := by unfold zX2 at h; omega
theorem zX3_lt {q : Nat} (h : zX3 q) : q < 103 := by unfold zX3 at h; omega
theorem zX4_lt {q : Nat} (h : zX4 q) : q < 103 := by unfold zX4 at h; omega
theorem zX5_lt {q : Nat} (h : zX5 q) : q < 103 := by unfold zX5 at h; omega
theorem zX6_lt {q : Nat} (h : zX6 q) : q < 103 := by
  rcases h with ⟨i, hi, e⟩ | ⟨i, hi, e⟩ | ⟨i, hi, e⟩ <;> omega
theorem zX7_lt {q : Nat} (h : zX7 q) : q < 103 := by unfold zX7 at h; omega
theorem zX8_lt {q : Nat} (h : zX8 q) : q < 103 := by unfold zX8 at h; omega
theorem zS0 {q : Nat} (h : zX0 q) (cy : Nat → ClassId) (a : Nat → Nat) (f : Nat → Int32) : zsh cy a q f = .inr (0, [.ref (a (q + 1)), .ref (a (q + 2)), .ref (a (q + 3)), .ref (a (q + 4)), .ref (a (q + 5)), .ref (a (q + 16)), .ref (a (q + 19)), .ref (a (q + 6)), .ref (a (q + 7)), .int (f 9), .int (f 10), .int (f 11), .int (f 12), .int (f 13), .int (f 14)]) := by
  rcases h with rfl | rfl | rfl <;> rfl
theorem zS1 {q : Nat} (h : zX1 q) (cy : Nat → ClassId) (a : Nat → Nat) (f : Nat → Int32) : zsh cy a q f = .inr (1, [.ref (a (q + 1)), .ref (a (q + 2)), .int (f 2), .int (f 3)]) := by
  rcases h with rfl | rfl <;> rfl
theorem zS2 {q : Nat} (h : zX2 q) (cy : Nat → ClassId) (a : Nat → Nat) (f : Nat → Int32) : zsh cy a q f = .inr (2, [.ref (a (q + 1)), .ref (a (q + 2)), .int (f 2)]) := by
  rcases h with rfl | rfl | rfl | rfl | rfl | rfl <;> rfl
theorem zS3 {q : Nat} (h : zX3 q) (cy : Nat → ClassId) (a : Nat → Nat) (f : Nat → Int32) : zsh cy a q f = .inr (3, [.ref (a (q + 1)), .ref (a (q + 2)), .int (f 2), .int (f 3), .int (f 4), .int (f 5), .int (f 6), .int (f 7)]) := by
  cases h
  rfl
theorem zS4 {q : Nat} (h : zX4 q) (cy : Nat → ClassId) (a : Nat → Nat) (f : Nat → Int32) : zsh cy a q f = .inr (4, [.ref (a (q + 1)), .ref (a (q + 2)), .ref (a (q + 3))]) := by
  cases h
  rfl
theorem zS5 {q : Nat} (h : zX5 q) (cy : Nat → ClassId) (a : Nat → Nat) (f : Nat → Int32) : zsh cy a q f = .inr (5, [.ref (a (q + 1)), .int (f 1), .int (f 2), .int (f 3), .int (f 4), .int (f 5)]) := by
  cases h
  rfl
theorem zS6 {q : Nat} (h : zX6 q) (cy : Nat → ClassId) (a : Nat → Nat) (f : Nat → Int32) : zsh cy a q f = .inr (6, [.int (f 0), .int (f 1), .int (f 2), .int (f 3), .int (f 4), .int (f 5), .int (f 6), .int (f 7), .int (f 8)]) := by
  rcases h with ⟨i, hi, e⟩ | ⟨i, hi, e⟩ | ⟨i, hi, e⟩ <;> subst e <;> match i, hi with
    | 0, _ => rfl
    | 1, _ => rfl
    | 2, _ => rfl
    | 3, _ => rfl
    | 4, _ => rfl
    | 5, _ => rfl
    | 6, _ => rfl
    | 7, _ => rfl
theorem zS7 {q : Nat} (h : zX7 q) (cy : Nat → ClassId) (a : Nat → Nat) (f : Nat → Int32) : zsh cy a q f = .inr (7, [.ref (a 1), .ref (a 23), .ref (a 45), .ref (a 67), .ref (a 70), .ref (a 73), .ref (a 76), .ref (a 78), .ref (a 86), .int (f 9)]) := by
  cases h
  rfl
theorem zS8 {q : Nat} (h : zX8 q) (cy : Nat → ClassId) (a : Nat → Nat) (f : Nat → Int32) : zsh cy a q f = .inr (8, [.ref (a 88), .ref (a 89), .ref (a 90), .int (f 3), .ref (a 91), .int (f 5), .int (f 6), .int (f 7), .int (f 8), .ref (a 92), .ref (a 93), .ref (a 94), .ref (a 95), .ref (a 96), .int (f 14), .int (f 15), .ref (a 97), .int (f 17), .int (f 18), .ref (a 98), .int (f 20), .int (f 21), .int (f 22), .ref (a 99), .ref (a 100), .ref (a 101), .ref (a 102)]) := by
  cases h
  rfl
theorem zI_0_1 {q : Nat} (h : zX0 q) : zI (q + 1) 24 := by
  rcases h with rfl | rfl | rfl <;> exact ⟨by omega, fun _ _ _ => rfl⟩
theorem zI_0_2 {q : Nat} (h : zX0 q) : zI (q + 2) 12 := by
  rcases h with rfl | rfl | rfl <;> exact ⟨by omega, fun _ _ _ => rfl⟩
theorem zI_0_3 {q : Nat} (h : zX0 q) : zI (q + 3) 5 := by
  rcases h with rfl | rfl | rfl <;> exact ⟨by omega, fun _ _ _ => rfl⟩
theorem zI_0_4 {q : Nat} (h : zX0 q) : zI (q + 4) 5 := by
  rcases h with rfl | rfl | rfl <;> exact ⟨by omega, fun _ _ _ => rfl⟩
theorem zI_0_6 {q : Nat} (h : zX0 q) : zI (q + 6) 4 := by
  rcases h with rfl | rfl | rfl <;> exact ⟨by omega, fun _ _ _ => rfl⟩
theorem zI_0_7 {q : Nat} (h : zX0 q) : zI (q + 7) 12 := by
  rcases h with rfl | rfl | rfl <;> exact ⟨by omega, fun _ _ _ => rfl⟩
theorem zRW_0_5 {q : Nat} (h : zX0 q) : zRW (q + 5) (q + 8) := by
  rcases h with rfl | rfl | rfl
  · exact ⟨by omega, fun i hi => Or.inl ⟨i, hi, rfl⟩, fun _ _ _ => rfl⟩
  · exact ⟨by omega, fun i hi => Or.inr (Or.inl ⟨i, hi, rfl⟩), fun _ _ _ => rfl⟩
  · exact ⟨by omega, fun i hi => Or.inr (Or.inr ⟨i, hi, rfl⟩), fun _ _ _ => rfl⟩
theorem zX2_0_16 {q : Nat} (h : zX0 q) : zX2 (q + 16) := by unfold zX0 at h; unfold zX2; omega
theorem zX2_0_19 {q : Nat} (h : zX0 q) : zX2 (q + 19) := by unfold zX0 at h; unfold zX2; omega
theorem zB_1_1 {q : Nat} (h : zX1 q) : zB (q + 1) 60 := by
  rcases h with rfl | rfl <;> exact ⟨by omega, fun _ _ _ => rfl⟩
theorem zI_1_2 {q : Nat} (h : zX1 q) : zI (q + 2) 24 := by
  rcases h with rfl | rfl <;> exact ⟨by omega, fun _ _ _ => rfl⟩
theorem zI_2_1 {q : Nat} (h : zX2 q) : zI (q + 1) 60 := by
  rcases h with rfl | rfl | rfl | rfl | rfl | rfl <;> exact ⟨by omega, fun _ _ _ => rfl⟩
theorem zI_2_2 {q : Nat} (h : zX2 q) : zI (q + 2) 60 := by
  rcases h with rfl | rfl | rfl | rfl | rfl | rfl <;> exact ⟨by omega, fun _ _ _ => rfl⟩
theorem zI_3_1 {q : Nat} (h : zX3 q) : zI (q + 1) 60 := by
  cases h
  exact ⟨by omega, fun _ _ _ => rfl⟩
theorem zI_3_2 {q : Nat} (h : zX3 q) : zI (q + 2) 60 := by
  cases h
  exact ⟨by omega, fun _ _ _ => rfl⟩
theorem zI_4_2 {q : Nat} (h : zX4 q) : zI (q + 2) 4 := by
  cases h
  exact ⟨by omega, fun _ _ _ => rfl⟩
theorem zI_4_3 {q : Nat} (h : zX4 q) : zI (q + 3) 4 := by
  cases h
  exact ⟨by omega, fun _ _ _ => rfl⟩
def zRI (q b : Nat) : Prop := q < 103 ∧ (∀ i, i < 4 → zI (b + i) 24) ∧ ∀ (cy : Nat → ClassId) (a : Nat → Nat) (f : Nat → Int32), zsh cy a q f = .inl (cy 3, 4, .inr (.inr (.inr (.inr (fun i => if i < 4 then some (a (b + i)) else none)))))
theorem zRI_4_1 {q : Nat} (h : zX4 q) : zRI (q + 1) (q + 4) := by
  cases h
  refine ⟨by omega, fun i hi => ?_, fun _ _ _ => rfl⟩
  match i, hi with
  | 0, _ => exact ⟨by omega, fun _ _ _ => rfl⟩
  | 1, _ => exact ⟨by omega, fun _ _ _ => rfl⟩
  | 2, _ => exact ⟨by omega, fun _ _ _ => rfl⟩
  | 3, _ => exact ⟨by omega, fun _ _ _ => rfl⟩
theorem zI_5_1 {q : Nat} (h : zX5 q) : zI (q + 1) 30 := by
  cases h
  exact ⟨by omega, fun _ _ _ => rfl⟩
theorem zI_86 : zI 86 7 := ⟨by omega, fun _ _ _ => rfl⟩
theorem zI_88 : zI 88 449 := ⟨by omega, fun _ _ _ => rfl⟩
theorem zI_89 : zI 89 449 := ⟨by omega, fun _ _ _ => rfl⟩
theorem zI_90 : zI 90 449 := ⟨by omega, fun _ _ _ => rfl⟩
theorem zI_91 : zI 91 7 := ⟨by omega, fun _ _ _ => rfl⟩
theorem zI_92 : zI 92 124 := ⟨by omega, fun _ _ _ => rfl⟩
theorem zI_93 : zI 93 128 := ⟨by omega, fun _ _ _ => rfl⟩
theorem zI_94 : zI 94 64 := ⟨by omega, fun _ _ _ => rfl⟩
theorem zI_95 : zI 95 13 := ⟨by omega, fun _ _ _ => rfl⟩
theorem zI_96 : zI 96 9 := ⟨by omega, fun _ _ _ => rfl⟩
theorem zI_97 : zI 97 9 := ⟨by omega, fun _ _ _ => rfl⟩
theorem zI_98 : zI 98 30 := ⟨by omega, fun _ _ _ => rfl⟩
theorem zI_99 : zI 99 4 := ⟨by omega, fun _ _ _ => rfl⟩
theorem zI_100 : zI 100 4 := ⟨by omega, fun _ _ _ => rfl⟩
theorem zI_101 : zI 101 96 := ⟨by omega, fun _ _ _ => rfl⟩
theorem zI_102 : zI 102 24 := ⟨by omega, fun _ _ _ => rfl⟩
theorem zX0_1 : zX0 1 := Or.inl rfl
theorem zX0_23 : zX0 23 := Or.inr (Or.inl rfl)
theorem zX0_45 : zX0 45 := Or.inr (Or.inr rfl)
theorem zX1_67 : zX1 67 := Or.inl rfl
theorem zX1_70 : zX1 70 := Or.inr rfl
theorem zX3_73 : zX3 73 := rfl
theorem zX5_76 : zX5 76 := rfl
theorem zX4_78 : zX4 78 := rfl
