/-! ===== plain tools ===== -/
theorem zbi_s {α β : Type} {r : α} {M : zM} {k : α → zM → Option β} : zbi (some (r, M)) k = k r M := rfl
theorem zbv_s {β : Type} {M : zM} {k : zM → Option β} : zbv (some M) k = k M := rfl
theorem zlt_r {α β : Type} {x : α} {k : α → β} : zlt x k = k x := rfl
theorem zgd_n {β : Type} {c : Prop} [Decidable c] {k : Option β} (h : ¬ c) : zgd c k = k := if_neg h
theorem zst_a (M : zM) (q k : Nat) (v : Int32) (c : Nat) : zst M q k v c = if c = q then upd (M q) k v else M c := rfl
theorem zst_s (M : zM) (q k : Nat) (v : Int32) : zst M q k v q = upd (M q) k v := if_pos rfl
theorem zst_n (M : zM) {q k : Nat} {v : Int32} {c : Nat} (h : c ≠ q) : zst M q k v c = M c := if_neg h
theorem zst_k (M : zM) (q k : Nat) (v : Int32) (c j : Nat) : zst M q k v c j = if c = q ∧ j = k then v else M c j := by
  unfold zst upd
  by_cases h : c = q
  · subst h
    by_cases h2 : j = k
    · simp [h2]
    · simp [h2]
  · simp [h]
theorem zup_a (M : zM) (q : Nat) (f : Nat → Int32) (c : Nat) : zup M q f c = if c = q then f else M c := rfl
theorem upd_a (f : Nat → Int32) (k : Nat) (v : Int32) (j : Nat) : upd f k v j = if j = k then v else f j := rfl
theorem upd_s (f : Nat → Int32) (k : Nat) (v : Int32) : upd f k v k = v := if_pos rfl
theorem upd_n (f : Nat → Int32) {k : Nat} {v : Int32} {j : Nat} (h : j ≠ k) : upd f k v j = f j := if_neg h
theorem zlt' (x y : Int32) : x < y ↔ x.toInt < y.toInt := Int32.lt_iff_toInt_lt
theorem zle' (x y : Int32) : x ≤ y ↔ x.toInt ≤ y.toInt := Int32.le_iff_toInt_le
theorem zeq' (x y : Int32) : x = y ↔ x.toInt = y.toInt := Int32.toInt_inj.symm
theorem zcl' (x : Int32) : x.toNatClampNeg = x.toInt.toNat := rfl
theorem znT {n : Nat} (h : n < 2147483648) : (nI n).toInt = n := nI_toInt h
theorem zadT {x y : Int32} (h1 : -2147483648 ≤ x.toInt + y.toInt) (h2 : x.toInt + y.toInt < 2147483648) : (x + y).toInt = x.toInt + y.toInt := by
  rw [Int32.toInt_add, Int.bmod]
  omega
theorem zsbT {x y : Int32} (h1 : -2147483648 ≤ x.toInt - y.toInt) (h2 : x.toInt - y.toInt < 2147483648) : (x - y).toInt = x.toInt - y.toInt := by
  rw [Int32.toInt_sub, Int.bmod]
  omega
theorem zmlT {x y : Int32} (h1 : -2147483648 ≤ x.toInt * y.toInt) (h2 : x.toInt * y.toInt < 2147483648) : (x * y).toInt = x.toInt * y.toInt := by
  rw [Int32.toInt_mul, Int.bmod]
  omega
theorem zdvT {x y : Int32} (h0 : 0 ≤ x.toInt) (h1 : 0 < y.toInt) : (x / y).toInt = x.toInt / y.toInt := by
  have hx := Int32.toInt_lt x
  have h2 : 0 ≤ x.toInt / y.toInt := Int.ediv_nonneg h0 (by omega)
  have h3 : x.toInt / y.toInt ≤ x.toInt := Int.ediv_le_self _ h0
  rw [Int32.toInt_div, Int.tdiv_eq_ediv_of_nonneg h0, Int.bmod]
  have h4 : x.toInt / y.toInt < 2147483648 := by omega
  omega
/-- what an Int32 of a range is -/
theorem zof {x : Int32} {n : Nat} (h0 : 0 ≤ x.toInt) (h1 : x.toInt ≤ n) : ∃ j : Nat, j ≤ n ∧ x = nI j ∧ j < 2147483648 := by
  have h2 := Int32.toInt_lt x
  refine ⟨x.toInt.toNat, by omega, ?_, by omega⟩
  rw [zeq', znT (by omega)]
  omega
theorem zofE {x : Int32} (h0 : 0 ≤ x.toInt) : x = nI x.toNatClampNeg := by
  have h2 := Int32.toInt_lt x
  rw [zeq', zcl', znT (by omega)]
  omega
theorem zremT {x : Int32} {n : Nat} (h : x = nI n) (hn : n < 2147483648) : zrem x 24 = nI (n % 24) := by
  rw [h]
  exact pk_rem (d := 24) hn (by omega) (by omega)
theorem zrem16 {x : Int32} {n : Nat} (h : x = nI n) (hn : n < 2147483648) : zrem x 16 = nI (n % 16) := by
  rw [h]
  exact pk_rem (d := 16) hn (by omega) (by omega)
/-- a guard of an index -/
theorem zgi {i : Int32} {j n : Nat} (e : i = nI j) (h : j < n) (hn : n < 2147483648) : ¬ (i < 0 ∨ n ≤ i.toNatClampNeg) := by
  rw [e, zlt', zcl', znT (by omega)]
  have : (0 : Int32).toInt = 0 := rfl
  omega
theorem zix_w (w : Nat) : (52 : Int32) + (7 : Int32) * nI w = nI (52 + 7 * w) := by
  rw [show (52 : Int32) = nI 52 from rfl, show (7 : Int32) = nI 7 from rfl, pk_mul, nI_add]
theorem zix_wk (w k : Nat) : (52 : Int32) + (7 : Int32) * nI w + nI k = nI (52 + 7 * w + k) := by rw [zix_w, nI_add]
theorem zix_f (w : Nat) : (42 : Int32) + (2 : Int32) * nI w = nI (42 + 2 * w) := by
  rw [show (42 : Int32) = nI 42 from rfl, show (2 : Int32) = nI 2 from rfl, pk_mul, nI_add]
theorem zix_f1 (w : Nat) : (42 : Int32) + (2 : Int32) * nI w + (1 : Int32) = nI (43 + 2 * w) := by
  rw [zix_f, nI_1]
  congr 1
  omega
theorem zix_t (w : Nat) : (115 : Int32) + (125 : Int32) * nI w = nI (115 + 125 * w) := by
  rw [show (115 : Int32) = nI 115 from rfl, show (125 : Int32) = nI 125 from rfl, pk_mul, nI_add]
theorem zcn {j : Nat} (h : j < 2147483648) : (nI j).toNatClampNeg = j := nI_clamp h
/-! ===== the reference's reads and writes ===== -/
theorem ra_its {w k : Nat} {x : Int32} (hx : x = nI k) (hw : w < 56) (hk : k < 7) (M : zM) : fX8_its (nI w) x M = some (M 88 (52 + 7 * w + k), M) := by
  rw [fX8_its, hx, zix_wk, zgd_n (zgi rfl (by omega) (by omega)), zcn (by omega)]
theorem ra_lays {w k : Nat} {x v : Int32} (hx : x = nI k) (hw : w < 56) (hk : k < 7) (M : zM) : fX8_lays1 (nI w) x v M = some (zst M 88 (52 + 7 * w + k) v) := by
  rw [fX8_lays1, hx, zix_wk, zgd_n (zgi rfl (by omega) (by omega)), zcn (by omega), zlt_r]
theorem ra_owed {w : Nat} (hw : w < 5) (M : zM) : fX8_owed (nI w) M = some (M 88 (42 + 2 * w), M) := by
  rw [fX8_owed, zix_f, zgd_n (zgi rfl (by omega) (by omega)), zcn (by omega)]
theorem ra_prayed {w : Nat} (hw : w < 5) (M : zM) : fX8_prayed (nI w) M = some (M 88 (43 + 2 * w), M) := by
  rw [fX8_prayed, zix_f1, zgd_n (zgi rfl (by omega) (by omega)), zcn (by omega)]
def hdS (v lo hi : Int32) : Int32 := if lo ≤ v then (if v ≤ hi then v else hi) else lo
theorem ra_held (v lo hi : Int32) (M : zM) : fX8_held v lo hi M = some (hdS v lo hi, M) := by
  unfold fX8_held hdS
  by_cases h1 : lo ≤ v <;> by_cases h2 : v ≤ hi <;> simp [h1, h2]
theorem ca_held {v lo hi : Int32} (h : lo ≤ hi) (M : zM) : fX7_held v lo hi M = some (hdS v lo hi, M) := by
  rw [fX7_held, zlt_r, zlt_r]
  congr 2
  unfold zmax zmin hdS
  rw [zle'] at h
  by_cases h1 : lo ≤ v <;> by_cases h2 : v ≤ hi <;> by_cases h3 : hi < v <;> simp only [h1, h2, h3, if_true, if_false] <;> rw [zle'] at h1 h2 <;> rw [zlt'] at h3 <;> first | omega | skip
  · by_cases h4 : lo < v
    · rw [if_pos h4]
    · rw [if_neg h4, zeq']
      rw [zlt'] at h4
      omega
  · by_cases h4 : lo < hi
    · rw [if_pos h4]
    · rw [if_neg h4, zeq']
      rw [zlt'] at h4
      omega
  · by_cases h4 : lo < v
    · rw [zlt'] at h4
      omega
    · rw [if_neg h4]
theorem hdS_r {v lo hi : Int32} (h : lo ≤ hi) : lo.toInt ≤ (hdS v lo hi).toInt ∧ (hdS v lo hi).toInt ≤ hi.toInt := by
  unfold hdS
  rw [zle'] at h
  by_cases h1 : lo ≤ v <;> by_cases h2 : v ≤ hi <;> simp only [h1, h2, if_true, if_false] <;> rw [zle'] at h1 h2 <;> omega
theorem hdS_in {v lo hi : Int32} (h1 : lo ≤ v) (h2 : v ≤ hi) : hdS v lo hi = v := by
  unfold hdS
  rw [if_pos h1, if_pos h2]
theorem ra_prays {w : Nat} (hw : w < 5) (v : Int32) (M : zM) : fX8_prays (nI w) v M = some (zst M 88 (43 + 2 * w) (hdS v 0 999999)) := by
  rw [fX8_prays, ra_held, zbi_s, zix_f1, zgd_n (zgi rfl (by omega) (by omega)), zcn (by omega), zlt_r]
theorem ra_hourOfDay {h : Nat} (M : zM) (e : M 88 1 = nI h) (hh : h < 2147483648) : fX8_hourOfDay M = some (nI (h % 24), M) := by
  rw [fX8_hourOfDay, zlt_r, zremT e hh]
theorem ra_in (v lo hi : Int32) (M : zM) : fX8_in v lo hi M = some (if lo ≤ v ∧ v ≤ hi then 1 else 0, M) := by
  unfold fX8_in
  by_cases h1 : v < lo
  · rw [if_pos h1, if_neg (fun z => by rw [zle', zle'] at z; rw [zlt'] at h1; omega)]
  · by_cases h2 : hi < v
    · rw [if_neg h1, if_pos h2, if_neg (fun z => by rw [zle', zle'] at z; rw [zlt'] at h2; omega)]
    · rw [if_neg h1, if_neg h2, if_pos (by rw [zle', zle']; rw [zlt'] at h1 h2; omega)]
theorem ca_outside (v lo hi : Int32) (M : zM) : fX7_outside v lo hi M = some (if lo ≤ v ∧ v ≤ hi then 0 else 1, M) := by
  unfold fX7_outside
  by_cases h1 : v < lo
  · rw [if_pos h1, if_neg (fun z => by rw [zle', zle'] at z; rw [zlt'] at h1; omega)]
  · by_cases h2 : v ≤ hi
    · rw [if_neg h1, if_pos h2, if_pos (by rw [zle', zle'] at *; rw [zlt'] at h1; omega)]
    · rw [if_neg h1, if_neg h2, if_neg (fun z => h2 z.2)]
theorem ra_error {k : Nat} {x : Int32} (hx : x = nI k) (hk : k < 7) (M : zM) : fX8_error x M = some ((-1000000000 : Int32) - x, zst M 91 k (M 91 k + 1)) := by
  rw [fX8_error, zgd_n (zgi hx hk (by omega)), zgd_n (zgi hx hk (by omega)), zlt_r, hx, zcn (by omega)]
theorem ca_error {k : Nat} {x : Int32} (hx : x = nI k) (hk : k < 7) (M : zM) : fX7_error x M = some ((-1000000000 : Int32) - x, zst M 86 k (M 86 k + 1)) := by
  rw [fX7_error, zgd_n (zgi hx hk (by omega)), zgd_n (zgi hx hk (by omega)), zlt_r, hx, zcn (by omega)]
theorem ra_change {k : Nat} {x v : Int32} (hx : x = nI k) (hk : k < 449) (M : zM) : fX8_change x v M = some (M 88 k, zst M 88 k v) := by
  rw [fX8_change, zgd_n (zgi hx hk (by omega)), zlt_r, zgd_n (zgi hx hk (by omega)), zlt_r, hx, zcn (by omega)]
