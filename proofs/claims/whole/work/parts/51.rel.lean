/-! ===== what the class and the reference have in common ===== -/
def DK (d : Nat) (C : zM) (s : zR) : Prop := ∃ t u, t ≤ 60 ∧ u ≤ 24 ∧ s 3 = nI t ∧ C d 2 = nI t ∧ s 4 = nI u ∧ C d 3 = nI u ∧ (∀ j, j < 60 → fits .byte (.int (C (d + 1) j)) = true) ∧ (∀ j, j < t → C (d + 1) j &&& 255 = s (365 + j)) ∧ ∀ j, j < u → C (d + 2) j = s (425 + j)
def BR (q : Nat) (C : zM) (s : zR) : Prop := ∃ n h, VR s n h ∧ h ≤ 9999 ∧ CB q C s n
def TR (C R : zM) : Prop := ∃ t, t ≤ 30 ∧ C 76 1 = nI t ∧ R 87 20 = nI t ∧ ∀ j, j < t → C 77 j = R 98 j
def SH (C R : zM) : Prop := ∀ k, k < 4 → (R 99 k = 0 ∨ R 99 k = 8 ∨ R 99 k = 16 ∨ R 99 k = 32) ∧ C 80 k = R 99 k ∧ ∃ z, z ≤ 24 ∧ R 100 k = nI z ∧ C 81 k = nI z ∧ ∀ j, j < 24 → C (82 + k) j = R 101 (24 * k + j)
def Rel2 (C R : zM) : Prop := BR 1 C (R 88) ∧ DK 67 C (R 88) ∧ C 0 9 = R 87 3 ∧ (R 87 3 ≠ 0 → BR 23 C (R 89) ∧ DK 70 C (R 89)) ∧ (∀ k, k < 7 → C 86 k = R 91 k) ∧ TR C R ∧ SH C R
def FC (C C' : zM) : Prop := ∀ c, 87 ≤ c → C' c = C c
def FR (R R' : zM) : Prop := ∀ c, c < 87 → R' c = R c
theorem FC.rf {C : zM} : FC C C := fun _ _ => rfl
theorem FR.rf {C : zM} : FR C C := fun _ _ => rfl
theorem FC.tr {A B C : zM} (h : FC A B) (g : FC B C) : FC A C := fun c hc => (g c hc).trans (h c hc)
theorem FR.tr {A B C : zM} (h : FR A B) (g : FR B C) : FR A C := fun c hc => (g c hc).trans (h c hc)
def EQA (C R : zM) (oC oR : Option (Int32 × zM)) : Prop := ∃ r C' R', oC = some (r, C') ∧ oR = some (r, R') ∧ Rel2 C' R' ∧ FC C C' ∧ FR R R'
theorem EQA.fr {C R C1 R1 : zM} {oC oR : Option (Int32 × zM)} (h : EQA C1 R1 oC oR) (f : FC C C1) (g : FR R R1) : EQA C R oC oR := by
  obtain ⟨r, C', R', a1, a2, a3, a4, a5⟩ := h
  exact ⟨r, C', R', a1, a2, a3, f.tr a4, g.tr a5⟩
theorem EQA.done {C R C' R' : zM} {r r' : Int32} (e : r = r') (h : Rel2 C' R') (f : FC C C') (g : FR R R') : EQA C R (some (r, C')) (some (r', R')) := ⟨r, C', R', rfl, by rw [e], h, f, g⟩
/-- rows that agree where the brook, and where the desk is -/
theorem DK.cg {d : Nat} {C C' : zM} {s s' : zR} (h : DK d C s) (e1 : C' d 2 = C d 2) (e2 : C' d 3 = C d 3) (e3 : C' (d + 1) = C (d + 1)) (e4 : C' (d + 2) = C (d + 2)) (e5 : s' 3 = s 3) (e6 : s' 4 = s 4) (e7 : ∀ k, 365 ≤ k → k < 449 → s' k = s k) : DK d C' s' := by
  obtain ⟨t, u, a1, a2, a3, a4, a5, a6, a7, a8, a9⟩ := h
  refine ⟨t, u, a1, a2, e5.trans a3, e1.trans a4, e6.trans a5, e2.trans a6, fun j hj => by rw [e3]; exact a7 j hj, fun j hj => by rw [e3, e7 _ (by omega) (by omega)]; exact a8 j hj, fun j hj => by rw [e4, e7 _ (by omega) (by omega)]; exact a9 j hj⟩
theorem BR.cg {q : Nat} {C C' : zM} {s s' : zR} (h : BR q C s) (g : AG q C C') (e : ∀ k, k < 365 → s' k = s k) : BR q C' s' := by
  obtain ⟨n, h, a1, a2, a3⟩ := h
  exact ⟨n, h, a1.cg e, a2, (a3.ag a1.1 g).cg a1.1 e⟩
theorem AG.eq {q : Nat} {M M' : zM} (h : ∀ c, q ≤ c → c < q + 22 → M' c = M c) : AG q M M' := AG.of' h where
  AG.of' {q : Nat} {M M' : zM} (h : ∀ c, q ≤ c → c < q + 22 → M' c = M c) : AG q M M' := by
    refine ⟨?_, ?_, ?_, ?_, ?_, ?_, ?_, ?_, fun w hw k hk => ?_, ?_, ?_, ?_, ?_⟩ <;> rw [h _ (by omega) (by omega)]
/-- the class changed nothing that counts -/
theorem Rel2.cl {C C' R : zM} (h : Rel2 C R) (h0 : C' 0 9 = C 0 9) (h1 : AG 1 C C') (h2 : ∀ c, 23 ≤ c → c < 45 → C' c = C c) (h3 : ∀ c, 67 ≤ c → c < 87 → C' c = C c) : Rel2 C' R := by
  obtain ⟨a1, a2, a3, a4, a5, a6, a7⟩ := h
  refine ⟨a1.cg h1 (fun _ _ => rfl), a2.cg (by rw [h3 _ (by omega) (by omega)]) (by rw [h3 _ (by omega) (by omega)]) (h3 _ (by omega) (by omega)) (h3 _ (by omega) (by omega)) rfl rfl (fun _ _ _ => rfl), h0.trans a3, fun z => ⟨(a4 z).1.cg (AG.eq fun c g1 g2 => h2 c g1 (by omega)) (fun _ _ => rfl), (a4 z).2.cg (by rw [h3 _ (by omega) (by omega)]) (by rw [h3 _ (by omega) (by omega)]) (h3 _ (by omega) (by omega)) (h3 _ (by omega) (by omega)) rfl rfl (fun _ _ _ => rfl)⟩, fun k hk => by rw [h3 _ (by omega) (by omega)]; exact a5 k hk, ?_, fun k hk => ?_⟩
  · obtain ⟨t, b1, b2, b3, b4⟩ := a6
    exact ⟨t, b1, by rw [h3 _ (by omega) (by omega)]; exact b2, b3, fun j hj => by rw [h3 _ (by omega) (by omega)]; exact b4 j hj⟩
  · obtain ⟨b1, b2, z, b3, b4, b5, b6⟩ := a7 k hk
    exact ⟨b1, by rw [h3 _ (by omega) (by omega)]; exact b2, z, b3, b4, by rw [h3 _ (by omega) (by omega)]; exact b5, fun j hj => by rw [h3 _ (by omega) (by omega)]; exact b6 j hj⟩
/-- the reference's cells that count have stayed -/
def RS (R R' : zM) : Prop := (∀ k, k < 449 → R' 88 k = R 88 k) ∧ R' 89 = R 89 ∧ R' 91 = R 91 ∧ R' 98 = R 98 ∧ R' 99 = R 99 ∧ R' 100 = R 100 ∧ R' 101 = R 101 ∧ R' 87 3 = R 87 3 ∧ R' 87 20 = R 87 20
theorem Rel2.rf {C R R' : zM} (h : Rel2 C R) (g : RS R R') : Rel2 C R' := by
  obtain ⟨a1, a2, a3, a4, a5, a6, a7⟩ := h
  obtain ⟨g1, g2, g3, g4, g5, g6, g7, g8, g9⟩ := g
  refine ⟨a1.cg (AG.rf) (fun k hk => g1 k (by omega)), a2.cg rfl rfl rfl rfl (g1 _ (by omega)) (g1 _ (by omega)) (fun k _ hk => g1 k hk), a3.trans g8.symm, fun z => by rw [g2]; exact a4 (by rw [← g8]; exact z), fun k hk => by rw [g3]; exact a5 k hk, ?_, fun k hk => ?_⟩
  · obtain ⟨t, b1, b2, b3, b4⟩ := a6
    exact ⟨t, b1, b2, g9.trans b3, fun j hj => by rw [g4]; exact b4 j hj⟩
  · obtain ⟨b1, b2, z, b3, b4, b5, b6⟩ := a7 k hk
    rw [g5, g6, g7]
    exact ⟨b1, b2, z, b3, b4, b5, b6⟩
theorem RU.rs {R R' : zM} (h : RU R R') : RS R R' := by
  obtain ⟨h1, h2⟩ := h
  refine ⟨fun k _ => by rw [h1 88 (by decide) (by decide) (by decide) (by decide) (by decide)], h1 _ (by decide) (by decide) (by decide) (by decide) (by decide), h1 _ (by decide) (by decide) (by decide) (by decide) (by decide), h1 _ (by decide) (by decide) (by decide) (by decide) (by decide), h1 _ (by decide) (by decide) (by decide) (by decide) (by decide), h1 _ (by decide) (by decide) (by decide) (by decide) (by decide), h1 _ (by decide) (by decide) (by decide) (by decide) (by decide), h2 _ (by decide) (by decide), h2 _ (by decide) (by decide)⟩
theorem RU.fr {R R' : zM} (h : RU R R') : FR R R' := fun c hc => h.1 c (by omega) (by omega) (by omega) (by omega) (by omega)
theorem RH.fr {R R' : zM} (h : RH R R') : FR R R' := fun c hc => h.1 c (by omega) (by omega) (by omega) (by omega) (by omega) (by omega) (by omega)
theorem OU.fc {q : Nat} {C C' : zM} (h : OU q C C') (hq : q + 22 ≤ 87) : FC C C' := fun c hc => h c (by omega)
/-- the brook ahead: nothing of it counts -/
theorem Rel2.ou {C C' R : zM} (h : Rel2 C R) (g : OU 45 C C') : Rel2 C' R := h.cl (by rw [g 0 (by omega)]) (AG.eq fun c _ _ => g c (by omega)) (fun c _ _ => g c (by omega)) (fun c _ _ => g c (by omega))
theorem Rel2.ou1 {C C' R : zM} (h : Rel2 C R) (a : AG 1 C C') (g : OU 1 C C') : Rel2 C' R := h.cl (by rw [g 0 (by omega)]) a (fun c _ _ => g c (by omega)) (fun c _ _ => g c (by omega))
/-- the brook of now has changed, and nothing else that counts -/
theorem Rel2.now {C C' R R' : zM} (h : Rel2 C R) (hB : BR 1 C' (R' 88)) (g : OU 1 C C') (r : RH R R') (e3 : R' 88 3 = R 88 3) (e4 : R' 88 4 = R 88 4) (ed : ∀ k, 365 ≤ k → k < 449 → R' 88 k = R 88 k) : Rel2 C' R' := by
  obtain ⟨a1, a2, a3, a4, a5, a6, a7⟩ := h
  obtain ⟨r1, r2⟩ := r
  have r89 : R' 89 = R 89 := r1 _ (by decide) (by decide) (by decide) (by decide) (by decide) (by decide) (by decide)
  refine ⟨hB, a2.cg (by rw [g _ (by omega)]) (by rw [g _ (by omega)]) (g _ (by omega)) (g _ (by omega)) e3 e4 ed, by rw [g _ (by omega), r2 _ (by decide) (by decide)]; exact a3, fun z => ?_, fun k hk => by rw [g _ (by omega), r1 _ (by decide) (by decide) (by decide) (by decide) (by decide) (by decide) (by decide)]; exact a5 k hk, ?_, fun k hk => ?_⟩
  · rw [r2 _ (by decide) (by decide)] at z
    rw [r89]
    exact ⟨(a4 z).1.cg (AG.eq fun c _ _ => g c (by omega)) (fun _ _ => rfl), (a4 z).2.cg (by rw [g _ (by omega)]) (by rw [g _ (by omega)]) (g _ (by omega)) (g _ (by omega)) rfl rfl (fun _ _ _ => rfl)⟩
  · obtain ⟨t, b1, b2, b3, b4⟩ := a6
    exact ⟨t, b1, by rw [g _ (by omega)]; exact b2, by rw [r2 _ (by decide) (by decide)]; exact b3, fun j hj => by rw [g _ (by omega), r1 _ (by decide) (by decide) (by decide) (by decide) (by decide) (by decide) (by decide)]; exact b4 j hj⟩
  · obtain ⟨b1, b2, z, b3, b4, b5, b6⟩ := a7 k hk
    rw [r1 99 (by decide) (by decide) (by decide) (by decide) (by decide) (by decide) (by decide), r1 100 (by decide) (by decide) (by decide) (by decide) (by decide) (by decide) (by decide), r1 101 (by decide) (by decide) (by decide) (by decide) (by decide) (by decide) (by decide)]
    exact ⟨b1, by rw [g _ (by omega)]; exact b2, z, b3, b4, by rw [g _ (by omega)]; exact b5, fun j hj => by rw [g _ (by omega)]; exact b6 j hj⟩
/-- an error of kind k -/
theorem EQA.err {C R : zM} (h : Rel2 C R) {k : Nat} {x : Int32} (hx : x = nI k) (hk : k < 7) : EQA C R (zbi (fX7_error x C) (fun r M => some (r, M))) (zbi (fX8_error x R) (fun r M => some (r, M))) := by
  rw [ca_error hx hk, ra_error hx hk, zbi_s, zbi_s]
  refine EQA.done rfl ?_ (fun c hc => zst_n _ (by omega)) (fun c hc => zst_n _ (by omega))
  obtain ⟨a1, a2, a3, a4, a5, a6, a7⟩ := h
  have z : ∀ c v, c ≠ 86 → zst C 86 k v c = C c := fun c v hc => zst_n _ hc
  have y : ∀ c v, c ≠ 91 → zst R 91 k v c = R c := fun c v hc => zst_n _ hc
  rw [← a5 k hk]
  generalize hv : C 86 k + 1 = v
  refine ⟨?_, ?_, ?_, fun g => ?_, fun j hj => ?_, ?_, fun j hj => ?_⟩
  · rw [y _ _ (by decide)]
    exact a1.cg (AG.eq fun c _ _ => z c v (by omega)) (fun _ _ => rfl)
  · rw [y _ _ (by decide)]
    exact a2.cg (by rw [z _ _ (by decide)]) (by rw [z _ _ (by decide)]) (z _ _ (by decide)) (z _ _ (by decide)) rfl rfl (fun _ _ _ => rfl)
  · rw [z _ _ (by decide), y _ _ (by decide)]
    exact a3
  · rw [y _ _ (by decide)] at g
    rw [y _ _ (by decide)]
    exact ⟨(a4 g).1.cg (AG.eq fun c _ _ => z c v (by omega)) (fun _ _ => rfl), (a4 g).2.cg (by rw [z _ _ (by decide)]) (by rw [z _ _ (by decide)]) (z _ _ (by decide)) (z _ _ (by decide)) rfl rfl (fun _ _ _ => rfl)⟩
  · rw [zst_k, zst_k]
    by_cases e : j = k
    · rw [if_pos ⟨rfl, e⟩, if_pos ⟨rfl, e⟩]
    · rw [if_neg (fun w => e w.2), if_neg (fun w => e w.2)]
      exact a5 j hj
  · obtain ⟨t, b1, b2, b3, b4⟩ := a6
    exact ⟨t, b1, by rw [z _ _ (by decide)]; exact b2, by rw [y _ _ (by decide)]; exact b3, fun i hi => by rw [z _ _ (by decide), y _ _ (by decide)]; exact b4 i hi⟩
  · obtain ⟨b1, b2, w, b3, b4, b5, b6⟩ := a7 j hj
    rw [y 99 _ (by decide), y 100 _ (by decide), y 101 _ (by decide), z 80 _ (by decide), z 81 _ (by decide), z _ _ (by omega)]
    exact ⟨b1, b2, w, b3, b4, b5, b6⟩
/-- a guard that both have: out of range is an error -/
theorem EQA.out {C R : zM} (h : Rel2 C R) {v lo hi : Int32} {A B : zM → Option (Int32 × zM)} (k : lo ≤ v → v ≤ hi → EQA C R (A C) (B R)) :
    EQA C R (zbi (fX7_outside v lo hi C) (fun r M => if r = 0 then A M else zbi (fX7_error 1 M) (fun r2 M2 => some (r2, M2)))) (zbi (fX8_in v lo hi R) (fun r M => if r = 0 then zbi (fX8_error 1 M) (fun r2 M2 => some (r2, M2)) else B M)) := by
  rw [ca_outside, ra_in, zbi_s, zbi_s]
  by_cases c : lo ≤ v ∧ v ≤ hi
  · rw [if_pos c, if_pos c, if_pos rfl, if_neg (by decide)]
    exact k c.1 c.2
  · rw [if_neg c, if_neg c, if_neg (by decide), if_pos rfl]
    exact EQA.err h (k := 1) rfl (by omega)
theorem EQA.out0 {C R : zM} (h : Rel2 C R) {v hi : Int32} {m : Nat} (hm : hi = nI m) (hm2 : m < 2147483648) {A B : zM → Option (Int32 × zM)} (k : ∀ j, j ≤ m → v = nI j → EQA C R (A C) (B R)) :
    EQA C R (zbi (fX7_outside v 0 hi C) (fun r M => if r = 0 then A M else zbi (fX7_error 1 M) (fun r2 M2 => some (r2, M2)))) (zbi (fX8_in v 0 hi R) (fun r M => if r = 0 then zbi (fX8_error 1 M) (fun r2 M2 => some (r2, M2)) else B M)) :=
  EQA.out h fun h1 h2 => by
    rw [zle'] at h1 h2
    rw [hm, znT hm2] at h2
    obtain ⟨j, a1, a2, -⟩ := zof h1 h2
    exact k j a1 a2
/-- from 1 on -/
theorem EQA.out1 {C R : zM} (h : Rel2 C R) {v hi : Int32} {m : Nat} (hm : hi = nI m) (hm2 : m < 2147483648) {A B : zM → Option (Int32 × zM)} (k : ∀ j, 1 ≤ j → j ≤ m → v = nI j → EQA C R (A C) (B R)) :
    EQA C R (zbi (fX7_outside v 1 hi C) (fun r M => if r = 0 then A M else zbi (fX7_error 1 M) (fun r2 M2 => some (r2, M2)))) (zbi (fX8_in v 1 hi R) (fun r M => if r = 0 then zbi (fX8_error 1 M) (fun r2 M2 => some (r2, M2)) else B M)) :=
  EQA.out h fun h1 h2 => by
    rw [zle'] at h1 h2
    have e1 : (1 : Int32).toInt = 1 := rfl
    rw [hm, znT hm2] at h2
    obtain ⟨j, a1, a2, a3⟩ := zof (by omega) h2
    rw [a2, znT a3] at h1
    exact k j (by omega) a1 a2
theorem b01 {o : zM → Option (Int32 × zM)} {M : zM} {c : Prop} [Decidable c] (h : o M = some (if c then 1 else 0, M)) : zbi (o M) (fun r1 M2 => zgd (¬ (r1 = 0 ∨ r1 = 1)) (some (r1, M2))) = o M := by
  rw [h, zbi_s]
  by_cases g : c
  · rw [if_pos g, zgd_n (by decide)]
  · rw [if_neg g, zgd_n (by decide)]
theorem ra_isPlace (p : Int32) : fX8_isPlace p = fX8_in p 0 11 := funext fun M => b01 (o := fX8_in p 0 11) (ra_in p 0 11 M)
theorem ra_isFamily (p : Int32) : fX8_isFamily p = fX8_in p 0 4 := funext fun M => b01 (o := fX8_in p 0 4) (ra_in p 0 4 M)
theorem ra_isAhead (p : Int32) : fX8_isAhead p = fX8_in p 0 240 := funext fun M => b01 (o := fX8_in p 0 240) (ra_in p 0 240 M)
theorem ra_isSheet (p : Int32) : fX8_isSheet p = fX8_in p 0 3 := funext fun M => b01 (o := fX8_in p 0 3) (ra_in p 0 3 M)
theorem ra_isWheel (p : Int32) (M : zM) : fX8_isWheel p M = fX8_in p 0 (M 88 0 - 1) M := b01 (o := fX8_in p 0 (M 88 0 - 1)) (ra_in p 0 _ M)
theorem zwix {n : Nat} (h : n < 2147483648) (v : Int32) : 0 ≤ v ∧ v ≤ nI n - 1 ↔ ∃ j, j < n ∧ v = nI j := by
  have e1 : (1 : Int32).toInt = 1 := rfl
  have e0 : (0 : Int32).toInt = 0 := rfl
  have e : (nI n - 1).toInt = n - 1 := by rw [zsbT (by rw [znT h]; omega) (by rw [znT h]; omega), znT h, e1]
  rw [zle', zle', e, e0]
  constructor
  · intro ⟨h1, h2⟩
    obtain ⟨j, a1, a2, a3⟩ := zof (n := n) h1 (by omega)
    rw [a2, znT a3] at h2
    exact ⟨j, by omega, a2⟩
  · intro ⟨j, h1, h2⟩
    rw [h2, znT (by omega)]
    omega
/-- a wheel that is there -/
theorem EQA.whl {C R : zM} (h : Rel2 C R) {v : Int32} {A B : zM → Option (Int32 × zM)} (k : ∀ n hh w, VR (R 88) n hh → hh ≤ 9999 → CB 1 C (R 88) n → w < n → v = nI w → EQA C R (A C) (B R)) :
    EQA C R (zbi (fX7_noWheel v C) (fun r M => if r = 0 then A M else zbi (fX7_error 1 M) (fun r2 M2 => some (r2, M2)))) (zbi (fX8_isWheel v R) (fun r M => if r = 0 then zbi (fX8_error 1 M) (fun r2 M2 => some (r2, M2)) else B M)) := by
  obtain ⟨n, hh, a1, a2, a3⟩ := h.1
  have hn := a1.1
  have e0 : R 88 0 = nI n := a1.2.1
  have e1 : C 1 9 = nI n := a3.1.trans e0
  rw [ra_isWheel, ra_in, zbi_s, e0, fX7_noWheel, ca_outside, e1, zbi_s]
  by_cases c : 0 ≤ v ∧ v ≤ nI n - 1
  · obtain ⟨j, hj, ev⟩ := (zwix (by omega) v).mp c
    rw [if_pos c, if_pos c, zgd_n (by decide), zbi_s, if_pos rfl, if_neg (by decide)]
    exact k n hh j a1 a2 a3 hj ev
  · rw [if_neg c, if_neg c, zgd_n (by decide), zbi_s, if_neg (by decide), if_pos rfl]
    exact EQA.err h (k := 1) rfl (by omega)
