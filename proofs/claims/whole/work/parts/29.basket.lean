/-! PURE: a basket is read -/
section PBASK
def nD (l p : Nat → Nat) : Nat := l 0 * p 0 + l 1 * p 1 + l 2 * p 2 + l 3 * p 3 + l 4 * p 4 + l 5 * p 5 + l 6 * p 6 + l 7 * p 7
theorem nD_le {l p : Nat → Nat} {B : Nat} (hp : ∀ t, t < 8 → p t ≤ B) : nD l p ≤ nS l * B := by
  unfold nD nS
  simp only [Nat.add_mul]
  have h : ∀ t, t < 8 → l t * p t ≤ l t * B := fun t ht => Nat.mul_le_mul_left _ (hp t ht)
  have := h 0 (by omega); have := h 1 (by omega); have := h 2 (by omega); have := h 3 (by omega); have := h 4 (by omega); have := h 5 (by omega); have := h 6 (by omega); have := h 7 (by omega)
  omega
theorem IsRow.dot {r q : Nat → Int32} {l p : Nat → Nat} (h : IsRow r l) (hq : IsRow q p) : dot r q = Int32.ofNat (nD l p) := by
  unfold _root_.Jvm.Pilot.@@N@@.dot nD
  rw [h 0 (by omega), h 1 (by omega), h 2 (by omega), h 3 (by omega), h 4 (by omega), h 5 (by omega), h 6 (by omega), h 7 (by omega), hq 0 (by omega), hq 1 (by omega), hq 2 (by omega), hq 3 (by omega), hq 4 (by omega), hq 5 (by omega), hq 6 (by omega), hq 7 (by omega)]
  simp only [on_mul, on_add, Int32.zero_add]
/-- the prices, as naturals -/
def PrN (s : Nat → Int32) (p : Nat → Nat) : Prop := ∀ t, t < 8 → s (8 + t) = Int32.ofNat (p t) ∧ p t ≤ 9999
theorem GR.prices {g : Nat → Nat → Int32} {s : Nat → Int32} (h : GR g s) : ∃ p, PrN s p := ⟨fun t => (s (8 + t)).toNatClampNeg, fun t ht => by
  obtain ⟨⟨h1, h2⟩, -⟩ := h.2 t ht
  obtain ⟨k, hk, e⟩ := nat_of (b := 9999) (Int32.le_trans (by decide) h1) h2 (by omega)
  show s (8 + t) = Int32.ofNat (s (8 + t)).toNatClampNeg ∧ (s (8 + t)).toNatClampNeg ≤ 9999
  rw [e, on_tn (by omega)]
  exact ⟨rfl, hk⟩⟩
theorem PrN.row {s : Nat → Int32} {p : Nat → Nat} (h : PrN s p) : IsRow (fun t => s (8 + t)) p := fun t ht => (h t ht).1
theorem PrN.row0 {g : Nat → Nat → Int32} {s : Nat → Int32} {p : Nat → Nat} (h : PrN s p) (hG : GR g s) : IsRow (g 0) p := fun t ht => by rw [hG.1 0 t (by omega) ht]; exact (h t ht).1
/-- a basket, in both -/
def BK (th su : Int32) (row told : Nat → Int32) (l : Nat → Nat) (g0 : Nat → Int32) : Prop := IsRow row l ∧ IsRow told l ∧ (∀ t, t < 8 → l t ≤ 9) ∧ th = Int32.ofNat (nS l) ∧ su = dot row g0
theorem p11_reads {N : Nat} (hN : 100 ≤ N) {j : Nat} (hj : j < 4) {bits lens mbits msizes mnum : Nat → Int32} {nums : Nat → Nat → Int32} (hH : HR bits lens nums mbits msizes mnum) (a b : Int32) (rw0 : Nat → Int32) (g : Nat → Nat → Int32) (f : Nat → Int32) (hf : f = fun t => if msizes j ≤ Int32.ofNat t then 0 else mnum (24 * j + t)) :
    ((∀ t, t < 8 → okF (f t)) ∧ ∃ row, f_X11_reads N (Int32.ofNat j) a b rw0 lens nums g = some (1, sm8 row, dot row (g 0), row) ∧ ∀ t, t < 8 → row t = f t) ∨ (¬ (∀ t, t < 8 → okF (f t)) ∧ ∃ x y row, f_X11_reads N (Int32.ofNat j) a b rw0 lens nums g = some (0, x, y, row)) := by
  obtain ⟨q, hq, e1, e2, e3⟩ := hH.nat hj
  obtain ⟨r0, h1, h2⟩ := p0_clear (N := N) (by omega) a b rw0
  have hf' : ∀ t, t < 8 → f t = if lens j ≤ Int32.ofNat t then 0 else nums j t := fun t ht => by
    rw [hf, e1]
    show (if msizes j ≤ Int32.ofNat t then 0 else mnum (24 * j + t)) = _
    rw [e2, hH.2 j t hj (by omega)]
  have hmono : ∀ t t', t ≤ t' → t' < 8 → lens j ≤ Int32.ofNat t → lens j ≤ Int32.ofNat t' := fun t t' h h8 h3 => by
    rw [e1, on_le (by omega) (by omega)] at h3 ⊢
    omega
  have := p11_reads6 (N := N) hj 0 0 lens nums f hf' hmono (fun v3_14 p1_row_14 => ((f_X0_add N (g 0) 0 0 p1_row_14).bind fun r15 => (some ((1 : Int32), r15.1, r15.2, p1_row_14)))) 8 N 0 r0 (by omega) (by omega) (fun t ht => by omega) (fun t _ ht => h2 t ht)
  unfold f_X11_reads
  rw [h1, Option.bind_some]
  rcases this with ⟨k1, y', row', k2, k3⟩ | ⟨k1, row', k2⟩
  · left
    refine ⟨k1, row', ?_, k3⟩
    refine k2.trans ?_
    show (f_X0_add N (g 0) 0 0 row').bind _ = _
    rw [p0_add (by omega), Option.bind_some]
  · right
    exact ⟨k1, 0, 0, row', k2⟩
theorem p12_tells {N : Nat} (hN : 100 ≤ N) {j : Nat} (hj : j < 4) (M : Int32) (mbits msizes mnum told : Nat → Int32) (f : Nat → Int32) (hf : f = fun t => if msizes j ≤ Int32.ofNat t then 0 else mnum (24 * j + t)) :
    (mbits j = 0 ∧ f_X12_tells N (Int32.ofNat j) M told mbits mnum msizes = some (2, told)) ∨
    (mbits j ≠ 0 ∧ ∃ told', (∀ t, t < 8 → told' t = f t) ∧ (((∀ t, t < 8 → okF (f t)) ∧ f_X12_tells N (Int32.ofNat j) M told mbits mnum msizes = some (if sm8 told' ≤ M then 0 else 4, told')) ∨ (¬ (∀ t, t < 8 → okF (f t)) ∧ f_X12_tells N (Int32.ofNat j) M told mbits mnum msizes = some (1, told')))) := by
  unfold f_X12_tells
  simp (disch := omega) only [on_vin, on_tn, if_true]
  by_cases h0 : mbits j = 0
  · left; exact ⟨h0, by rw [if_pos h0]⟩
  · right
    rw [if_neg h0]
    obtain ⟨told', h1, h2⟩ := p12_tells14 (N := N) hj mnum msizes f (fun t ht => by rw [hf]) (fun v4_9 p1_9 => (f_X12_tells_61 N p1_9 (fun v4_14 => ((f_X12_many N p1_9).bind fun r15 => (if r15 ≤ M then (some ((0 : Int32), p1_9)) else (some ((4 : Int32), p1_9))))) N (0 : Int32))) 8 N 0 told (by omega) (by omega) (fun t ht => by omega)
    refine ⟨h0, told', h2, ?_⟩
    have e : f_X12_tells_14 N (Int32.ofNat j) mnum msizes (fun v4_9 p1_9 => (f_X12_tells_61 N p1_9 (fun v4_14 => ((f_X12_many N p1_9).bind fun r15 => (if r15 ≤ M then (some ((0 : Int32), p1_9)) else (some ((4 : Int32), p1_9))))) N (0 : Int32))) N 0 told = _ := h1
    rw [e]
    have hok : (∀ t, t < 8 → okF (told' t)) ↔ ∀ t, t < 8 → okF (f t) := ⟨fun h t ht => by rw [← h2 t ht]; exact h t ht, fun h t ht => by rw [h2 t ht]; exact h t ht⟩
    rcases p12_tells61 (N := N) told' (fun v4_14 => ((f_X12_many N told').bind fun r15 => (if r15 ≤ M then (some ((0 : Int32), told')) else (some ((4 : Int32), told'))))) 8 N 0 (by omega) (by omega) (fun t ht => by omega) with ⟨k1, k2⟩ | ⟨k1, k2⟩
    · left
      refine ⟨hok.mp k1, k2.trans ?_⟩
      show (f_X12_many N told').bind _ = _
      rw [p12_many (by omega), Option.bind_some]
      by_cases h : sm8 told' ≤ M
      · rw [if_pos h, if_pos h]
      · rw [if_neg h, if_neg h]
    · right
      exact ⟨fun h => k1 (hok.mpr h), k2⟩
theorem row_of_ok {f : Nat → Int32} (h : ∀ t, t < 8 → okF (f t)) : ∃ l, IsRow f l ∧ ∀ t, t < 8 → l t ≤ 9 := ⟨fun t => (f t).toNatClampNeg, fun t ht => (Int32.ofNat_toNatClampNeg _ (h t ht).1).symm, fun t ht => by
  have := Int32.toNatClampNeg_le (h t ht).2
  exact this⟩
theorem nS_le {l : Nat → Nat} (h : ∀ t, t < 8 → l t ≤ 9) : nS l ≤ 72 := by
  unfold nS
  have := h 0 (by omega); have := h 1 (by omega); have := h 2 (by omega); have := h 3 (by omega); have := h 4 (by omega); have := h 5 (by omega); have := h 6 (by omega); have := h 7 (by omega)
  omega
def CK (c : Int32) (M : Nat) (th su : Int32) (row told g0 : Nat → Int32) : Prop := (c = 0 ∧ ∃ l, BK th su row told l g0 ∧ nS l ≤ M) ∨ (∃ k, 1 ≤ k ∧ k ≤ 6 ∧ c = Int32.ofNat k)
theorem pm_refusal_ {N : Nat} (hN : 100 ≤ N) {j M : Nat} (hj : j < 4) (hM : M < 1000) {bits lens mbits msizes mnum : Nat → Int32} {nums : Nat → Nat → Int32} (hH : HR bits lens nums mbits msizes mnum) (a b : Int32) (rw0 told : Nat → Int32) (g : Nat → Nat → Int32) :
    ∃ c th su row told', f_X11_refusal_ N (Int32.ofNat j) (Int32.ofNat M) a b rw0 bits lens nums g = some (c, th, su, row) ∧ f_X12_tells N (Int32.ofNat j) (Int32.ofNat M) told mbits mnum msizes = some (c, told') ∧ CK c M th su row told' (g 0) := by
  obtain ⟨q, hq, e1, e2, e3⟩ := hH.nat hj
  unfold f_X11_refusal_
  rw [p11_isMissing N hj, e3]
  simp only [Option.bind_some, bi_0]
  rcases p12_tells hN hj (Int32.ofNat M) mbits msizes mnum told _ rfl with ⟨h0, h1⟩ | ⟨h0, told', h1, h2⟩
  · rw [if_neg (not_not_intro h0)]
    exact ⟨2, _, _, _, _, rfl, h1, Or.inr ⟨2, by omega, by omega, rfl⟩⟩
  · rw [if_pos h0]
    rcases p11_reads hN hj hH a b rw0 g _ rfl with ⟨k1, row, k2, k3⟩ | ⟨k1, x, y, row, k2⟩
    · rcases h2 with ⟨h3, h4⟩ | ⟨h3, h4⟩
      rotate_left
      · exact absurd k1 h3
      rw [k2, h4, Option.bind_some]
      obtain ⟨l, hl1, hl2⟩ := row_of_ok k1
      have r1 : IsRow row l := fun t ht => by rw [k3 t ht]; exact hl1 t ht
      have r2 : IsRow told' l := fun t ht => by rw [h1 t ht]; exact hl1 t ht
      have hn := nS_le hl2
      rw [if_neg (show ¬ (1 : Int32) = 0 by decide)]
      show ∃ c th su row_1 told'_1, (if sm8 row ≤ Int32.ofNat M then some (0, sm8 row, dot row (g 0), row) else some (4, sm8 row, dot row (g 0), row)) = some (c, th, su, row_1) ∧ _
      rw [r1.sm, r2.sm]
      by_cases h5 : Int32.ofNat (nS l) ≤ Int32.ofNat M
      · rw [if_pos h5, if_pos h5]
        rw [on_le (by omega) (by omega)] at h5
        exact ⟨0, _, _, _, _, rfl, rfl, Or.inl ⟨rfl, l, ⟨r1, r2, hl2, rfl, rfl⟩, h5⟩⟩
      · rw [if_neg h5, if_neg h5]
        exact ⟨4, _, _, _, _, rfl, rfl, Or.inr ⟨4, by omega, by omega, rfl⟩⟩
    · rcases h2 with ⟨h3, h4⟩ | ⟨h3, h4⟩
      · exact absurd h3 k1
      rw [k2, h4, Option.bind_some]
      exact ⟨1, _, _, _, _, rfl, rfl, Or.inr ⟨1, by omega, by omega, rfl⟩⟩
theorem pm_lacks {N : Nat} (hN : 100 ≤ N) (a b : Int32) {M : Nat} (hM : M < 1000) {bits lens mbits msizes mnum : Nat → Int32} {nums : Nat → Nat → Int32} (hH : HR bits lens nums mbits msizes mnum) (x y : Int32) (rw0 told : Nat → Int32) (g : Nat → Nat → Int32) :
    ∃ c th su row told', f_X11_refusal N a b (Int32.ofNat M) x y rw0 bits lens nums g = some (c, th, su, row) ∧ f_X12_lacks N a b 1 (Int32.ofNat M) mbits mnum msizes told = some (c, told') ∧ CK c M th su row told' (g 0) ∧ (c = 0 → ∃ t, t < 4 ∧ b = Int32.ofNat t) := by
  unfold f_X11_refusal f_X12_lacks
  simp only [p11_isSheet, p12_isSheet, p11_isTill, p12_isTill, Option.bind_some, bi_0]
  by_cases h1 : 0 ≤ a ∧ a ≤ 3
  rotate_left
  · rw [if_pos h1, if_pos h1]
    exact ⟨1, _, _, _, _, rfl, rfl, Or.inr ⟨1, by omega, by omega, rfl⟩, fun h => absurd h (by decide)⟩
  rw [if_neg (not_not_intro h1), if_neg (not_not_intro h1)]
  by_cases h2 : 0 ≤ b ∧ b ≤ 3
  rotate_left
  · rw [if_pos h2, if_pos h2]
    exact ⟨1, _, _, _, _, rfl, rfl, Or.inr ⟨1, by omega, by omega, rfl⟩, fun h => absurd h (by decide)⟩
  rw [if_neg (not_not_intro h2), if_neg (not_not_intro h2), if_neg (show ¬ (1 : Int32) = 0 by decide)]
  obtain ⟨j, hj, rfl⟩ := in_nat (b := 3) h1 (by omega)
  obtain ⟨t, ht, rfl⟩ := in_nat (b := 3) h2 (by omega)
  obtain ⟨c, th, su, row, told', k1, k2, k3⟩ := pm_refusal_ hN (M := M) (show j < 4 by omega) hM hH x y rw0 told g
  rw [k1, k2, Option.bind_some, Option.bind_some]
  exact ⟨c, th, su, row, told', rfl, rfl, k3, fun _ => ⟨t, by omega, rfl⟩⟩
theorem p12_lacks0 {N : Nat} (a b M : Int32) (mbits msizes mnum told : Nat → Int32) : f_X12_lacks N a b 0 M mbits mnum msizes told = some (1, told) := by
  unfold f_X12_lacks
  simp only [p12_isSheet, p12_isTill, Option.bind_some, if_true]
  (repeat' split) <;> rfl
/-- what a till asks for a row -/
def PV (s : Nat → Int32) (ts : List Tok) (t : Nat) (l p : Nat → Nat) : Int32 := payV s ts t (nD l p) (Int32.ofNat (nS l))
theorem p12_paid {N : Nat} (hN : 100 ≤ N) {k0 k1 k2 k3 : Nat} {tn tm s : Nat → Int32} (hT : TR k0 k1 k2 k3 tn tm s) {ts : List Tok} {pl : Int32} {pc : Nat → Int32} (hL : LRt 0 ts pl pc s) {j : Nat} (hj : j < 4) {r : Nat → Int32} {l p : Nat → Nat} (hr : IsRow r l) (hp : PrN s p) (hn : nD l p < 1000000) (named pile : Nat → Int32) :
    ∃ named' pile', f_X12_paid N (Int32.ofNat j) r named pile s = some (PV s ts j l p, named', pile') := by
  obtain ⟨named', pile', h⟩ := p12_asked hN hT hL hj hn (Int32.ofNat (nS l)) named pile
  refine ⟨named', pile', ?_⟩
  unfold f_X12_paid
  rw [p12_sumOf (by omega), p12_many (by omega), hr.dot hp.row, hr.sm]
  simp only [Option.bind_some]
  rw [h]
  rfl
theorem nD_ok {l p : Nat → Nat} {s : Nat → Int32} (hp : PrN s p) (h : nS l ≤ 31) : nD l p < 1000000 := by
  have := nD_le (l := l) (B := 9999) (fun t ht => (hp t ht).2)
  have h2 : nS l * 9999 ≤ 31 * 9999 := Nat.mul_le_mul_right _ h
  omega
end PBASK
