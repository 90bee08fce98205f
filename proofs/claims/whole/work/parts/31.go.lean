/-! PURE: go, draws -/
section PGO
theorem p7_hasStock2 {N : Nat} (row : Nat → Int32) (g : Nat → Nat → Int32) : ∀ (d n y : Nat), y + d = 8 → d < n → (f_X7_hasStock_2 N row g (fun v2_5 => (some (1 : Int32))) n (Int32.ofNat y) = some 1 ∧ ∀ t, y ≤ t → t < 8 → row t ≤ g 2 t) ∨ (f_X7_hasStock_2 N row g (fun v2_5 => (some (1 : Int32))) n (Int32.ofNat y) = some 0 ∧ ¬ ∀ t, y ≤ t → t < 8 → row t ≤ g 2 t) := by
  intro d
  induction d with
  | zero =>
    intro n y hy hn
    obtain ⟨n, rfl⟩ : ∃ m, n = m + 1 := ⟨n - 1, by omega⟩
    have : y = 8 := by omega
    subst this
    left
    exact ⟨by rw [f_X7_hasStock_2, if_pos (by decide)], fun t h1 h2 => by omega⟩
  | succ d ih =>
    intro n y hy hn
    obtain ⟨n, rfl⟩ : ∃ m, n = m + 1 := ⟨n - 1, by omega⟩
    rw [f_X7_hasStock_2]
    simp (disch := omega) only [lit_le, on_vin, on_tn, if_true, add_lit]
    rw [if_neg (by omega)]
    by_cases h : row y ≤ g 2 y
    · rw [if_pos h]
      rcases ih n (y + 1) (by omega) (by omega) with ⟨h1, h2⟩ | ⟨h1, h2⟩
      · left
        refine ⟨h1, fun t h3 h4 => ?_⟩
        by_cases e : t = y
        · subst e; exact h
        · exact h2 t (by omega) h4
      · right
        exact ⟨h1, fun h3 => h2 (fun t h4 h5 => h3 t (by omega) h5)⟩
    · right
      rw [if_neg h]
      exact ⟨rfl, fun h3 => h (h3 y (by omega) (by omega))⟩
theorem p12_inStock4z {N : Nat} (row s : Nat → Int32) : ∀ (d n y : Nat), y + d = 8 → d < n → f_X12_isInStock_4 N row s (fun v2_6 v3_6 => (if v2_6 = 0 ∨ v2_6 = 1 then (some v2_6) else none)) n 0 (Int32.ofNat y) = some 0 := by
  intro d
  induction d with
  | zero =>
    intro n y hy hn
    obtain ⟨n, rfl⟩ : ∃ m, n = m + 1 := ⟨n - 1, by omega⟩
    have : y = 8 := by omega
    subst this
    rw [f_X12_isInStock_4, if_pos (by decide)]
    rfl
  | succ d ih =>
    intro n y hy hn
    obtain ⟨n, rfl⟩ : ∃ m, n = m + 1 := ⟨n - 1, by omega⟩
    rw [f_X12_isInStock_4]
    simp (disch := omega) only [lit_le, if_true, add_lit]
    rw [if_neg (by omega)]
    exact ih n (y + 1) (by omega) (by omega)
theorem p12_inStock4 {N : Nat} (row s : Nat → Int32) : ∀ (d n y : Nat), y + d = 8 → d < n → (f_X12_isInStock_4 N row s (fun v2_6 v3_6 => (if v2_6 = 0 ∨ v2_6 = 1 then (some v2_6) else none)) n 1 (Int32.ofNat y) = some 1 ∧ ∀ t, y ≤ t → t < 8 → row t ≤ s (24 + t)) ∨ (f_X12_isInStock_4 N row s (fun v2_6 v3_6 => (if v2_6 = 0 ∨ v2_6 = 1 then (some v2_6) else none)) n 1 (Int32.ofNat y) = some 0 ∧ ¬ ∀ t, y ≤ t → t < 8 → row t ≤ s (24 + t)) := by
  intro d
  induction d with
  | zero =>
    intro n y hy hn
    obtain ⟨n, rfl⟩ : ∃ m, n = m + 1 := ⟨n - 1, by omega⟩
    have : y = 8 := by omega
    subst this
    left
    exact ⟨by rw [f_X12_isInStock_4, if_pos (by decide)]; rfl, fun t h1 h2 => by omega⟩
  | succ d ih =>
    intro n y hy hn
    obtain ⟨n, rfl⟩ : ∃ m, n = m + 1 := ⟨n - 1, by omega⟩
    rw [f_X12_isInStock_4]
    simp (disch := omega) only [lit_le, lit_add, on_vin, on_tn, if_true, add_lit]
    rw [if_neg (by omega), if_neg (show ¬ (1 : Int32) = 0 by decide)]
    by_cases h : s (24 + y) < row y
    · right
      rw [if_pos h]
      exact ⟨p12_inStock4z row s d n (y + 1) (by omega) (by omega), fun h3 => absurd h (Int32.not_lt.mpr (h3 y (by omega) (by omega)))⟩
    · rw [if_neg h]
      rcases ih n (y + 1) (by omega) (by omega) with ⟨h1, h2⟩ | ⟨h1, h2⟩
      · left
        refine ⟨h1, fun t h3 h4 => ?_⟩
        by_cases e : t = y
        · subst e; exact Int32.not_lt.mp h
        · exact h2 t (by omega) h4
      · right
        exact ⟨h1, fun h3 => h2 (fun t h4 h5 => h3 t (by omega) h5)⟩
/-- STOCK has it: both say the same -/
theorem pm_stock {N : Nat} (hN : 100 ≤ N) {row told s : Nat → Int32} {g : Nat → Nat → Int32} (hr : ∀ t, t < 8 → row t = told t) (hG : GR g s) : (f_X7_hasStock N row g = some 1 ∧ f_X12_isInStock N told s = some 1 ∧ ∀ t, t < 8 → told t ≤ s (24 + t)) ∨ (f_X7_hasStock N row g = some 0 ∧ f_X12_isInStock N told s = some 0) := by
  have hg : ∀ t, t < 8 → g 2 t = s (24 + t) := fun t ht => by rw [hG.1 2 t (by omega) ht]
  unfold f_X7_hasStock f_X12_isInStock
  rcases p7_hasStock2 (N := N) row g 8 N 0 (by omega) (by omega) with ⟨h1, h2⟩ | ⟨h1, h2⟩ <;> rcases p12_inStock4 (N := N) told s 8 N 0 (by omega) (by omega) with ⟨k1, k2⟩ | ⟨k1, k2⟩
  · exact Or.inl ⟨h1, k1, fun t ht => k2 t (by omega) ht⟩
  · exact absurd (fun t _ ht => by rw [← hr t ht, ← hg t ht]; exact h2 t (by omega) ht) k2
  · exact absurd (fun t _ ht => by rw [hr t ht, hg t ht]; exact k2 t (by omega) ht) h2
  · exact Or.inr ⟨h1, k1⟩
theorem p7_sold17 {N : Nat} (row : Nat → Int32) (K : Int32 → (Nat → Nat → Int32) → Option (Int32 × (Int32) × (Int32) × (Int32) × (Nat → Nat → Int32) × (Nat → Int32))) : ∀ (d n y : Nat) (g : Nat → Nat → Int32), y + d = 8 → d < n → ∃ g', f_X7_sold_17 N row K n (Int32.ofNat y) g = K 8 g' ∧ (∀ w, w ≠ 2 → g' w = g w) ∧ (∀ t, y ≤ t → t < 8 → g' 2 t = g 2 t - row t) ∧ ∀ t, t < y → g' 2 t = g 2 t := by
  intro d
  induction d with
  | zero =>
    intro n y g hy hn
    obtain ⟨n, rfl⟩ : ∃ m, n = m + 1 := ⟨n - 1, by omega⟩
    have : y = 8 := by omega
    subst this
    exact ⟨g, by rw [f_X7_sold_17, if_pos (by decide)]; rfl, fun _ _ => rfl, fun t h1 h2 => by omega, fun _ _ => rfl⟩
  | succ d ih =>
    intro n y g hy hn
    obtain ⟨n, rfl⟩ : ∃ m, n = m + 1 := ⟨n - 1, by omega⟩
    rw [f_X7_sold_17]
    simp (disch := omega) only [lit_le, on_vin, on_tn, if_true, add_lit]
    rw [if_neg (by omega)]
    obtain ⟨g', h1, h2, h3, h4⟩ := ih n (y + 1) (va_up g 2 (upd (g 2) y (g 2 y - row y))) (by omega) (by omega)
    refine ⟨g', h1, fun w hw => by rw [h2 w hw, up_ne _ _ hw], fun t h5 h6 => ?_, fun t h5 => ?_⟩
    · by_cases e : t = y
      · subst e; rw [h4 t (by omega), up_at, upd_at]
      · rw [h3 t (by omega) h6, up_at, upd_ne _ _ e]
    · rw [h4 t (by omega), up_at, upd_ne _ _ (by omega)]
theorem p12_goes75 {N : Nat} (row : Nat → Int32) (K : Int32 → (Nat → Int32) → Option (Int32 × (Nat → Int32) × (Nat → Int32) × (Nat → Int32))) : ∀ (d n y : Nat) (s : Nat → Int32), y + d = 8 → d < n → ∃ s', f_X12_goes_75 N row K n (Int32.ofNat y) s = K 8 s' ∧ (∀ t, y ≤ t → t < 8 → s' (24 + t) = s (24 + t) - row t) ∧ ∀ k, k < 24 + y ∨ 32 ≤ k → s' k = s k := by
  intro d
  induction d with
  | zero =>
    intro n y s hy hn
    obtain ⟨n, rfl⟩ : ∃ m, n = m + 1 := ⟨n - 1, by omega⟩
    have : y = 8 := by omega
    subst this
    exact ⟨s, by rw [f_X12_goes_75, if_pos (by decide)]; rfl, fun t h1 h2 => by omega, fun _ _ => rfl⟩
  | succ d ih =>
    intro n y s hy hn
    obtain ⟨n, rfl⟩ : ∃ m, n = m + 1 := ⟨n - 1, by omega⟩
    rw [f_X12_goes_75]
    simp (disch := omega) only [lit_le, lit_add, on_vin, on_tn, if_true, add_lit]
    rw [if_neg (by omega)]
    obtain ⟨s', h1, h2, h3⟩ := ih n (y + 1) (upd s (24 + y) (s (24 + y) - row y)) (by omega) (by omega)
    refine ⟨s', h1, fun t h5 h6 => ?_, fun k h5 => ?_⟩
    · by_cases e : t = y
      · subst e; rw [h3 _ (by omega), upd_at]
      · rw [h2 t (by omega) h6, upd_ne _ _ (by omega)]
    · rw [h3 k (by omega), upd_ne _ _ (by omega)]
theorem hd_on {n M : Nat} (hn : n < 2147483648) (hM : M < 2147483648) : hd (Int32.ofNat n) (Int32.ofNat M) = Int32.ofNat (min n M) := by
  unfold hd
  rw [if_neg (Int32.not_lt.mpr (on_nn hn))]
  simp (disch := omega) only [on_lt]
  by_cases h : M < n
  · rw [if_pos h, Nat.min_eq_right (by omega)]
  · rw [if_neg h, Nat.min_eq_left (by omega)]
theorem min_on {n M : Nat} (hn : n < 2147483648) (hM : M < 2147483648) : (if Int32.ofNat n < Int32.ofNat M then Int32.ofNat n else Int32.ofNat M) = Int32.ofNat (min n M) := by
  simp (disch := omega) only [on_lt]
  by_cases h : n < M
  · rw [if_pos h, Nat.min_eq_left (by omega)]
  · rw [if_neg h, Nat.min_eq_right (by omega)]
theorem hd_range {v : Int32} {M : Nat} (hM : M < 2147483648) : ∃ k, k ≤ M ∧ hd v (Int32.ofNat M) = Int32.ofNat k := by
  unfold hd
  by_cases h : v < 0
  · exact ⟨0, by omega, by rw [if_pos h]; rfl⟩
  · rw [if_neg h]
    by_cases h2 : Int32.ofNat M < v
    · exact ⟨M, by omega, by rw [if_pos h2]⟩
    · rw [if_neg h2]
      exact nat_of (Int32.not_lt.mp h) (Int32.not_lt.mp h2) hM
theorem payV_range (s : Nat → Int32) (ts : List Tok) (j n : Nat) (k : Int32) : ∃ r, r ≤ 9999 ∧ payV s ts j n k = Int32.ofNat r := by
  unfold payV
  by_cases h : k = 0
  · exact ⟨0, by omega, by rw [if_pos h]; rfl⟩
  · rw [if_neg h]; exact hd_range (M := 9999) (by omega)
theorem pm_goes {N : Nat} (hN : 100 ≤ N) {k0 k1 k2 k3 : Nat} {tn tm s pc : Nat → Int32} {pl tk cs go z : Int32} {g : Nat → Nat → Int32} {ts : List Tok} (hG : GR g s) (hT : TR k0 k1 k2 k3 tn tm s) (hL : LRt 0 ts pl pc s) (hM : MR tk cs go z s) {j : Nat} (hj : j < 4) {th su : Int32} {row told : Nat → Int32} {l : Nat → Nat} (hB : BK th su row told l (g 0)) (hn : nS l ≤ 31) (hst : ∀ t, t < 8 → told t ≤ s (24 + t)) (st named pile : Nat → Int32) :
    ∃ v tk' cs' go' g' st' named' pile' s', f_X7_sold N (Int32.ofNat j) th su row tk cs go g pl pc st k0 k1 k2 k3 tn tm = some (v, tk', cs', go', g', st') ∧ f_X12_goes N (Int32.ofNat j) told named pile s = some (v, named', pile', s') ∧ GR g' s' ∧ MR tk' cs' go' z s' ∧ ∀ i, 3 ≤ i → (i < 24 ∨ 32 ≤ i) → s' i = s i := by
  obtain ⟨b1, b2, b3, b4, b5⟩ := hB
  obtain ⟨p, hp⟩ := hG.prices
  have hsu := b5.trans (b1.dot (hp.row0 hG))
  obtain ⟨st', f1⟩ := p7_paidB hN hT hL hj b4 hsu (nD_ok hp (by omega)) st
  obtain ⟨named', pile', f2⟩ := p12_paid hN hT hL hj b2 hp (nD_ok hp (by omega)) named pile
  obtain ⟨r, hr, er⟩ : ∃ r, r ≤ 9999 ∧ PV s ts j l p = Int32.ofNat r := payV_range _ _ _ _ _
  rw [er] at f1 f2
  obtain ⟨m1, m2, m3, m4, m5, m6, m7⟩ := hM
  obtain ⟨t1, ht1, et1⟩ := in_nat (b := 99999999) m5 (by omega)
  obtain ⟨c1, hc1, ec1⟩ := in_nat (b := 99999999) m6 (by omega)
  obtain ⟨g1, hg1, eg1⟩ := in_nat (b := 9999) m7 (by omega)
  -- what the things cost
  have hcrow : ∃ q, IsRow (fun t => s (16 + t)) q ∧ ∀ t, t < 8 → q t ≤ 9999 := ⟨fun t => (s (16 + t)).toNatClampNeg, fun t ht => (Int32.ofNat_toNatClampNeg _ (hG.2 t ht).2.1.1).symm, fun t ht => Int32.toNatClampNeg_le (hG.2 t ht).2.1.2⟩
  obtain ⟨q, hq, hq2⟩ := hcrow
  have hcn := nD_le (l := l) hq2
  have hcn2 : nS l * 9999 ≤ 31 * 9999 := Nat.mul_le_mul_right _ hn
  have hc_ref : ∀ s1 : Nat → Int32, (∀ t, t < 8 → s1 (16 + t) = s (16 + t)) → f_X12_costOf N told s1 = some (Int32.ofNat (nD l q)) := fun s1 h1 => by
    rw [p12_costOf (by omega)]
    congr 1
    rw [← b2.dot hq]
    exact dot_congr (fun _ _ => rfl) (fun t ht => h1 t ht)
  obtain ⟨g', u1, u2, u3, u4⟩ := p7_sold17 (N := N) row (fun v4_6 this_goods_6 => ((f_X0_sumBy N (this_goods_6 1) row).bind fun r7 => (some (Int32.ofNat r, (if (tk + Int32.ofNat r) < (99999999 : Int32) then (tk + Int32.ofNat r) else (99999999 : Int32)), (if (cs + r7) < (99999999 : Int32) then (cs + r7) else (99999999 : Int32)), (if (go + (1 : Int32)) < (9999 : Int32) then (go + (1 : Int32)) else (9999 : Int32)), this_goods_6, st')))) 8 N 0 g (by omega) (by omega)
  have hsc : f_X0_sumBy N (g' 1) row = some (Int32.ofNat (nD l q)) := by
    rw [p0_sumBy (by omega)]
    congr 1
    rw [← b1.dot hq]
    exact dot_congr (fun _ _ => rfl) (fun t ht => by rw [u2 1 (by omega), hG.1 1 t (by omega) ht])
  obtain ⟨s', w1, w2, w3⟩ := p12_goes75 (N := N) told (fun v4_10 this_s_10 => (some (Int32.ofNat r, named', pile', this_s_10))) 8 N 0 (upd (upd (upd s 1 (Int32.ofNat (min (t1 + r) 99999999))) 2 (Int32.ofNat (min (c1 + nD l q) 99999999))) 0 (Int32.ofNat (min (g1 + 1) 9999))) (by omega) (by omega)
  refine ⟨Int32.ofNat r, Int32.ofNat (min (t1 + r) 99999999), Int32.ofNat (min (c1 + nD l q) 99999999), Int32.ofNat (min (g1 + 1) 9999), g', st', named', pile', s', ?_, ?_, ?_, ?_, ?_⟩
  · unfold f_X7_sold
    rw [f1]
    simp only [Option.bind_some]
    refine u1.trans ?_
    rw [hsc, m1, et1, m2, ec1, m3, eg1]
    simp only [Option.bind_some, on_add, add_lit]
    have x1 := min_on (n := t1 + r) (M := 99999999) (by omega) (by omega)
    have x2 := min_on (n := c1 + nD l q) (M := 99999999) (by omega) (by omega)
    have x3 := min_on (n := g1 + 1) (M := 9999) (by omega) (by omega)
    have x1 : (if Int32.ofNat (t1 + r) < 99999999 then Int32.ofNat (t1 + r) else 99999999) = _ := x1
    have x2 : (if Int32.ofNat (c1 + nD l q) < 99999999 then Int32.ofNat (c1 + nD l q) else 99999999) = _ := x2
    have x3 : (if Int32.ofNat (g1 + 1) < 9999 then Int32.ofNat (g1 + 1) else 9999) = _ := x3
    rw [x1, x2, x3]
  · unfold f_X12_goes
    rw [f2]
    simp only [Option.bind_some]
    rw [show (1 : Int32).toNatClampNeg = 1 from rfl, show (2 : Int32).toNatClampNeg = 2 from rfl, show (0 : Int32).toNatClampNeg = 0 from rfl, et1, on_add, p12_held]
    have x1 : hd (Int32.ofNat (t1 + r)) 99999999 = _ := hd_on (n := t1 + r) (M := 99999999) (by omega) (by omega)
    rw [x1]
    simp only [Option.bind_some]
    rw [hc_ref _ (fun t ht => upd_ne _ _ (by omega)), upd_ne s _ (show (2 : Nat) ≠ 1 by omega), ec1]
    simp only [Option.bind_some]
    rw [on_add, p12_held]
    have x2 : hd (Int32.ofNat (c1 + nD l q)) 99999999 = _ := hd_on (n := c1 + nD l q) (M := 99999999) (by omega) (by omega)
    rw [x2]
    simp only [Option.bind_some]
    rw [upd_ne (upd s 1 _) _ (show (0 : Nat) ≠ 2 by omega), upd_ne s _ (show (0 : Nat) ≠ 1 by omega), eg1]
    rw [show Int32.ofNat g1 + 1 = Int32.ofNat (g1 + 1) from add_lit 1 g1, p12_held]
    have x3 : hd (Int32.ofNat (g1 + 1)) 9999 = _ := hd_on (n := g1 + 1) (M := 9999) (by omega) (by omega)
    rw [x3]
    simp only [Option.bind_some]
    exact w1
  · refine ⟨fun w t hw ht => ?_, fun t ht => ?_⟩
    · by_cases e : w = 2
      · subst e
        rw [u3 t (by omega) ht, show 8 + 8 * 2 + t = 24 + t by omega, w2 t (by omega) ht, upd_ne _ _ (by omega), upd_ne _ _ (by omega), upd_ne _ _ (by omega), hG.1 2 t (by omega) ht, b1 t ht, b2 t ht]
      · rw [u2 w e, w3 _ (by omega), upd_ne _ _ (by omega), upd_ne _ _ (by omega), upd_ne _ _ (by omega)]
        exact hG.1 w t hw ht
    · obtain ⟨i1, i2, i3⟩ := hG.2 t ht
      rw [w3 (8 + t) (by omega), w3 (16 + t) (by omega), w2 t (by omega) ht]
      rw [upd_ne _ _ (show 8 + t ≠ 0 by omega), upd_ne _ _ (show 8 + t ≠ 2 by omega), upd_ne _ _ (show 8 + t ≠ 1 by omega)]
      rw [upd_ne _ _ (show 16 + t ≠ 0 by omega), upd_ne _ _ (show 16 + t ≠ 2 by omega), upd_ne _ _ (show 16 + t ≠ 1 by omega)]
      rw [upd_ne _ _ (show 24 + t ≠ 0 by omega), upd_ne _ _ (show 24 + t ≠ 2 by omega), upd_ne _ _ (show 24 + t ≠ 1 by omega)]
      refine ⟨i1, i2, ?_⟩
      obtain ⟨n, hn9, en⟩ := in_nat (b := 99) i3 (by omega)
      have := hst t ht
      rw [b2 t ht, en, on_le (by have := b3 t ht; omega) (by omega)] at this
      rw [en, b2 t ht, on_sub this]
      exact ⟨on_nn (by omega), by rw [le_lit (by omega) (by omega)]; omega⟩
  · refine ⟨?_, ?_, ?_, ?_, ?_, ?_, ?_⟩
    · rw [w3 1 (by omega), upd_ne _ _ (by omega), upd_ne _ _ (by omega), upd_at]
    · rw [w3 2 (by omega), upd_ne _ _ (by omega), upd_at]
    · rw [w3 0 (by omega), upd_at]
    · rw [w3 5 (by omega), upd_ne _ _ (by omega), upd_ne _ _ (by omega), upd_ne _ _ (by omega)]; exact m4
    · rw [w3 1 (by omega), upd_ne _ _ (by omega), upd_ne _ _ (by omega), upd_at]
      exact ⟨on_nn (by omega), by rw [le_lit (by omega) (by omega)]; omega⟩
    · rw [w3 2 (by omega), upd_ne _ _ (by omega), upd_at]
      exact ⟨on_nn (by omega), by rw [le_lit (by omega) (by omega)]; omega⟩
    · rw [w3 0 (by omega), upd_at]
      exact ⟨on_nn (by omega), by rw [le_lit (by omega) (by omega)]; omega⟩
  · intro i h1 h2
    rw [w3 i (by omega), upd_ne _ _ (by omega), upd_ne _ _ (by omega), upd_ne _ _ (by omega)]
theorem pm_go {N : Nat} (hN : 100 ≤ N) (a b : Int32) {k0 k1 k2 k3 : Nat} {tn tm s ce me pc bits lens mbits msizes mnum : Nat → Int32} {pl tk cs go z : Int32} {nums g : Nat → Nat → Int32} (hE : ER ce me) (hH : HR bits lens nums mbits msizes mnum) (hG : GR g s) (hT : TR k0 k1 k2 k3 tn tm s) (hL : LR 0 pl pc s) (hM : MR tk cs go z s) (x y : Int32) (rw0 told st named pile : Nat → Int32) :
    ∃ v ce' x' y' rw' tk' cs' go' g' st' me' named' pile' s' told', f_X11_go N a b ce x y rw0 bits lens nums tk cs go g pl pc st k0 k1 k2 k3 tn tm = some (v, ce', x', y', rw', tk', cs', go', g', st') ∧ f_X12_go N a b mbits me named mnum pile s msizes told = some (v, me', named', pile', s', told') ∧ ER ce' me' ∧ GR g' s' ∧ MR tk' cs' go' z s' ∧ ∀ i, 3 ≤ i → (i < 24 ∨ 32 ≤ i) → s' i = s i := by
  obtain ⟨ts, hL⟩ := hL
  unfold f_X11_go f_X12_go
  obtain ⟨c, th, su, row, told', e1, e2, e3, e4⟩ := pm_lacks hN a b (M := 30) (by omega) hH x y rw0 told g
  have e1 : f_X11_refusal N a b 30 x y rw0 bits lens nums g = _ := e1
  have e2 : f_X12_lacks N a b 1 30 mbits mnum msizes told = _ := e2
  rw [e1, e2]
  simp only [Option.bind_some, e3.le]
  by_cases h0 : c = 0
  · rw [if_pos h0, if_pos h0, if_pos h0]
    obtain ⟨t, ht, rfl⟩ := e4 h0
    rcases e3 with ⟨-, l, hB, hM30⟩ | ⟨k, k1, k2, k3⟩
    · have hrt : ∀ i, i < 8 → row i = told' i := fun i hi => by rw [hB.1 i hi, hB.2.1 i hi]
      rcases pm_stock hN hrt hG with ⟨s1, s2, s3⟩ | ⟨s1, s2⟩
      · rw [s1, s2]
        simp only [Option.bind_some]
        rw [if_neg (show ¬ (1 : Int32) = 0 by decide), if_neg (show ¬ (1 : Int32) = 0 by decide)]
        obtain ⟨v, tk', cs', go', g', st', named', pile', s', f1, f2, f3, f4, f5⟩ := pm_goes hN hG hT hL hM ht hB (by omega) s3 st named pile
        rw [f1, f2]
        exact ⟨v, _, _, _, _, _, _, _, _, _, _, _, _, _, _, rfl, rfl, hE, f3, f4, f5⟩
      · rw [s1, s2]
        simp only [Option.bind_some, if_true, p11_error3, p12_error3]
        rw [if_neg (show ¬ (3 : Int32) ≤ 0 by decide)]
        exact ⟨_, _, _, _, _, _, _, _, _, _, _, _, _, _, _, rfl, rfl, hE.up (by omega), hG, hM, fun _ _ _ => rfl⟩
    · exfalso; rw [h0] at k3; rw [lit_eq (by omega) (by omega)] at k3; omega
  · rw [if_neg h0, if_neg h0, if_neg h0]
    obtain ⟨k, k1, k2, rfl⟩ := e3.err h0
    rw [p11_error N k1 k2, p12_error N k2]
    exact ⟨_, _, _, _, _, _, _, _, _, _, _, _, _, _, _, rfl, rfl, hE.up (by omega), hG, hM, fun _ _ _ => rfl⟩
end PGO
