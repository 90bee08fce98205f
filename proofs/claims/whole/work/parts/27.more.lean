/-! PURE: put, move, prices, count, feed, tills -/
section PMORE
theorem pm_put {N : Nat} (a b c : Int32) {ce me bits lens mbits msizes mnum : Nat → Int32} {nums : Nat → Nat → Int32} (hE : ER ce me) (hH : HR bits lens nums mbits msizes mnum) :
    ∃ v ce' nums' me' mnum', f_X11_put N a b c ce bits lens nums = some (v, ce', nums') ∧ f_X12_put N a b c mbits me mnum msizes = some (v, me', mnum') ∧ ER ce' me' ∧ HR bits lens nums' mbits msizes mnum' := by
  unfold f_X11_put f_X12_put
  simp only [p11_isSheet, p12_isSheet, Option.bind_some, bi_0, p11_error1, p12_error1, p11_error2, p12_error2]
  by_cases h1 : 0 ≤ a ∧ a ≤ 3
  · rw [if_neg (not_not_intro h1), if_neg (not_not_intro h1)]
    obtain ⟨j, hj, rfl⟩ := in_nat (b := 3) h1 (by omega)
    have hj4 : j < 4 := by omega
    obtain ⟨q, hq, e1, e2, e3⟩ := hH.nat hj4
    have hbs := (hH.1 j hj4).2.2.1
    simp (disch := omega) only [p11_isMissing N hj4, Option.bind_some, bi_0, on_vin, on_tn, if_true, e1, e2, e3]
    by_cases h0 : mbits j = 0
    · rw [if_neg (not_not_intro h0), if_pos h0]
      exact ⟨_, _, _, _, _, rfl, rfl, hE.up (by omega), hH⟩
    · rw [if_pos h0, if_neg h0]
      simp only [p11_within, p12_in, Option.bind_some, bi_0]
      by_cases h2 : 0 ≤ b ∧ b ≤ Int32.ofNat q - 1
      · rw [if_neg (not_not_intro h2), if_neg (not_not_intro h2)]
        have hq1 : 1 ≤ q := by
          by_cases h9 : q = 0
          · exfalso; subst h9; exact absurd (Int32.le_trans h2.1 h2.2) (by decide)
          · omega
        rw [sub_lit hq1] at h2
        obtain ⟨i, hi, rfl⟩ := in_nat h2 (by omega)
        have hb : ∃ x, f_X11_lowest N c (mbits j) = some x ∧ (c <<< (((32 : Int32) - mbits j) &&& 31)) >>> (((32 : Int32) - mbits j) &&& 31) = x := by
          rcases hbs with h | h | h | h
          · exact absurd h h0
          · rw [h]; exact ⟨_, rfl, low8 c⟩
          · rw [h]; exact ⟨_, rfl, low16 c⟩
          · rw [h]; refine ⟨c, rfl, ?_⟩
            apply Int32.toBitVec_inj.mp
            simp
        obtain ⟨x, hx1, hx2⟩ := hb
        rw [hx1, hx2]
        simp (disch := omega) only [Option.bind_some, lit_mul, on_add, on_vin, on_tn, if_true]
        exact ⟨_, _, _, _, _, rfl, rfl, hE, hH.set hj4 (by omega) x⟩
      · rw [if_pos h2, if_pos h2]
        exact ⟨_, _, _, _, _, rfl, rfl, hE.up (by omega), hH⟩
  · rw [if_pos h1, if_pos h1]
    exact ⟨_, _, _, _, _, rfl, rfl, hE.up (by omega), hH⟩
theorem p12_move115 {N j i c : Nat} (hj : j < 4) (hi : i + c ≤ 24) (num : Nat → Int32) (K : Int32 → (Nat → Int32) → Option (Int32 × (Nat → Int32) × (Nat → Int32) × (Nat → Int32))) : ∀ (d n y : Nat) (aside : Nat → Int32), y + d = c → d < n → ∃ aside', f_X12_move_115 N (Int32.ofNat j) (Int32.ofNat i) (Int32.ofNat c) num K n (Int32.ofNat y) aside = K (Int32.ofNat c) aside' ∧ (∀ k, y ≤ k → k < c → aside' k = num (24 * j + i + k)) ∧ ∀ k, k < y → aside' k = aside k := by
  intro d
  induction d with
  | zero =>
    intro n y aside hy hn
    obtain ⟨n, rfl⟩ : ∃ m, n = m + 1 := ⟨n - 1, by omega⟩
    have : y = c := by omega
    subst this
    exact ⟨aside, by rw [f_X12_move_115, if_pos (Int32.le_refl _)], fun k h1 h2 => by omega, fun _ _ => rfl⟩
  | succ d ih =>
    intro n y aside hy hn
    obtain ⟨n, rfl⟩ : ∃ m, n = m + 1 := ⟨n - 1, by omega⟩
    rw [f_X12_move_115]
    simp (disch := omega) only [on_le, lit_mul, on_add, on_vin, on_tn, if_true, add_lit]
    rw [if_neg (by omega)]
    obtain ⟨aside', h1, h2, h3⟩ := ih n (y + 1) (upd aside y (num (24 * j + i + y))) (by omega) (by omega)
    refine ⟨aside', h1, fun k h5 h6 => ?_, fun k h5 => ?_⟩
    · by_cases e : k = y
      · subst e; rw [h3 _ (by omega), upd_at]
      · exact h2 k (by omega) h6
    · rw [h3 k (by omega), upd_ne _ _ (by omega)]
theorem p12_move152 {N j i c : Nat} (hj : j < 4) (hi : i + c ≤ 24) (aside : Nat → Int32) (K : Int32 → (Nat → Int32) → Option (Int32 × (Nat → Int32) × (Nat → Int32) × (Nat → Int32))) : ∀ (d n y : Nat) (num : Nat → Int32), y + d = c → d < n → ∃ num', f_X12_move_152 N (Int32.ofNat j) (Int32.ofNat i) (Int32.ofNat c) aside K n (Int32.ofNat y) num = K (Int32.ofNat c) num' ∧ (∀ k, y ≤ k → k < c → num' (24 * j + i + k) = aside k) ∧ ∀ k, k < 24 * j + i + y ∨ 24 * j + i + c ≤ k → num' k = num k := by
  intro d
  induction d with
  | zero =>
    intro n y num hy hn
    obtain ⟨n, rfl⟩ : ∃ m, n = m + 1 := ⟨n - 1, by omega⟩
    have : y = c := by omega
    subst this
    exact ⟨num, by rw [f_X12_move_152, if_pos (Int32.le_refl _)], fun k h1 h2 => by omega, fun _ _ => rfl⟩
  | succ d ih =>
    intro n y num hy hn
    obtain ⟨n, rfl⟩ : ∃ m, n = m + 1 := ⟨n - 1, by omega⟩
    rw [f_X12_move_152]
    simp (disch := omega) only [on_le, lit_mul, on_add, on_vin, on_tn, if_true, add_lit]
    rw [if_neg (by omega)]
    obtain ⟨num', h1, h2, h3⟩ := ih n (y + 1) (upd num (24 * j + i + y) (aside y)) (by omega) (by omega)
    refine ⟨num', h1, fun k h5 h6 => ?_, fun k h5 => ?_⟩
    · by_cases e : k = y
      · subst e; rw [h3 _ (by omega), upd_at]
      · exact h2 k (by omega) h6
    · rw [h3 k (by omega), upd_ne _ _ (by omega)]
theorem ofNat_sub_toInt (q n : Nat) (hq : q < 2147483648) (hn : n < 2147483648) : (Int32.ofNat q - Int32.ofNat n).toInt = (q : Int) - n := by
  rw [Int32.toInt_sub, on_toInt hq, on_toInt hn]
  apply Int.bmod_eq_of_le <;> omega
theorem sub_lt_iff {q n i : Nat} (hq : q < 2147483648) (hn : n < 2147483648) (hi : i < 2147483648) : (Int32.ofNat q - Int32.ofNat n < Int32.ofNat i) = (q < i + n) := by
  rw [Int32.lt_iff_toInt_lt, ofNat_sub_toInt q n hq hn, on_toInt hi]
  apply propext; omega
theorem le_sub_iff {q n i : Nat} (hq : q < 2147483648) (hn : n < 2147483648) (hi : i < 2147483648) : (Int32.ofNat i ≤ Int32.ofNat q - Int32.ofNat n) = (i + n ≤ q) := by
  rw [Int32.le_iff_toInt_le, ofNat_sub_toInt q n hq hn, on_toInt hi]
  apply propext; omega
theorem p11_stand {N j q : Nat} (hj : j < 4) (hq : q ≤ 24) (lens : Nat → Int32) (hl : lens j = Int32.ofNat q) (i c : Int32) : f_X11_stand N (Int32.ofNat j) i c lens = some (bi (0 ≤ c ∧ 0 ≤ i ∧ i ≤ Int32.ofNat q - c)) := by
  unfold f_X11_stand
  simp (disch := omega) only [on_vin, on_tn, if_true, hl]
  by_cases h1 : c < 0
  · rw [if_pos h1, bi, if_neg (fun h => absurd h1 (Int32.not_lt.mpr h.1))]
  rw [if_neg h1]
  by_cases h2 : i < 0
  · rw [if_pos h2, bi, if_neg (fun h => absurd h2 (Int32.not_lt.mpr h.2.1))]
  rw [if_neg h2]
  obtain ⟨c, hc, rfl⟩ := nat_lt c (Int32.not_lt.mp h1)
  obtain ⟨i, hi, rfl⟩ := nat_lt i (Int32.not_lt.mp h2)
  simp (disch := omega) only [on_lt, sub_lt_iff, bi, le_sub_iff]
  by_cases h3 : q < c
  · rw [if_pos h3, if_neg (fun h => by omega)]
  rw [if_neg h3]
  by_cases h4 : q < i + c
  · rw [if_pos h4, if_neg (fun h => by omega)]
  · rw [if_neg h4, if_pos ⟨on_nn hc, on_nn hi, by omega⟩]
theorem pm_move {N : Nat} (hN : 100 ≤ N) (a b c d e : Int32) {ce me aside bits lens mbits msizes mnum : Nat → Int32} {nums : Nat → Nat → Int32} (hE : ER ce me) (hH : HR bits lens nums mbits msizes mnum) :
    ∃ v ce' nums' aside' me' mnum', f_X11_move N a b c d e ce bits lens nums = some (v, ce', nums') ∧ f_X12_move N a b c d e aside mbits me mnum msizes = some (v, aside', me', mnum') ∧ ER ce' me' ∧ HR bits lens nums' mbits msizes mnum' := by
  unfold f_X11_move f_X12_move
  simp only [p11_isSheet, p12_isSheet, Option.bind_some, bi_0, p11_error1, p12_error1, p11_error2, p12_error2, p11_error5, p12_error5]
  by_cases h1 : 0 ≤ a ∧ a ≤ 3
  rotate_left
  · rw [if_pos h1, if_pos h1]
    exact ⟨_, _, _, _, _, _, rfl, rfl, hE.up (by omega), hH⟩
  rw [if_neg (not_not_intro h1), if_neg (not_not_intro h1)]
  by_cases h2 : 0 ≤ c ∧ c ≤ 3
  rotate_left
  · rw [if_pos h2, if_pos h2]
    exact ⟨_, _, _, _, _, _, rfl, rfl, hE.up (by omega), hH⟩
  rw [if_neg (not_not_intro h2), if_neg (not_not_intro h2)]
  obtain ⟨j, hj, rfl⟩ := in_nat (b := 3) h1 (by omega)
  obtain ⟨o, ho, rfl⟩ := in_nat (b := 3) h2 (by omega)
  have hj4 : j < 4 := by omega
  have ho4 : o < 4 := by omega
  obtain ⟨q, hq, e1, e2, e3⟩ := hH.nat hj4
  obtain ⟨r, hr, f1, f2, f3⟩ := hH.nat ho4
  simp (maxSteps := 3000000) (disch := omega) only [p11_isMissing N hj4, p11_isMissing N ho4, Option.bind_some, bi_0, on_vin, on_tn, if_true, e2, e3, f2, f3, p11_stand hj4 hq lens e1, p11_stand ho4 hr lens f1]
  by_cases h3 : mbits j = 0
  · rw [if_neg (not_not_intro h3), if_pos h3]
    exact ⟨_, _, _, _, _, _, rfl, rfl, hE.up (by omega), hH⟩
  rw [if_pos h3, if_neg h3]
  by_cases h4 : mbits o = 0
  · rw [if_neg (not_not_intro h4), if_pos h4]
    exact ⟨_, _, _, _, _, _, rfl, rfl, hE.up (by omega), hH⟩
  rw [if_pos h4, if_neg h4]
  by_cases h5 : mbits j = mbits o
  rotate_left
  · rw [if_neg h5, if_neg h5]
    exact ⟨_, _, _, _, _, _, rfl, rfl, hE.up (by omega), hH⟩
  rw [if_pos h5, if_pos h5]
  by_cases h6 : e < 0
  · rw [if_pos h6, if_pos (fun h => absurd h6 (Int32.not_lt.mpr h.1))]
    exact ⟨_, _, _, _, _, _, rfl, rfl, hE.up (by omega), hH⟩
  by_cases h7 : b < 0
  · rw [if_neg h6, if_pos h7, if_pos (fun h => absurd h7 (Int32.not_lt.mpr h.2.1))]
    exact ⟨_, _, _, _, _, _, rfl, rfl, hE.up (by omega), hH⟩
  rw [if_neg h6, if_neg h7]
  have h6' : 0 ≤ e := Int32.not_lt.mp h6
  have h7' : 0 ≤ b := Int32.not_lt.mp h7
  by_cases h8 : d < 0
  · rw [if_pos h8]
    by_cases h9 : (0 ≤ e ∧ 0 ≤ b ∧ b ≤ Int32.ofNat q - e)
    · rw [if_neg (not_not_intro h9), if_pos (fun h => absurd h8 (Int32.not_lt.mpr h.2.1))]
      exact ⟨_, _, _, _, _, _, rfl, rfl, hE.up (by omega), hH⟩
    · rw [if_pos h9]
      exact ⟨_, _, _, _, _, _, rfl, rfl, hE.up (by omega), hH⟩
  rw [if_neg h8]
  have h8' : 0 ≤ d := Int32.not_lt.mp h8
  by_cases h9 : Int32.ofNat q - e < b
  · rw [if_pos h9, if_pos (fun h => absurd h9 (Int32.not_lt.mpr h.2.2))]
    exact ⟨_, _, _, _, _, _, rfl, rfl, hE.up (by omega), hH⟩
  rw [if_neg h9, if_neg (not_not_intro ⟨h6', h7', Int32.not_lt.mp h9⟩)]
  by_cases h10 : d ≤ Int32.ofNat r - e
  rotate_left
  · rw [if_neg h10, if_pos (fun h => h10 h.2.2)]
    exact ⟨_, _, _, _, _, _, rfl, rfl, hE.up (by omega), hH⟩
  rw [if_pos h10, if_neg (not_not_intro ⟨h6', h8', h10⟩)]
  obtain ⟨n, hn, rfl⟩ := nat_lt e h6'
  obtain ⟨i, hi, rfl⟩ := nat_lt b h7'
  obtain ⟨k, hk, rfl⟩ := nat_lt d h8'
  rw [sub_lt_iff (by omega) hn hi] at h9
  rw [le_sub_iff (by omega) hn hk] at h10
  simp (disch := omega) only [on_tn]
  rw [if_pos ⟨Int32.not_lt.mpr (on_nn hi), Int32.not_lt.mpr (on_nn hk), Int32.not_lt.mpr (on_nn hn), by omega, by omega⟩]
  obtain ⟨aside', g1, g2, g3⟩ := p12_move115 (N := N) (j := j) (i := i) (c := n) hj4 (by omega) mnum (fun v6_28 this_aside_28 => (f_X12_move_152 N (Int32.ofNat o) (Int32.ofNat k) (Int32.ofNat n) this_aside_28 (fun v6_32 this_number_32 => (some (Int32.ofNat n, this_aside_28, me, this_number_32))) N (0 : Int32) mnum)) n N 0 aside (by omega) (by omega)
  obtain ⟨mnum', k1, k2, k3⟩ := p12_move152 (N := N) (j := o) (i := k) (c := n) ho4 (by omega) aside' (fun v6_32 this_number_32 => (some (Int32.ofNat n, aside', me, this_number_32))) n N 0 mnum (by omega) (by omega)
  refine ⟨_, _, _, aside', me, mnum', rfl, g1.trans k1, hE, hH.1, fun j' i' hj' hi' => ?_⟩
  by_cases eo : j' = o
  · subst eo
    rw [up_at, va_cpy]
    by_cases e9 : k ≤ i' ∧ i' < k + n
    · rw [if_pos e9, show 24 * j' + i' = 24 * j' + k + (i' - k) by omega, k2 _ (by omega) (by omega), g2 _ (by omega) (by omega), hH.2 j _ hj4 (by omega)]
      congr 1; omega
    · rw [if_neg e9, k3 _ (by omega)]; exact hH.2 _ _ hj' hi'
  · rw [up_ne _ _ eo, k3 _ (by omega)]; exact hH.2 _ _ hj' hi'
end PMORE
