/-! PURE: figures -/
section PFIG
def dsN : Nat → Nat → Nat → Nat
  | 0, _, _ => 0
  | f + 1, b, n => n % b + dsN f b (n / b)
def rtN : Nat → Nat → Nat → Nat
  | 0, _, n => n
  | f + 1, b, n => if n < b then n else rtN f b (dsN 32 b n)
theorem dsN_zero : ∀ (f b : Nat), dsN f b 0 = 0
  | 0, b => rfl
  | f + 1, b => by simp [dsN, dsN_zero f b]
theorem dsN_bound (b : Nat) (hb : 2 ≤ b) : ∀ (k f n : Nat), n < b ^ k → dsN f b n ≤ (b - 1) * k := by
  intro k
  induction k with
  | zero =>
    intro f n h
    have : n = 0 := by simpa using h
    subst this
    rw [dsN_zero]; omega
  | succ k ih =>
    intro f n h
    cases f with
    | zero => simp [dsN]
    | succ f =>
      rw [dsN]
      have h1 : n / b < b ^ k := by
        rw [Nat.div_lt_iff_lt_mul (by omega)]
        rwa [Nat.pow_succ] at h
      have h2 := ih f (n / b) h1
      have h3 : n % b < b := Nat.mod_lt _ (by omega)
      rw [Nat.mul_succ]
      omega
theorem dsN_le (f b : Nat) (hb : 2 ≤ b) (n : Nat) : dsN f b n ≤ n := by
  induction f generalizing n with
  | zero => simp [dsN]
  | succ f ih =>
    rw [dsN]
    have h1 := ih (n / b)
    have h2 := Nat.div_add_mod n b
    have h3 : n / b ≤ b * (n / b) := Nat.le_mul_of_pos_left _ (by omega)
    omega
theorem p11_figureSum14 {N b : Nat} (hb : 2 ≤ b) (hb2 : b < 2147483648) : ∀ (d n i a v : Nat), i + d = 32 → d < n → v < 2 ^ d → v < 2147483648 → f_X11_figureSum_14 N (Int32.ofNat b) (fun v2_6 v3_6 v4_6 => (some v2_6)) n (Int32.ofNat a) (Int32.ofNat v) (Int32.ofNat i) = some (Int32.ofNat (a + dsN d b v)) := by
  intro d
  induction d with
  | zero =>
    intro n i a v hi hn hv hv2
    obtain ⟨n, rfl⟩ : ∃ m, n = m + 1 := ⟨n - 1, by omega⟩
    rw [f_X11_figureSum_14]
    simp (disch := omega) only [lit_le]
    rw [if_pos (by omega)]
    simp [dsN]
  | succ d ih =>
    intro n i a v hi hn hv hv2
    obtain ⟨n, rfl⟩ : ∃ m, n = m + 1 := ⟨n - 1, by omega⟩
    rw [f_X11_figureSum_14]
    rw [on_rem hv2 hb2]
    simp (disch := omega) only [lit_le, le_lit, eq_lit, on_div, on_add, add_lit]
    rw [if_neg (by omega)]
    by_cases h0 : v ≤ 0
    · have : v = 0 := by omega
      subst this
      rw [if_pos h0, dsN_zero]; rfl
    · rw [if_neg h0, if_pos (by omega), if_pos (by omega)]
      have h1 : v / b < 2 ^ d := by
        rw [Nat.div_lt_iff_lt_mul (by omega)]
        rw [Nat.pow_succ] at hv
        exact Nat.lt_of_lt_of_le hv (Nat.mul_le_mul_left _ hb)
      have h2 : v / b ≤ v := Nat.div_le_self v b
      rw [ih n (i + 1) _ _ (by omega) (by omega) h1 (by omega), dsN, Nat.add_assoc]
theorem p11_figureSum {N b v : Nat} (hN : 33 ≤ N) (hb : 2 ≤ b) (hb2 : b < 2147483648) (hv : v < 2147483648) : f_X11_figureSum N (Int32.ofNat v) (Int32.ofNat b) = some (Int32.ofNat (dsN 32 b v)) := by
  unfold f_X11_figureSum
  simp (disch := omega) only [lit_le]
  rw [if_pos hb]
  have := p11_figureSum14 (N := N) hb hb2 32 N 0 0 v (by omega) (by omega) (by omega) hv
  rw [Nat.zero_add] at this
  exact this
theorem p12_added4 {N b : Nat} (hb : 2 ≤ b) (hb2 : b < 2147483648) : ∀ (d n a v : Nat), d < n → v < 2 ^ d → v < 2147483648 → f_X12_added_4 N (Int32.ofNat b) (fun v2_4 v3_4 => (some v2_4)) n (Int32.ofNat a) (Int32.ofNat v) = some (Int32.ofNat (a + dsN d b v)) := by
  intro d
  induction d with
  | zero =>
    intro n a v hn hv hv2
    obtain ⟨n, rfl⟩ : ∃ m, n = m + 1 := ⟨n - 1, by omega⟩
    rw [f_X12_added_4]
    simp (disch := omega) only [le_lit]
    rw [if_pos (by omega)]
    simp [dsN]
  | succ d ih =>
    intro n a v hn hv hv2
    obtain ⟨n, rfl⟩ : ∃ m, n = m + 1 := ⟨n - 1, by omega⟩
    rw [f_X12_added_4]
    rw [on_rem hv2 hb2]
    simp (disch := omega) only [le_lit, eq_lit, on_div, on_add]
    by_cases h0 : v ≤ 0
    · have : v = 0 := by omega
      subst this
      rw [if_pos h0, dsN_zero]; rfl
    · rw [if_neg h0, if_pos (by omega), if_pos (by omega)]
      have h1 : v / b < 2 ^ d := by
        rw [Nat.div_lt_iff_lt_mul (by omega)]
        rw [Nat.pow_succ] at hv
        exact Nat.lt_of_lt_of_le hv (Nat.mul_le_mul_left _ hb)
      have h2 : v / b ≤ v := Nat.div_le_self v b
      rw [ih n _ _ (by omega) h1 (by omega), dsN, Nat.add_assoc]
theorem p12_added {N b v : Nat} (hN : 33 ≤ N) (hb : 2 ≤ b) (hb2 : b < 2147483648) (hv : v < 2147483648) : f_X12_added N (Int32.ofNat v) (Int32.ofNat b) = some (Int32.ofNat (dsN 32 b v)) := by
  unfold f_X12_added
  have := p12_added4 (N := N) hb hb2 32 N 0 v (by omega) (by omega) hv
  rw [Nat.zero_add] at this
  exact this
theorem rtN_lt {b : Nat} : ∀ (k n : Nat), rtN k b n < b → ∀ j, rtN (k + j) b n = rtN k b n := by
  intro k
  induction k with
  | zero =>
    intro n h j
    cases j with
    | zero => rfl
    | succ j =>
      have h' : n < b := h
      rw [Nat.zero_add]; show (if n < b then n else _) = _; rw [if_pos h']; rfl
  | succ k ih =>
    intro n h j
    rw [show k + 1 + j = (k + j) + 1 from by omega]
    rw [rtN, rtN]
    rw [rtN] at h
    by_cases hn : n < b
    · rw [if_pos hn, if_pos hn]
    · rw [if_neg hn, if_neg hn]
      rw [if_neg hn] at h
      exact ih _ h j
theorem rtN_small : ∀ b : Fin 12, 2 ≤ b.val → ∀ n : Fin 64, rtN 8 b.val n.val < b.val := by decide +kernel
theorem dsN_small {b n : Nat} (h2 : 2 ≤ b) (h11 : b ≤ 11) (hn : n < 1000000) : dsN 32 b n < 64 := by
  have hx : ∀ k, n < b ^ k → (b - 1) * k < 64 → dsN 32 b n < 64 := fun k h1 h3 => Nat.lt_of_le_of_lt (dsN_bound b h2 k 32 n h1) h3
  have : b = 2 ∨ b = 3 ∨ b = 4 ∨ b = 5 ∨ b = 6 ∨ b = 7 ∨ b = 8 ∨ b = 9 ∨ b = 10 ∨ b = 11 := by omega
  rcases this with rfl | rfl | rfl | rfl | rfl | rfl | rfl | rfl | rfl | rfl
  · exact hx 20 (by omega) (by omega)
  · exact hx 13 (by omega) (by omega)
  · exact hx 10 (by omega) (by omega)
  · exact hx 9 (by omega) (by omega)
  · exact hx 8 (by omega) (by omega)
  · exact hx 8 (by omega) (by omega)
  · exact hx 7 (by omega) (by omega)
  · exact hx 7 (by omega) (by omega)
  · exact hx 6 (by omega) (by omega)
  · exact hx 6 (by omega) (by omega)
theorem p11_oneFigure4 {N b : Nat} (hN : 33 ≤ N) (hb : 2 ≤ b) (hb2 : b < 2147483648) : ∀ (d n i v : Nat), i + d = 32 → d < n → v < 2147483648 → f_X11_oneFigure_4 N (Int32.ofNat b) (fun v2_4 v3_4 => (some v2_4)) n (Int32.ofNat v) (Int32.ofNat i) = some (Int32.ofNat (rtN d b v)) := by
  intro d
  induction d with
  | zero =>
    intro n i v hi hn hv2
    obtain ⟨n, rfl⟩ : ∃ m, n = m + 1 := ⟨n - 1, by omega⟩
    rw [f_X11_oneFigure_4]
    simp (disch := omega) only [lit_le]
    rw [if_pos (by omega)]
    rfl
  | succ d ih =>
    intro n i v hi hn hv2
    obtain ⟨n, rfl⟩ : ∃ m, n = m + 1 := ⟨n - 1, by omega⟩
    rw [f_X11_oneFigure_4, p11_figureSum hN hb hb2 hv2]
    simp (disch := omega) only [lit_le, on_lt, add_lit, Option.bind_some]
    rw [if_neg (by omega)]
    have h4 := dsN_le 32 b hb v
    by_cases h0 : v < b
    · rw [if_pos h0, rtN, if_pos h0]
    · rw [if_neg h0, rtN, if_neg h0]
      exact ih n (i + 1) _ (by omega) (by omega) (by omega)
theorem p11_oneFigure {N b v : Nat} (hN : 33 ≤ N) (hb : 2 ≤ b) (hb2 : b < 2147483648) (hv : v < 2147483648) : f_X11_oneFigure N (Int32.ofNat v) (Int32.ofNat b) = some (Int32.ofNat (rtN 32 b v)) := by
  unfold f_X11_oneFigure
  exact p11_oneFigure4 hN hb hb2 32 N 0 v (by omega) (by omega) hv
theorem p12_rooted6 {N b : Nat} (hN : 33 ≤ N) (hb : 2 ≤ b) (hb2 : b < 2147483648) : ∀ (k n v : Nat), k < n → v < 2147483648 → rtN k b v < b → f_X12_rooted_6 N (Int32.ofNat b) (fun v2_4 => (some v2_4)) n (Int32.ofNat v) = some (Int32.ofNat (rtN k b v)) := by
  intro k
  induction k with
  | zero =>
    intro n v hn hv2 h
    obtain ⟨n, rfl⟩ : ∃ m, n = m + 1 := ⟨n - 1, by omega⟩
    rw [f_X12_rooted_6]
    simp (disch := omega) only [on_lt]
    have h' : v < b := h
    rw [if_pos h']
    rfl
  | succ k ih =>
    intro n v hn hv2 h
    obtain ⟨n, rfl⟩ : ∃ m, n = m + 1 := ⟨n - 1, by omega⟩
    rw [f_X12_rooted_6, p12_added hN hb hb2 hv2]
    simp (disch := omega) only [on_lt, Option.bind_some]
    rw [rtN] at h ⊢
    have h4 := dsN_le 32 b hb v
    by_cases h0 : v < b
    · rw [if_pos h0, if_pos h0]
    · rw [if_neg h0, if_neg h0]
      rw [if_neg h0] at h
      exact ih n _ (by omega) (by omega) h
theorem p12_rooted {N b v : Nat} (hN : 33 ≤ N) (hb : 2 ≤ b) (hb2 : b ≤ 11) (hv : v < 1000000) : f_X12_rooted N (Int32.ofNat v) (Int32.ofNat b) = some (Int32.ofNat (rtN 32 b v)) := by
  unfold f_X12_rooted
  rw [p12_added hN hb (by omega) (by omega), Option.bind_some]
  have h1 := dsN_small hb hb2 hv
  have h2 : rtN 8 b (dsN 32 b v) < b := rtN_small ⟨b, by omega⟩ hb ⟨dsN 32 b v, h1⟩
  rw [p12_rooted6 hN hb (by omega) 8 N _ (by omega) (by omega) h2]
  have e : rtN 32 b v = if v < b then v else rtN 31 b (dsN 32 b v) := rfl
  rw [e]
  by_cases h0 : v < b
  · rw [if_pos h0]
    have h3 : dsN 32 b v = v := by
      rw [show dsN 32 b v = v % b + dsN 31 b (v / b) from rfl, Nat.mod_eq_of_lt h0, Nat.div_eq_of_lt h0, dsN_zero, Nat.add_zero]
    rw [h3]
    have h5 : rtN 0 b v < b := h0
    have := rtN_lt 0 v h5 8
    rw [Nat.zero_add] at this
    rw [this]
    rfl
  · rw [if_neg h0]
    rw [← rtN_lt 8 _ h2 23]
/-! what is asked, held -/
def hd (v : Int32) (m : Int32) : Int32 := if v < 0 then 0 else if m < v then m else v
theorem p11_held (N : Nat) {v m : Int32} (hm : 0 ≤ m) : f_X11_held N v m = some (hd v m) := by
  unfold f_X11_held hd
  congr 1
  by_cases h1 : m < v
  · have h2 : ¬ v < 0 := fun h => absurd (Int32.lt_trans h1 h) (Int32.not_lt.mpr hm)
    rw [if_pos h1, if_neg h2]
    split
    · rfl
    · next h => exact Int32.le_antisymm hm (Int32.not_lt.mp h)
  · rw [if_neg h1]
    by_cases h2 : v < 0
    · rw [if_pos h2, if_neg (Int32.not_lt.mpr (Int32.le_of_lt h2))]
    · rw [if_neg h2]
      split
      · rfl
      · next h => exact Int32.le_antisymm (Int32.not_lt.mp h2) (Int32.not_lt.mp h) |>.symm ▸ rfl
theorem p12_held (N : Nat) (v m : Int32) : f_X12_held N v 0 m = some (hd v m) := by
  unfold f_X12_held hd
  by_cases h1 : 0 ≤ v
  · have h2 : ¬ v < 0 := Int32.not_lt.mpr h1
    rw [if_pos h1, if_neg h2]
    by_cases h3 : v ≤ m
    · rw [if_pos h3, if_neg (Int32.not_lt.mpr h3)]
    · rw [if_neg h3, if_pos (Int32.not_le.mp h3)]
  · rw [if_neg h1, if_pos (Int32.not_le.mp h1)]
end PFIG
