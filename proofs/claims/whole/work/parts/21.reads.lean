/-! PURE: rows of eight -/
section PROW
def dot (r p : Nat → Int32) : Int32 := 0 + r 0 * p 0 + r 1 * p 1 + r 2 * p 2 + r 3 * p 3 + r 4 * p 4 + r 5 * p 5 + r 6 * p 6 + r 7 * p 7
def sm8 (r : Nat → Int32) : Int32 := 0 + r 0 + r 1 + r 2 + r 3 + r 4 + r 5 + r 6 + r 7
theorem v8_0 : vin (0 : Int32) 8 = true := by decide +kernel
theorem v8_1 : vin (1 : Int32) 8 = true := by decide +kernel
theorem v8_2 : vin (2 : Int32) 8 = true := by decide +kernel
theorem v8_3 : vin (3 : Int32) 8 = true := by decide +kernel
theorem v8_4 : vin (4 : Int32) 8 = true := by decide +kernel
theorem v8_5 : vin (5 : Int32) 8 = true := by decide +kernel
theorem v8_6 : vin (6 : Int32) 8 = true := by decide +kernel
theorem v8_7 : vin (7 : Int32) 8 = true := by decide +kernel
theorem p0_sumBy {N : Nat} (h : 9 ≤ N) (p r : Nat → Int32) : f_X0_sumBy N p r = some (dot r p) := by
  obtain ⟨M, rfl⟩ := N_of N h
  simp [f_X0_sumBy, f_X0_sumBy_4, dot, v8_0, v8_1, v8_2, v8_3, v8_4, v8_5, v8_6, v8_7]
theorem p0_add {N : Nat} (h : 9 ≤ N) (p r : Nat → Int32) (a b : Int32) : f_X0_add N p a b r = some (sm8 r, dot r p) := by
  have hs := p0_sumBy h p r
  obtain ⟨M, rfl⟩ := N_of N h
  simp [f_X0_add, f_X0_add_7, hs, sm8, v8_0, v8_1, v8_2, v8_3, v8_4, v8_5, v8_6, v8_7]
theorem p12_many {N : Nat} (h : 9 ≤ N) (r : Nat → Int32) : f_X12_many N r = some (sm8 r) := by
  obtain ⟨M, rfl⟩ := N_of N h
  simp [f_X12_many, f_X12_many_4, sm8, v8_0, v8_1, v8_2, v8_3, v8_4, v8_5, v8_6, v8_7]
theorem p12_sumOf {N : Nat} (h : 9 ≤ N) (r s : Nat → Int32) : f_X12_sumOf N r s = some (dot r (fun t => s (8 + t))) := by
  obtain ⟨M, rfl⟩ := N_of N h
  simp (disch := omega) [f_X12_sumOf, f_X12_sumOf_4, dot, v8_0, v8_1, v8_2, v8_3, v8_4, v8_5, v8_6, v8_7, lit_vin]
theorem p12_costOf {N : Nat} (h : 9 ≤ N) (r s : Nat → Int32) : f_X12_costOf N r s = some (dot r (fun t => s (16 + t))) := by
  obtain ⟨M, rfl⟩ := N_of N h
  simp (disch := omega) [f_X12_costOf, f_X12_costOf_4, dot, v8_0, v8_1, v8_2, v8_3, v8_4, v8_5, v8_6, v8_7, lit_vin]
theorem dot_congr {r r' p p' : Nat → Int32} (hr : ∀ t, t < 8 → r t = r' t) (hp : ∀ t, t < 8 → p t = p' t) : dot r p = dot r' p' := by
  unfold dot
  rw [hr 0 (by omega), hr 1 (by omega), hr 2 (by omega), hr 3 (by omega), hr 4 (by omega), hr 5 (by omega), hr 6 (by omega), hr 7 (by omega), hp 0 (by omega), hp 1 (by omega), hp 2 (by omega), hp 3 (by omega), hp 4 (by omega), hp 5 (by omega), hp 6 (by omega), hp 7 (by omega)]
theorem sm8_congr {r r' : Nat → Int32} (hr : ∀ t, t < 8 → r t = r' t) : sm8 r = sm8 r' := by
  unfold sm8
  rw [hr 0 (by omega), hr 1 (by omega), hr 2 (by omega), hr 3 (by omega), hr 4 (by omega), hr 5 (by omega), hr 6 (by omega), hr 7 (by omega)]
theorem p0_clear {N : Nat} (h : 9 ≤ N) (a b : Int32) (r : Nat → Int32) : ∃ r', f_X0_clear N a b r = some (0, 0, r') ∧ ∀ t, t < 8 → r' t = 0 := by
  obtain ⟨M, rfl⟩ := N_of N h
  refine ⟨_, by simp [f_X0_clear, f_X0_clear_2, v8_0, v8_1, v8_2, v8_3, v8_4, v8_5, v8_6, v8_7]; rfl, fun t ht => ?_⟩
  simp only [upd]
  have : t = 0 ∨ t = 1 ∨ t = 2 ∨ t = 3 ∨ t = 4 ∨ t = 5 ∨ t = 6 ∨ t = 7 := by omega
  rcases this with rfl | rfl | rfl | rfl | rfl | rfl | rfl | rfl <;> simp
/-! a row of small numbers -/
/-- l: the numbers of a row, as naturals -/
def nS (l : Nat → Nat) : Nat := l 0 + l 1 + l 2 + l 3 + l 4 + l 5 + l 6 + l 7
def IsRow (r : Nat → Int32) (l : Nat → Nat) : Prop := ∀ t, t < 8 → r t = Int32.ofNat (l t)
theorem IsRow.sm {r : Nat → Int32} {l : Nat → Nat} (h : IsRow r l) : sm8 r = Int32.ofNat (nS l) := by
  unfold sm8 nS
  rw [h 0 (by omega), h 1 (by omega), h 2 (by omega), h 3 (by omega), h 4 (by omega), h 5 (by omega), h 6 (by omega), h 7 (by omega)]
  simp only [on_add, Int32.zero_add]
/-- the row that a sheet tells, number t -/
def rv (size : Int32) (num : Nat → Int32) (b t : Nat) : Int32 := if size ≤ Int32.ofNat t then 0 else num (24 * b + t)
def okF (v : Int32) : Prop := 0 ≤ v ∧ v ≤ 9
theorem p11_reads6 {N : Nat} {j : Nat} (hj : j < 4) (a b : Int32) (lens : Nat → Int32) (nums : Nat → Nat → Int32) (f : Nat → Int32) (hf : ∀ t, t < 8 → f t = if lens j ≤ Int32.ofNat t then 0 else nums j t) (hmono : ∀ t t', t ≤ t' → t' < 8 → lens j ≤ Int32.ofNat t → lens j ≤ Int32.ofNat t') (K : Int32 → (Nat → Int32) → Option (Int32 × Int32 × Int32 × (Nat → Int32))) :
    ∀ (d n y : Nat) (row : Nat → Int32), y + d = 8 → d < n → (∀ t, t < y → row t = f t ∧ okF (f t)) → (∀ t, y ≤ t → t < 8 → row t = 0) →
      ((∀ t, t < 8 → okF (f t)) ∧ ∃ y' row', f_X11_reads_6 N (Int32.ofNat j) a b lens nums K n (Int32.ofNat y) row = K y' row' ∧ ∀ t, t < 8 → row' t = f t) ∨ (¬ (∀ t, t < 8 → okF (f t)) ∧ ∃ row', f_X11_reads_6 N (Int32.ofNat j) a b lens nums K n (Int32.ofNat y) row = some (0, a, b, row')) := by
  intro d
  induction d with
  | zero =>
    intro n y row hy hn h1 h2
    obtain ⟨n, rfl⟩ : ∃ m, n = m + 1 := ⟨n - 1, by omega⟩
    left
    refine ⟨fun t ht => (h1 t (by omega)).2, Int32.ofNat y, row, ?_, fun t ht => (h1 t (by omega)).1⟩
    rw [f_X11_reads_6]
    simp (disch := omega) only [lit_le]
    rw [if_pos (by omega)]
  | succ d ih =>
    intro n y row hy hn h1 h2
    obtain ⟨n, rfl⟩ : ∃ m, n = m + 1 := ⟨n - 1, by omega⟩
    rw [f_X11_reads_6]
    simp (disch := omega) only [lit_le, on_vin, on_tn, if_true]
    rw [if_neg (by omega)]
    by_cases hs : lens j ≤ Int32.ofNat y
    · left
      have h3 : ∀ t, y ≤ t → t < 8 → f t = 0 := fun t hy ht => by rw [hf t ht, if_pos (hmono y t hy ht hs)]
      refine ⟨fun t ht => ?_, Int32.ofNat y, row, by rw [if_pos hs], fun t ht => ?_⟩
      · by_cases hty : t < y
        · exact (h1 t hty).2
        · rw [h3 t (by omega) ht]; exact ⟨by decide, by decide⟩
      · by_cases hty : t < y
        · exact (h1 t hty).1
        · rw [h3 t (by omega) ht]; exact h2 t (by omega) ht
    · rw [if_neg hs]
      have hfy : f y = nums j y := by rw [hf y (by omega), if_neg hs]
      simp only [p11_within, Option.bind_some, bi_0]
      by_cases hok : (0 ≤ nums j y ∧ nums j y ≤ 9)
      · rw [if_neg (by simpa using hok)]
        rw [show Int32.ofNat y + 1 = Int32.ofNat (y + 1) from add_lit 1 y]
        refine ih n (y + 1) _ (by omega) (by omega) (fun t ht => ?_) (fun t h3 ht => ?_)
        · by_cases hty : t = y
          · subst hty
            rw [upd_at, hfy]; exact ⟨rfl, hok⟩
          · rw [upd_ne _ _ hty]; exact h1 t (by omega)
        · rw [upd_ne _ _ (by omega)]; exact h2 t (by omega) ht
      · right
        rw [if_pos hok]
        exact ⟨fun h => hok (by have := h y (by omega); rwa [hfy] at this), row, rfl⟩
theorem p12_tells14 {N : Nat} {j : Nat} (hj : j < 4) (num sizes : Nat → Int32) (f : Nat → Int32) (hf : ∀ t, t < 8 → f t = if sizes j ≤ Int32.ofNat t then 0 else num (24 * j + t)) (K : Int32 → (Nat → Int32) → Option (Int32 × (Nat → Int32))) :
    ∀ (d n y : Nat) (row : Nat → Int32), y + d = 8 → d < n → (∀ t, t < y → row t = f t) →
      ∃ row', f_X12_tells_14 N (Int32.ofNat j) num sizes K n (Int32.ofNat y) row = K 8 row' ∧ ∀ t, t < 8 → row' t = f t := by
  intro d
  induction d with
  | zero =>
    intro n y row hy hn h1
    obtain ⟨n, rfl⟩ : ∃ m, n = m + 1 := ⟨n - 1, by omega⟩
    have hy8 : y = 8 := by omega
    subst hy8
    exact ⟨row, by rw [f_X12_tells_14]; rw [if_pos (by decide)]; rfl, h1⟩
  | succ d ih =>
    intro n y row hy hn h1
    obtain ⟨n, rfl⟩ : ∃ m, n = m + 1 := ⟨n - 1, by omega⟩
    rw [f_X12_tells_14]
    simp (disch := omega) only [lit_le, on_vin, on_tn, if_true, lit_mul, on_add, add_lit]
    rw [if_neg (by omega)]
    have hfy := hf y (by omega)
    by_cases hs : sizes j ≤ Int32.ofNat y
    · rw [if_pos hs]
      refine ih n (y + 1) _ (by omega) (by omega) (fun t ht => ?_)
      by_cases hty : t = y
      · subst hty; rw [upd_at, hfy, if_pos hs]
      · rw [upd_ne _ _ hty]; exact h1 t (by omega)
    · rw [if_neg hs]
      refine ih n (y + 1) _ (by omega) (by omega) (fun t ht => ?_)
      by_cases hty : t = y
      · subst hty; rw [upd_at, hfy, if_neg hs]
      · rw [upd_ne _ _ hty]; exact h1 t (by omega)
theorem p12_tells61 {N : Nat} (f : Nat → Int32) (K : Int32 → Option (Int32 × (Nat → Int32))) :
    ∀ (d n y : Nat), y + d = 8 → d < n → (∀ t, t < y → okF (f t)) →
      ((∀ t, t < 8 → okF (f t)) ∧ f_X12_tells_61 N f K n (Int32.ofNat y) = K 8) ∨ (¬ (∀ t, t < 8 → okF (f t)) ∧ f_X12_tells_61 N f K n (Int32.ofNat y) = some (1, f)) := by
  intro d
  induction d with
  | zero =>
    intro n y hy hn h1
    obtain ⟨n, rfl⟩ : ∃ m, n = m + 1 := ⟨n - 1, by omega⟩
    have hy8 : y = 8 := by omega
    subst hy8
    exact Or.inl ⟨h1, by rw [f_X12_tells_61]; rw [if_pos (by decide)]; rfl⟩
  | succ d ih =>
    intro n y hy hn h1
    obtain ⟨n, rfl⟩ : ∃ m, n = m + 1 := ⟨n - 1, by omega⟩
    rw [f_X12_tells_61]
    simp (disch := omega) only [lit_le, on_vin, on_tn, if_true, p12_in, Option.bind_some, bi_0, add_lit]
    rw [if_neg (by omega)]
    by_cases hok : (0 ≤ f y ∧ f y ≤ 9)
    · rw [if_neg (by simpa using hok)]
      exact ih n (y + 1) (by omega) (by omega) (fun t ht => by
        by_cases hty : t = y
        · subst hty; exact hok
        · exact h1 t (by omega))
    · right
      rw [if_pos hok]
      exact ⟨fun h => hok (h y (by omega)), rfl⟩
end PROW
