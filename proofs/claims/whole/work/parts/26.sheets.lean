/-! PURE: sheets, tills, counts -/
section PSHEET
theorem p11_isMissing (N : Nat) {j : Nat} (hj : j < 4) (bits : Nat → Int32) : f_X11_isMissing N (Int32.ofNat j) bits = some (bi (bits j = 0)) := by
  unfold f_X11_isMissing bi
  simp (disch := omega) only [on_vin, on_tn, if_true]
  by_cases h : bits j = 0
  · rw [if_pos h, if_pos h]
  · rw [if_neg h, if_neg h]
theorem p11_sheet90 {N j : Nat} (hj : j < 4) (K : Int32 → (Nat → Nat → Int32) → Option (Int32 × (Nat → Int32) × (Nat → Int32) × (Nat → Int32) × (Nat → Nat → Int32))) : ∀ (d n y : Nat) (nums : Nat → Nat → Int32), y + d = 24 → d < n → ∃ nums', f_X11_sheet_90 N (Int32.ofNat j) K n (Int32.ofNat y) nums = K 24 nums' ∧ (∀ i, y ≤ i → i < 24 → nums' j i = 0) ∧ (∀ i, i < y → nums' j i = nums j i) ∧ ∀ k, k ≠ j → nums' k = nums k := by
  intro d
  induction d with
  | zero =>
    intro n y nums hy hn
    obtain ⟨n, rfl⟩ : ∃ m, n = m + 1 := ⟨n - 1, by omega⟩
    have : y = 24 := by omega
    subst this
    exact ⟨nums, by rw [f_X11_sheet_90, if_pos (by decide)]; rfl, fun i h1 h2 => by omega, fun _ _ => rfl, fun _ _ => rfl⟩
  | succ d ih =>
    intro n y nums hy hn
    obtain ⟨n, rfl⟩ : ∃ m, n = m + 1 := ⟨n - 1, by omega⟩
    rw [f_X11_sheet_90]
    simp (disch := omega) only [lit_le, on_vin, on_tn, if_true, add_lit]
    rw [if_neg (by omega)]
    obtain ⟨nums', h1, h2, h3, h4⟩ := ih n (y + 1) (va_up nums j (upd (nums j) y 0)) (by omega) (by omega)
    refine ⟨nums', h1, fun i h5 h6 => ?_, fun i h5 => ?_, fun k h5 => ?_⟩
    · by_cases e : i = y
      · subst e; rw [h3 i (by omega), up_at, upd_at]
      · exact h2 i (by omega) h6
    · rw [h3 i (by omega), up_at, upd_ne _ _ (by omega)]
    · rw [h4 k h5, up_ne _ _ h5]
theorem p12_sheet90 {N j : Nat} (hj : j < 4) (K : Int32 → (Nat → Int32) → Option (Int32 × (Nat → Int32) × (Nat → Int32) × (Nat → Int32) × (Nat → Int32))) : ∀ (d n y : Nat) (num : Nat → Int32), y + d = 24 → d < n → ∃ num', f_X12_sheet_90 N (Int32.ofNat j) K n (Int32.ofNat y) num = K 24 num' ∧ (∀ i, y ≤ i → i < 24 → num' (24 * j + i) = 0) ∧ ∀ k, k < 24 * j + y ∨ 24 * j + 24 ≤ k → num' k = num k := by
  intro d
  induction d with
  | zero =>
    intro n y num hy hn
    obtain ⟨n, rfl⟩ : ∃ m, n = m + 1 := ⟨n - 1, by omega⟩
    have : y = 24 := by omega
    subst this
    exact ⟨num, by rw [f_X12_sheet_90, if_pos (by decide)]; rfl, fun i h1 h2 => by omega, fun _ _ => rfl⟩
  | succ d ih =>
    intro n y num hy hn
    obtain ⟨n, rfl⟩ : ∃ m, n = m + 1 := ⟨n - 1, by omega⟩
    rw [f_X12_sheet_90]
    simp (disch := omega) only [lit_le, lit_mul, on_add, on_vin, on_tn, if_true, add_lit]
    rw [if_neg (by omega)]
    obtain ⟨num', h1, h2, h3⟩ := ih n (y + 1) (upd num (24 * j + y) 0) (by omega) (by omega)
    refine ⟨num', h1, fun i h5 h6 => ?_, fun k h5 => ?_⟩
    · by_cases e : i = y
      · subst e; rw [h3 _ (by omega), upd_at]
      · exact h2 i (by omega) h6
    · rw [h3 k (by omega), upd_ne _ _ (by omega)]
theorem pm_sheet86 {N : Nat} (hN : 100 ≤ N) {j q : Nat} (hj : j < 4) (hq : q ≤ 24) {b : Int32} (hb : b = 0 ∨ b = 8 ∨ b = 16 ∨ b = 32) {ce me bits lens mbits msizes mnum : Nat → Int32} {nums : Nat → Nat → Int32} (hH : HR bits lens nums mbits msizes mnum) :
    ∃ nums' mnum', f_X11_sheet_j86 N (Int32.ofNat j) (Int32.ofNat j) (Int32.ofNat q) ce (upd bits j b) lens nums = some (1, ce, upd bits j b, upd lens j (Int32.ofNat q), nums') ∧ f_X12_sheet_j86 N (Int32.ofNat j) (Int32.ofNat j) (Int32.ofNat q) (upd mbits j b) me mnum msizes = some (1, upd mbits j b, me, mnum', upd msizes j (Int32.ofNat q)) ∧ HR (upd bits j b) (upd lens j (Int32.ofNat q)) nums' (upd mbits j b) (upd msizes j (Int32.ofNat q)) mnum' := by
  unfold f_X11_sheet_j86 f_X12_sheet_j86
  simp (disch := omega) only [on_vin, on_tn, if_true]
  obtain ⟨nums', h1, h2, h3, h4⟩ := p11_sheet90 (N := N) hj (fun v4_7 this_sheetNumbers_7 => (some ((1 : Int32), ce, (upd bits j b), (upd lens j (Int32.ofNat q)), this_sheetNumbers_7))) 24 N 0 nums (by omega) (by omega)
  obtain ⟨mnum', k1, k2, k3⟩ := p12_sheet90 (N := N) hj (fun v4_4 this_number_4 => (some ((1 : Int32), (upd mbits j b), me, this_number_4, (upd msizes j (Int32.ofNat q))))) 24 N 0 mnum (by omega) (by omega)
  refine ⟨nums', mnum', h1, k1, fun k hk => ?_, fun k i hk hi => ?_⟩
  · by_cases e : k = j
    · subst e
      rw [upd_at, upd_at, upd_at, upd_at]
      exact ⟨rfl, rfl, hb, on_nn (by omega), by rw [le_lit (by omega) (by omega)]; exact hq⟩
    · rw [upd_ne _ _ e, upd_ne _ _ e, upd_ne _ _ e, upd_ne _ _ e]
      exact hH.1 k hk
  · by_cases e : k = j
    · subst e
      rw [h2 i (by omega) hi, k2 i (by omega) hi]
    · rw [h4 k e, k3 _ (by omega)]; exact hH.2 k i hk hi
theorem pm_sheet49 {N : Nat} (hN : 100 ≤ N) {j : Nat} (hj : j < 4) {b c : Int32} (hb : b = 0 ∨ b = 8 ∨ b = 16 ∨ b = 32) (hc : b ≠ 0 → 0 ≤ c) {ce me bits lens mbits msizes mnum : Nat → Int32} {nums : Nat → Nat → Int32} (hE : ER ce me) (hH : HR bits lens nums mbits msizes mnum) :
    ∃ v ce' bits' lens' nums' mbits' me' mnum' msizes', f_X11_sheet_j49 N (Int32.ofNat j) b c ce bits lens nums = some (v, ce', bits', lens', nums') ∧ f_X12_sheet_j49 N (Int32.ofNat j) b c mbits me mnum msizes = some (v, mbits', me', mnum', msizes') ∧ ER ce' me' ∧ HR bits' lens' nums' mbits' msizes' mnum' := by
  unfold f_X11_sheet_j49 f_X12_sheet_j49
  simp (disch := omega) only [on_vin, on_tn, if_true]
  by_cases h0 : b = 0
  · subst h0
    obtain ⟨nums', mnum', h1, h2, h3⟩ := pm_sheet86 (N := N) hN (q := 0) hj (by omega) (b := 0) (Or.inl rfl) (ce := ce) (me := me) hH
    simp only [if_true]
    exact ⟨_, _, _, _, _, _, _, _, _, h1, h2, hE, h3⟩
  · rw [if_neg h0, if_neg h0, if_neg h0, if_neg h0]
    by_cases h24 : c ≤ 24
    · obtain ⟨q, hq, rfl⟩ := nat_of (b := 24) (hc h0) h24 (by omega)
      rw [if_pos h24, if_pos h24]
      obtain ⟨nums', mnum', h1, h2, h3⟩ := pm_sheet86 (N := N) hN (q := q) hj (by omega) hb (ce := ce) (me := me) hH
      exact ⟨_, _, _, _, _, _, _, _, _, h1, h2, hE, h3⟩
    · rw [if_neg h24, if_neg h24, p11_error1, p12_error1]
      exact ⟨_, _, _, _, _, _, _, _, _, rfl, rfl, hE.up (by omega), hH⟩
theorem pm_sheet {N : Nat} (hN : 100 ≤ N) (a b c : Int32) {ce me bits lens mbits msizes mnum : Nat → Int32} {nums : Nat → Nat → Int32} (hE : ER ce me) (hH : HR bits lens nums mbits msizes mnum) :
    ∃ v ce' bits' lens' nums' mbits' me' mnum' msizes', f_X11_sheet N a b c ce bits lens nums = some (v, ce', bits', lens', nums') ∧ f_X12_sheet N a b c mbits me mnum msizes = some (v, mbits', me', mnum', msizes') ∧ ER ce' me' ∧ HR bits' lens' nums' mbits' msizes' mnum' := by
  unfold f_X11_sheet f_X12_sheet
  simp only [p11_isSheet, p12_isSheet, Option.bind_some, bi_0, p11_error1, p12_error1, p11_error3, p12_error3]
  by_cases h1 : 0 ≤ a ∧ a ≤ 3
  · rw [if_neg (not_not_intro h1), if_neg (not_not_intro h1)]
    obtain ⟨j, hj, rfl⟩ := in_nat (b := 3) h1 (by omega)
    by_cases h0 : b = 0
    · subst h0
      simp only [if_true]
      exact pm_sheet49 hN (by omega) (Or.inl rfl) (fun h => absurd rfl h) hE hH
    · by_cases hb : b = 8 ∨ b = 16 ∨ b = 32
      · by_cases hc : 0 ≤ c
        · have := pm_sheet49 (N := N) hN (j := j) (by omega) (b := b) (c := c) (Or.inr hb) (fun _ => hc) hE hH
          rcases hb with rfl | rfl | rfl <;> simpa only [if_true, h0, if_false, if_pos hc, if_neg (show ¬ (16 : Int32) = 8 by decide), if_neg (show ¬ (32 : Int32) = 8 by decide), if_neg (show ¬ (32 : Int32) = 16 by decide)] using this
        · refine ⟨eLow 3, upd ce 3 (ce 3 + 1), bits, lens, nums, mbits, upd me 3 (me 3 + 1), mnum, msizes, ?_, ?_, hE.up (by omega), hH⟩
          · rcases hb with rfl | rfl | rfl <;> simp [hc]
          · rcases hb with rfl | rfl | rfl <;> simp [hc]
      · have h8 : ¬ b = 8 := fun h => hb (Or.inl h)
        have h16 : ¬ b = 16 := fun h => hb (Or.inr (Or.inl h))
        have h32 : ¬ b = 32 := fun h => hb (Or.inr (Or.inr h))
        rw [if_neg h0, if_neg h8, if_neg h16, if_neg h32, if_neg h0, if_neg h8, if_neg h16, if_neg h32]
        exact ⟨_, _, _, _, _, _, _, _, _, rfl, rfl, hE.up (by omega), hH⟩
  · rw [if_pos h1, if_pos h1]
    exact ⟨_, _, _, _, _, _, _, _, _, rfl, rfl, hE.up (by omega), hH⟩
theorem HR.nat {bits lens mbits msizes mnum : Nat → Int32} {nums : Nat → Nat → Int32} (hH : HR bits lens nums mbits msizes mnum) {j : Nat} (hj : j < 4) : ∃ q, q ≤ 24 ∧ lens j = Int32.ofNat q ∧ msizes j = Int32.ofNat q ∧ bits j = mbits j := by
  obtain ⟨h1, h2, h3, h4⟩ := hH.1 j hj
  obtain ⟨q, hq, e⟩ := in_nat (b := 24) h4 (by omega)
  exact ⟨q, hq, by rw [h2, e], e, h1⟩
theorem HR.set {bits lens mbits msizes mnum : Nat → Int32} {nums : Nat → Nat → Int32} (hH : HR bits lens nums mbits msizes mnum) {j i : Nat} (hj : j < 4) (hi : i < 24) (x : Int32) : HR bits lens (va_up nums j (upd (nums j) i x)) mbits msizes (upd mnum (24 * j + i) x) := by
  refine ⟨hH.1, fun k l hk hl => ?_⟩
  by_cases e : k = j
  · subst e
    rw [up_at]
    by_cases e2 : l = i
    · subst e2; rw [upd_at, upd_at]
    · rw [upd_ne _ _ e2, upd_ne _ _ (by omega)]; exact hH.2 k l hk hl
  · rw [up_ne _ _ e, upd_ne _ _ (by omega)]; exact hH.2 k l hk hl
theorem low8 (v : Int32) : (v <<< (24 : Int32)) >>> (24 : Int32) = v.toInt8.toInt32 := by
  apply Int32.toBitVec_inj.mp
  simp
  ext i hi
  simp [BitVec.getElem_signExtend, BitVec.getElem_sshiftRight]
  by_cases h8 : i < 8
  · rw [dif_pos (by omega), if_pos h8, dif_pos hi]; simp
  · rw [dif_neg (by omega), if_neg h8]; simp [BitVec.msb_signExtend, BitVec.getMsbD_eq_getLsbD]
theorem low16 (v : Int32) : (v <<< (16 : Int32)) >>> (16 : Int32) = v.toInt16.toInt32 := by
  apply Int32.toBitVec_inj.mp
  simp
  ext i hi
  simp [BitVec.getElem_signExtend, BitVec.getElem_sshiftRight]
  by_cases h8 : i < 16
  · rw [dif_pos (by omega), if_pos h8, dif_pos hi]; simp
  · rw [dif_neg (by omega), if_neg h8]; simp [BitVec.msb_signExtend, BitVec.getMsbD_eq_getLsbD]
theorem h255a : ∀ k : Fin 32, 8 ≤ k.val → (255#32)[k.val]'(k.isLt) = false := by decide
theorem h255 (i : Nat) (hi : i < 32) (h8 : ¬ i < 8) : (255#32)[i] = false := h255a ⟨i, hi⟩ (by simpa using h8)
theorem bits8_0 (x : Int64) : ((jlushr x ((8 : Int32) * 0)).toInt32 &&& (255 : Int32)) = (((x >>> (((8 : Int32) * 0).toInt64 &&& (63 : Int64))) &&& (255 : Int64)).toInt32) := by
  apply Int32.toBitVec_inj.mp
  simp [jlushr]
theorem bits8_1 (x : Int64) : ((jlushr x ((8 : Int32) * 1)).toInt32 &&& (255 : Int32)) = (((x >>> (((8 : Int32) * 1).toInt64 &&& (63 : Int64))) &&& (255 : Int64)).toInt32) := by
  apply Int32.toBitVec_inj.mp
  simp [jlushr]
  ext i hi
  simp only [BitVec.getElem_and]
  by_cases h8 : i < 8
  · simp [BitVec.getElem_signExtend, BitVec.getElem_sshiftRight, show i < 64 by omega, show 8 + i < 64 by omega]
  · have : (255#32)[i] = false := h255 i hi h8
    rw [this, Bool.and_false, Bool.and_false]
theorem bits8_2 (x : Int64) : ((jlushr x ((8 : Int32) * 2)).toInt32 &&& (255 : Int32)) = (((x >>> (((8 : Int32) * 2).toInt64 &&& (63 : Int64))) &&& (255 : Int64)).toInt32) := by
  apply Int32.toBitVec_inj.mp
  simp [jlushr]
  ext i hi
  simp only [BitVec.getElem_and]
  by_cases h8 : i < 8
  · simp [BitVec.getElem_signExtend, BitVec.getElem_sshiftRight, show i < 64 by omega, show 16 + i < 64 by omega]
  · have : (255#32)[i] = false := h255 i hi h8
    rw [this, Bool.and_false, Bool.and_false]
theorem bits8_3 (x : Int64) : ((jlushr x ((8 : Int32) * 3)).toInt32 &&& (255 : Int32)) = (((x >>> (((8 : Int32) * 3).toInt64 &&& (63 : Int64))) &&& (255 : Int64)).toInt32) := by
  apply Int32.toBitVec_inj.mp
  simp [jlushr]
  ext i hi
  simp only [BitVec.getElem_and]
  by_cases h8 : i < 8
  · simp [BitVec.getElem_signExtend, BitVec.getElem_sshiftRight, show i < 64 by omega, show 24 + i < 64 by omega]
  · have : (255#32)[i] = false := h255 i hi h8
    rw [this, Bool.and_false, Bool.and_false]
theorem bits8_4 (x : Int64) : ((jlushr x ((8 : Int32) * 4)).toInt32 &&& (255 : Int32)) = (((x >>> (((8 : Int32) * 4).toInt64 &&& (63 : Int64))) &&& (255 : Int64)).toInt32) := by
  apply Int32.toBitVec_inj.mp
  simp [jlushr]
  ext i hi
  simp only [BitVec.getElem_and]
  by_cases h8 : i < 8
  · simp [BitVec.getElem_signExtend, BitVec.getElem_sshiftRight, show i < 64 by omega, show 32 + i < 64 by omega]
  · have : (255#32)[i] = false := h255 i hi h8
    rw [this, Bool.and_false, Bool.and_false]
theorem bits8_5 (x : Int64) : ((jlushr x ((8 : Int32) * 5)).toInt32 &&& (255 : Int32)) = (((x >>> (((8 : Int32) * 5).toInt64 &&& (63 : Int64))) &&& (255 : Int64)).toInt32) := by
  apply Int32.toBitVec_inj.mp
  simp [jlushr]
  ext i hi
  simp only [BitVec.getElem_and]
  by_cases h8 : i < 8
  · simp [BitVec.getElem_signExtend, BitVec.getElem_sshiftRight, show i < 64 by omega, show 40 + i < 64 by omega]
  · have : (255#32)[i] = false := h255 i hi h8
    rw [this, Bool.and_false, Bool.and_false]
theorem bits8_6 (x : Int64) : ((jlushr x ((8 : Int32) * 6)).toInt32 &&& (255 : Int32)) = (((x >>> (((8 : Int32) * 6).toInt64 &&& (63 : Int64))) &&& (255 : Int64)).toInt32) := by
  apply Int32.toBitVec_inj.mp
  simp [jlushr]
  ext i hi
  simp only [BitVec.getElem_and]
  by_cases h8 : i < 8
  · simp [BitVec.getElem_signExtend, BitVec.getElem_sshiftRight, show i < 64 by omega, show 48 + i < 64 by omega]
  · have : (255#32)[i] = false := h255 i hi h8
    rw [this, Bool.and_false, Bool.and_false]
theorem bits8_7 (x : Int64) : ((jlushr x ((8 : Int32) * 7)).toInt32 &&& (255 : Int32)) = (((x >>> (((8 : Int32) * 7).toInt64 &&& (63 : Int64))) &&& (255 : Int64)).toInt32) := by
  apply Int32.toBitVec_inj.mp
  simp [jlushr]
  ext i hi
  simp only [BitVec.getElem_and]
  by_cases h8 : i < 8
  · simp [BitVec.getElem_signExtend, BitVec.getElem_sshiftRight, show i < 64 by omega, show 56 + i < 64 by omega]
  · have : (255#32)[i] = false := h255 i hi h8
    rw [this, Bool.and_false, Bool.and_false]
theorem bits8 (x : Int64) {y : Nat} (hy : y < 8) : ((jlushr x ((8 : Int32) * Int32.ofNat y)).toInt32 &&& (255 : Int32)) = (((x >>> (((8 : Int32) * Int32.ofNat y).toInt64 &&& (63 : Int64))) &&& (255 : Int64)).toInt32) := by
  have : y = 0 ∨ y = 1 ∨ y = 2 ∨ y = 3 ∨ y = 4 ∨ y = 5 ∨ y = 6 ∨ y = 7 := by omega
  rcases this with rfl | rfl | rfl | rfl | rfl | rfl | rfl | rfl
  · exact bits8_0 x
  · exact bits8_1 x
  · exact bits8_2 x
  · exact bits8_3 x
  · exact bits8_4 x
  · exact bits8_5 x
  · exact bits8_6 x
  · exact bits8_7 x
end PSHEET
