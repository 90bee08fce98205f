/-! PURE: what a till asks -/
section PPAID
def rawV (ts : List Tok) (κ m n : Nat) (k : Int32) : Int32 := match κ with
  | 0 => Int32.ofNat (dsN 32 10 n)
  | 1 => Int32.ofNat (n % 10)
  | 2 => Int32.ofNat (rtN 32 10 n)
  | 3 => Int32.ofNat (dsN 32 10 (n + m))
  | 4 => Int32.ofNat (rtN 32 (m + 2) n)
  | 5 => if n % 10 < m then Int32.ofNat m else Int32.ofNat (n % 10)
  | _ => if ts = [] then Int32.ofNat (dsN 32 10 n) else Tv (nmf (Int32.ofNat n) k (Int32.ofNat m)) ts
def payV (s : Nat → Int32) (ts : List Tok) (j n : Nat) (k : Int32) : Int32 := if k = 0 then 0 else hd (rawV ts (s (32 + 2 * j)).toNatClampNeg (s (33 + 2 * j)).toNatClampNeg n k) 9999
theorem TR.nat {k0 k1 k2 k3 : Nat} {n m s : Nat → Int32} (h : TR k0 k1 k2 k3 n m s) {j : Nat} (hj : j < 4) : ∃ κ mm : Nat, κ ≤ 6 ∧ mm ≤ 9 ∧ s (32 + 2 * j) = Int32.ofNat κ ∧ s (33 + 2 * j) = Int32.ofNat mm ∧ sel4 j k0 k1 k2 k3 = tk (Int32.ofNat κ) ∧ n j = Int32.ofNat j ∧ m j = Int32.ofNat mm := by
  obtain ⟨h1, ⟨h2, h3⟩, h4, h5, h6, h7⟩ := h j hj
  obtain ⟨κ, hκ, e1⟩ := nat_of (b := 6) h2 h3 (by omega)
  obtain ⟨mm, hm, e2⟩ := nat_of (b := 9) h6 h7 (by omega)
  exact ⟨κ, mm, hκ, hm, e1, e2, e1 ▸ h1, h4, by rw [h5, e2]⟩
theorem tk0 : tk (Int32.ofNat 0) = 8 := by decide
theorem tk1 : tk (Int32.ofNat 1) = 3 := by decide
theorem tk2 : tk (Int32.ofNat 2) = 6 := by decide
theorem tk3 : tk (Int32.ofNat 3) = 1 := by decide
theorem tk4 : tk (Int32.ofNat 4) = 5 := by decide
theorem tk5 : tk (Int32.ofNat 5) = 2 := by decide
theorem tk6 : tk (Int32.ofNat 6) = 9 := by decide
theorem p4_isTold (N : Nat) {n : Nat} (hn : n < 2147483648) : f_X4_isTold N (Int32.ofNat n) = some (bi (n ≠ 0)) := by
  unfold f_X4_isTold bi
  simp (disch := omega) only [le_lit]
  by_cases h : n ≤ 0
  · rw [if_pos h, if_neg (by omega)]
  · rw [if_neg h, if_pos (by omega)]
theorem on_rem10 {n : Nat} (h : n < 2147483648) : Int32.ofNat n - Int32.ofNat n / (10 : Int32) * (10 : Int32) = Int32.ofNat (n % 10) := on_rem (b := 10) h (by omega)
theorem fig10 {N v : Nat} (hN : 33 ≤ N) (hv : v < 2147483648) : f_X11_figureSum N (Int32.ofNat v) (10 : Int32) = some (Int32.ofNat (dsN 32 10 v)) := p11_figureSum (b := 10) hN (by omega) (by omega) hv
theorem one10 {N v : Nat} (hN : 33 ≤ N) (hv : v < 2147483648) : f_X11_oneFigure N (Int32.ofNat v) (10 : Int32) = some (Int32.ofNat (rtN 32 10 v)) := p11_oneFigure (b := 10) hN (by omega) (by omega) hv
theorem add10 {N v : Nat} (hN : 33 ≤ N) (hv : v < 2147483648) : f_X12_added N (Int32.ofNat v) (10 : Int32) = some (Int32.ofNat (dsN 32 10 v)) := p12_added (b := 10) hN (by omega) (by omega) hv
theorem root10 {N v : Nat} (hN : 33 ≤ N) (hv : v < 1000000) : f_X12_rooted N (Int32.ofNat v) (10 : Int32) = some (Int32.ofNat (rtN 32 10 v)) := p12_rooted (b := 10) hN (by omega) (by omega) hv
theorem isTold0 (N : Nat) : f_X4_isTold N (0 : Int32) = some 0 := rfl
theorem p7_paid {N : Nat} (hN : 100 ≤ N) {k0 k1 k2 k3 : Nat} {tn tm s : Nat → Int32} (hT : TR k0 k1 k2 k3 tn tm s) {ts : List Tok} {pl : Int32} {pc : Nat → Int32} (hL : LRt 0 ts pl pc s) {j n : Nat} (hj : j < 4) (hn : n < 1000000) (k : Int32) (st : Nat → Int32) :
    ∃ st', f_X7_paid N (Int32.ofNat j) (Int32.ofNat n) k pl pc st k0 k1 k2 k3 tn tm = some (payV s ts j n k, st') := by
  unfold f_X7_paid payV
  by_cases hk : k = 0
  · exact ⟨st, by rw [if_pos hk, if_pos hk]⟩
  rw [if_neg hk, if_neg hk]
  obtain ⟨κ, mm, hκ, hm, e1, e2, e3, e4, e5⟩ := hT.nat hj
  rw [e1, e2, on_tn (k := κ) (by omega), on_tn (k := mm) (by omega)]
  rw [if_pos (of_eq_true (on_vin (k := j) (by omega) (by omega))), on_tn (k := j) (by omega), e3, e5]
  clear e3
  have : κ = 0 ∨ κ = 1 ∨ κ = 2 ∨ κ = 3 ∨ κ = 4 ∨ κ = 5 ∨ κ = 6 := by omega
  rcases this with rfl | rfl | rfl | rfl | rfl | rfl | rfl
  · rw [tk0]
    exact ⟨st, by simp [f_X8_due, fig10 (show 33 ≤ N by omega) (show n < 2147483648 by omega), p11_held N (show (0 : Int32) ≤ 9999 by decide), rawV]⟩
  · rw [tk1]
    exact ⟨st, by simp [f_X3_due, on_rem10 (show n < 2147483648 by omega), p11_held N (show (0 : Int32) ≤ 9999 by decide), rawV]⟩
  · rw [tk2]
    exact ⟨st, by simp [f_X6_due, one10 (show 33 ≤ N by omega) (show n < 2147483648 by omega), p11_held N (show (0 : Int32) ≤ 9999 by decide), rawV]⟩
  · rw [tk3]
    exact ⟨st, by simp only [f_X1_due, on_add, fig10 (show 33 ≤ N by omega) (show n + mm < 2147483648 by omega)]; simp [p11_held N (show (0 : Int32) ≤ 9999 by decide), rawV]⟩
  · rw [tk4]
    exact ⟨st, by simp only [f_X5_due, add_lit, p11_oneFigure (b := mm + 2) (show 33 ≤ N by omega) (by omega) (by omega) (show n < 2147483648 by omega)]; simp [p11_held N (show (0 : Int32) ≤ 9999 by decide), rawV]⟩
  · rw [tk5]
    refine ⟨st, ?_⟩
    simp only [f_X2_due, f_X3_due_X2, on_rem10 (show n < 2147483648 by omega)]
    simp [p11_held N (show (0 : Int32) ≤ 9999 by decide), rawV]
    simp (disch := omega) only [on_lt]
    congr 1
    by_cases h : n % 10 < mm
    · rw [if_pos h, if_neg (by omega)]
    · rw [if_neg h]
      by_cases h2 : mm < n % 10
      · rw [if_pos h2]
      · rw [if_neg h2]; congr 1; omega
  · rw [tk6]
    by_cases hts : ts = []
    · refine ⟨st, ?_⟩
      have hl0 : pl = Int32.ofNat 0 := by rw [hL.2.1, hts]; rfl
      subst hl0
      simp [f_X9_due, isTold0, f_X8_due_X9, fig10 (show 33 ≤ N by omega) (show n < 2147483648 by omega), p11_held N (show (0 : Int32) ≤ 9999 by decide), rawV, hts]
    · obtain ⟨st', h⟩ := p4_workedOut (N := N) (by omega) hL hts (Int32.ofNat n) k (Int32.ofNat mm) st
      refine ⟨st', ?_⟩
      have hlen : ts.length ≠ 0 := by simpa using hts
      have h60 := hL.1
      have h8 : f_X4_isTold N pl = some (bi (ts.length ≠ 0)) := by rw [hL.2.1]; exact p4_isTold N (by omega)
      simp [f_X9_due, h8, bi, h, hts, p11_held N (show (0 : Int32) ≤ 9999 by decide), rawV]
theorem p12_mOf (N : Nat) {j : Nat} (hj : j < 4) (s : Nat → Int32) : f_X12_mOf N (Int32.ofNat j) s = some (s (33 + 2 * j)) := by
  unfold f_X12_mOf
  simp (disch := omega) only [lit_mul, lit_add, add_lit, on_vin, on_tn, if_true]
  rw [show 32 + 2 * j + 1 = 33 + 2 * j by omega]
theorem p12_kindOf (N : Nat) {j : Nat} (hj : j < 4) (s : Nat → Int32) : f_X12_kindOf N (Int32.ofNat j) s = some (s (32 + 2 * j)) := by
  unfold f_X12_kindOf
  simp (disch := omega) only [lit_mul, lit_add, on_vin, on_tn, if_true]
theorem p12_hasText (N : Nat) {u : Nat} (hu : u < 2) {ts : List Tok} {len : Int32} {code s : Nat → Int32} (h : LRt u ts len code s) : f_X12_hasText N (Int32.ofNat u) s = some (bi (ts ≠ [])) := by
  unfold f_X12_hasText
  have h60 := h.1
  simp (disch := omega) only [lit_mul, lit_add, on_vin, on_tn, if_true, h.2.2.1, le_lit]
  unfold bi
  by_cases hts : ts = []
  · rw [if_pos (by simp [hts]), if_neg (by simp [hts])]
  · have : ts.length ≠ 0 := by simpa using hts
    rw [if_neg (by omega), if_pos hts]
theorem p12_asked {N : Nat} (hN : 100 ≤ N) {k0 k1 k2 k3 : Nat} {tn tm s : Nat → Int32} (hT : TR k0 k1 k2 k3 tn tm s) {ts : List Tok} {pl : Int32} {pc : Nat → Int32} (hL : LRt 0 ts pl pc s) {j n : Nat} (hj : j < 4) (hn : n < 1000000) (k : Int32) (named pile : Nat → Int32) :
    ∃ named' pile', f_X12_asked N (Int32.ofNat j) (Int32.ofNat n) k named pile s = some (payV s ts j n k, named', pile') := by
  unfold f_X12_asked payV
  by_cases hk : k = 0
  · exact ⟨named, pile, by rw [if_pos hk, if_pos hk]⟩
  rw [if_neg hk, if_neg hk]
  obtain ⟨κ, mm, hκ, hm, e1, e2, e3, e4, e5⟩ := hT.nat hj
  rw [p12_mOf N hj, p12_kindOf N hj, e1, e2, on_tn (k := κ) (by omega), on_tn (k := mm) (by omega)]
  rw [add10 (show 33 ≤ N by omega) (show n < 2147483648 by omega)]
  simp only [Option.bind_some]
  have : κ = 0 ∨ κ = 1 ∨ κ = 2 ∨ κ = 3 ∨ κ = 4 ∨ κ = 5 ∨ κ = 6 := by omega
  rcases this with rfl | rfl | rfl | rfl | rfl | rfl | rfl
  · exact ⟨named, pile, by simp (disch := omega) [eq_lit, p12_held, rawV]⟩
  · exact ⟨named, pile, by simp (disch := omega) [eq_lit, p12_held, rawV, on_rem10 (show n < 2147483648 by omega)]⟩
  · exact ⟨named, pile, by simp (disch := omega) [eq_lit, p12_held, rawV, root10 (show 33 ≤ N by omega) hn]⟩
  · refine ⟨named, pile, ?_⟩
    rw [on_add, add10 (show 33 ≤ N by omega) (show n + mm < 2147483648 by omega)]
    simp (disch := omega) [eq_lit, p12_held, rawV]
  · refine ⟨named, pile, ?_⟩
    rw [show Int32.ofNat mm + 2 = Int32.ofNat (mm + 2) from add_lit 2 mm, p12_rooted (b := mm + 2) (show 33 ≤ N by omega) (by omega) (by omega) hn]
    simp (disch := omega) [eq_lit, p12_held, rawV]
  · refine ⟨named, pile, ?_⟩
    rw [on_rem10 (show n < 2147483648 by omega)]
    simp (disch := omega) only [on_le]
    by_cases h : n % 10 < mm
    · simp (disch := omega) [eq_lit, p12_held, rawV, if_pos h, if_neg (show ¬ mm ≤ n % 10 by omega)]
    · simp (disch := omega) [eq_lit, p12_held, rawV, if_neg h, if_pos (show mm ≤ n % 10 by omega)]
  · rw [show f_X12_hasText N 0 s = some (bi (ts ≠ [])) from p12_hasText N (u := 0) (by omega) hL]
    by_cases hts : ts = []
    · exact ⟨named, pile, by simp (disch := omega) [eq_lit, p12_held, rawV, bi, hts]⟩
    · obtain ⟨pile', h⟩ := p12_worked (N := N) (by omega) (u := 0) (by omega) hL hts (Int32.ofNat n) k (Int32.ofNat mm) (upd (upd (upd named (115 : Int32).toNatClampNeg (Int32.ofNat n)) (107 : Int32).toNatClampNeg k) (109 : Int32).toNatClampNeg (Int32.ofNat mm)) pile (fun v hv => by
        unfold isNm at hv
        rw [if_pos rfl] at hv
        rcases hv with rfl | rfl | rfl <;> exact ⟨by decide +kernel, by simp [upd, nmf]⟩)
      have h : f_X12_worked N 0 _ pile s = _ := h
      refine ⟨(upd (upd (upd named (115 : Int32).toNatClampNeg (Int32.ofNat n)) (107 : Int32).toNatClampNeg k) (109 : Int32).toNatClampNeg (Int32.ofNat mm)), pile', ?_⟩
      generalize (upd (upd (upd named (115 : Int32).toNatClampNeg (Int32.ofNat n)) (107 : Int32).toNatClampNeg k) (109 : Int32).toNatClampNeg (Int32.ofNat mm)) = nm' at h ⊢
      simp (disch := omega) only [eq_lit]
      simp [bi, hts, h, p12_held, rawV]
end PPAID
