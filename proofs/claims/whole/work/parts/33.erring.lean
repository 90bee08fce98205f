/-! PURE: erring, together -/
section PERR
theorem pm_gcd {N : Nat} : ∀ (y x n n' i : Nat), y < n → y < n' → i + y < 1000000 → x < 2147483648 → y < 2147483648 → (0 < x ∨ 0 < y) → ∃ r, 1 ≤ r ∧ r < 2147483648 ∧ f_X11_commonDivisor_7 N (fun v2_4 v3_4 v4_4 => (some (if (1 : Int32) < v2_4 then v2_4 else (1 : Int32)))) n (Int32.ofNat x) (Int32.ofNat y) (Int32.ofNat i) = some (Int32.ofNat r) ∧ f_X12_divisor_4 N (fun v2_3 v3_3 => (some v2_3)) n' (Int32.ofNat x) (Int32.ofNat y) = some (Int32.ofNat r) := by
  intro y
  induction y using Nat.strongRecOn with
  | _ y ih =>
    intro x n n' i hn hn' hi hx hy hxy
    obtain ⟨n, rfl⟩ : ∃ m, n = m + 1 := ⟨n - 1, by omega⟩
    obtain ⟨n', rfl⟩ : ∃ m, n' = m + 1 := ⟨n' - 1, by omega⟩
    rw [f_X11_commonDivisor_7, f_X12_divisor_4, on_rem hx hy]
    simp (disch := omega) only [lit_le, le_lit, eq_lit, add_lit]
    rw [if_neg (show ¬ 1000000 ≤ i by omega)]
    by_cases h : y = 0
    · rw [if_pos (show y ≤ 0 by omega), if_pos h]
      refine ⟨x, by omega, hx, ?_, rfl⟩
      simp (disch := omega) only [lit_lt]
      by_cases h1 : 1 < x
      · rw [if_pos h1]
      · rw [if_neg h1, show x = 1 by omega]; rfl
    · rw [if_neg (show ¬ y ≤ 0 by omega), if_neg h, if_pos h, if_pos h]
      have hm : x % y < y := Nat.mod_lt _ (by omega)
      exact ih (x % y) hm y n n' (i + 1) (by omega) (by omega) (by omega) (by omega) (by omega) (Or.inl (by omega))
theorem pm_gcd16 {N : Nat} (hN : 100 ≤ N) {x : Nat} (hx : x < 2147483648) : ∃ r, 1 ≤ r ∧ r < 2147483648 ∧ f_X11_commonDivisor N (Int32.ofNat x) 16 = some (Int32.ofNat r) ∧ f_X12_divisor N (Int32.ofNat x) 16 = some (Int32.ofNat r) :=
  pm_gcd (N := N) 16 x N N 0 (by omega) (by omega) (by omega) hx (by omega) (Or.inr (by omega))
theorem pm_erring {N : Nat} (hN : 100 ≤ N) (a b c d : Int32) {k0 k1 k2 k3 : Nat} {tn tm s ce me pc bits lens mbits msizes mnum : Nat → Int32} {pl : Int32} {nums g : Nat → Nat → Int32} (hE : ER ce me) (hH : HR bits lens nums mbits msizes mnum) (hG : GR g s) (hT : TR k0 k1 k2 k3 tn tm s) (hL : LR 0 pl pc s) (x y : Int32) (rw0 told st named pile : Nat → Int32) :
    ∃ v ce' x' y' rw' st' me' named' pile' told', f_X11_erring N a b c d ce x y rw0 bits lens nums g pl pc st k0 k1 k2 k3 tn tm = some (v, ce', x', y', rw', st') ∧ f_X12_erring N a b c d mbits me named mnum pile s msizes told = some (v, me', named', pile', told') ∧ ER ce' me' := by
  obtain ⟨ts, hL⟩ := hL
  obtain ⟨p, hp⟩ := hG.prices
  -- an odd answer of the reference for what is refused
  have hno : f_X12_erring_j42 N a b c d 0 mbits me named mnum pile s msizes told = some ((eLow 1).toInt64, upd me 1 (me 1 + 1), named, pile, told) := by
    unfold f_X12_erring_j42
    rw [p12_lacks0, Option.bind_some]
    try dsimp only
    rw [if_neg (show ¬ (1 : Int32) ≤ 0 by decide), p12_error1, Option.bind_some]
  unfold f_X11_erring f_X12_erring
  rw [hno, p11_error1]
  by_cases h1 : c < 0
  · rw [if_pos h1, if_pos h1]
    exact ⟨_, _, _, _, _, _, _, _, _, _, rfl, rfl, hE.up (by omega)⟩
  rw [if_neg h1, if_neg h1]
  obtain ⟨w, hw, rfl⟩ := nat_lt c (Int32.not_lt.mp h1)
  have d1 : Int32.ofNat w / (17 : Int32) = Int32.ofNat (w / 17) := on_div (b := 17) hw (by omega)
  have d2 : Int32.ofNat w - Int32.ofNat w / (17 : Int32) * (17 : Int32) = Int32.ofNat (w % 17) := on_rem (b := 17) hw (by omega)
  have hj1 : ∀ t0, f_X12_erring_j42 N a b (Int32.ofNat w) d t0 mbits me named mnum pile s msizes told = f_X12_erring_j42 N a b (Int32.ofNat w) d t0 mbits me named mnum pile s msizes told := fun _ => rfl
  rw [d2, d1, on_add]
  generalize hq1 : w / 17 = q1
  generalize hq2 : w % 17 = q2
  have hq1l : q1 < 2147483648 := by omega
  have hq2l : q2 < 17 := by omega
  by_cases h2 : 16 < q1 + q2
  · rw [if_pos (show (16 : Int32) < Int32.ofNat (q1 + q2) by rw [lit_lt (by omega) (by omega)]; exact h2)]
    by_cases h3 : 16 < q1
    · rw [if_pos (show (16 : Int32) < Int32.ofNat q1 by rw [lit_lt (by omega) (by omega)]; exact h3)]
      exact ⟨_, _, _, _, _, _, _, _, _, _, rfl, rfl, hE.up (by omega)⟩
    · rw [if_neg (show ¬ (16 : Int32) < Int32.ofNat q1 by rw [lit_lt (by omega) (by omega)]; exact h3), if_pos (show (16 : Int32) < Int32.ofNat (q1 + q2) by rw [lit_lt (by omega) (by omega)]; exact h2)]
      exact ⟨_, _, _, _, _, _, _, _, _, _, rfl, rfl, hE.up (by omega)⟩
  rw [if_neg (show ¬ (16 : Int32) < Int32.ofNat (q1 + q2) by rw [lit_lt (by omega) (by omega)]; exact h2), if_neg (show ¬ (16 : Int32) < Int32.ofNat q1 by rw [lit_lt (by omega) (by omega)]; omega), if_neg (show ¬ (16 : Int32) < Int32.ofNat (q1 + q2) by rw [lit_lt (by omega) (by omega)]; exact h2)]
  rw [p11_within, p12_in, Option.bind_some, Option.bind_some, Option.bind_some]
  by_cases h4 : 0 ≤ d ∧ d ≤ 1
  rotate_left
  · have h4' : bi (0 ≤ d ∧ d ≤ 1) = 0 := by rw [bi_0]; exact h4
    rw [if_pos h4', if_pos h4']
    exact ⟨_, _, _, _, _, _, _, _, _, _, rfl, rfl, hE.up (by omega)⟩
  have h4' : ¬ bi (0 ≤ d ∧ d ≤ 1) = 0 := by rw [bi_0]; exact not_not_intro h4
  rw [if_neg h4', if_neg h4']
  clear hno hj1
  unfold f_X12_erring_j42
  rw [d2, d1, hq1, hq2]
  obtain ⟨e, th, su, row, told', e1, e2, e3, e4⟩ := pm_lacks hN a b (M := 30) (by omega) hH x y rw0 told g
  have e1 : f_X11_refusal N a b 30 x y rw0 bits lens nums g = _ := e1
  have e2 : f_X12_lacks N a b 1 30 mbits mnum msizes told = _ := e2
  rw [e1, e2, Option.bind_some, Option.bind_some]
  try dsimp only
  have hle := e3.le
  by_cases h0 : e = 0
  rotate_left
  · rw [if_neg h0, if_neg (by rw [hle]; exact h0)]
    obtain ⟨k, k1, k2, rfl⟩ := e3.err h0
    rw [p11_error N k1 k2, p12_error N k2]
    exact ⟨_, _, _, _, _, _, _, _, _, _, rfl, rfl, hE.up (by omega)⟩
  rw [if_pos h0, if_pos (by rw [hle]; exact h0)]
  obtain ⟨t, ht, rfl⟩ := e4 h0
  rcases e3 with ⟨-, l, ⟨b1, b2, b3, b4, b5⟩, hM⟩ | ⟨k, k1, k2, k3⟩
  rotate_left
  · exfalso; rw [h0] at k3; rw [lit_eq (by omega) (by omega)] at k3; omega
  obtain ⟨named', pile', f2⟩ := p12_paid hN hT hL ht b2 hp (nD_ok hp (by omega)) named pile
  rw [f2, Option.bind_some, p12_many (by omega), Option.bind_some, b2.sm]
  try dsimp only
  -- what both come to, of which both take the parts
  have fin : ∀ (u : Nat) (st' : Nat → Int32), u < 2147483648 → f_X11_takenInCases N (Int32.ofNat t) (Int32.ofNat q1) (Int32.ofNat q2) th su pl pc st k0 k1 k2 k3 tn tm = some (Int32.ofNat u, st') → ∀ (T : Option (Int64 × (Nat → Int32) × (Nat → Int32) × (Nat → Int32) × (Nat → Int32))),
      (T = (f_X12_divisor N (Int32.ofNat u) 16).bind fun r7 => (if d = 0 then (if ¬ r7 = 0 then (some ((Int32.ofNat u / r7).toInt64, me, named', pile', told')) else none) else (if ¬ r7 = 0 then (some (((16 : Int32) / r7).toInt64, me, named', pile', told')) else none))) →
      ∃ v ce' x' y' rw' st' me' named' pile' told', ((f_X11_takenInCases N (Int32.ofNat t) (Int32.ofNat q1) (Int32.ofNat q2) th su pl pc st k0 k1 k2 k3 tn tm).bind fun r9 => ((f_X11_commonDivisor N r9.1 (16 : Int32)).bind fun r10 => (if d = 0 then (if ¬ r10 = 0 then (some ((r9.1 / r10).toInt64, ce, th, su, row, r9.2)) else none) else (if ¬ r10 = 0 then (some (((16 : Int32) / r10).toInt64, ce, th, su, row, r9.2)) else none)))) = some (v, ce', x', y', rw', st') ∧ T = some (v, me', named', pile', told') ∧ ER ce' me' := by
    intro u st' hu hk T hT
    subst hT
    obtain ⟨r, r1, r2, r3, r4⟩ := pm_gcd16 hN hu
    rw [hk, Option.bind_some]
    try dsimp only
    rw [r3, r4, Option.bind_some, Option.bind_some]
    have hr0 : ¬ Int32.ofNat r = 0 := by rw [eq_lit r2 (by omega)]; omega
    rw [if_pos hr0, if_pos hr0, if_pos hr0, if_pos hr0]
    by_cases hd : d = 0
    · rw [if_pos hd, if_pos hd]; exact ⟨_, _, _, _, _, _, _, _, _, _, rfl, rfl, hE⟩
    · rw [if_neg hd, if_neg hd]; exact ⟨_, _, _, _, _, _, _, _, _, _, rfl, rfl, hE⟩
  by_cases hz : nS l = 0
  · rw [hz, if_pos (show Int32.ofNat 0 = 0 from rfl)]
    refine fin 0 st (by omega) ?_ _ rfl
    unfold f_X11_takenInCases
    rw [b4, hz, if_pos (show Int32.ofNat 0 = 0 from rfl)]
    rfl
  have hz' : ¬ Int32.ofNat (nS l) = 0 := by rw [eq_lit (by omega) (by omega)]; exact hz
  rw [if_neg hz']
  obtain ⟨st', f1⟩ := p7_paidB hN hT hL ht b4 (b5.trans (b1.dot (hp.row0 hG))) (nD_ok hp (by omega)) st
  obtain ⟨r, hr, er⟩ : ∃ r, r ≤ 9999 ∧ PV s ts t l p = Int32.ofNat r := payV_range _ _ _ _ _
  rw [er] at f1
  rw [er]
  have m1 : (16 : Int32) * Int32.ofNat r + Int32.ofNat q1 = Int32.ofNat (16 * r + q1) := by rw [lit_mul, on_add]
  rw [m1]
  have hle2 : (Int32.ofNat r ≤ 0) = (r ≤ 0) := le_lit (by omega) (by omega)
  by_cases hr0 : r = 0
  · rw [if_pos (by rw [hle2]; omega)]
    rw [show Int32.ofNat (16 * r + q1) - 0 = Int32.ofNat (16 * r + q1) from Int32.sub_zero _]
    refine fin (16 * r + q1) st' (by omega) ?_ _ rfl
    unfold f_X11_takenInCases
    rw [b4, if_neg hz', ← b4, f1, Option.bind_some]
    try dsimp only
    rw [if_pos (by rw [hr0]; rfl), m1, Int32.sub_zero]
  · rw [if_neg (by rw [hle2]; omega)]
    rw [on_sub (show q2 ≤ 16 * r + q1 by omega)]
    refine fin (16 * r + q1 - q2) st' (by omega) ?_ _ rfl
    unfold f_X11_takenInCases
    rw [b4, if_neg hz', ← b4, f1, Option.bind_some]
    try dsimp only
    rw [if_neg (by rw [eq_lit (by omega) (by omega)]; exact hr0), m1, on_sub (show q2 ≤ 16 * r + q1 by omega)]
theorem p12_tog122 {N : Nat} (told bes : Nat → Int32) (K : Int32 → (Nat → Int32) → Option (Int32 × (Nat → Int32) × (Nat → Int32) × (Nat → Int32) × (Nat → Int32) × (Nat → Int32) × (Nat → Int32))) : ∀ (d n y : Nat) (r : Nat → Int32), y + d = 8 → d < n → ∃ r', f_X12_together_122 N bes told K n (Int32.ofNat y) r = K 8 r' ∧ (∀ t, y ≤ t → t < 8 → r' t = told t + bes t) ∧ ∀ t, t < y → r' t = r t := by
  intro d
  induction d with
  | zero =>
    intro n y r hy hn
    obtain ⟨n, rfl⟩ : ∃ m, n = m + 1 := ⟨n - 1, by omega⟩
    have : y = 8 := by omega
    subst this
    exact ⟨r, by rw [f_X12_together_122, if_pos (by decide)]; rfl, fun t h1 h2 => by omega, fun _ _ => rfl⟩
  | succ d ih =>
    intro n y r hy hn
    obtain ⟨n, rfl⟩ : ∃ m, n = m + 1 := ⟨n - 1, by omega⟩
    rw [f_X12_together_122]
    simp (disch := omega) only [lit_le, on_vin, on_tn, if_true, add_lit]
    rw [if_neg (by omega)]
    obtain ⟨r', h1, h2, h3⟩ := ih n (y + 1) (upd r y (told y + bes y)) (by omega) (by omega)
    refine ⟨r', h1, fun t h5 h6 => ?_, fun t h5 => ?_⟩
    · by_cases e : t = y
      · subst e; rw [h3 t (by omega), upd_at]
      · exact h2 t (by omega) h6
    · rw [h3 t (by omega), upd_ne _ _ (by omega)]
theorem nS_add (l l' : Nat → Nat) : nS (fun t => l t + l' t) = nS l + nS l' := by
  simp only [nS]; omega
theorem nD_add (l l' p : Nat → Nat) : nD (fun t => l t + l' t) p = nD l p + nD l' p := by
  simp only [nD, Nat.add_mul]; omega
theorem p12_tog107e {N : Nat} (c : Int32) {k : Nat} (h1 : 1 ≤ k) (h6 : k ≤ 6) (bes me named pile row s told : Nat → Int32) : f_X12_together_j107 N c (Int32.ofNat k) bes me named pile row s told = some (eLow k, bes, upd me k (me k + 1), named, pile, row, told) := by
  unfold f_X12_together_j107
  rw [if_neg (by rw [le_lit (by omega) (by omega)]; omega), p12_error N h6, Option.bind_some]
theorem p12_tog79e {N : Nat} (c : Int32) {k : Nat} (h1 : 1 ≤ k) (h6 : k ≤ 6) (bes me named pile row s told : Nat → Int32) : f_X12_together_j79 N c (Int32.ofNat k) bes me named pile row s told = some (eLow k, bes, upd me k (me k + 1), named, pile, row, told) := by
  unfold f_X12_together_j79
  rw [if_neg (by rw [eq_lit (by omega) (by omega)]; omega), p12_tog107e c h1 h6]
theorem pm_together {N : Nat} (hN : 100 ≤ N) (a b c : Int32) {k0 k1 k2 k3 : Nat} {tn tm s ce me pc bits lens mbits msizes mnum : Nat → Int32} {pl : Int32} {nums g : Nat → Nat → Int32} (hE : ER ce me) (hH : HR bits lens nums mbits msizes mnum) (hG : GR g s) (hT : TR k0 k1 k2 k3 tn tm s) (hL : LR 0 pl pc s) (x y x2 y2 : Int32) (rw0 rw2 bes mrow told st named pile : Nat → Int32) :
    ∃ v ce' a1 a2 a3 a4 a5 a6 st' b1 me' b3 b4 b5 b6, f_X11_together N a b c ce x y rw0 x2 y2 rw2 bits lens nums g pl pc st k0 k1 k2 k3 tn tm = some (v, ce', a1, a2, a3, a4, a5, a6, st') ∧ f_X12_together N a b c bes mbits me named mnum pile mrow s msizes told = some (v, b1, me', b3, b4, b5, b6) ∧ ER ce' me' := by
  obtain ⟨ts, hL⟩ := hL
  obtain ⟨p, hp⟩ := hG.prices
  have bad : ∀ (h : ¬ (0 ≤ a ∧ a ≤ 3) ∨ ¬ (0 ≤ b ∧ b ≤ 3) ∨ ¬ (0 ≤ c ∧ c ≤ 3)), f_X12_together N a b c bes mbits me named mnum pile mrow s msizes told = some (eLow 1, bes, upd me 1 (me 1 + 1), named, pile, mrow, told) := by
    intro h
    have hl : f_X12_lacks N a c (bi (0 ≤ b ∧ b ≤ 3)) 99 mbits mnum msizes told = some (1, told) := by
      unfold f_X12_lacks
      rw [p12_isSheet, p12_isTill, Option.bind_some]
      by_cases h1 : 0 ≤ a ∧ a ≤ 3
      rotate_left
      · rw [if_pos (show bi _ = 0 by rw [bi_0]; exact h1)]
      rw [if_neg (show ¬ bi _ = 0 by rw [bi_0]; exact not_not_intro h1), Option.bind_some]
      by_cases h3 : 0 ≤ c ∧ c ≤ 3
      rotate_left
      · rw [if_pos (show bi _ = 0 by rw [bi_0]; exact h3)]
      rw [if_neg (show ¬ bi _ = 0 by rw [bi_0]; exact not_not_intro h3)]
      have h2 : ¬ (0 ≤ b ∧ b ≤ 3) := by
        rcases h with h | h | h
        · exact absurd h1 h
        · exact h
        · exact absurd h3 h
      rw [if_pos (show bi _ = 0 by rw [bi_0]; exact h2)]
    unfold f_X12_together
    rw [p12_isSheet, p12_isSheet, p12_isTill, Option.bind_some, hl, Option.bind_some]
    try dsimp only
    rw [if_neg (show ¬ (1 : Int32) = 0 by decide), if_pos (show (1 : Int32) = 1 from rfl), Option.bind_some]
    have e := p12_tog79e (N := N) c (k := 1) (by omega) (by omega) bes me named pile mrow s told
    have e : f_X12_together_j79 N c 1 bes me named pile mrow s told = _ := e
    by_cases h1 : 0 ≤ a ∧ a ≤ 3
    rotate_left
    · rw [if_pos (show bi _ = 0 by rw [bi_0]; exact h1)]; exact e
    rw [if_neg (show ¬ bi _ = 0 by rw [bi_0]; exact not_not_intro h1), Option.bind_some]
    by_cases h2 : 0 ≤ b ∧ b ≤ 3
    rotate_left
    · rw [if_pos (show bi _ = 0 by rw [bi_0]; exact h2)]; exact e
    rw [if_neg (show ¬ bi _ = 0 by rw [bi_0]; exact not_not_intro h2), Option.bind_some]
    have h3 : ¬ (0 ≤ c ∧ c ≤ 3) := by
      rcases h with h | h | h
      · exact absurd h1 h
      · exact absurd h2 h
      · exact h
    rw [if_pos (show bi _ = 0 by rw [bi_0]; exact h3)]; exact e
  by_cases h1 : 0 ≤ a ∧ a ≤ 3
  rotate_left
  · rw [bad (Or.inl h1)]
    unfold f_X11_together
    rw [p11_isSheet, Option.bind_some, if_pos (show bi _ = 0 by rw [bi_0]; exact h1), p11_error1]
    exact ⟨_, _, _, _, _, _, _, _, _, _, _, _, _, _, _, rfl, rfl, hE.up (by omega)⟩
  by_cases h2 : 0 ≤ b ∧ b ≤ 3
  rotate_left
  · rw [bad (Or.inr (Or.inl h2))]
    unfold f_X11_together
    rw [p11_isSheet, p11_isSheet, Option.bind_some, Option.bind_some, if_neg (show ¬ bi (0 ≤ a ∧ a ≤ 3) = 0 by rw [bi_0]; exact not_not_intro h1), if_pos (show bi _ = 0 by rw [bi_0]; exact h2), p11_error1]
    exact ⟨_, _, _, _, _, _, _, _, _, _, _, _, _, _, _, rfl, rfl, hE.up (by omega)⟩
  by_cases h3 : 0 ≤ c ∧ c ≤ 3
  rotate_left
  · rw [bad (Or.inr (Or.inr h3))]
    unfold f_X11_together
    rw [p11_isSheet, p11_isSheet, p11_isTill, Option.bind_some, Option.bind_some, Option.bind_some, if_neg (show ¬ bi (0 ≤ a ∧ a ≤ 3) = 0 by rw [bi_0]; exact not_not_intro h1), if_neg (show ¬ bi (0 ≤ b ∧ b ≤ 3) = 0 by rw [bi_0]; exact not_not_intro h2), if_pos (show bi _ = 0 by rw [bi_0]; exact h3), p11_error1]
    exact ⟨_, _, _, _, _, _, _, _, _, _, _, _, _, _, _, rfl, rfl, hE.up (by omega)⟩
  have na : ¬ bi (0 ≤ a ∧ a ≤ 3) = 0 := by rw [bi_0]; exact not_not_intro h1
  have nb : ¬ bi (0 ≤ b ∧ b ≤ 3) = 0 := by rw [bi_0]; exact not_not_intro h2
  have nc : ¬ bi (0 ≤ c ∧ c ≤ 3) = 0 := by rw [bi_0]; exact not_not_intro h3
  unfold f_X11_together f_X12_together f_X12_lacks
  rw [p11_isSheet, p11_isSheet, p11_isTill, p12_isSheet, p12_isSheet, p12_isTill, Option.bind_some, Option.bind_some, Option.bind_some, if_neg na, if_neg nb, if_neg nc]
  rw [Option.bind_some, Option.bind_some, if_neg na, Option.bind_some, if_neg nc, if_neg nb]
  obtain ⟨i, hi, rfl⟩ := in_nat (b := 3) h1 (by omega)
  obtain ⟨j, hj, rfl⟩ := in_nat (b := 3) h2 (by omega)
  obtain ⟨t, ht, rfl⟩ := in_nat (b := 3) h3 (by omega)
  have hi4 : i < 4 := by omega
  have hj4 : j < 4 := by omega
  obtain ⟨qi, hqi, ei1, ei2, ei3⟩ := hH.nat hi4
  obtain ⟨qj, hqj, ej1, ej2, ej3⟩ := hH.nat hj4
  rw [p11_isMissing N hi4, p11_isMissing N hj4, ei3, ej3, Option.bind_some, Option.bind_some]
  have e1 : ∀ bs tl, f_X12_together_j79 N (Int32.ofNat t) 1 bs me named pile mrow s tl = some (eLow 1, bs, upd me 1 (me 1 + 1), named, pile, mrow, tl) := fun bs tl => p12_tog79e _ (k := 1) (by omega) (by omega) bs me named pile mrow s tl
  have e2 : ∀ bs tl, f_X12_together_j79 N (Int32.ofNat t) 2 bs me named pile mrow s tl = some (eLow 2, bs, upd me 2 (me 2 + 1), named, pile, mrow, tl) := fun bs tl => p12_tog79e _ (k := 2) (by omega) (by omega) bs me named pile mrow s tl
  rcases p12_tells hN hi4 99 mbits msizes mnum told _ rfl with ⟨h0, g1⟩ | ⟨h0, told', g1, g2⟩
  · rw [if_neg (show ¬ bi _ = 0 by rw [bi_0]; exact not_not_intro h0), g1, Option.bind_some, Option.bind_some]
    try dsimp only
    rw [if_neg (show ¬ (2 : Int32) = 0 by decide), if_neg (show ¬ (2 : Int32) = 1 by decide), e2, p11_error2]
    exact ⟨_, _, _, _, _, _, _, _, _, _, _, _, _, _, _, rfl, rfl, hE.up (by omega)⟩
  rw [if_pos (show bi _ = 0 by rw [bi_0]; exact h0)]
  have small : ∀ (f r : Nat → Int32), (∀ t, t < 8 → okF (f t)) → (∀ t, t < 8 → r t = f t) → ∃ l, IsRow r l ∧ (∀ t, t < 8 → l t ≤ 9) ∧ nS l ≤ 72 := fun f r hf hr => by
    obtain ⟨l, hl1, hl2⟩ := row_of_ok hf
    exact ⟨l, fun t ht => by rw [hr t ht]; exact hl1 t ht, hl2, nS_le hl2⟩
  have z99 : ∀ {r : Nat → Int32} {l : Nat → Nat}, IsRow r l → nS l ≤ 72 → (if sm8 r ≤ 99 then (0 : Int32) else 4) = 0 := fun {r l} h1 h2 => by
    rw [h1.sm, if_pos (by rw [le_lit (by omega) (by omega)]; omega)]
  -- what stands in the first sheet
  rcases g2 with ⟨ok1, g3⟩ | ⟨ok1, g3⟩
  · obtain ⟨l, hl1, hl2, hl3⟩ := small _ told' ok1 g1
    rw [z99 hl1 hl3] at g3
    rw [g3, Option.bind_some, Option.bind_some]
    try dsimp only
    rw [if_pos (show (0 : Int32) = 0 from rfl)]
    rcases p12_tells hN hj4 99 mbits msizes mnum bes _ rfl with ⟨o0, o1⟩ | ⟨o0, bes', o1, o2⟩
    · rw [if_neg (show ¬ bi _ = 0 by rw [bi_0]; exact not_not_intro o0), o1, Option.bind_some]
      try dsimp only
      rw [if_pos (show (2 : Int32) = 2 from rfl), e2, p11_error2]
      exact ⟨_, _, _, _, _, _, _, _, _, _, _, _, _, _, _, rfl, rfl, hE.up (by omega)⟩
    rw [if_pos (show bi _ = 0 by rw [bi_0]; exact o0)]
    rcases p11_reads hN hi4 hH x y rw0 g _ rfl with ⟨k1, row, k2, k3⟩ | ⟨k1, q1, q2, row, k2⟩
    rotate_left
    · exact absurd ok1 k1
    rw [k2, Option.bind_some]
    try dsimp only
    rw [if_neg (show ¬ (1 : Int32) = 0 by decide)]
    have r1 : IsRow row l := fun t ht => by rw [k3 t ht, ← g1 t ht]; exact hl1 t ht
    rcases p11_reads hN hj4 hH x2 y2 rw2 g _ rfl with ⟨m1, row2, m2, m3⟩ | ⟨m1, q1, q2, row2, m2⟩
    rotate_left
    · rcases o2 with ⟨ok2, o3⟩ | ⟨ok2, o3⟩
      · exact absurd ok2 m1
      rw [m2, o3, Option.bind_some, Option.bind_some]
      try dsimp only
      rw [if_pos (show (0 : Int32) = 0 from rfl), if_neg (show ¬ (1 : Int32) = 2 by decide), if_pos (show (0 : Int32) = 0 from rfl), e1, p11_error1]
      exact ⟨_, _, _, _, _, _, _, _, _, _, _, _, _, _, _, rfl, rfl, hE.up (by omega)⟩
    rcases o2 with ⟨ok2, o3⟩ | ⟨ok2, o3⟩
    rotate_left
    · exact absurd m1 ok2
    obtain ⟨l', hl1', hl2', hl3'⟩ := small _ bes' ok2 o1
    have r2 : IsRow row2 l' := fun t ht => by rw [m3 t ht, ← o1 t ht]; exact hl1' t ht
    rw [z99 hl1' hl3'] at o3
    rw [m2, o3, Option.bind_some, Option.bind_some]
    try dsimp only
    rw [if_neg (show ¬ (1 : Int32) = 0 by decide), if_neg (show ¬ (0 : Int32) = 2 by decide), if_pos (show (0 : Int32) = 0 from rfl)]
    unfold f_X12_together_j79
    rw [if_pos (show (0 : Int32) = 0 from rfl), p12_many (by omega), p12_many (by omega), Option.bind_some, Option.bind_some, hl1.sm, hl1'.sm, r1.sm, r2.sm, on_add]
    by_cases hM : nS l + nS l' ≤ 30
    rotate_left
    · have hM' : ¬ (Int32.ofNat (nS l + nS l') ≤ 30) := by rw [le_lit (by omega) (by omega)]; exact hM
      rw [if_neg hM', if_neg hM']
      have := p12_tog107e (N := N) (Int32.ofNat t) (k := 4) (by omega) (by omega) bes' me named pile mrow s told'
      have this : f_X12_together_j107 N (Int32.ofNat t) 4 bes' me named pile mrow s told' = _ := this
      rw [this, p11_error4]
      exact ⟨_, _, _, _, _, _, _, _, _, _, _, _, _, _, _, rfl, rfl, hE.up (by omega)⟩
    have hM' : Int32.ofNat (nS l + nS l') ≤ 30 := by rw [le_lit (by omega) (by omega)]; exact hM
    rw [if_pos hM', if_pos hM']
    unfold f_X12_together_j107
    rw [if_pos (show (0 : Int32) ≤ 0 by decide)]
    have ht4 : t < 4 := by omega
    have s1 := r1.dot (hp.row0 hG)
    have s2 := r2.dot (hp.row0 hG)
    obtain ⟨st1, f1⟩ := p7_paidB hN hT hL ht4 (th := Int32.ofNat (nS l)) rfl s1 (nD_ok hp (by omega)) st
    obtain ⟨st2, f2⟩ := p7_paidB hN hT hL ht4 (th := Int32.ofNat (nS l')) rfl s2 (nD_ok hp (by omega)) st1
    have hlt : nD (fun t => l t + l' t) p < 1000000 := nD_ok hp (by rw [nS_add]; omega)
    obtain ⟨st3, f3⟩ := p7_paidB hN hT hL ht4 (th := Int32.ofNat (nS l + nS l')) (su := dot row (g 0) + dot row2 (g 0)) (l := fun t => l t + l' t) (p := p) (by rw [nS_add]) (by rw [nD_add, s1, s2, on_add]) hlt st2
    obtain ⟨n1, p1, h1⟩ := p12_paid hN hT hL ht4 hl1 hp (nD_ok hp (by omega)) named pile
    obtain ⟨n2, p2, h2⟩ := p12_paid hN hT hL ht4 hl1' hp (nD_ok hp (by omega)) n1 p1
    rw [f1, Option.bind_some]
    try dsimp only
    rw [f2, Option.bind_some]
    try dsimp only
    rw [f3, Option.bind_some]
    obtain ⟨r', w1, w2, -⟩ := p12_tog122 (N := N) told' bes' (fun v5_6 this_row_6 => ((f_X12_paid N (Int32.ofNat t) told' named pile s).bind fun r7 => ((f_X12_paid N (Int32.ofNat t) bes' r7.2.1 r7.2.2 s).bind fun r8 => ((f_X12_paid N (Int32.ofNat t) this_row_6 r8.2.1 r8.2.2 s).bind fun r9 => (some (((r7.1 + r8.1) - r9.1), bes', me, r9.2.1, r9.2.2, this_row_6, told')))))) 8 N 0 mrow (by omega) (by omega)
    have rr : IsRow r' (fun t => l t + l' t) := fun i hi => by rw [w2 i (by omega) hi, hl1 i hi, hl1' i hi, on_add]
    obtain ⟨n3, p3, h3⟩ := p12_paid hN hT hL ht4 rr hp hlt n2 p2
    refine ⟨_, _, _, _, _, _, _, _, _, _, _, _, _, _, _, rfl, w1.trans (show _ = some (PV s ts t l p + PV s ts t l' p - PV s ts t (fun t => l t + l' t) p, bes', me, n3, p3, r', told') from ?_), hE⟩
    try dsimp only
    rw [h1, Option.bind_some]
    try dsimp only
    rw [h2, Option.bind_some]
    try dsimp only
    rw [h3, Option.bind_some]
  · rw [g3, Option.bind_some, Option.bind_some]
    try dsimp only
    rw [if_neg (show ¬ (1 : Int32) = 0 by decide), if_pos (show (1 : Int32) = 1 from rfl), Option.bind_some, if_neg na, Option.bind_some, if_neg nb, Option.bind_some, if_neg nc]
    rcases p12_tells hN hj4 99 mbits msizes mnum bes _ rfl with ⟨o0, o1⟩ | ⟨o0, bes', o1, o2⟩
    · rw [if_neg (show ¬ bi _ = 0 by rw [bi_0]; exact not_not_intro o0), o1, Option.bind_some]
      try dsimp only
      rw [if_pos (show (2 : Int32) = 2 from rfl), e2, p11_error2]
      exact ⟨_, _, _, _, _, _, _, _, _, _, _, _, _, _, _, rfl, rfl, hE.up (by omega)⟩
    rw [if_pos (show bi _ = 0 by rw [bi_0]; exact o0)]
    rcases p11_reads hN hi4 hH x y rw0 g _ rfl with ⟨k1, row, k2, k3⟩ | ⟨k1, q1, q2, row, k2⟩
    · exact absurd k1 ok1
    rw [k2, Option.bind_some]
    try dsimp only
    rw [if_pos (show (0 : Int32) = 0 from rfl), p11_error1, Option.bind_some]
    have hc2 : ∃ c2, c2 ≠ 2 ∧ f_X12_tells N (Int32.ofNat j) 99 bes mbits mnum msizes = some (c2, bes') := by
      rcases o2 with ⟨ok2, o3⟩ | ⟨ok2, o3⟩
      · obtain ⟨l', hl1', hl2', hl3'⟩ := small _ bes' ok2 o1
        rw [z99 hl1' hl3'] at o3
        exact ⟨0, by decide, o3⟩
      · exact ⟨1, by decide, o3⟩
    obtain ⟨c2, hc, o3⟩ := hc2
    rw [o3, Option.bind_some]
    try dsimp only
    rw [if_neg hc, if_neg (show ¬ (1 : Int32) = 0 by decide), e1]
    exact ⟨_, _, _, _, _, _, _, _, _, _, _, _, _, _, _, rfl, rfl, hE.up (by omega)⟩
end PERR
