/-! PURE: draws, together, erring -/
section PDRAW
theorem jushr_nat (x : Int32) : ∃ q, q < 16777216 ∧ jushr x 8 = Int32.ofNat q := by
  refine ⟨(x.toUInt32 >>> (8 : UInt32)).toNat, ?_, ?_⟩
  · rw [UInt32.toNat_shiftRight]
    have h := x.toUInt32.toNat_lt
    rw [show (8 : UInt32).toNat % 32 = 8 from rfl, Nat.shiftRight_eq_div_pow]
    omega
  · unfold jushr
    rw [show ((8 : Int32).toUInt32 &&& Int32.toUInt32 31) = (8 : UInt32) from by decide]
    generalize x.toUInt32 >>> (8 : UInt32) = u
    apply Int32.toBitVec_inj.mp
    simp
/-- one draw, in both; R: what the reference takes the rest of -/
theorem one_ex (N : Nat) {b : Nat} (hb : 0 < b) (hb2 : b < 1000) (z : Int32) : ∃ (z1 R : Int32) (w : Nat), w < b ∧ f_X7_drawn N (Int32.ofNat b) z = some (Int32.ofNat w, z1) ∧ R - R / Int32.ofNat b * Int32.ofNat b = Int32.ofNat w ∧ ∀ s : Nat → Int32, s 5 = z → f_X12_draw N s = some (R, upd s 5 z1) := by
  obtain ⟨q, hq, e⟩ := jushr_nat (z * (1103515245 : Int32) + (12345 : Int32))
  have er : Int32.ofNat q - Int32.ofNat q / Int32.ofNat b * Int32.ofNat b = Int32.ofNat (q % b) := on_rem (by omega) (by omega)
  refine ⟨z * (1103515245 : Int32) + (12345 : Int32), Int32.ofNat q, q % b, Nat.mod_lt _ hb, ?_, er, fun s hs => ?_⟩
  rotate_left
  · unfold f_X12_draw
    rw [show (5 : Int32).toNatClampNeg = 5 from rfl, upd_at, hs, e]
  · unfold f_X7_drawn
    simp (disch := omega) only [le_lit, eq_lit]
    rw [if_neg (by omega), if_pos (by omega), e, er]
def z8 (r : Nat → Int32) : Nat → Int32 := upd (upd (upd (upd (upd (upd (upd (upd r 0 0) 1 0) 2 0) 3 0) 4 0) 5 0) 6 0) 7 0
theorem z8_at (r : Nat → Int32) {t : Nat} (ht : t < 8) : z8 r t = 0 := by
  unfold z8
  simp only [upd]
  have : t = 0 ∨ t = 1 ∨ t = 2 ∨ t = 3 ∨ t = 4 ∨ t = 5 ∨ t = 6 ∨ t = 7 := by omega
  rcases this with rfl | rfl | rfl | rfl | rfl | rfl | rfl | rfl <;> simp
theorem p12_draws28 {N : Nat} (h : 9 ≤ N) (K : Int32 → (Nat → Int32) → Option (Int32 × (Nat → Int32) × (Nat → Int32) × (Nat → Int32) × (Nat → Int32) × (Nat → Int32))) (r : Nat → Int32) : f_X12_draws_28 N K N 0 r = K 8 (z8 r) := by
  obtain ⟨M, rfl⟩ := N_of N h
  simp [f_X12_draws_28, z8, v8_0, v8_1, v8_2, v8_3, v8_4, v8_5, v8_6, v8_7]
theorem p0_clear2 {N : Nat} (h : 9 ≤ N) (a b : Int32) (r : Nat → Int32) : f_X0_clear N a b r = some (0, 0, z8 r) := by
  obtain ⟨M, rfl⟩ := N_of N h
  simp [f_X0_clear, f_X0_clear_2, z8, v8_0, v8_1, v8_2, v8_3, v8_4, v8_5, v8_6, v8_7]
theorem nS_one {w n : Nat} (hw : w < 8) : nS (fun t => if t = w then n else 0) = n := by
  unfold nS
  have : w = 0 ∨ w = 1 ∨ w = 2 ∨ w = 3 ∨ w = 4 ∨ w = 5 ∨ w = 6 ∨ w = 7 := by omega
  rcases this with rfl | rfl | rfl | rfl | rfl | rfl | rfl | rfl <;> simp
theorem IsRow.one {r : Nat → Int32} (h : ∀ t, t < 8 → r t = 0) (w n : Nat) : IsRow (upd r w (Int32.ofNat n)) (fun t => if t = w then n else 0) := by
  intro t ht
  show upd r w (Int32.ofNat n) t = Int32.ofNat (if t = w then n else 0)
  by_cases e : t = w
  · subst e; rw [upd_at, if_pos rfl]
  · rw [upd_ne _ _ e, if_neg e, h t ht]; rfl
abbrev rwD (r : Nat → Int32) (w m : Nat) : Nat → Int32 := upd (z8 r) w (Int32.ofNat (m + 1))
theorem draw11 {N : Nat} (hN : 100 ≤ N) {c y n : Nat} (hy : y < c) (hc : c ≤ 60) {w m t : Nat} {z1 z2 z3 : Int32} (pl : Int32) (pc : Nat → Int32) (k0 k1 k2 k3 : Nat) (tn tm : Nat → Int32) (K : Int32 → Int32 → Int32 → Int32 → (Nat → Int32) → Int32 → Int32 → Int32 → Int32 → (Nat → Nat → Int32) → (Nat → Int32) → Option (Int32 × (Nat → Int32) × (Int32) × (Int32) × (Nat → Int32) × (Int32) × (Int32) × (Int32) × (Int32) × (Nat → Nat → Int32) × (Nat → Int32))) (v th su : Int32) (row : Nat → Int32) (tk cs go z : Int32) (g : Nat → Nat → Int32) (st : Nat → Int32)
    (hw : w < 8) (h1 : f_X7_drawn N (8 : Int32) z = some (Int32.ofNat w, z1)) (h2 : f_X7_drawn N (4 : Int32) z1 = some (Int32.ofNat m, z2)) (h3 : f_X7_drawn N (4 : Int32) z2 = some (Int32.ofNat t, z3)) :
    f_X11_draws_20 N (Int32.ofNat c) pl pc k0 k1 k2 k3 tn tm K (n + 1) v (Int32.ofNat y) th su row tk cs go z g st =
      (f_X7_hasStock N (rwD row w m) g).bind fun r10 => if r10 = 0 then f_X11_draws_20 N (Int32.ofNat c) pl pc k0 k1 k2 k3 tn tm K n v (Int32.ofNat (y + 1)) (sm8 (rwD row w m)) (dot (rwD row w m) (g 0)) (rwD row w m) tk cs go z3 g st
        else (f_X7_sold N (Int32.ofNat t) (sm8 (rwD row w m)) (dot (rwD row w m) (g 0)) (rwD row w m) tk cs go g pl pc st k0 k1 k2 k3 tn tm).bind fun r12 => f_X11_draws_20 N (Int32.ofNat c) pl pc k0 k1 k2 k3 tn tm K n (v + 1) (Int32.ofNat (y + 1)) (sm8 (rwD row w m)) (dot (rwD row w m) (g 0)) (rwD row w m) r12.2.1 r12.2.2.1 r12.2.2.2.1 z3 r12.2.2.2.2.1 r12.2.2.2.2.2 := by
  have hle : ¬ (Int32.ofNat c ≤ Int32.ofNat y) := by rw [on_le (by omega) (by omega)]; omega
  have hv : vin (Int32.ofNat w) 8 = true := of_eq_true (on_vin (by omega) (by omega))
  rw [f_X11_draws_20, if_neg hle]
  rw [h1, Option.bind_some]
  try dsimp only
  rw [h2, Option.bind_some]
  try dsimp only
  rw [h3, Option.bind_some]
  try dsimp only
  rw [p0_clear2 (show 9 ≤ N by omega), Option.bind_some]
  try dsimp only
  rw [if_pos hv, on_tn (k := w) (by omega), show Int32.ofNat m + (1 : Int32) = Int32.ofNat (m + 1) from add_lit 1 _, show Int32.ofNat y + (1 : Int32) = Int32.ofNat (y + 1) from add_lit 1 y]
  rw [p0_add (show 9 ≤ N by omega), Option.bind_some]
theorem draw12 {N : Nat} (hN : 100 ≤ N) {c y n : Nat} (hy : y < c) (hc : c ≤ 60) {w m t : Nat} {R1 R2 R3 : Int32} {s1 s2 s3 : Nat → Int32} (K : Int32 → Int32 → (Nat → Int32) → (Nat → Int32) → (Nat → Int32) → (Nat → Int32) → Option (Int32 × (Nat → Int32) × (Nat → Int32) × (Nat → Int32) × (Nat → Int32) × (Nat → Int32))) (v : Int32) (named pile s told : Nat → Int32)
    (hw : w < 8) (h1 : f_X12_draw N s = some (R1, s1)) (h2 : f_X12_draw N s1 = some (R2, s2)) (h3 : f_X12_draw N s2 = some (R3, s3)) (e1 : R1 - R1 / (8 : Int32) * (8 : Int32) = Int32.ofNat w) (e2 : R2 - R2 / (4 : Int32) * (4 : Int32) = Int32.ofNat m) (e3 : R3 - R3 / (4 : Int32) * (4 : Int32) = Int32.ofNat t) :
    f_X12_draws_20 N (Int32.ofNat c) K (n + 1) v (Int32.ofNat y) named pile s told =
      (f_X12_isInStock N (rwD told w m) s3).bind fun r11 => if r11 = 0 then f_X12_draws_20 N (Int32.ofNat c) K n v (Int32.ofNat (y + 1)) named pile s3 (rwD told w m)
        else (f_X12_goes N (Int32.ofNat t) (rwD told w m) named pile s3).bind fun r13 => f_X12_draws_20 N (Int32.ofNat c) K n (v + 1) (Int32.ofNat (y + 1)) r13.2.1 r13.2.2.1 r13.2.2.2 (rwD told w m) := by
  have hle : ¬ (Int32.ofNat c ≤ Int32.ofNat y) := by rw [on_le (by omega) (by omega)]; omega
  have hv : vin (Int32.ofNat w) 8 = true := of_eq_true (on_vin (by omega) (by omega))
  rw [f_X12_draws_20, if_neg hle, p12_draws28 (by omega)]
  try dsimp only
  rw [h1, Option.bind_some]
  try dsimp only
  rw [h2, Option.bind_some]
  try dsimp only
  rw [e1, if_pos hv, h3, Option.bind_some]
  try dsimp only
  rw [e2, e3, on_tn (k := w) (by omega), show Int32.ofNat m + (1 : Int32) = Int32.ofNat (m + 1) from add_lit 1 _, show Int32.ofNat y + (1 : Int32) = Int32.ofNat (y + 1) from add_lit 1 y]
theorem pm_drawsL {N : Nat} (hN : 100 ≤ N) {c : Nat} (hc : c ≤ 60) {k0 k1 k2 k3 : Nat} {tn tm pc : Nat → Int32} {pl : Int32} {ts : List Tok} (ce me : Nat → Int32) :
    ∀ (d n n' y v : Nat) (th su : Int32) (row : Nat → Int32) (tk cs go z : Int32) (g : Nat → Nat → Int32) (st named pile s told : Nat → Int32), y + d = c → d < n → d < n' → GR g s → TR k0 k1 k2 k3 tn tm s → LRt 0 ts pl pc s → MR tk cs go z s →
    ∃ v' th' su' row' tk' cs' go' z' g' st' named' pile' s' told', f_X11_draws_20 N (Int32.ofNat c) pl pc k0 k1 k2 k3 tn tm (fun v2_13 v3_13 this_one_things_13 this_one_sum_13 this_one_row_13 this_shop_takings_13 this_shop_costs_13 this_shop_goes_13 this_shop_z_13 this_shop_goods_13 this_shop_paysLaw_stack_13 => (some (v2_13, ce, this_one_things_13, this_one_sum_13, this_one_row_13, this_shop_takings_13, this_shop_costs_13, this_shop_goes_13, this_shop_z_13, this_shop_goods_13, this_shop_paysLaw_stack_13))) n (Int32.ofNat v) (Int32.ofNat y) th su row tk cs go z g st = some (v', ce, th', su', row', tk', cs', go', z', g', st') ∧
      f_X12_draws_20 N (Int32.ofNat c) (fun v2_17 v3_17 this_named_17 this_pile_17 this_s_17 this_told_17 => (some (v2_17, me, this_named_17, this_pile_17, this_s_17, this_told_17))) n' (Int32.ofNat v) (Int32.ofNat y) named pile s told = some (v', me, named', pile', s', told') ∧ GR g' s' ∧ MR tk' cs' go' z' s' ∧ ∀ i, 3 ≤ i → i ≠ 5 → (i < 24 ∨ 32 ≤ i) → s' i = s i := by
  intro d
  induction d with
  | zero =>
    intro n n' y v th su row tk cs go z g st named pile s told hy hn hn' hG hT hL hM
    obtain ⟨n, rfl⟩ : ∃ m, n = m + 1 := ⟨n - 1, by omega⟩
    obtain ⟨n', rfl⟩ : ∃ m, n' = m + 1 := ⟨n' - 1, by omega⟩
    have : y = c := by omega
    subst this
    refine ⟨Int32.ofNat v, th, su, row, tk, cs, go, z, g, st, named, pile, s, told, ?_, ?_, hG, hM, fun _ _ _ _ => rfl⟩
    · rw [f_X11_draws_20, if_pos (Int32.le_refl _)]
    · rw [f_X12_draws_20, if_pos (Int32.le_refl _)]
  | succ d ih =>
    intro n n' y v th su row tk cs go z g st named pile s told hy hn hn' hG hT hL hM
    obtain ⟨n, rfl⟩ : ∃ m, n = m + 1 := ⟨n - 1, by omega⟩
    obtain ⟨n', rfl⟩ : ∃ m, n' = m + 1 := ⟨n' - 1, by omega⟩
    have hz : z = s 5 := hM.2.2.2.1
    obtain ⟨z1, R1, w, hw8, d1, e1, f1⟩ := one_ex N (b := 8) (by omega) (by omega) z
    obtain ⟨z2, R2, m, hm4, d2, e2, f2⟩ := one_ex N (b := 4) (by omega) (by omega) z1
    obtain ⟨z3, R3, t, ht4, d3, e3, f3⟩ := one_ex N (b := 4) (by omega) (by omega) z2
    have g1 := f1 s hz.symm
    have g2 := f2 (upd s 5 z1) (upd_at _ _ _)
    have g3 := f3 (upd (upd s 5 z1) 5 z2) (upd_at _ _ _)
    rw [draw11 hN (by omega) hc (z := z) (hw := hw8) (h1 := d1) (h2 := d2) (h3 := d3), draw12 hN (by omega) hc (hw := hw8) (h1 := g1) (h2 := g2) (h3 := g3) (e1 := e1) (e2 := e2) (e3 := e3)]
    have r1' := IsRow.one (r := z8 row) (fun t ht => z8_at row ht) w (m + 1)
    have r2' := IsRow.one (r := z8 told) (fun t ht => z8_at told ht) w (m + 1)
    generalize hra : rwD row w m = ra
    generalize hrb : rwD told w m = rb
    have r1 : IsRow ra (fun t => if t = w then m + 1 else 0) := hra ▸ r1'
    have r2 : IsRow rb (fun t => if t = w then m + 1 else 0) := hrb ▸ r2'
    clear r1' r2' hra hrb d1 d2 d3 g1 g2 g3 e1 e2 e3 f1 f2 f3
    generalize hs1 : upd (upd (upd s 5 z1) 5 z2) 5 z3 = s1
    have hs1' : ∀ i, i ≠ 5 → s1 i = s i := fun i hi => by rw [← hs1, upd_ne _ _ hi, upd_ne _ _ hi, upd_ne _ _ hi]
    have hs5 : s1 5 = z3 := by rw [← hs1, upd_at]
    have hG1 : GR g s1 := hG.frame (fun j h1 h2 => hs1' j (by omega))
    have hT1 : TR k0 k1 k2 k3 tn tm s1 := hT.frame (fun j h1 h2 => hs1' j (by omega))
    have hL1 : LRt 0 ts pl pc s1 := hL.frame (fun j h1 h2 => hs1' j (by omega))
    have hM1 : MR tk cs go z3 s1 := by
      obtain ⟨m1, m2, m3, m4, m5, m6, m7⟩ := hM
      exact ⟨by rw [hs1' 1 (by omega)]; exact m1, by rw [hs1' 2 (by omega)]; exact m2, by rw [hs1' 0 (by omega)]; exact m3, hs5.symm, by rw [hs1' 1 (by omega)]; exact m5, by rw [hs1' 2 (by omega)]; exact m6, by rw [hs1' 0 (by omega)]; exact m7⟩
    have hB : BK (sm8 ra) (dot ra (g 0)) ra rb (fun t => if t = w then m + 1 else 0) (g 0) := ⟨r1, r2, fun t _ => by show (if t = w then m + 1 else 0) ≤ 9; split <;> omega, r1.sm, rfl⟩
    have hrt : ∀ i, i < 8 → ra i = rb i := fun i hi => by rw [r1 i hi, r2 i hi]
    rcases pm_stock hN hrt hG1 with ⟨x1, x2, x3⟩ | ⟨x1, x2⟩
    · rw [x1, x2]
      rw [Option.bind_some, Option.bind_some]
      rw [if_neg (show ¬ (1 : Int32) = 0 by decide), if_neg (show ¬ (1 : Int32) = 0 by decide)]
      obtain ⟨x, tk', cs', go', g', st', named', pile', s', f1, f2, f3, f4, f5⟩ := pm_goes hN hG1 hT1 hL1 hM1 ht4 hB (by rw [nS_one hw8]; omega) x3 st named pile
      rw [f1, f2, Option.bind_some, Option.bind_some]
      try dsimp only
      rw [show Int32.ofNat v + (1 : Int32) = Int32.ofNat (v + 1) from add_lit 1 v]
      obtain ⟨v', th', su', row', tk2, cs2, go2, z2', g2, st2, named2, pile2, s2, told2, x1, x2, x3, x4, x5⟩ := ih n n' (y + 1) (v + 1) (sm8 ra) (dot ra (g 0)) ra tk' cs' go' z3 g' st' named' pile' s' rb (by omega) (by omega) (by omega) f3 (hT1.frame (fun j h1 h2 => f5 j (by omega) (by omega))) (hL1.frame (fun j h1 h2 => f5 j (by omega) (by omega))) f4
      exact ⟨v', th', su', row', tk2, cs2, go2, z2', g2, st2, named2, pile2, s2, told2, x1, x2, x3, x4, fun i h1 h2 h3 => by rw [x5 i h1 h2 h3, f5 i h1 h3, hs1' i h2]⟩
    · rw [x1, x2]
      rw [Option.bind_some, Option.bind_some, if_pos rfl, if_pos rfl]
      obtain ⟨v', th', su', row', tk2, cs2, go2, z2', g2, st2, named2, pile2, s2, told2, x1, x2, x3, x4, x5⟩ := ih n n' (y + 1) v (sm8 ra) (dot ra (g 0)) ra tk cs go z3 g st named pile s1 rb (by omega) (by omega) (by omega) hG1 hT1 hL1 hM1
      exact ⟨v', th', su', row', tk2, cs2, go2, z2', g2, st2, named2, pile2, s2, told2, x1, x2, x3, x4, fun i h1 h2 h3 => by rw [x5 i h1 h2 h3, hs1' i h2]⟩
theorem pm_draws {N : Nat} (hN : 100 ≤ N) (a : Int32) {k0 k1 k2 k3 : Nat} {tn tm s ce me pc : Nat → Int32} {pl tk cs go z : Int32} {g : Nat → Nat → Int32} (hE : ER ce me) (hG : GR g s) (hT : TR k0 k1 k2 k3 tn tm s) (hL : LR 0 pl pc s) (hM : MR tk cs go z s) (x y : Int32) (rw0 told st named pile : Nat → Int32) :
    ∃ v ce' x' y' rw' tk' cs' go' z' g' st' me' named' pile' s' told', f_X11_draws N a ce x y rw0 tk cs go z g pl pc st k0 k1 k2 k3 tn tm = some (v, ce', x', y', rw', tk', cs', go', z', g', st') ∧ f_X12_draws N a me named pile s told = some (v, me', named', pile', s', told') ∧ ER ce' me' ∧ GR g' s' ∧ MR tk' cs' go' z' s' ∧ ∀ i, 3 ≤ i → i ≠ 5 → (i < 24 ∨ 32 ≤ i) → s' i = s i := by
  obtain ⟨ts, hL⟩ := hL
  unfold f_X11_draws f_X12_draws
  simp only [p11_within, p12_in, Option.bind_some, bi_0, p11_error1, p12_error1]
  by_cases h2 : 1 ≤ a ∧ a ≤ 60
  · rw [if_neg (not_not_intro h2), if_neg (not_not_intro h2)]
    obtain ⟨c, hc, rfl⟩ := in_nat (b := 60) (x := a) ⟨Int32.le_trans (by decide) h2.1, h2.2⟩ (by omega)
    obtain ⟨v', th', su', row', tk2, cs2, go2, z2', g2, st2, named2, pile2, s2, told2, x1, x2, x3, x4, x5⟩ := pm_drawsL hN hc ce me c N N 0 0 x y rw0 tk cs go z g st named pile s told (by omega) (by omega) (by omega) hG hT hL hM
    exact ⟨v', _, _, _, _, _, _, _, _, _, _, _, _, _, _, _, x1, x2, hE, x3, x4, x5⟩
  · rw [if_pos h2, if_pos h2]
    exact ⟨_, _, _, _, _, _, _, _, _, _, _, _, _, _, _, _, rfl, rfl, hE.up (by omega), hG, hM, fun _ _ _ _ => rfl⟩
end PDRAW
