/-! PURE: prices, counts, tapes, tills -/
section PTILL
theorem p12_prices30 {N : Nat} {j q : Nat} (hj : j < 4) (hq : q ≤ 24) {bits lens mbits msizes mnum : Nat → Int32} {nums : Nat → Nat → Int32} (hH : HR bits lens nums mbits msizes mnum) (hs : msizes j = Int32.ofNat q) (ce me : Nat → Int32) : ∀ (d n n' y : Nat) (g : Nat → Nat → Int32) (s : Nat → Int32), y + d = min q 8 → d < n → d < n' → GR g s →
    ∃ v g' s', f_X11_prices_41 N (Int32.ofNat j) (Int32.ofNat (min q 8)) ce nums (fun v3_16 this_shop_goods_16 => (some (Int32.ofNat (min q 8), ce, this_shop_goods_16))) n (Int32.ofNat y) g = some (v, ce, g') ∧ f_X12_prices_30 N (Int32.ofNat j) mnum msizes (fun v2_13 this_s_13 => (some (v2_13, me, this_s_13))) n' (Int32.ofNat y) s = some (v, me, s') ∧ GR g' s' ∧ ∀ k, k < 8 ∨ 32 ≤ k → s' k = s k := by
  intro d
  induction d with
  | zero =>
    intro n n' y g s hy hn hn' hG
    obtain ⟨n, rfl⟩ : ∃ m, n = m + 1 := ⟨n - 1, by omega⟩
    obtain ⟨n', rfl⟩ : ∃ m, n' = m + 1 := ⟨n' - 1, by omega⟩
    have hy' : y = min q 8 := by omega
    subst hy'
    refine ⟨Int32.ofNat (min q 8), g, s, ?_, ?_, hG, fun _ _ => rfl⟩
    · rw [f_X11_prices_41, if_pos (Int32.le_refl _)]
    · rw [f_X12_prices_30]
      simp (disch := omega) only [on_vin, on_tn, if_true, hs, on_le, lit_le]
      by_cases h : q ≤ min q 8
      · rw [if_pos h]
      · rw [if_neg h, if_pos (by omega)]
  | succ d ih =>
    intro n n' y g s hy hn hn' hG
    obtain ⟨n, rfl⟩ : ∃ m, n = m + 1 := ⟨n - 1, by omega⟩
    obtain ⟨n', rfl⟩ : ∃ m, n' = m + 1 := ⟨n' - 1, by omega⟩
    obtain ⟨b, hb, hb2⟩ := p11_isGood N (w := 0) (by omega) (nums j y)
    have hb : f_X11_isGood N 0 (nums j y) = some b := hb
    have hnum := hH.2 j y hj (by omega)
    rw [f_X11_prices_41, f_X12_prices_30]
    simp (disch := omega) only [on_le, on_vin, on_tn, if_true, hb, Option.bind_some, hb2, hs, lit_le, lit_mul, lit_add, on_add, p12_in, bi_0, add_lit, ← hnum]
    rw [if_neg (show ¬ min q 8 ≤ y by omega), if_neg (show ¬ q ≤ y by omega), if_neg (show ¬ 8 ≤ y by omega)]
    by_cases hg : gdV 0 (nums j y)
    · have hg1 := hg.1 rfl
      rw [if_neg (not_not_intro hg), if_neg (not_not_intro hg1)]
      have := hG.set (w := 0) (t := y) (by omega) (by omega) hg
      rw [show 8 + 8 * 0 + y = 8 + y by omega] at this
      obtain ⟨v, g', s', h1, h2, h3, h4⟩ := ih n n' (y + 1) _ _ (by omega) (by omega) (by omega) this
      exact ⟨v, g', s', h1, h2, h3, fun k hk => by rw [h4 k hk, upd_ne _ _ (by omega)]⟩
    · have hg1 : ¬ (1 ≤ nums j y ∧ nums j y ≤ 9999) := fun h => hg ⟨fun _ => h, fun h => by omega, fun h => by omega⟩
      rw [if_pos hg, if_pos hg1]
      exact ⟨_, _, _, rfl, rfl, hG, fun _ _ => rfl⟩
theorem pm_prices {N : Nat} (hN : 100 ≤ N) (a : Int32) {ce me bits lens mbits msizes mnum s : Nat → Int32} {g nums : Nat → Nat → Int32} (hE : ER ce me) (hH : HR bits lens nums mbits msizes mnum) (hG : GR g s) :
    ∃ v ce' g' me' s', f_X11_prices N a ce bits lens nums g = some (v, ce', g') ∧ f_X12_prices N a mbits me mnum s msizes = some (v, me', s') ∧ ER ce' me' ∧ GR g' s' ∧ ∀ k, k < 8 ∨ 32 ≤ k → s' k = s k := by
  unfold f_X11_prices f_X12_prices
  simp only [p11_isSheet, p12_isSheet, Option.bind_some, bi_0, p11_error1, p12_error1, p11_error2, p12_error2]
  by_cases h1 : 0 ≤ a ∧ a ≤ 3
  rotate_left
  · rw [if_pos h1, if_pos h1]
    exact ⟨_, _, _, _, _, rfl, rfl, hE.up (by omega), hG, fun _ _ => rfl⟩
  rw [if_neg (not_not_intro h1), if_neg (not_not_intro h1)]
  obtain ⟨j, hj, rfl⟩ := in_nat (b := 3) h1 (by omega)
  have hj4 : j < 4 := by omega
  obtain ⟨q, hq, e1, e2, e3⟩ := hH.nat hj4
  simp (disch := omega) only [p11_isMissing N hj4, Option.bind_some, bi_0, on_vin, on_tn, if_true, e1, e3]
  by_cases h3 : mbits j = 0
  · rw [if_neg (not_not_intro h3), if_pos h3]
    exact ⟨_, _, _, _, _, rfl, rfl, hE.up (by omega), hG, fun _ _ => rfl⟩
  rw [if_pos h3, if_neg h3]
  have hmin : (if Int32.ofNat q < 8 then Int32.ofNat q else 8) = Int32.ofNat (min q 8) := by
    simp (disch := omega) only [lt_lit]
    by_cases h : q < 8
    · rw [if_pos h, Nat.min_eq_left (by omega)]
    · rw [if_neg h, Nat.min_eq_right (by omega)]; rfl
  rw [hmin]
  obtain ⟨v, g', s', h5, h6, h7, h8⟩ := p12_prices30 (N := N) hj4 hq hH e2 ce me (min q 8) N N 0 g s (by omega) (by omega) (by omega) hG
  exact ⟨v, ce, g', me, s', h5, h6, hE, h7, h8⟩
theorem p7_stockOfAll {N : Nat} (h : 9 ≤ N) (g : Nat → Nat → Int32) : f_X7_stockOfAll N g = some (sm8 (g 2)) := by
  obtain ⟨M, rfl⟩ := N_of N h
  simp [f_X7_stockOfAll, f_X7_stockOfAll_4, sm8, v8_0, v8_1, v8_2, v8_3, v8_4, v8_5, v8_6, v8_7]
theorem p12_count4 {N : Nat} (h : 9 ≤ N) (s : Nat → Int32) (K : Int32 → Int32 → Option (Int32 × (Nat → Int32))) : f_X12_count_4 N s K N 0 0 = K (sm8 (fun t => s (24 + t))) 8 := by
  obtain ⟨M, rfl⟩ := N_of N h
  simp (disch := omega) [f_X12_count_4, sm8, lit_vin]
theorem pm_count {N : Nat} (hN : 100 ≤ N) (a : Int32) {ce me s tape waiting bodies mtrace : Nat → Int32} {g : Nat → Nat → Int32} {tk cs go z fed waits len traced : Int32} (hE : ER ce me) (hG : GR g s) (hM : MR tk cs go z s) (hF : FR fed tape s) (hW : WR waits waiting s) (hC : CR len bodies traced mtrace) :
    ∃ v ce' me', f_X11_count N a ce tk cs go z fed waits g len = some (v, ce') ∧ f_X12_count N a traced me s = some (v, me') ∧ ER ce' me' := by
  unfold f_X11_count f_X12_count
  rw [p12_count4 (by omega), p7_stockOfAll (by omega)]
  obtain ⟨h1, h2, h3, h4, -⟩ := hM
  obtain ⟨h5, -⟩ := hF
  obtain ⟨h6, -⟩ := hW
  obtain ⟨h7, -⟩ := hC
  have hst : sm8 (g 2) = sm8 (fun t => s (24 + t)) := sm8_congr (fun t ht => by rw [hG.1 2 t (by omega) ht])
  rw [h1, h2, h3, h4, h5, h6, h7, hst]
  simp only [p11_error1, p12_error1, Option.bind_some]
  by_cases k0 : a = 0
  · rw [if_pos k0, if_pos k0]; exact ⟨_, _, _, rfl, rfl, hE⟩
  rw [if_neg k0, if_neg k0]
  by_cases k1 : a = 1
  · rw [if_pos k1, if_pos k1]; exact ⟨_, _, _, rfl, rfl, hE⟩
  rw [if_neg k1, if_neg k1]
  by_cases k2 : a = 2
  · rw [if_pos k2, if_pos k2]; exact ⟨_, _, _, rfl, rfl, hE⟩
  rw [if_neg k2, if_neg k2]
  by_cases k3 : a = 3
  · rw [if_pos k3, if_pos k3]; exact ⟨_, _, _, rfl, rfl, hE⟩
  rw [if_neg k3, if_neg k3]
  by_cases k4 : a = 4
  · rw [if_pos k4, if_pos k4]; exact ⟨_, _, _, rfl, rfl, hE⟩
  rw [if_neg k4, if_neg k4]
  by_cases k5 : a = 5
  · rw [if_pos k5, if_pos k5]; exact ⟨_, _, _, rfl, rfl, hE⟩
  rw [if_neg k5, if_neg k5]
  by_cases k6 : a = 6
  · rw [if_pos k6, if_pos k6]; exact ⟨_, _, _, rfl, rfl, hE⟩
  rw [if_neg k6, if_neg k6]
  by_cases k7 : a = 7
  · rw [if_pos k7, if_pos k7]; exact ⟨_, _, _, rfl, rfl, hE⟩
  rw [if_neg k7, if_neg k7]
  exact ⟨_, _, _, rfl, rfl, hE.up (by omega)⟩
theorem pm_feedL {N : Nat} (x : Int64) {c f : Nat} (hc : c ≤ 8) (hf : f + c ≤ 60) (ce me : Nat → Int32) : ∀ (d n n' y : Nat) (tape s : Nat → Int32), y + d = c → d < n → d < n' → s 3 = Int32.ofNat (f + y) → (∀ j, j < 60 → tape j = s (290 + j)) →
    ∃ tape' s', f_X11_feed_39 N x (Int32.ofNat c) (Int32.ofNat f) (fun v4_6 this_shop_tape_6 => (some ((Int32.ofNat f + Int32.ofNat c), ce, (Int32.ofNat f + Int32.ofNat c), this_shop_tape_6))) n (Int32.ofNat y) tape = some (Int32.ofNat (f + c), ce, Int32.ofNat (f + c), tape') ∧ f_X12_feed_38 N x (Int32.ofNat c) (fun v4_6 this_s_6 => (some ((this_s_6 (3 : Int32).toNatClampNeg), me, this_s_6))) n' (Int32.ofNat y) s = some (Int32.ofNat (f + c), me, s') ∧ s' 3 = Int32.ofNat (f + c) ∧ (∀ j, j < 60 → tape' j = s' (290 + j)) ∧ ∀ k, k ≠ 3 → (k < 290 ∨ 350 ≤ k) → s' k = s k := by
  intro d
  induction d with
  | zero =>
    intro n n' y tape s hy hn hn' h3 ht
    obtain ⟨n, rfl⟩ : ∃ m, n = m + 1 := ⟨n - 1, by omega⟩
    obtain ⟨n', rfl⟩ : ∃ m, n' = m + 1 := ⟨n' - 1, by omega⟩
    have hy' : y = c := by omega
    subst hy'
    refine ⟨tape, s, ?_, ?_, h3, ht, fun _ _ _ => rfl⟩
    · rw [f_X11_feed_39, if_pos (Int32.le_refl _), on_add]
    · rw [f_X12_feed_38, if_pos (Int32.le_refl _)]
      show some (s 3, me, s) = _
      rw [h3]
  | succ d ih =>
    intro n n' y tape s hy hn hn' h3 ht
    obtain ⟨n, rfl⟩ : ∃ m, n = m + 1 := ⟨n - 1, by omega⟩
    obtain ⟨n', rfl⟩ : ∃ m, n' = m + 1 := ⟨n' - 1, by omega⟩
    have hb := bits8 x (y := y) (by omega)
    rw [f_X11_feed_39, f_X12_feed_38, show (3 : Int32).toNatClampNeg = 3 from rfl, h3, hb]
    generalize (((x >>> (((8 : Int32) * Int32.ofNat y).toInt64 &&& (63 : Int64))) &&& (255 : Int64)).toInt32) = b
    have hnle : ¬ (Int32.ofNat c ≤ Int32.ofNat y) := by rw [on_le (by omega) (by omega)]; omega
    rw [if_neg hnle, if_neg hnle]
    have i1 : Int32.ofNat f + Int32.ofNat y = Int32.ofNat (f + y) := on_add _ _
    have i2 : (290 : Int32) + Int32.ofNat (f + y) = Int32.ofNat (290 + (f + y)) := lit_add 290 (f + y)
    rw [i1, i2, if_pos (of_eq_true (on_vin (k := f + y) (by omega) (by omega))), if_pos (of_eq_true (on_vin (k := 290 + (f + y)) (by omega) (by omega))), on_tn (k := f + y) (by omega), on_tn (k := 290 + (f + y)) (by omega)]
    have h31 : upd s (290 + (f + y)) b 3 = Int32.ofNat (f + y) := by rw [upd_ne _ _ (by omega)]; exact h3
    rw [h31, show Int32.ofNat y + 1 = Int32.ofNat (y + 1) from add_lit 1 y, show Int32.ofNat (f + y) + 1 = Int32.ofNat (f + (y + 1)) from add_lit 1 (f + y)]
    obtain ⟨tape', s', k1, k2, k3, k4, k5⟩ := ih n n' (y + 1) (upd tape (f + y) b) (upd (upd s (290 + (f + y)) b) 3 (Int32.ofNat (f + (y + 1)))) (by omega) (by omega) (by omega) (upd_at _ _ _) (fun j hj => by
      rw [upd_ne (upd s _ _) _ (by omega)]
      by_cases e : j = f + y
      · subst e; rw [upd_at, upd_at]
      · rw [upd_ne _ _ e, upd_ne _ _ (by omega)]; exact ht j hj)
    refine ⟨tape', s', k1, k2, k3, k4, fun k h6 h7 => ?_⟩
    rw [k5 k h6 h7, upd_ne _ _ h6, upd_ne _ _ (by omega)]
theorem pm_feed {N : Nat} (hN : 100 ≤ N) (x : Int64) (a : Int32) {ce me tape s : Nat → Int32} {fed : Int32} (hE : ER ce me) (hF : FR fed tape s) : ∃ v ce' f' t' me' s', f_X11_feed N x a ce fed tape = some (v, ce', f', t') ∧ f_X12_feed N x a me s = some (v, me', s') ∧ ER ce' me' ∧ FR f' t' s' ∧ ∀ k, k ≠ 3 → (k < 290 ∨ 350 ≤ k) → s' k = s k := by
  obtain ⟨rfl, h2, h3⟩ := hF
  obtain ⟨f, hf, e⟩ := in_nat (b := 60) h2 (by omega)
  unfold f_X11_feed f_X12_feed
  simp only [p11_within, p12_in, Option.bind_some, bi_0, p11_error1, p12_error1, p11_error4, p12_error4]
  by_cases h1 : 1 ≤ a ∧ a ≤ 8
  rotate_left
  · rw [if_pos h1, if_pos h1]
    exact ⟨_, _, _, _, _, _, rfl, rfl, hE.up (by omega), ⟨rfl, h2, h3⟩, fun _ _ _ => rfl⟩
  rw [if_neg (not_not_intro h1), if_neg (not_not_intro h1)]
  obtain ⟨c, hc, rfl⟩ := in_nat (b := 8) (x := a) ⟨Int32.le_trans (by decide) h1.1, h1.2⟩ (by omega)
  rw [show (3 : Int32).toNatClampNeg = 3 from rfl, e, on_add]
  simp (disch := omega) only [le_lit]
  by_cases h4 : f + c ≤ 60
  · rw [if_pos h4, if_pos h4]
    obtain ⟨tape', s', k1, k2, k3, k4, k5⟩ := pm_feedL (N := N) x hc h4 ce me c N N 0 tape s (by omega) (by omega) (by omega) (by rw [Nat.add_zero]; exact e) h3
    rw [on_add] at k1
    refine ⟨_, _, _, _, _, _, k1, k2, hE, ⟨k3.symm, ?_, k4⟩, k5⟩
    rw [k3, lit_le (by omega) (by omega), le_lit (by omega) (by omega)]
    omega
  · rw [if_neg h4, if_neg h4]
    exact ⟨_, _, _, _, _, _, rfl, rfl, hE.up (by omega), ⟨e.symm, h2, h3⟩, fun _ _ _ => rfl⟩
/-- what kind() answers -/
def kdE (N k : Nat) : Option Int32 := (if k = 8 then ((f_X8_kind N).bind fun q8 => some q8) else (if k = 1 then ((f_X1_kind N).bind fun q8 => some q8) else (if k = 2 then ((f_X2_kind N).bind fun q8 => some q8) else (if k = 3 then ((f_X3_kind N).bind fun q8 => some q8) else (if k = 5 then ((f_X5_kind N).bind fun q8 => some q8) else (if k = 6 then ((f_X6_kind N).bind fun q8 => some q8) else (if k = 9 then ((f_X9_kind N).bind fun q8 => some q8) else none)))))))
theorem kdE_tk (N : Nat) {κ : Nat} (hκ : κ ≤ 6) : kdE N (tk (Int32.ofNat κ)) = some (Int32.ofNat κ) := by
  have : κ = 0 ∨ κ = 1 ∨ κ = 2 ∨ κ = 3 ∨ κ = 4 ∨ κ = 5 ∨ κ = 6 := by omega
  rcases this with rfl | rfl | rfl | rfl | rfl | rfl | rfl
  · rw [tk0]; rfl
  · rw [tk1]; rfl
  · rw [tk2]; rfl
  · rw [tk3]; rfl
  · rw [tk4]; rfl
  · rw [tk5]; rfl
  · rw [tk6]; rfl
theorem pm_tillIs {N : Nat} (a b : Int32) {k0 k1 k2 k3 : Nat} {tn tm ce me s : Nat → Int32} (hE : ER ce me) (hT : TR k0 k1 k2 k3 tn tm s) : ∃ v ce' me', f_X11_tillIs N a b ce k0 k1 k2 k3 tn tm = some (v, ce') ∧ f_X12_tillIs N a b me s = some (v, me') ∧ ER ce' me' := by
  unfold f_X11_tillIs f_X12_tillIs
  simp only [p11_isTill, p12_isTill, p11_within, p12_in, Option.bind_some, bi_0, p11_error1, p12_error1]
  by_cases h1 : 0 ≤ a ∧ a ≤ 3
  rotate_left
  · rw [if_pos h1, if_pos h1]; exact ⟨_, _, _, rfl, rfl, hE.up (by omega)⟩
  rw [if_neg (not_not_intro h1), if_neg (not_not_intro h1)]
  by_cases h2 : 0 ≤ b ∧ b ≤ 1
  rotate_left
  · rw [if_pos h2, if_pos h2]; exact ⟨_, _, _, rfl, rfl, hE.up (by omega)⟩
  rw [if_neg (not_not_intro h2), if_neg (not_not_intro h2)]
  obtain ⟨j, hj, rfl⟩ := in_nat (b := 3) h1 (by omega)
  obtain ⟨w, hw, rfl⟩ := in_nat (b := 1) h2 (by omega)
  obtain ⟨κ, mm, hκ, hm, e1, e2, e3, e4, e5⟩ := hT.nat (show j < 4 by omega)
  simp (disch := omega) only [on_vin, on_tn, if_true, eq_lit, lit_mul, lit_add, on_add, e3, e5]
  by_cases h0 : w = 0
  · subst h0
    rw [if_pos rfl, Nat.add_zero, e1]
    refine ⟨Int32.ofNat κ, ce, me, ?_, rfl, hE⟩
    exact (congrArg (fun o => Option.bind o (fun r => some (r, ce))) (kdE_tk N hκ)).trans rfl
  · have : w = 1 := by omega
    subst this
    rw [if_neg (by omega), show 32 + 2 * j + 1 = 33 + 2 * j by omega, e2, if_pos (tk_ok _)]
    exact ⟨_, _, _, rfl, rfl, hE⟩
/-- what isOf answers -/
def iofE (N k : Nat) (p1 : Int32) : Option Int32 := (if k = 8 then ((f_X8_isOf N p1).bind fun q8 => some q8) else (if k = 1 then ((f_X1_isOf N p1).bind fun q8 => some q8) else (if k = 2 then ((f_X2_isOf N p1).bind fun q8 => some q8) else (if k = 3 then ((f_X3_isOf N p1).bind fun q8 => some q8) else (if k = 5 then ((f_X5_isOf N p1).bind fun q8 => some q8) else (if k = 6 then ((f_X6_isOf N p1).bind fun q8 => some q8) else (if k = 9 then ((f_X9_isOf N p1).bind fun q8 => some q8) else none)))))))
theorem iofE_all : ∀ κ : Fin 7, ∀ w : Fin 7, iofE 0 (tk (Int32.ofNat κ.val)) (Int32.ofNat w.val) = f_X12_isUnder 0 (Int32.ofNat κ.val) (Int32.ofNat w.val) ∧ (iofE 0 (tk (Int32.ofNat κ.val)) (Int32.ofNat w.val) = some 0 ∨ iofE 0 (tk (Int32.ofNat κ.val)) (Int32.ofNat w.val) = some 1) := by decide +kernel
theorem pm_as {N : Nat} (a b : Int32) {k0 k1 k2 k3 : Nat} {tn tm ce me s : Nat → Int32} (hE : ER ce me) (hT : TR k0 k1 k2 k3 tn tm s) : ∃ v ce' me', f_X11_as N a b ce k0 k1 k2 k3 tn tm = some (v, ce') ∧ f_X12_as N a b me s = some (v, me') ∧ ER ce' me' := by
  unfold f_X11_as f_X12_as
  simp only [p11_isTill, p12_isTill, p11_within, p12_in, Option.bind_some, bi_0, p11_error1, p12_error1, p11_error5, p12_error5]
  by_cases h1 : 0 ≤ a ∧ a ≤ 3
  rotate_left
  · rw [if_pos h1, if_pos h1]; exact ⟨_, _, _, rfl, rfl, hE.up (by omega)⟩
  rw [if_neg (not_not_intro h1), if_neg (not_not_intro h1)]
  by_cases h2 : 0 ≤ b ∧ b ≤ 6
  rotate_left
  · rw [if_pos h2, if_pos h2]; exact ⟨_, _, _, rfl, rfl, hE.up (by omega)⟩
  rw [if_neg (not_not_intro h2), if_neg (not_not_intro h2)]
  obtain ⟨j, hj, rfl⟩ := in_nat (b := 3) h1 (by omega)
  obtain ⟨w, hw, rfl⟩ := in_nat (b := 6) h2 (by omega)
  obtain ⟨κ, mm, hκ, hm, e1, e2, e3, e4, e5⟩ := hT.nat (show j < 4 by omega)
  rw [p12_kindOf N (by omega), p12_mOf N (by omega), e1, e2]
  simp (disch := omega) only [on_vin, on_tn, if_true, e3, e5, Option.bind_some]
  obtain ⟨z1, z2⟩ := iofE_all ⟨κ, by omega⟩ ⟨w, by omega⟩
  have z1 : iofE 0 (tk (Int32.ofNat κ)) (Int32.ofNat w) = f_X12_isUnder 0 (Int32.ofNat κ) (Int32.ofNat w) := z1
  have z2 : iofE 0 (tk (Int32.ofNat κ)) (Int32.ofNat w) = some 0 ∨ iofE 0 (tk (Int32.ofNat κ)) (Int32.ofNat w) = some 1 := z2
  have hu : f_X12_isUnder N (Int32.ofNat κ) (Int32.ofNat w) = iofE 0 (tk (Int32.ofNat κ)) (Int32.ofNat w) := z1.symm
  rw [hu]
  rcases z2 with z | z
  · rw [z]
    refine ⟨eLow 5, _, _, ?_, rfl, hE.up (by omega)⟩
    exact (congrArg (fun o => Option.bind o (fun r7 => if r7 = 0 then some (eLow 5, upd ce 5 (ce 5 + 1)) else if kOk (tk (Int32.ofNat κ)) = true then some (Int32.ofNat mm, ce) else none)) z).trans rfl
  · rw [z]
    refine ⟨Int32.ofNat mm, ce, me, ?_, rfl, hE⟩
    refine (congrArg (fun o => Option.bind o (fun r7 => if r7 = 0 then some (eLow 5, upd ce 5 (ce 5 + 1)) else if kOk (tk (Int32.ofNat κ)) = true then some (Int32.ofNat mm, ce) else none)) z).trans ?_
    rw [Option.bind_some, if_neg (by decide), if_pos (tk_ok _)]
theorem TR.set {k0 k1 k2 k3 : Nat} {tn tm s : Nat → Int32} (hT : TR k0 k1 k2 k3 tn tm s) {j κ mm : Nat} (hj : j < 4) (hκ : κ ≤ 6) (hm : mm ≤ 9) {l0 l1 l2 l3 : Nat} {tn' tm' : Nat → Int32} (h1 : ∀ i, i < 4 → sel4 i l0 l1 l2 l3 = if i = j then tk (Int32.ofNat κ) else sel4 i k0 k1 k2 k3) (h2 : ∀ i, i < 4 → tn' i = if i = j then Int32.ofNat j else tn i) (h3 : ∀ i, i < 4 → tm' i = if i = j then Int32.ofNat mm else tm i) : TR l0 l1 l2 l3 tn' tm' (upd (upd s (32 + 2 * j) (Int32.ofNat κ)) (33 + 2 * j) (Int32.ofNat mm)) := by
  intro i hi
  rw [h1 i hi, h2 i hi, h3 i hi]
  by_cases e : i = j
  · subst e
    rw [if_pos rfl, if_pos rfl, if_pos rfl, upd_ne (upd s _ _) _ (by omega), upd_at, upd_at]
    exact ⟨rfl, ⟨on_nn (by omega), by rw [le_lit (by omega) (by omega)]; omega⟩, rfl, rfl, on_nn (by omega), by rw [le_lit (by omega) (by omega)]; omega⟩
  · rw [if_neg e, if_neg e, if_neg e, upd_ne (upd s _ _) _ (by omega), upd_ne s _ (by omega), upd_ne (upd s _ _) _ (by omega), upd_ne s _ (by omega)]
    exact hT i hi
/-- till(): an error, the same in both; or a till of the kind and number said -/
theorem pm_till {N : Nat} (a b : Int32) {k0 k1 k2 k3 : Nat} {tn tm ce me s : Nat → Int32} (row : Nat → Option Nat) (hE : ER ce me) (hT : TR k0 k1 k2 k3 tn tm s) :
    (∃ v ce' me', f_X11_till_err N a b ce = some (v, ce') ∧ f_X12_till N a b me s = some (v, me', s) ∧ ER ce' me') ∨
    (∃ j κ mm v, j < 4 ∧ κ ≤ 6 ∧ mm ≤ 9 ∧ a = Int32.ofNat j ∧ b / (10 : Int32) = Int32.ofNat κ ∧ b - b / (10 : Int32) * (10 : Int32) = Int32.ofNat mm ∧ f_X11_till_ok N a b row k0 k1 k2 k3 tn tm = some v ∧ f_X12_till N a b me s = some (v, me, upd (upd s (32 + 2 * j) (Int32.ofNat κ)) (33 + 2 * j) (Int32.ofNat mm))) := by
  unfold f_X11_till_err f_X12_till f_X11_till_ok
  simp only [p11_isTill, p12_isTill, p11_within, p12_in, Option.bind_some, bi_0, p11_error1, p12_error1]
  by_cases h1 : 0 ≤ a ∧ a ≤ 3
  rotate_left
  · left; rw [if_pos h1, if_pos h1]; exact ⟨_, _, _, rfl, rfl, hE.up (by omega)⟩
  rw [if_neg (not_not_intro h1), if_neg (not_not_intro h1), if_neg (not_not_intro h1)]
  by_cases h2 : 0 ≤ b ∧ b ≤ 69
  rotate_left
  · left; rw [if_pos h2, if_pos h2]; exact ⟨_, _, _, rfl, rfl, hE.up (by omega)⟩
  right
  rw [if_neg (not_not_intro h2), if_neg (not_not_intro h2)]
  obtain ⟨j, hj, rfl⟩ := in_nat (b := 3) h1 (by omega)
  obtain ⟨w, hw, rfl⟩ := in_nat (b := 69) h2 (by omega)
  obtain ⟨κ, mm, hκ, hm, e1, e2, e3, e4, e5⟩ := hT.nat (show j < 4 by omega)
  have d1 : Int32.ofNat w / (10 : Int32) = Int32.ofNat (w / 10) := on_div (b := 10) (by omega) (by omega)
  have d2 : Int32.ofNat w - Int32.ofNat w / (10 : Int32) * (10 : Int32) = Int32.ofNat (w % 10) := on_rem10 (by omega)
  refine ⟨j, w / 10, w % 10, (10 : Int32) * Int32.ofNat κ + Int32.ofNat mm, by omega, by omega, by omega, rfl, d1, d2, ?_, ?_⟩
  · rw [if_pos (of_eq_true (on_vin (by omega) (by omega))), if_pos (of_eq_true (on_vin (by omega) (by omega))), on_tn (k := j) (by omega), e3, e5]
    refine (congrArg (fun o => Option.bind o (fun r7 => if kOk (tk (Int32.ofNat κ)) = true then some ((10 : Int32) * r7 + Int32.ofNat mm) else none)) (kdE_tk N hκ)).trans ?_
    rw [Option.bind_some, if_pos (tk_ok _)]
  · rw [p12_kindOf N (by omega), p12_mOf N (by omega), e1, e2, d2, d1]
    have i1 : (32 : Int32) + (2 : Int32) * Int32.ofNat j = Int32.ofNat (32 + 2 * j) := by rw [lit_mul, lit_add]
    have i2 : (32 : Int32) + (2 : Int32) * Int32.ofNat j + (1 : Int32) = Int32.ofNat (33 + 2 * j) := by rw [lit_mul, lit_add, add_lit]; congr 1; omega
    simp only [Option.bind_some]
    rw [i2, i1, if_pos (of_eq_true (on_vin (by omega) (by omega))), if_pos (of_eq_true (on_vin (by omega) (by omega))), on_tn (k := 32 + 2 * j) (by omega), on_tn (k := 33 + 2 * j) (by omega)]
end PTILL
