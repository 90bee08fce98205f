/-! PURE: the small methods, both beside each other -/
section PEASY
theorem in_nat {x : Int32} {b : Nat} (h : 0 ≤ x ∧ x ≤ Int32.ofNat b) (hb : b < 2147483648) : ∃ k, k ≤ b ∧ x = Int32.ofNat k := nat_of h.1 h.2 hb
abbrev gdV (w : Nat) (c : Int32) : Prop := (w = 0 → 1 ≤ c ∧ c ≤ 9999) ∧ (w = 1 → 0 ≤ c ∧ c ≤ 9999) ∧ (w = 2 → 0 ≤ c ∧ c ≤ 99)
theorem GR.set {g : Nat → Nat → Int32} {s : Nat → Int32} (h : GR g s) {w t : Nat} (hw : w < 3) (ht : t < 8) {c : Int32} (hc : gdV w c) : GR (va_up g w (upd (g w) t c)) (upd s (8 + 8 * w + t) c) := by
  refine ⟨fun w' t' hw' ht' => ?_, fun t' ht' => ?_⟩
  · by_cases e : w' = w
    · subst e
      rw [up_at]
      by_cases e2 : t' = t
      · subst e2; rw [upd_at, upd_at]
      · rw [upd_ne _ _ e2, upd_ne _ _ (by omega)]; exact h.1 _ _ hw' ht'
    · rw [up_ne _ _ e, upd_ne _ _ (by omega)]; exact h.1 _ _ hw' ht'
  · obtain ⟨h1, h2, h3⟩ := h.2 t' ht'
    have k1 : upd s (8 + 8 * w + t) c (8 + t') = if w = 0 ∧ t = t' then c else s (8 + t') := by
      by_cases e : w = 0 ∧ t = t'
      · rw [if_pos e, show 8 + t' = 8 + 8 * w + t by omega, upd_at]
      · rw [if_neg e, upd_ne _ _ (by omega)]
    have k2 : upd s (8 + 8 * w + t) c (16 + t') = if w = 1 ∧ t = t' then c else s (16 + t') := by
      by_cases e : w = 1 ∧ t = t'
      · rw [if_pos e, show 16 + t' = 8 + 8 * w + t by omega, upd_at]
      · rw [if_neg e, upd_ne _ _ (by omega)]
    have k3 : upd s (8 + 8 * w + t) c (24 + t') = if w = 2 ∧ t = t' then c else s (24 + t') := by
      by_cases e : w = 2 ∧ t = t'
      · rw [if_pos e, show 24 + t' = 8 + 8 * w + t by omega, upd_at]
      · rw [if_neg e, upd_ne _ _ (by omega)]
    rw [k1, k2, k3]
    refine ⟨?_, ?_, ?_⟩
    · by_cases e : w = 0 ∧ t = t'
      · rw [if_pos e]; exact hc.1 e.1
      · rw [if_neg e]; exact h1
    · by_cases e : w = 1 ∧ t = t'
      · rw [if_pos e]; exact hc.2.1 e.1
      · rw [if_neg e]; exact h2
    · by_cases e : w = 2 ∧ t = t'
      · rw [if_pos e]; exact hc.2.2 e.1
      · rw [if_neg e]; exact h3
theorem v3_1 : vin (1 : Int32) 3 = true := by decide +kernel
theorem v3_2 : vin (2 : Int32) 3 = true := by decide +kernel
theorem v3_0 : vin (0 : Int32) 3 = true := by decide +kernel
theorem p11_isGood (N : Nat) {w : Nat} (hw : w < 3) (c : Int32) : ∃ b, f_X11_isGood N (Int32.ofNat w) c = some b ∧ ((b = 0) = ¬ gdV w c) := by
  have : w = 0 ∨ w = 1 ∨ w = 2 := by omega
  rcases this with rfl | rfl | rfl
  · exact ⟨bi (1 ≤ c ∧ c ≤ 9999), by simp [f_X11_isGood, v3_0, v3_1, v3_2, p11_within, bi_ok], by rw [bi_0]; simp [gdV]⟩
  · exact ⟨bi (0 ≤ c ∧ c ≤ 9999), by simp [f_X11_isGood, v3_0, v3_1, v3_2, p11_within, bi_ok], by rw [bi_0]; simp [gdV]⟩
  · exact ⟨bi (0 ≤ c ∧ c ≤ 99), by simp [f_X11_isGood, v3_0, v3_1, v3_2, p11_within, bi_ok], by rw [bi_0]; simp [gdV]⟩
theorem p12_thing39 (N : Nat) {t w : Nat} (ht : t < 8) (hw : w < 3) (c lo hi : Int32) (me s : Nat → Int32) : f_X12_thing_j39 N (Int32.ofNat t) (Int32.ofNat w) c c lo hi me s = if lo ≤ c ∧ c ≤ hi then some (s (8 + 8 * w + t), me, upd s (8 + 8 * w + t) c) else some (eLow 1, upd me 1 (me 1 + 1), s) := by
  unfold f_X12_thing_j39 f_X12_change1
  simp (disch := omega) only [p12_in, Option.bind_some, bi_0, p12_error1, lit_mul, lit_add, on_add, on_vin, on_tn, if_true]
  by_cases h : lo ≤ c ∧ c ≤ hi
  · rw [if_pos h, if_neg (not_not_intro h)]
  · rw [if_neg h, if_pos h]
theorem pm_thing {N : Nat} (a b c : Int32) {ce me s : Nat → Int32} {g : Nat → Nat → Int32} (hG : GR g s) (hE : ER ce me) : ∃ v ce' g' me' s', f_X11_thing N a b c ce g = some (v, ce', g') ∧ f_X12_thing N a b c me s = some (v, me', s') ∧ ER ce' me' ∧ GR g' s' ∧ ∀ j, j < 8 ∨ 32 ≤ j → s' j = s j := by
  by_cases h1 : 0 ≤ a ∧ a ≤ 7
  · by_cases h2 : 0 ≤ b ∧ b ≤ 2
    · obtain ⟨t, ht, rfl⟩ := in_nat (b := 7) h1 (by omega)
      obtain ⟨w, hw, rfl⟩ := in_nat (b := 2) h2 (by omega)
      obtain ⟨q, hq, hq2⟩ := p11_isGood N (w := w) (by omega) c
      have e2 : f_X12_thing N (Int32.ofNat t) (Int32.ofNat w) c me s = if gdV w c then some (s (8 + 8 * w + t), me, upd s (8 + 8 * w + t) c) else some (eLow 1, upd me 1 (me 1 + 1), s) := by
        unfold f_X12_thing
        simp only [p12_isThing, p12_in, Option.bind_some, bi_0, h1, h2, not_true, and_self, if_false]
        have : w = 0 ∨ w = 1 ∨ w = 2 := by omega
        rcases this with rfl | rfl | rfl
        · rw [if_pos (by decide), if_neg (by decide), p12_thing39 N (by omega) (by omega)]; simp [gdV]
        · rw [if_neg (by decide), if_neg (by decide), p12_thing39 N (by omega) (by omega)]; simp [gdV]
        · rw [if_neg (by decide), if_pos (by decide), p12_thing39 N (by omega) (by omega)]; simp [gdV]
      have e1 : f_X11_thing N (Int32.ofNat t) (Int32.ofNat w) c ce g = if gdV w c then some (g w t, ce, va_up g w (upd (g w) t c)) else some (eLow 1, upd ce 1 (ce 1 + 1), g) := by
        unfold f_X11_thing
        simp (disch := omega) only [p11_isThing, p11_within, Option.bind_some, bi_0, h1, h2, not_true, and_self, if_false, hq, hq2, p11_error1, on_vin, on_tn, if_true]
        by_cases h : gdV w c
        · rw [if_pos h, if_neg (not_not_intro h)]
        · rw [if_neg h, if_pos h]
      by_cases h : gdV w c
      · rw [if_pos h] at e1 e2
        rw [← hG.1 w t (by omega) (by omega)] at e2
        exact ⟨_, _, _, _, _, e1, e2, hE, hG.set (by omega) (by omega) h, fun j hj => upd_ne _ _ (by omega)⟩
      · rw [if_neg h] at e1 e2
        exact ⟨_, _, _, _, _, e1, e2, hE.up (by omega), hG, fun j hj => rfl⟩
    · refine ⟨eLow 1, upd ce 1 (ce 1 + 1), g, upd me 1 (me 1 + 1), s, ?_, ?_, hE.up (by omega), hG, fun j hj => rfl⟩
      · unfold f_X11_thing; simp only [p11_isThing, p11_within, Option.bind_some, bi_0, h1, h2, not_true, and_self, if_false, not_false_eq_true, if_true, p11_error1]
      · unfold f_X12_thing; simp only [p12_isThing, p12_in, Option.bind_some, bi_0, h1, h2, not_true, and_self, if_false, not_false_eq_true, if_true, p12_error1]
  · refine ⟨eLow 1, upd ce 1 (ce 1 + 1), g, upd me 1 (me 1 + 1), s, ?_, ?_, hE.up (by omega), hG, fun j hj => rfl⟩
    · unfold f_X11_thing; simp only [p11_isThing, p11_within, Option.bind_some, bi_0, h1, not_false_eq_true, if_true, p11_error1]
    · unfold f_X12_thing; simp only [p12_isThing, p12_in, Option.bind_some, bi_0, h1, not_false_eq_true, if_true, p12_error1]
theorem pm_figures {N : Nat} (hN : 100 ≤ N) (a b : Int32) {ce me : Nat → Int32} (hE : ER ce me) : ∃ v ce' me', f_X11_figures N a b ce = some (v, ce') ∧ f_X12_figures N a b me = some (v, me') ∧ ER ce' me' := by
  unfold f_X11_figures f_X12_figures
  by_cases h1 : a < 0
  · exact ⟨eLow 1, _, _, by rw [if_pos h1, p11_error1]; rfl, by rw [if_pos h1, p12_error1]; rfl, hE.up (by omega)⟩
  rw [if_neg h1, if_neg h1]
  simp only [p11_within, p12_in, Option.bind_some, bi_0]
  by_cases h2 : 2 ≤ b ∧ b ≤ 11
  · rw [if_neg (not_not_intro h2), if_neg (not_not_intro h2)]
    obtain ⟨n, hn, rfl⟩ := nat_lt a (Int32.not_lt.mp h1)
    obtain ⟨k, hk, rfl⟩ := in_nat (b := 11) (x := b) ⟨Int32.le_trans (by decide) h2.1, h2.2⟩ (by omega)
    have h3 : 2 ≤ k := by have := h2.1; rwa [lit_le (by omega) (by omega)] at this
    rw [p11_figureSum (by omega) h3 (by omega) hn, p12_added (by omega) h3 (by omega) hn]
    exact ⟨_, _, _, rfl, rfl, hE⟩
  · rw [if_pos h2, if_pos h2, p11_error1, p12_error1]
    exact ⟨_, _, _, rfl, rfl, hE.up (by omega)⟩
theorem pm_told {N : Nat} (a : Int32) {ce me : Nat → Int32} (hE : ER ce me) : ∃ v ce' me', f_X11_told N a ce = some (v, ce') ∧ f_X12_told N a me = some (v, me') ∧ ER ce' me' := by
  unfold f_X11_told f_X12_told
  simp only [p11_within, p12_in, Option.bind_some, bi_0]
  by_cases h2 : 1 ≤ a ∧ a ≤ 6
  · rw [if_neg (not_not_intro h2), if_neg (not_not_intro h2)]
    obtain ⟨k, hk, rfl⟩ := in_nat (b := 6) (x := a) ⟨Int32.le_trans (by decide) h2.1, h2.2⟩ (by omega)
    simp (disch := omega) only [on_vin, on_tn, if_true]
    exact ⟨ce k, _, _, rfl, by rw [hE k (by omega)], hE⟩
  · rw [if_pos h2, if_pos h2, p11_error1, p12_error1]
    exact ⟨_, _, _, rfl, rfl, hE.up (by omega)⟩
theorem pm_body {N : Nat} (a : Int32) {ce me bodies mtrace : Nat → Int32} {len traced : Int32} (hE : ER ce me) (hC : CR len bodies traced mtrace) : ∃ v ce' me', f_X11_body N a ce len bodies = some (v, ce') ∧ f_X12_body N a traced me mtrace = some (v, me') ∧ ER ce' me' := by
  obtain ⟨rfl, h3, h4⟩ := hC
  obtain ⟨n, hn, rfl⟩ := in_nat (b := 30) h3 (by omega)
  unfold f_X11_body f_X12_body
  simp only [p11_within, p12_in, Option.bind_some, bi_0]
  by_cases h2 : 0 ≤ a ∧ a ≤ Int32.ofNat n - 1
  · rw [if_neg (not_not_intro h2), if_neg (not_not_intro h2)]
    by_cases h0 : n = 0
    · exfalso
      subst h0
      have := Int32.le_trans h2.1 h2.2
      exact absurd this (by decide)
    · rw [sub_lit (by omega)] at h2
      obtain ⟨k, hk, rfl⟩ := in_nat h2 (by omega)
      simp (disch := omega) only [on_vin, on_tn, if_true]
      exact ⟨bodies k, _, _, rfl, by rw [h4 k (by omega)], hE⟩
  · rw [if_pos h2, if_pos h2, p11_error2, p12_error2]
    exact ⟨_, _, _, rfl, rfl, hE.up (by omega)⟩
theorem pm_tell {N : Nat} (a : Int32) {ce me waiting s : Nat → Int32} {waits : Int32} (hE : ER ce me) (hW : WR waits waiting s) : ∃ v ce' w' wg' me' s', f_X11_tell N a ce waits waiting = some (v, ce', w', wg') ∧ f_X12_tell N a me s = some (v, me', s') ∧ ER ce' me' ∧ WR w' wg' s' ∧ ∀ j, j ≠ 4 → (j < 350 ∨ 374 ≤ j) → s' j = s j := by
  obtain ⟨h1, h3, h4⟩ := hW
  obtain ⟨n, hn, e⟩ := in_nat (b := 24) h3 (by omega)
  subst h1
  unfold f_X11_tell f_X12_tell
  rw [show (4 : Int32).toNatClampNeg = 4 from rfl, e]
  simp (disch := omega) only [lt_lit, eq_lit]
  by_cases h : n < 24
  · rw [if_pos h, if_pos (of_eq_true (on_vin (by omega) (by omega))), if_neg (by omega)]
    simp (disch := omega) only [lit_add, on_vin, on_tn, if_true, add_lit, upd_at, upd_ne, e]
    refine ⟨_, _, _, _, _, _, rfl, rfl, hE, ⟨(upd_at _ _ _).symm, ?_, fun j hj => ?_⟩, fun j h5 h6 => ?_⟩
    · rw [upd_at, lit_le (by omega) (by omega), le_lit (by omega) (by omega)]; omega
    · rw [upd_ne (upd s (350 + n) a) _ (by omega)]
      by_cases hjn : j = n
      · subst hjn; rw [upd_at, upd_at]
      · rw [upd_ne _ _ hjn, upd_ne _ _ (by omega)]; exact h4 j hj
    · rw [upd_ne _ _ h5, upd_ne _ _ (by omega)]
  · rw [if_neg h, if_pos (by omega), p11_error4, p12_error4]
    exact ⟨_, _, _, _, _, _, rfl, rfl, hE.up (by omega), ⟨e.symm, h3, h4⟩, fun j _ _ => rfl⟩
theorem pm_seed {N : Nat} (a : Int32) {tk cs go z : Int32} {s : Nat → Int32} (hM : MR tk cs go z s) : ∃ v z' s', f_X11_seed N a z = some (v, z') ∧ f_X12_seed N a s = some (v, s') ∧ MR tk cs go z' s' ∧ ∀ j, j ≠ 5 → s' j = s j := by
  obtain ⟨h1, h2, h3, h4, h5⟩ := hM
  refine ⟨z, a, upd s 5 a, rfl, ?_, ?_, fun j hj => upd_ne _ _ hj⟩
  · unfold f_X12_seed f_X12_change1
    rw [h4]; rfl
  · refine ⟨?_, ?_, ?_, ?_, ?_⟩
    · rw [upd_ne _ _ (by omega)]; exact h1
    · rw [upd_ne _ _ (by omega)]; exact h2
    · rw [upd_ne _ _ (by omega)]; exact h3
    · rw [upd_at]
    · rw [upd_ne _ _ (by omega), upd_ne _ _ (by omega), upd_ne _ _ (by omega)]; exact h5
theorem v374_40 : vin (40 : Int32) 374 = true := by decide +kernel
theorem v374_165 : vin (165 : Int32) 374 = true := by decide +kernel
theorem pm_untell {N : Nat} (a : Int32) {ce me pc vc s : Nat → Int32} {pl vl : Int32} (hE : ER ce me) (h0 : LR 0 pl pc s) (h1 : LR 1 vl vc s) : ∃ v ce' pl' vl' me' s', f_X11_untell N a ce pl vl = some (v, ce', pl', vl') ∧ f_X12_untell N a me s = some (v, me', s') ∧ ER ce' me' ∧ LR 0 pl' pc s' ∧ LR 1 vl' vc s' ∧ ∀ j, j ≠ 40 → j ≠ 165 → s' j = s j := by
  obtain ⟨t0, h0⟩ := h0
  obtain ⟨t1, h1⟩ := h1
  have l0 := h0.1
  have l1 := h1.1
  have hnil : ∀ (u : Nat) (code s' : Nat → Int32), s' (40 + 125 * u) = 0 → LR u 0 code s' := fun u code s' h => ⟨[], by simp, rfl, h, by simp, by simp, by simp⟩
  unfold f_X11_untell f_X12_untell
  simp only [p11_within, p12_in, Option.bind_some, bi_0]
  by_cases h2 : 0 ≤ a ∧ a ≤ 1
  · rw [if_neg (not_not_intro h2), if_neg (not_not_intro h2)]
    obtain ⟨u, hu, rfl⟩ := in_nat (b := 1) h2 (by omega)
    have : u = 0 ∨ u = 1 := by omega
    rcases this with rfl | rfl
    · rw [p12_hasText N (by omega) h0, h0.2.1, p4_isTold N (by omega)]
      by_cases ht : t0 = []
      · subst ht
        exact ⟨0, ce, 0, vl, me, upd s 40 0, rfl, rfl, hE, hnil 0 _ _ (upd_at _ _ _), ⟨t1, h1.frame (fun j _ _ => upd_ne _ _ (by omega))⟩, fun j hj _ => upd_ne _ _ hj⟩
      · have hl : t0.length ≠ 0 := by simpa using ht
        exact ⟨1, ce, 0, vl, me, upd s 40 0, by simp [f_X7_law, bi, hl], by simp [bi, ht, v374_40, v374_165], hE, hnil 0 _ _ (upd_at _ _ _), ⟨t1, h1.frame (fun j _ _ => upd_ne _ _ (by omega))⟩, fun j hj _ => upd_ne _ _ hj⟩
    · rw [p12_hasText N (by omega) h1, h1.2.1, p4_isTold N (by omega)]
      by_cases ht : t1 = []
      · subst ht
        exact ⟨0, ce, pl, 0, me, upd s 165 0, rfl, rfl, hE, ⟨t0, h0.frame (fun j _ _ => upd_ne _ _ (by omega))⟩, hnil 1 _ _ (upd_at _ _ _), fun j _ hj => upd_ne _ _ hj⟩
      · have hl : t1.length ≠ 0 := by simpa using ht
        exact ⟨1, ce, pl, 0, me, upd s 165 0, by simp [f_X7_law, bi, hl], by simp [bi, ht, v374_40, v374_165], hE, ⟨t0, h0.frame (fun j _ _ => upd_ne _ _ (by omega))⟩, hnil 1 _ _ (upd_at _ _ _), fun j _ hj => upd_ne _ _ hj⟩
  · rw [if_pos h2, if_pos h2, p11_error1, p12_error1]
    exact ⟨_, _, _, _, _, _, rfl, rfl, hE.up (by omega), ⟨t0, h0⟩, ⟨t1, h1⟩, fun _ _ _ => rfl⟩
end PEASY
