/-! PURE: a text is taken -/
section PTEXT
theorem cp_text (N : Nat) {st x : Nat} (hst : st ≤ 60) (hx : x + 1 + 2 * st ≤ 374) (step : Nat → Int32) (K : Int32 → (Nat → Int32) → Option (Int32 × (Int32) × (Int32) × (Int32) × (Int32) × (Nat → Int32) × (Nat → Int32) × (Nat → Int32))) : ∀ (d n j : Nat) (s : Nat → Int32), j + d = 2 * st → d < n → ∃ s', f_X12_text_101 N (Int32.ofNat x) (Int32.ofNat st) step K n (Int32.ofNat j) s = K (Int32.ofNat (2 * st)) s' ∧ (∀ i, j ≤ i → i < 2 * st → s' (x + 1 + i) = step i) ∧ (∀ k, ¬ (x + 1 + j ≤ k ∧ k < x + 1 + 2 * st) → s' k = s k) := by
  intro d
  induction d with
  | zero =>
    intro n j s hj hn
    obtain ⟨n, rfl⟩ : ∃ q, n = q + 1 := ⟨n - 1, by omega⟩
    have : j = 2 * st := by omega
    subst this
    rw [f_X12_text_101, show (2 : Int32) * Int32.ofNat st = Int32.ofNat (2 * st) from lit_mul 2 st, if_pos (show Int32.ofNat (2 * st) ≤ Int32.ofNat (2 * st) by rw [on_le (by omega) (by omega)]; omega)]
    exact ⟨s, rfl, fun i h1 h2 => by omega, fun k _ => rfl⟩
  | succ d ih =>
    intro n j s hj hn
    obtain ⟨n, rfl⟩ : ∃ q, n = q + 1 := ⟨n - 1, by omega⟩
    rw [f_X12_text_101, show (2 : Int32) * Int32.ofNat st = Int32.ofNat (2 * st) from lit_mul 2 st, if_neg (show ¬ Int32.ofNat (2 * st) ≤ Int32.ofNat j by rw [on_le (by omega) (by omega)]; omega), if_pos (of_eq_true (on_vin (by omega) (by omega))), show Int32.ofNat x + (1 : Int32) + Int32.ofNat j = Int32.ofNat (x + 1 + j) by rw [add_lit, on_add], if_pos (of_eq_true (on_vin (by omega) (by omega))), on_tn (k := j) (by omega), on_tn (k := x + 1 + j) (by omega), show Int32.ofNat j + (1 : Int32) = Int32.ofNat (j + 1) from add_lit 1 j]
    obtain ⟨s', h1, h2, h3⟩ := ih n (j + 1) (upd s (x + 1 + j) (step j)) (by omega) (by omega)
    refine ⟨s', h1, fun i hi1 hi2 => ?_, fun k hk => ?_⟩
    · by_cases e : i = j
      · rw [e, h3 _ (by omega), upd_at]
      · exact h2 i (by omega) hi2
    · rw [h3 k (by omega), upd_ne _ _ (by omega)]
theorem pm_fault {N : Nat} (hN : 200 ≤ N) {u : Nat} (hu : u < 2) {fed : Int32} {tape s : Nat → Int32} (hF : FR fed tape s) {len : Int32} {code : Nat → Int32} (hL : LR u len code s) (dr en pl fa : Int32) (bytes draft : Nat → Int32) (at0 op st us : Int32) (me step : Nat → Int32) :
    ∃ r len' dr' en' pl' fa' by' code' dft' v at' op' st' us' s' step', f_X4_fault N fed tape len dr en pl fa bytes code draft u = some (r, len', dr', en', pl', fa', by', code', dft') ∧ (if (0 : Int32) ≤ r then (-10 : Int32) - r else 1) = v ∧ f_X12_text N (Int32.ofNat u) at0 op st us me s step = some (v, at', op', st', us', me, s', step') ∧ LR u len' code' s' ∧ s' 3 = 0 ∧ ∀ k, k ≠ 3 → ¬ (40 + 125 * u ≤ k ∧ k < 165 + 125 * u) → s' k = s k := by
  obtain ⟨hf1, hf2, hf3⟩ := hF
  obtain ⟨E, hE, hs3⟩ := in_nat (b := 60) hf2 (by omega)
  rw [hs3] at hf1
  subst hf1
  have hby : ∀ i, i < E → va_cpy tape bytes 0 0 E i = s (290 + i) := fun i hi => by
    unfold va_cpy
    rw [if_pos ⟨by omega, by omega⟩, ← hf3 i (by omega)]
    congr 1
    omega
  have H := (lv_all (N := N) (by omega) hu hE hby hs3 5 0 50 (by omega) (by omega)).2
  have e60 : (if (60 : Int32) < Int32.ofNat E then (60 : Int32) else Int32.ofNat E) = Int32.ofNat E := if_neg (by rw [lit_lt (by omega) (by omega)]; omega)
  have hg : ¬ (0 : Int32) < 0 ∧ ¬ (0 : Int32) < 0 ∧ ¬ Int32.ofNat E < 0 ∧ (0 : Int32).toNatClampNeg + (Int32.ofNat E).toNatClampNeg ≤ 60 ∧ (0 : Int32).toNatClampNeg + (Int32.ofNat E).toNatClampNeg ≤ 60 := by
    have h0 : (0 : Int32).toNatClampNeg = 0 := rfl
    rw [h0, on_tn (by omega)]
    refine ⟨by decide, by decide, ?_, by omega, by omega⟩
    exact Int32.not_lt.mpr (on_nn (by omega))
  have hin : bi (0 ≤ Int32.ofNat u ∧ Int32.ofNat u ≤ 1) = 1 := by
    have : u = 0 ∨ u = 1 := by omega
    rcases this with rfl | rfl <;> decide
  unfold f_X4_fault f_X12_text
  rw [e60, if_pos hg, show (0 : Int32).toNatClampNeg = 0 from rfl, on_tn (k := E) (by omega), p12_in, Option.bind_some, hin, if_neg (show ¬ (1 : Int32) = 0 by decide)]
  unfold f_X12_text_j60
  rcases H.1 [] 0 draft step (by omega) (by simp) (fun i t h => by simp at h) with ⟨new, p', draft1, step1, a1, a2, a3, a4, a5, a6, a7, a8⟩ | ⟨p', dr1, draft1, o1, st1, step1, a1, a2, a3, a4, a5⟩
  · have a4 : f_X4_readEither N 50 0 0 (Int32.ofNat E) 0 0 (va_cpy tape bytes 0 0 E) draft u = some (Int32.ofNat new.length, Int32.ofNat p', 0, draft1) := a4
    have a5 : f_X12_whole N 50 0 0 0 (Int32.ofNat u) s step = some (1, Int32.ofNat p', Int32.ofNat 0, Int32.ofNat new.length, step1) := a5
    rw [a4, a5, Option.bind_some, Option.bind_some]
    dsimp only
    rw [if_pos (show (0 : Int32) = 0 from rfl), if_neg (show ¬ (1 : Int32) = 0 by decide), show (3 : Int32).toNatClampNeg = 3 from rfl, hs3]
    by_cases hpE : p' = E
    · subst hpE
      rw [if_pos (show Int32.ofNat p' ≤ Int32.ofNat p' by rw [on_le (by omega) (by omega)]; omega), if_pos rfl, if_neg (show ¬ (1 : Int32) = 0 by decide), if_pos (show ¬ (0 : Int32) < 0 ∧ ¬ (0 : Int32) < 0 ∧ ¬ (60 : Int32) < 0 ∧ 0 + (60 : Int32).toNatClampNeg ≤ 60 ∧ 0 + (60 : Int32).toNatClampNeg ≤ 60 by decide), show (60 : Int32).toNatClampNeg = 60 from rfl, show (40 : Int32) + (125 : Int32) * Int32.ofNat u = Int32.ofNat (40 + 125 * u) by rw [lit_mul, lit_add], if_pos (of_eq_true (on_vin (by omega) (by omega))), on_tn (k := 40 + 125 * u) (by omega)]
      obtain ⟨s', h1, h2, h3⟩ := cp_text N (st := new.length) (x := 40 + 125 * u) (by omega) (by omega) step1 (fun v4_6 this_s_6 => (some ((1 : Int32), Int32.ofNat p', Int32.ofNat 0, Int32.ofNat new.length, Int32.ofNat u, me, this_s_6, step1))) (2 * new.length) N 0 (upd (upd s 3 0) (40 + 125 * u) (Int32.ofNat new.length)) (by omega) (by omega)
      have h1 : f_X12_text_101 N (Int32.ofNat (40 + 125 * u)) (Int32.ofNat new.length) step1 _ N 0 _ = _ := h1
      rw [h1]
      refine ⟨_, _, _, _, _, _, _, _, _, _, _, _, _, _, s', _, rfl, if_neg (show ¬ (0 : Int32) ≤ -1 by decide), rfl, ⟨new, by omega, rfl, ?_, a7, fun _ => a8, ?_⟩, ?_, ?_⟩
      · rw [h3 _ (by omega), upd_at]
      · intro j t hj
        have hlt : j < new.length := by
          by_cases h : j < new.length
          · exact h
          · rw [List.getElem?_eq_none (by omega)] at hj; exact absurd hj (by simp)
        obtain ⟨b1, b2, b3⟩ := a6 j t hj
        refine ⟨?_, ?_, ?_⟩
        · unfold va_cpy
          rw [if_pos ⟨by omega, by omega⟩, ← b1]
          congr 1
          omega
        · rw [← b2, ← h2 (2 * j) (by omega) (by omega)]
          congr 1
          omega
        · rw [← b3, ← h2 (2 * j + 1) (by omega) (by omega)]
          congr 1
          omega
      · rw [h3 _ (by omega), upd_ne _ _ (by omega), upd_at]
      · intro k hk hk2
        rw [h3 _ (by omega), upd_ne _ _ (by omega), upd_ne _ _ hk]
    · rw [if_neg (show ¬ Int32.ofNat E ≤ Int32.ofNat p' by rw [on_le (by omega) (by omega)]; omega), if_neg (show ¬ Int32.ofNat p' = Int32.ofNat E by rw [on_inj (by omega) (by omega)]; exact hpE), if_pos (show (0 : Int32) = 0 from rfl)]
      exact ⟨_, _, _, _, _, _, _, _, _, _, _, _, _, _, upd s 3 0, _, rfl, if_pos (on_nn (by omega)), rfl, hL.frame (fun j h1 h2 => upd_ne _ _ (by omega)), upd_at _ _ _, fun k hk _ => upd_ne _ _ hk⟩
  · have a4 : f_X4_readEither N 50 0 0 (Int32.ofNat E) 0 0 (va_cpy tape bytes 0 0 E) draft u = some (Int32.ofNat dr1, Int32.ofNat p', 1, draft1) := a4
    have a5 : f_X12_whole N 50 0 0 0 (Int32.ofNat u) s step = some (0, Int32.ofNat p', o1, st1, step1) := a5
    rw [a4, a5, Option.bind_some, Option.bind_some]
    dsimp only
    rw [if_pos (show (0 : Int32) = 0 from rfl), if_neg (show ¬ (1 : Int32) = 0 by decide), if_pos (show (0 : Int32) = 0 from rfl)]
    exact ⟨_, _, _, _, _, _, _, _, _, _, _, _, _, _, upd s 3 0, _, rfl, if_pos (on_nn (by omega)), rfl, hL.frame (fun j h1 h2 => upd_ne _ _ (by omega)), upd_at _ _ _, fun k hk _ => upd_ne _ _ hk⟩
theorem FR.zero {fed : Int32} {tape s s' : Nat → Int32} (hF : FR fed tape s) (h3 : s' 3 = 0) (hs : ∀ j, 290 ≤ j → j < 350 → s' j = s j) : FR 0 tape s' := by
  refine ⟨h3.symm, ?_, fun j hj => ?_⟩
  · rw [h3]; decide
  · rw [hs _ (by omega) (by omega)]; exact hF.2.2 j hj
theorem pm_text {N : Nat} (hN : 200 ≤ N) (a : Int32) {ce me tape s pc vc : Nat → Int32} {fed pl vl : Int32} (hE : ER ce me) (hF : FR fed tape s) (h0 : LR 0 pl pc s) (h1 : LR 1 vl vc s) (pd pe pp pf : Int32) (pb pdr : Nat → Int32) (vd ve vp vf : Int32) (vb vdr : Nat → Int32) (at0 op st us : Int32) (step : Nat → Int32) :
    ∃ v ce' f' pl' pd' pe' pp' pf' pb' pc' pdr' vl' vd' ve' vp' vf' vb' vc' vdr' at' op' st' us' me' s' step', f_X11_text N a ce fed pl pd pe pp pf pb pc pdr tape vl vd ve vp vf vb vc vdr 0 1 = some (v, ce', f', pl', pd', pe', pp', pf', pb', pc', pdr', vl', vd', ve', vp', vf', vb', vc', vdr') ∧ f_X12_text N a at0 op st us me s step = some (v, at', op', st', us', me', s', step') ∧ ER ce' me' ∧ FR f' tape s' ∧ LR 0 pl' pc' s' ∧ LR 1 vl' vc' s' ∧ ∀ k, k ≠ 3 → (k < 40 ∨ 290 ≤ k) → s' k = s k := by
  by_cases ha : (0 : Int32) ≤ a ∧ a ≤ 1
  · obtain ⟨u, hu, rfl⟩ := in_nat (b := 1) ha (by omega)
    have hin : bi (0 ≤ Int32.ofNat u ∧ Int32.ofNat u ≤ 1) = 1 := by unfold bi; rw [if_pos ha]
    have hu2 : u = 0 ∨ u = 1 := by omega
    unfold f_X11_text f_X7_law
    rw [p11_within, Option.bind_some, hin, if_neg (show ¬ (1 : Int32) = 0 by decide)]
    rcases hu2 with rfl | rfl
    · obtain ⟨r, len', dr', en', pl', fa', by', code', dft', v, at', op', st', us', s', step', z1, z2, z3, z4, z5, z6⟩ := pm_fault hN (u := 0) (by omega) hF h0 pd pe pp pf pb pdr at0 op st us me step
      rw [z3, if_pos (show Int32.ofNat 0 = 0 from rfl), Option.bind_some, if_neg (show ¬ (1 : Int32) = 0 by decide), z1, Option.bind_some]
      dsimp only
      refine ⟨v, ce, 0, len', dr', en', pl', fa', by', code', dft', vl, vd, ve, vp, vf, vb, vc, vdr, at', op', st', us', me, s', step', ?_, rfl, hE, hF.zero z5 (fun j h1 h2 => z6 j (by omega) (by omega)), z4, h1.frame (fun j g1 g2 => z6 j (by omega) (by omega)), fun k hk h => z6 k hk (by omega)⟩
      by_cases hr : (0 : Int32) ≤ r
      · rw [if_pos hr] at z2 ⊢; rw [z2]
      · rw [if_neg hr] at z2 ⊢; rw [z2]
    · obtain ⟨r, len', dr', en', pl', fa', by', code', dft', v, at', op', st', us', s', step', z1, z2, z3, z4, z5, z6⟩ := pm_fault hN (u := 1) (by omega) hF h1 vd ve vp vf vb vdr at0 op st us me step
      rw [z3, if_neg (show ¬ Int32.ofNat 1 = 0 by decide), Option.bind_some, if_pos (show (0 : Int32) = 0 from rfl), z1, Option.bind_some]
      dsimp only
      refine ⟨v, ce, 0, pl, pd, pe, pp, pf, pb, pc, pdr, len', dr', en', pl', fa', by', code', dft', at', op', st', us', me, s', step', ?_, rfl, hE, hF.zero z5 (fun j h1 h2 => z6 j (by omega) (by omega)), h0.frame (fun j g1 g2 => z6 j (by omega) (by omega)), z4, fun k hk h => z6 k hk (by omega)⟩
      by_cases hr : (0 : Int32) ≤ r
      · rw [if_pos hr] at z2 ⊢; rw [z2]
      · rw [if_neg hr] at z2 ⊢; rw [z2]
  · have hin : bi (0 ≤ a ∧ a ≤ 1) = 0 := by unfold bi; rw [if_neg ha]
    unfold f_X11_text f_X12_text
    rw [p11_within, p12_in, Option.bind_some, Option.bind_some, hin, if_pos (show (0 : Int32) = 0 from rfl), if_pos (show (0 : Int32) = 0 from rfl), p11_error1, p12_error1, Option.bind_some, Option.bind_some]
    exact ⟨_, _, _, _, _, _, _, _, _, _, _, _, _, _, _, _, _, _, _, _, _, _, _, _, s, _, rfl, rfl, hE.up (k := 1) (by omega), hF, h0, h1, fun _ _ _ => rfl⟩
end PTEXT
