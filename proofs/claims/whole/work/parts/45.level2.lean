/-! PURE: texts are read: sums, products, what is compared, one -/
section PLEVEL2
section
variable {N u E o : Nat} {bytes s : Nat → Int32} {R : RC} {Q : RQ}
theorem ct_Added {v : Int32} (hv : v = 43 ∨ v = 45) {i : Nat} (hi : i < 60) (KC : Int32 → Int32 → Int32 → Int32 → Int32 → (Nat → Int32) → Option (Int32 × Int32 × Int32 × (Nat → Int32))) (n : Nat) (dr pl fa : Int32) (draft : Nat → Int32) : f_X4_readAdded_12 N R (Int32.ofNat o) (Int32.ofNat E) bytes u KC (n + 1) v (Int32.ofNat i) dr pl fa draft = (R (Int32.ofNat o) dr (Int32.ofNat E) (pl + 1) fa bytes draft u).bind fun r5 => (f_X4_write N (-v) r5.1 r5.2.2.2).bind fun r6 => (f_X4_next N (Int32.ofNat E) r5.2.1 r5.2.2.1 bytes).bind fun r7 => f_X4_readAdded_12 N R (Int32.ofNat o) (Int32.ofNat E) bytes u KC n r7 (Int32.ofNat (i + 1)) r6.1 r5.2.1 r5.2.2.1 r6.2 := by
  rw [f_X4_readAdded_12, if_neg (show ¬ (60 : Int32) ≤ Int32.ofNat i by rw [lit_le (by omega) (by omega)]; omega), show Int32.ofNat i + (1 : Int32) = Int32.ofNat (i + 1) from add_lit 1 i]
  rcases hv with rfl | rfl
  · rw [if_pos rfl]
  · rw [if_neg (by decide), if_pos rfl]
theorem ce_Added {v : Int32} (h43 : ¬ v = 43) (h45 : ¬ v = 45) (KC : Int32 → Int32 → Int32 → Int32 → Int32 → (Nat → Int32) → Option (Int32 × Int32 × Int32 × (Nat → Int32))) (n : Nat) (i dr pl fa : Int32) (draft : Nat → Int32) : f_X4_readAdded_12 N R (Int32.ofNat o) (Int32.ofNat E) bytes u KC (n + 1) v i dr pl fa draft = KC v i dr pl fa draft := by
  rw [f_X4_readAdded_12, if_neg h43, if_neg h45]
  split <;> rfl
theorem rt_Added {v : Int32} (hv : v = 43 ∨ v = 45) (hE : E ≤ 60) (hs3 : s 3 = Int32.ofNat E) {p : Nat} (hp : p ≤ E) (hb : bt E s p = v) (KR : Int32 → Int32 → Int32 → (Nat → Int32) → Option (Int32 × Int32 × Int32 × Int32 × (Nat → Int32))) (n : Nat) (op st : Int32) (step : Nat → Int32) : f_X12_sum_9 N Q (Int32.ofNat u) s KR (n + 1) (Int32.ofNat p) op st step = (Q (Int32.ofNat p + 1) op st (Int32.ofNat u) s step).bind fun r6 => if r6.1 = 0 then some (0, r6.2.1, r6.2.2.1, r6.2.2.2.1, r6.2.2.2.2) else (f_X12_step1 N 3 v r6.2.2.2.1 r6.2.2.2.2).bind fun r8 => f_X12_sum_9 N Q (Int32.ofNat u) s KR n r6.2.1 r6.2.2.1 r8.1 r8.2 := by
  rw [f_X12_sum_9, lk N hE hs3 hp, hb]
  rcases hv with rfl | rfl
  · rw [Option.bind_some, if_pos rfl, Option.bind_some]
  · rw [Option.bind_some, if_neg (by decide), Option.bind_some, if_pos rfl, Option.bind_some]
theorem re_Added (hE : E ≤ 60) (hs3 : s 3 = Int32.ofNat E) {p : Nat} (hp : p ≤ E) {v : Int32} (hb : bt E s p = v) (h43 : ¬ v = 43) (h45 : ¬ v = 45) (KR : Int32 → Int32 → Int32 → (Nat → Int32) → Option (Int32 × Int32 × Int32 × Int32 × (Nat → Int32))) (n : Nat) (op st : Int32) (step : Nat → Int32) : f_X12_sum_9 N Q (Int32.ofNat u) s KR (n + 1) (Int32.ofNat p) op st step = KR (Int32.ofNat p) op st step := by
  rw [f_X12_sum_9, lk N hE hs3 hp, hb, Option.bind_some, if_neg h43, Option.bind_some, if_neg h45]
theorem lp_Added (hE : E ≤ 60) (hby : ∀ i, i < E → bytes i = s (290 + i)) (hs3 : s 3 = Int32.ofNat E) (hX : Corr u E o (cF R u E o bytes) (rF Q u o s)) (toks : List Tok) (KC : Int32 → Int32 → Int32 → Int32 → Int32 → (Nat → Int32) → Option (Int32 × Int32 × Int32 × (Nat → Int32))) (KR : Int32 → Int32 → Int32 → (Nat → Int32) → Option (Int32 × Int32 × Int32 × Int32 × (Nat → Int32))) :
    ∀ (k n n' i p : Nat) (cur : List Tok) (draft step : Nat → Int32), p ≤ E → E ≤ p + k → k + 1 < n → k < n' → i ≤ p → toks.length + cur.length ≤ p → Tks (toks ++ cur) draft step → (∀ t ∈ cur, goodTok u t) → RP cur →
      (∃ cur' p' draft' step' x' y', p ≤ p' ∧ p' ≤ E ∧ cur'.length + p ≤ cur.length + p' ∧ f_X4_readAdded_12 N R (Int32.ofNat o) (Int32.ofNat E) bytes u KC n (bt E s p) (Int32.ofNat i) (Int32.ofNat (toks ++ cur).length) (Int32.ofNat p) 0 draft = KC x' y' (Int32.ofNat (toks ++ cur').length) (Int32.ofNat p') 0 draft' ∧ f_X12_sum_9 N Q (Int32.ofNat u) s KR n' (Int32.ofNat p) (Int32.ofNat o) (Int32.ofNat (toks ++ cur).length) step = KR (Int32.ofNat p') (Int32.ofNat o) (Int32.ofNat (toks ++ cur').length) step' ∧ Tks (toks ++ cur') draft' step' ∧ (∀ t ∈ cur', goodTok u t) ∧ RP cur') ∨
      (∃ p' dr' draft' o' st' step' x' y', p ≤ p' ∧ p' ≤ E ∧ dr' ≤ 60 ∧ f_X4_readAdded_12 N R (Int32.ofNat o) (Int32.ofNat E) bytes u KC n (bt E s p) (Int32.ofNat i) (Int32.ofNat (toks ++ cur).length) (Int32.ofNat p) 0 draft = KC x' y' (Int32.ofNat dr') (Int32.ofNat p') 1 draft' ∧ f_X12_sum_9 N Q (Int32.ofNat u) s KR n' (Int32.ofNat p) (Int32.ofNat o) (Int32.ofNat (toks ++ cur).length) step = some (0, Int32.ofNat p', o', st', step')) := by
  intro k
  induction k with
  | zero =>
    intro n n' i p cur draft step hp hk hn hn' hi hlen ht hg hr
    obtain ⟨n, rfl⟩ : ∃ q, n = q + 1 := ⟨n - 1, by omega⟩
    obtain ⟨n', rfl⟩ : ∃ q, n' = q + 1 := ⟨n' - 1, by omega⟩
    have hb : ¬ (bt E s p = 43 ∨ bt E s p = 45) := fun h => by
      have : p < E := by rcases h with h | h <;> exact bt_lt h (by decide)
      omega
    left
    exact ⟨cur, p, draft, step, _, _, by omega, hp, by omega, ce_Added (fun h => hb (Or.inl h)) (fun h => hb (Or.inr (h))) KC n _ _ _ _ _, re_Added hE hs3 hp rfl (fun h => hb (Or.inl h)) (fun h => hb (Or.inr (h))) KR n' _ _ _, ht, hg, hr⟩
  | succ k ih =>
    intro n n' i p cur draft step hp hk hn hn' hi hlen ht hg hr
    obtain ⟨n, rfl⟩ : ∃ q, n = q + 1 := ⟨n - 1, by omega⟩
    obtain ⟨n', rfl⟩ : ∃ q, n' = q + 1 := ⟨n' - 1, by omega⟩
    by_cases hb : (bt E s p = 43 ∨ bt E s p = 45)
    rotate_left
    · left
      exact ⟨cur, p, draft, step, _, _, by omega, hp, by omega, ce_Added (fun h => hb (Or.inl h)) (fun h => hb (Or.inr (h))) KC n _ _ _ _ _, re_Added hE hs3 hp rfl (fun h => hb (Or.inl h)) (fun h => hb (Or.inr (h))) KR n' _ _ _, ht, hg, hr⟩
    have hpE : p < E := by rcases hb with h | h <;> exact bt_lt h (by decide)
    have hsg : isSg (bt E s p) := by unfold isSg; rcases hb with h | h <;> rw [h] <;> simp
    rw [ct_Added hb (by omega) KC, rt_Added hb hE hs3 hp rfl KR]
    rw [show Int32.ofNat p + (1 : Int32) = Int32.ofNat (p + 1) from add_lit 1 p]
    rcases opd N hE hX hsg hpE hlen ht hg hr with ⟨cur1, q1, p1, draft1, draft2, step1, step2, a1, a2, a3, a4, a5, a6, a7, a8, a9, a10, a11⟩ | ⟨p1, dr1, draft1, dr2, draft2, o1, st1, step1, a1, a2, a3, a4, a5, a6⟩
    · have a5 : R (Int32.ofNat o) (Int32.ofNat (toks ++ cur).length) (Int32.ofNat E) (Int32.ofNat (p + 1)) 0 bytes draft u = _ := a5
      have a7 : Q (Int32.ofNat (p + 1)) (Int32.ofNat o) (Int32.ofNat (toks ++ cur).length) (Int32.ofNat u) s step = _ := a7
      rw [a5, a7, Option.bind_some, Option.bind_some]
      dsimp only
      rw [a6, if_neg (show ¬ (1 : Int32) = 0 by decide), a8, Option.bind_some, Option.bind_some]
      dsimp only
      rw [nx0 N hE hby a2, Option.bind_some]
      rcases ih n n' (i + 1) p1 cur1 draft2 step2 a2 (by omega) (by omega) (by omega) (by omega) a3 a9 a10 a11 with ⟨cur', p', draft', step', x', y', b1, b2, b3, b4, b5, b6, b7, b8⟩ | ⟨p', dr', draft', o', st', step', x', y', b1, b2, b3, b4, b5⟩
      · exact Or.inl ⟨cur', p', draft', step', x', y', by omega, b2, by omega, b4, b5, b6, b7, b8⟩
      · exact Or.inr ⟨p', dr', draft', o', st', step', x', y', by omega, b2, b3, b4, b5⟩
    · right
      have a4 : R (Int32.ofNat o) (Int32.ofNat (toks ++ cur).length) (Int32.ofNat E) (Int32.ofNat (p + 1)) 0 bytes draft u = _ := a4
      have a6 : Q (Int32.ofNat (p + 1)) (Int32.ofNat o) (Int32.ofNat (toks ++ cur).length) (Int32.ofNat u) s step = _ := a6
      rw [a4, a6, Option.bind_some, Option.bind_some]
      dsimp only
      rw [a5, if_pos (show (0 : Int32) = 0 from rfl), Option.bind_some]
      dsimp only
      rw [nx1, Option.bind_some]
      obtain ⟨n, rfl⟩ : ∃ q, n = q + 1 := ⟨n - 1, by omega⟩
      exact ⟨p1, dr2, draft2, o1, st1, step1, -1, Int32.ofNat (i + 1), by omega, a2, a3, ce_Added (by decide) (by decide) KC n _ _ _ _ _, rfl⟩
theorem lv_Added (hN : 100 ≤ N) (hE : E ≤ 60) (hby : ∀ i, i < E → bytes i = s (290 + i)) (hs3 : s 3 = Int32.ofNat E) (hX : Corr u E o (cF R u E o bytes) (rF Q u o s)) (R1 R2 R3 R4 R5 : RC) (Q1 Q2 Q3 Q4 Q5 : RQ) : Corr u E o (cF (f_X4_readAdded_b N R1 R2 R3 R4 R R5) u E o bytes) (rF (f_X12_sum_b N Q1 Q2 Q3 Q4 Q Q5) u o s) := by
  constructor
  · intro toks p draft step hp hlen ht
    unfold Good
    show (∃ new p' draft' step', _ ∧ _ ∧ _ ∧ f_X4_readAdded_b N R1 R2 R3 R4 R R5 (Int32.ofNat o) (Int32.ofNat toks.length) (Int32.ofNat E) (Int32.ofNat p) 0 bytes draft u = _ ∧ f_X12_sum_b N Q1 Q2 Q3 Q4 Q Q5 (Int32.ofNat p) (Int32.ofNat o) (Int32.ofNat toks.length) (Int32.ofNat u) s step = _ ∧ _) ∨ (∃ p' dr' draft' o' st' step', _ ∧ _ ∧ _ ∧ f_X4_readAdded_b N R1 R2 R3 R4 R R5 (Int32.ofNat o) (Int32.ofNat toks.length) (Int32.ofNat E) (Int32.ofNat p) 0 bytes draft u = _ ∧ f_X12_sum_b N Q1 Q2 Q3 Q4 Q Q5 (Int32.ofNat p) (Int32.ofNat o) (Int32.ofNat toks.length) (Int32.ofNat u) s step = _)
    unfold f_X4_readAdded_b f_X12_sum_b
    rcases hX.1 toks p draft step hp hlen ht with ⟨new, p1, draft1, step1, a1, a2, a3, a4, a5, a6, a7, a8⟩ | ⟨p1, dr1, draft1, o1, st1, step1, a1, a2, a3, a4, a5⟩
    · have a4 : R (Int32.ofNat o) (Int32.ofNat toks.length) (Int32.ofNat E) (Int32.ofNat p) 0 bytes draft u = _ := a4
      have a5 : Q (Int32.ofNat p) (Int32.ofNat o) (Int32.ofNat toks.length) (Int32.ofNat u) s step = _ := a5
      rw [a4, a5, Option.bind_some, Option.bind_some]
      dsimp only
      rw [if_neg (show ¬ (1 : Int32) = 0 by decide), nx0 N hE hby a2, Option.bind_some]
      rcases lp_Added hE hby hs3 hX toks (fun v2_12 v3_12 this_drafted_12 this_place_12 this_failed_12 this_draft_12 => (some (this_drafted_12, this_place_12, this_failed_12, this_draft_12))) (fun this_at_15 this_open_15 this_steps_15 this_step_15 => (some ((1 : Int32), this_at_15, this_open_15, this_steps_15, this_step_15))) 61 N N 0 p1 new draft1 step1 a2 (by omega) (by omega) (by omega) (by omega) (by omega) a6 a7 a8 with ⟨cur', p', draft', step', x', y', b1, b2, b3, b4, b5, b6, b7, b8⟩ | ⟨p', dr', draft', o', st', step', x', y', b1, b2, b3, b4, b5⟩
      · exact Or.inl ⟨cur', p', draft', step', by omega, b2, by omega, b4, b5, b6, b7, b8⟩
      · exact Or.inr ⟨p', dr', draft', o', st', step', by omega, b2, b3, b4, b5⟩
    · right
      have a4 : R (Int32.ofNat o) (Int32.ofNat toks.length) (Int32.ofNat E) (Int32.ofNat p) 0 bytes draft u = _ := a4
      have a5 : Q (Int32.ofNat p) (Int32.ofNat o) (Int32.ofNat toks.length) (Int32.ofNat u) s step = _ := a5
      rw [a4, a5, Option.bind_some, Option.bind_some]
      dsimp only
      rw [if_pos (show (0 : Int32) = 0 from rfl), nx1, Option.bind_some]
      obtain ⟨M, hM⟩ : ∃ q, N = q + 1 := ⟨N - 1, by omega⟩
      refine ⟨p1, dr1, draft1, o1, st1, step1, a1, a2, a3, ?_, rfl⟩
      have e : ∀ K, f_X4_readAdded_12 N R (Int32.ofNat o) (Int32.ofNat E) bytes u K (M + 1) (-1) 0 (Int32.ofNat dr1) (Int32.ofNat p1) 1 draft1 = K (-1) 0 (Int32.ofNat dr1) (Int32.ofNat p1) 1 draft1 := fun K => ce_Added (by decide) (by decide) K M _ _ _ _ _
      rw [← hM] at e
      rw [e]
  · intro dr p draft hdr hp
    obtain ⟨dr1, draft1, a1, a2⟩ := hX.2 dr p draft hdr hp
    have a2 : R (Int32.ofNat o) (Int32.ofNat dr) (Int32.ofNat E) (Int32.ofNat p) 1 bytes draft u = _ := a2
    refine ⟨dr1, draft1, a1, ?_⟩
    show f_X4_readAdded_b N R1 R2 R3 R4 R R5 (Int32.ofNat o) (Int32.ofNat dr) (Int32.ofNat E) (Int32.ofNat p) 1 bytes draft u = _
    unfold f_X4_readAdded_b
    rw [a2, Option.bind_some]
    dsimp only
    rw [nx1, Option.bind_some]
    obtain ⟨M, hM⟩ : ∃ q, N = q + 1 := ⟨N - 1, by omega⟩
    have e : ∀ K, f_X4_readAdded_12 N R (Int32.ofNat o) (Int32.ofNat E) bytes u K (M + 1) (-1) 0 (Int32.ofNat dr1) (Int32.ofNat p) 1 draft1 = K (-1) 0 (Int32.ofNat dr1) (Int32.ofNat p) 1 draft1 := fun K => ce_Added (by decide) (by decide) K M _ _ _ _ _
    rw [← hM] at e
    rw [e]
theorem ct_Times {v : Int32} (hv : v = 42 ∨ v = 47 ∨ v = 37) {i : Nat} (hi : i < 60) (KC : Int32 → Int32 → Int32 → Int32 → Int32 → (Nat → Int32) → Option (Int32 × Int32 × Int32 × (Nat → Int32))) (n : Nat) (dr pl fa : Int32) (draft : Nat → Int32) : f_X4_readTimes_12 N R (Int32.ofNat o) (Int32.ofNat E) bytes u KC (n + 1) v (Int32.ofNat i) dr pl fa draft = (R (Int32.ofNat o) dr (Int32.ofNat E) (pl + 1) fa bytes draft u).bind fun r5 => (f_X4_write N (-v) r5.1 r5.2.2.2).bind fun r6 => (f_X4_next N (Int32.ofNat E) r5.2.1 r5.2.2.1 bytes).bind fun r7 => f_X4_readTimes_12 N R (Int32.ofNat o) (Int32.ofNat E) bytes u KC n r7 (Int32.ofNat (i + 1)) r6.1 r5.2.1 r5.2.2.1 r6.2 := by
  rw [f_X4_readTimes_12, if_neg (show ¬ (60 : Int32) ≤ Int32.ofNat i by rw [lit_le (by omega) (by omega)]; omega), show Int32.ofNat i + (1 : Int32) = Int32.ofNat (i + 1) from add_lit 1 i]
  rcases hv with rfl | rfl | rfl
  · rw [if_pos rfl]
  · rw [if_neg (by decide), if_pos rfl]
  · rw [if_neg (by decide), if_neg (by decide), if_pos rfl]
theorem ce_Times {v : Int32} (h42 : ¬ v = 42) (h47 : ¬ v = 47) (h37 : ¬ v = 37) (KC : Int32 → Int32 → Int32 → Int32 → Int32 → (Nat → Int32) → Option (Int32 × Int32 × Int32 × (Nat → Int32))) (n : Nat) (i dr pl fa : Int32) (draft : Nat → Int32) : f_X4_readTimes_12 N R (Int32.ofNat o) (Int32.ofNat E) bytes u KC (n + 1) v i dr pl fa draft = KC v i dr pl fa draft := by
  rw [f_X4_readTimes_12, if_neg h42, if_neg h47, if_neg h37]
  split <;> rfl
theorem rt_Times {v : Int32} (hv : v = 42 ∨ v = 47 ∨ v = 37) (hE : E ≤ 60) (hs3 : s 3 = Int32.ofNat E) {p : Nat} (hp : p ≤ E) (hb : bt E s p = v) (KR : Int32 → Int32 → Int32 → (Nat → Int32) → Option (Int32 × Int32 × Int32 × Int32 × (Nat → Int32))) (n : Nat) (op st : Int32) (step : Nat → Int32) : f_X12_product_9 N Q (Int32.ofNat u) s KR (n + 1) (Int32.ofNat p) op st step = (Q (Int32.ofNat p + 1) op st (Int32.ofNat u) s step).bind fun r6 => if r6.1 = 0 then some (0, r6.2.1, r6.2.2.1, r6.2.2.2.1, r6.2.2.2.2) else (f_X12_step1 N 3 v r6.2.2.2.1 r6.2.2.2.2).bind fun r8 => f_X12_product_9 N Q (Int32.ofNat u) s KR n r6.2.1 r6.2.2.1 r8.1 r8.2 := by
  rw [f_X12_product_9, lk N hE hs3 hp, hb]
  rcases hv with rfl | rfl | rfl
  · rw [Option.bind_some, if_pos rfl, Option.bind_some]
  · rw [Option.bind_some, if_neg (by decide), Option.bind_some, if_pos rfl, Option.bind_some]
  · rw [Option.bind_some, if_neg (by decide), Option.bind_some, if_neg (by decide), Option.bind_some, if_pos rfl, Option.bind_some]
theorem re_Times (hE : E ≤ 60) (hs3 : s 3 = Int32.ofNat E) {p : Nat} (hp : p ≤ E) {v : Int32} (hb : bt E s p = v) (h42 : ¬ v = 42) (h47 : ¬ v = 47) (h37 : ¬ v = 37) (KR : Int32 → Int32 → Int32 → (Nat → Int32) → Option (Int32 × Int32 × Int32 × Int32 × (Nat → Int32))) (n : Nat) (op st : Int32) (step : Nat → Int32) : f_X12_product_9 N Q (Int32.ofNat u) s KR (n + 1) (Int32.ofNat p) op st step = KR (Int32.ofNat p) op st step := by
  rw [f_X12_product_9, lk N hE hs3 hp, hb, Option.bind_some, if_neg h42, Option.bind_some, if_neg h47, Option.bind_some, if_neg h37]
theorem lp_Times (hE : E ≤ 60) (hby : ∀ i, i < E → bytes i = s (290 + i)) (hs3 : s 3 = Int32.ofNat E) (hX : Corr u E o (cF R u E o bytes) (rF Q u o s)) (toks : List Tok) (KC : Int32 → Int32 → Int32 → Int32 → Int32 → (Nat → Int32) → Option (Int32 × Int32 × Int32 × (Nat → Int32))) (KR : Int32 → Int32 → Int32 → (Nat → Int32) → Option (Int32 × Int32 × Int32 × Int32 × (Nat → Int32))) :
    ∀ (k n n' i p : Nat) (cur : List Tok) (draft step : Nat → Int32), p ≤ E → E ≤ p + k → k + 1 < n → k < n' → i ≤ p → toks.length + cur.length ≤ p → Tks (toks ++ cur) draft step → (∀ t ∈ cur, goodTok u t) → RP cur →
      (∃ cur' p' draft' step' x' y', p ≤ p' ∧ p' ≤ E ∧ cur'.length + p ≤ cur.length + p' ∧ f_X4_readTimes_12 N R (Int32.ofNat o) (Int32.ofNat E) bytes u KC n (bt E s p) (Int32.ofNat i) (Int32.ofNat (toks ++ cur).length) (Int32.ofNat p) 0 draft = KC x' y' (Int32.ofNat (toks ++ cur').length) (Int32.ofNat p') 0 draft' ∧ f_X12_product_9 N Q (Int32.ofNat u) s KR n' (Int32.ofNat p) (Int32.ofNat o) (Int32.ofNat (toks ++ cur).length) step = KR (Int32.ofNat p') (Int32.ofNat o) (Int32.ofNat (toks ++ cur').length) step' ∧ Tks (toks ++ cur') draft' step' ∧ (∀ t ∈ cur', goodTok u t) ∧ RP cur') ∨
      (∃ p' dr' draft' o' st' step' x' y', p ≤ p' ∧ p' ≤ E ∧ dr' ≤ 60 ∧ f_X4_readTimes_12 N R (Int32.ofNat o) (Int32.ofNat E) bytes u KC n (bt E s p) (Int32.ofNat i) (Int32.ofNat (toks ++ cur).length) (Int32.ofNat p) 0 draft = KC x' y' (Int32.ofNat dr') (Int32.ofNat p') 1 draft' ∧ f_X12_product_9 N Q (Int32.ofNat u) s KR n' (Int32.ofNat p) (Int32.ofNat o) (Int32.ofNat (toks ++ cur).length) step = some (0, Int32.ofNat p', o', st', step')) := by
  intro k
  induction k with
  | zero =>
    intro n n' i p cur draft step hp hk hn hn' hi hlen ht hg hr
    obtain ⟨n, rfl⟩ : ∃ q, n = q + 1 := ⟨n - 1, by omega⟩
    obtain ⟨n', rfl⟩ : ∃ q, n' = q + 1 := ⟨n' - 1, by omega⟩
    have hb : ¬ (bt E s p = 42 ∨ bt E s p = 47 ∨ bt E s p = 37) := fun h => by
      have : p < E := by rcases h with h | h | h <;> exact bt_lt h (by decide)
      omega
    left
    exact ⟨cur, p, draft, step, _, _, by omega, hp, by omega, ce_Times (fun h => hb (Or.inl h)) (fun h => hb (Or.inr (Or.inl h))) (fun h => hb (Or.inr (Or.inr (h)))) KC n _ _ _ _ _, re_Times hE hs3 hp rfl (fun h => hb (Or.inl h)) (fun h => hb (Or.inr (Or.inl h))) (fun h => hb (Or.inr (Or.inr (h)))) KR n' _ _ _, ht, hg, hr⟩
  | succ k ih =>
    intro n n' i p cur draft step hp hk hn hn' hi hlen ht hg hr
    obtain ⟨n, rfl⟩ : ∃ q, n = q + 1 := ⟨n - 1, by omega⟩
    obtain ⟨n', rfl⟩ : ∃ q, n' = q + 1 := ⟨n' - 1, by omega⟩
    by_cases hb : (bt E s p = 42 ∨ bt E s p = 47 ∨ bt E s p = 37)
    rotate_left
    · left
      exact ⟨cur, p, draft, step, _, _, by omega, hp, by omega, ce_Times (fun h => hb (Or.inl h)) (fun h => hb (Or.inr (Or.inl h))) (fun h => hb (Or.inr (Or.inr (h)))) KC n _ _ _ _ _, re_Times hE hs3 hp rfl (fun h => hb (Or.inl h)) (fun h => hb (Or.inr (Or.inl h))) (fun h => hb (Or.inr (Or.inr (h)))) KR n' _ _ _, ht, hg, hr⟩
    have hpE : p < E := by rcases hb with h | h | h <;> exact bt_lt h (by decide)
    have hsg : isSg (bt E s p) := by unfold isSg; rcases hb with h | h | h <;> rw [h] <;> simp
    rw [ct_Times hb (by omega) KC, rt_Times hb hE hs3 hp rfl KR]
    rw [show Int32.ofNat p + (1 : Int32) = Int32.ofNat (p + 1) from add_lit 1 p]
    rcases opd N hE hX hsg hpE hlen ht hg hr with ⟨cur1, q1, p1, draft1, draft2, step1, step2, a1, a2, a3, a4, a5, a6, a7, a8, a9, a10, a11⟩ | ⟨p1, dr1, draft1, dr2, draft2, o1, st1, step1, a1, a2, a3, a4, a5, a6⟩
    · have a5 : R (Int32.ofNat o) (Int32.ofNat (toks ++ cur).length) (Int32.ofNat E) (Int32.ofNat (p + 1)) 0 bytes draft u = _ := a5
      have a7 : Q (Int32.ofNat (p + 1)) (Int32.ofNat o) (Int32.ofNat (toks ++ cur).length) (Int32.ofNat u) s step = _ := a7
      rw [a5, a7, Option.bind_some, Option.bind_some]
      dsimp only
      rw [a6, if_neg (show ¬ (1 : Int32) = 0 by decide), a8, Option.bind_some, Option.bind_some]
      dsimp only
      rw [nx0 N hE hby a2, Option.bind_some]
      rcases ih n n' (i + 1) p1 cur1 draft2 step2 a2 (by omega) (by omega) (by omega) (by omega) a3 a9 a10 a11 with ⟨cur', p', draft', step', x', y', b1, b2, b3, b4, b5, b6, b7, b8⟩ | ⟨p', dr', draft', o', st', step', x', y', b1, b2, b3, b4, b5⟩
      · exact Or.inl ⟨cur', p', draft', step', x', y', by omega, b2, by omega, b4, b5, b6, b7, b8⟩
      · exact Or.inr ⟨p', dr', draft', o', st', step', x', y', by omega, b2, b3, b4, b5⟩
    · right
      have a4 : R (Int32.ofNat o) (Int32.ofNat (toks ++ cur).length) (Int32.ofNat E) (Int32.ofNat (p + 1)) 0 bytes draft u = _ := a4
      have a6 : Q (Int32.ofNat (p + 1)) (Int32.ofNat o) (Int32.ofNat (toks ++ cur).length) (Int32.ofNat u) s step = _ := a6
      rw [a4, a6, Option.bind_some, Option.bind_some]
      dsimp only
      rw [a5, if_pos (show (0 : Int32) = 0 from rfl), Option.bind_some]
      dsimp only
      rw [nx1, Option.bind_some]
      obtain ⟨n, rfl⟩ : ∃ q, n = q + 1 := ⟨n - 1, by omega⟩
      exact ⟨p1, dr2, draft2, o1, st1, step1, -1, Int32.ofNat (i + 1), by omega, a2, a3, ce_Times (by decide) (by decide) (by decide) KC n _ _ _ _ _, rfl⟩
theorem lv_Times (hN : 100 ≤ N) (hE : E ≤ 60) (hby : ∀ i, i < E → bytes i = s (290 + i)) (hs3 : s 3 = Int32.ofNat E) (hX : Corr u E o (cF R u E o bytes) (rF Q u o s)) (R1 R2 R3 R4 R5 : RC) (Q1 Q2 Q3 Q4 Q5 : RQ) : Corr u E o (cF (f_X4_readTimes_b N R1 R2 R3 R4 R5 R) u E o bytes) (rF (f_X12_product_b N Q1 Q2 Q3 Q4 Q5 Q) u o s) := by
  constructor
  · intro toks p draft step hp hlen ht
    unfold Good
    show (∃ new p' draft' step', _ ∧ _ ∧ _ ∧ f_X4_readTimes_b N R1 R2 R3 R4 R5 R (Int32.ofNat o) (Int32.ofNat toks.length) (Int32.ofNat E) (Int32.ofNat p) 0 bytes draft u = _ ∧ f_X12_product_b N Q1 Q2 Q3 Q4 Q5 Q (Int32.ofNat p) (Int32.ofNat o) (Int32.ofNat toks.length) (Int32.ofNat u) s step = _ ∧ _) ∨ (∃ p' dr' draft' o' st' step', _ ∧ _ ∧ _ ∧ f_X4_readTimes_b N R1 R2 R3 R4 R5 R (Int32.ofNat o) (Int32.ofNat toks.length) (Int32.ofNat E) (Int32.ofNat p) 0 bytes draft u = _ ∧ f_X12_product_b N Q1 Q2 Q3 Q4 Q5 Q (Int32.ofNat p) (Int32.ofNat o) (Int32.ofNat toks.length) (Int32.ofNat u) s step = _)
    unfold f_X4_readTimes_b f_X12_product_b
    rcases hX.1 toks p draft step hp hlen ht with ⟨new, p1, draft1, step1, a1, a2, a3, a4, a5, a6, a7, a8⟩ | ⟨p1, dr1, draft1, o1, st1, step1, a1, a2, a3, a4, a5⟩
    · have a4 : R (Int32.ofNat o) (Int32.ofNat toks.length) (Int32.ofNat E) (Int32.ofNat p) 0 bytes draft u = _ := a4
      have a5 : Q (Int32.ofNat p) (Int32.ofNat o) (Int32.ofNat toks.length) (Int32.ofNat u) s step = _ := a5
      rw [a4, a5, Option.bind_some, Option.bind_some]
      dsimp only
      rw [if_neg (show ¬ (1 : Int32) = 0 by decide), nx0 N hE hby a2, Option.bind_some]
      rcases lp_Times hE hby hs3 hX toks (fun v2_12 v3_12 this_drafted_12 this_place_12 this_failed_12 this_draft_12 => (some (this_drafted_12, this_place_12, this_failed_12, this_draft_12))) (fun this_at_15 this_open_15 this_steps_15 this_step_15 => (some ((1 : Int32), this_at_15, this_open_15, this_steps_15, this_step_15))) 61 N N 0 p1 new draft1 step1 a2 (by omega) (by omega) (by omega) (by omega) (by omega) a6 a7 a8 with ⟨cur', p', draft', step', x', y', b1, b2, b3, b4, b5, b6, b7, b8⟩ | ⟨p', dr', draft', o', st', step', x', y', b1, b2, b3, b4, b5⟩
      · exact Or.inl ⟨cur', p', draft', step', by omega, b2, by omega, b4, b5, b6, b7, b8⟩
      · exact Or.inr ⟨p', dr', draft', o', st', step', by omega, b2, b3, b4, b5⟩
    · right
      have a4 : R (Int32.ofNat o) (Int32.ofNat toks.length) (Int32.ofNat E) (Int32.ofNat p) 0 bytes draft u = _ := a4
      have a5 : Q (Int32.ofNat p) (Int32.ofNat o) (Int32.ofNat toks.length) (Int32.ofNat u) s step = _ := a5
      rw [a4, a5, Option.bind_some, Option.bind_some]
      dsimp only
      rw [if_pos (show (0 : Int32) = 0 from rfl), nx1, Option.bind_some]
      obtain ⟨M, hM⟩ : ∃ q, N = q + 1 := ⟨N - 1, by omega⟩
      refine ⟨p1, dr1, draft1, o1, st1, step1, a1, a2, a3, ?_, rfl⟩
      have e : ∀ K, f_X4_readTimes_12 N R (Int32.ofNat o) (Int32.ofNat E) bytes u K (M + 1) (-1) 0 (Int32.ofNat dr1) (Int32.ofNat p1) 1 draft1 = K (-1) 0 (Int32.ofNat dr1) (Int32.ofNat p1) 1 draft1 := fun K => ce_Times (by decide) (by decide) (by decide) K M _ _ _ _ _
      rw [← hM] at e
      rw [e]
  · intro dr p draft hdr hp
    obtain ⟨dr1, draft1, a1, a2⟩ := hX.2 dr p draft hdr hp
    have a2 : R (Int32.ofNat o) (Int32.ofNat dr) (Int32.ofNat E) (Int32.ofNat p) 1 bytes draft u = _ := a2
    refine ⟨dr1, draft1, a1, ?_⟩
    show f_X4_readTimes_b N R1 R2 R3 R4 R5 R (Int32.ofNat o) (Int32.ofNat dr) (Int32.ofNat E) (Int32.ofNat p) 1 bytes draft u = _
    unfold f_X4_readTimes_b
    rw [a2, Option.bind_some]
    dsimp only
    rw [nx1, Option.bind_some]
    obtain ⟨M, hM⟩ : ∃ q, N = q + 1 := ⟨N - 1, by omega⟩
    have e : ∀ K, f_X4_readTimes_12 N R (Int32.ofNat o) (Int32.ofNat E) bytes u K (M + 1) (-1) 0 (Int32.ofNat dr1) (Int32.ofNat p) 1 draft1 = K (-1) 0 (Int32.ofNat dr1) (Int32.ofNat p) 1 draft1 := fun K => ce_Times (by decide) (by decide) (by decide) K M _ _ _ _ _
    rw [← hM] at e
    rw [e]
theorem lv_Compared (hN : 100 ≤ N) (hE : E ≤ 60) (hby : ∀ i, i < E → bytes i = s (290 + i)) (hs3 : s 3 = Int32.ofNat E) (hX : Corr u E o (cF R u E o bytes) (rF Q u o s)) (R1 R2 R3 R4 R5 : RC) (Q1 Q2 Q3 Q4 Q5 : RQ) : Corr u E o (cF (f_X4_readCompared_b N R1 R2 R3 R R4 R5) u E o bytes) (rF (f_X12_compared_b N Q1 Q2 Q3 Q Q4 Q5) u o s) := by
  constructor
  · intro toks p draft step hp hlen ht
    unfold Good
    show (∃ new p' draft' step', _ ∧ _ ∧ _ ∧ f_X4_readCompared_b N R1 R2 R3 R R4 R5 (Int32.ofNat o) (Int32.ofNat toks.length) (Int32.ofNat E) (Int32.ofNat p) 0 bytes draft u = _ ∧ f_X12_compared_b N Q1 Q2 Q3 Q Q4 Q5 (Int32.ofNat p) (Int32.ofNat o) (Int32.ofNat toks.length) (Int32.ofNat u) s step = _ ∧ _) ∨ (∃ p' dr' draft' o' st' step', _ ∧ _ ∧ _ ∧ f_X4_readCompared_b N R1 R2 R3 R R4 R5 (Int32.ofNat o) (Int32.ofNat toks.length) (Int32.ofNat E) (Int32.ofNat p) 0 bytes draft u = _ ∧ f_X12_compared_b N Q1 Q2 Q3 Q Q4 Q5 (Int32.ofNat p) (Int32.ofNat o) (Int32.ofNat toks.length) (Int32.ofNat u) s step = _)
    unfold f_X4_readCompared_b f_X12_compared_b
    rcases hX.1 toks p draft step hp hlen ht with ⟨new, p1, draft1, step1, a1, a2, a3, a4, a5, a6, a7, a8⟩ | ⟨p1, dr1, draft1, o1, st1, step1, a1, a2, a3, a4, a5⟩
    · have a4 : R (Int32.ofNat o) (Int32.ofNat toks.length) (Int32.ofNat E) (Int32.ofNat p) 0 bytes draft u = _ := a4
      have a5 : Q (Int32.ofNat p) (Int32.ofNat o) (Int32.ofNat toks.length) (Int32.ofNat u) s step = _ := a5
      rw [a4, a5, Option.bind_some, Option.bind_some]
      dsimp only
      rw [if_neg (show ¬ (1 : Int32) = 0 by decide), nx0 N hE hby a2, lk N hE hs3 a2, Option.bind_some, Option.bind_some, show Int32.ofNat p1 + (1 : Int32) = Int32.ofNat (p1 + 1) from add_lit 1 p1]
      by_cases hb : bt E s p1 = 60 ∨ bt E s p1 = 61 ∨ bt E s p1 = 62
      · have hpE : p1 < E := by rcases hb with h | h | h <;> exact bt_lt h (by decide)
        have hsg : isSg (bt E s p1) := by unfold isSg; rcases hb with h | h | h <;> rw [h] <;> simp
        rcases opd N hE hX hsg hpE (by omega) a6 a7 a8 with ⟨cur1, q1, p2, draft2, draft3, step2, step3, b1, b2, b3, b4, b5, b6, b7, b8, b9, b10, b11⟩ | ⟨p2, dr1, draft2, dr2, draft3, o1, st1, step2, b1, b2, b3, b4, b5, b6⟩
        · left
          have b5 : R (Int32.ofNat o) (Int32.ofNat (toks ++ new).length) (Int32.ofNat E) (Int32.ofNat (p1 + 1)) 0 bytes draft1 u = _ := b5
          have b7 : Q (Int32.ofNat (p1 + 1)) (Int32.ofNat o) (Int32.ofNat (toks ++ new).length) (Int32.ofNat u) s step1 = _ := b7
          refine ⟨cur1, p2, draft3, step3, by omega, b2, by omega, ?_, ?_, b9, b10, b11⟩
          · rw [b5, Option.bind_some]
            dsimp only
            rw [b6, Option.bind_some]
            rcases hb with h | h | h
            · rw [if_pos h]
            · rw [if_neg (by rw [h]; decide), if_pos h]
            · rw [if_neg (by rw [h]; decide), if_neg (by rw [h]; decide), if_pos h]
          · rw [b7, Option.bind_some]
            dsimp only
            rw [if_neg (show ¬ (1 : Int32) = 0 by decide), b8, Option.bind_some]
            rcases hb with h | h | h
            · rw [if_pos h]
            · rw [if_neg (by rw [h]; decide), if_pos h]
            · rw [if_neg (by rw [h]; decide), if_neg (by rw [h]; decide), if_pos h]
        · right
          have b4 : R (Int32.ofNat o) (Int32.ofNat (toks ++ new).length) (Int32.ofNat E) (Int32.ofNat (p1 + 1)) 0 bytes draft1 u = _ := b4
          have b6 : Q (Int32.ofNat (p1 + 1)) (Int32.ofNat o) (Int32.ofNat (toks ++ new).length) (Int32.ofNat u) s step1 = _ := b6
          refine ⟨p2, dr2, draft3, o1, st1, step2, by omega, b2, b3, ?_, ?_⟩
          · rw [b4, Option.bind_some]
            dsimp only
            rw [b5, Option.bind_some]
            rcases hb with h | h | h
            · rw [if_pos h]
            · rw [if_neg (by rw [h]; decide), if_pos h]
            · rw [if_neg (by rw [h]; decide), if_neg (by rw [h]; decide), if_pos h]
          · rw [b6, Option.bind_some]
            dsimp only
            rw [if_pos (show (0 : Int32) = 0 from rfl)]
            rcases hb with h | h | h
            · rw [if_pos h]
            · rw [if_neg (by rw [h]; decide), if_pos h]
            · rw [if_neg (by rw [h]; decide), if_neg (by rw [h]; decide), if_pos h]
      · left
        have h1 : ¬ bt E s p1 = 60 := fun h => hb (Or.inl h)
        have h2 : ¬ bt E s p1 = 61 := fun h => hb (Or.inr (Or.inl h))
        have h3 : ¬ bt E s p1 = 62 := fun h => hb (Or.inr (Or.inr h))
        rw [if_neg h1, if_neg h2, if_neg h3, if_neg h1, if_neg h2, if_neg h3]
        exact ⟨new, p1, draft1, step1, a1, a2, a3, rfl, rfl, a6, a7, a8⟩
    · right
      have a4 : R (Int32.ofNat o) (Int32.ofNat toks.length) (Int32.ofNat E) (Int32.ofNat p) 0 bytes draft u = _ := a4
      have a5 : Q (Int32.ofNat p) (Int32.ofNat o) (Int32.ofNat toks.length) (Int32.ofNat u) s step = _ := a5
      rw [a4, a5, Option.bind_some, Option.bind_some]
      dsimp only
      rw [if_pos (show (0 : Int32) = 0 from rfl), nx1, Option.bind_some, if_neg (show ¬ (-1 : Int32) = 60 by decide), if_neg (show ¬ (-1 : Int32) = 61 by decide), if_neg (show ¬ (-1 : Int32) = 62 by decide)]
      exact ⟨p1, dr1, draft1, o1, st1, step1, a1, a2, a3, rfl, rfl⟩
  · intro dr p draft hdr hp
    obtain ⟨dr1, draft1, a1, a2⟩ := hX.2 dr p draft hdr hp
    have a2 : R (Int32.ofNat o) (Int32.ofNat dr) (Int32.ofNat E) (Int32.ofNat p) 1 bytes draft u = _ := a2
    refine ⟨dr1, draft1, a1, ?_⟩
    show f_X4_readCompared_b N R1 R2 R3 R R4 R5 (Int32.ofNat o) (Int32.ofNat dr) (Int32.ofNat E) (Int32.ofNat p) 1 bytes draft u = _
    unfold f_X4_readCompared_b
    rw [a2, Option.bind_some]
    dsimp only
    rw [nx1, Option.bind_some, if_neg (show ¬ (-1 : Int32) = 60 by decide), if_neg (show ¬ (-1 : Int32) = 61 by decide), if_neg (show ¬ (-1 : Int32) = 62 by decide)]
end
end PLEVEL2
