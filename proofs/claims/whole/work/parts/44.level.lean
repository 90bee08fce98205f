/-! PURE: texts are read: the levels -/
section PLEVEL
abbrev RC : Type := Int32 → Int32 → Int32 → Int32 → Int32 → (Nat → Int32) → (Nat → Int32) → Nat → Option (Int32 × Int32 × Int32 × (Nat → Int32))
abbrev RQ : Type := Int32 → Int32 → Int32 → Int32 → (Nat → Int32) → (Nat → Int32) → Option (Int32 × Int32 × Int32 × Int32 × (Nat → Int32))
abbrev cF (R : RC) (u E o : Nat) (bytes : Nat → Int32) : FnC := fun dr pl fa draft => R (Int32.ofNat o) dr (Int32.ofNat E) pl fa bytes draft u
abbrev rF (Q : RQ) (u o : Nat) (s : Nat → Int32) : FnR := fun pl st step => Q pl (Int32.ofNat o) st (Int32.ofNat u) s step
section
variable {N u E o : Nat} {bytes s : Nat → Int32} {R : RC} {Q : RQ}
theorem bt_lt {p : Nat} {v : Int32} (h : bt E s p = v) (hv : v ≠ -1) : p < E := by
  by_cases hp : p < E
  · exact hp
  · exfalso; unfold bt at h; rw [if_neg hp] at h; exact hv h.symm

theorem lp_Either (hE : E ≤ 60) (hby : ∀ i, i < E → bytes i = s (290 + i)) (hs3 : s 3 = Int32.ofNat E) (hX : Corr u E o (cF R u E o bytes) (rF Q u o s)) (toks : List Tok) (KC : Int32 → Int32 → Int32 → Int32 → (Nat → Int32) → Option (Int32 × Int32 × Int32 × (Nat → Int32))) (KR : Int32 → Int32 → Int32 → (Nat → Int32) → Option (Int32 × Int32 × Int32 × Int32 × (Nat → Int32))) :
    ∀ (k n n' i p : Nat) (cur : List Tok) (draft step : Nat → Int32), p ≤ E → E ≤ p + k → k + 1 < n → k < n' → i ≤ p → toks.length + cur.length ≤ p → Tks (toks ++ cur) draft step → (∀ t ∈ cur, goodTok u t) → RP cur →
      (∃ cur' p' draft' step' y', p ≤ p' ∧ p' ≤ E ∧ cur'.length + p ≤ cur.length + p' ∧ f_X4_readEither_7 N R (Int32.ofNat o) (Int32.ofNat E) bytes u KC n (Int32.ofNat i) (Int32.ofNat (toks ++ cur).length) (Int32.ofNat p) 0 draft = KC y' (Int32.ofNat (toks ++ cur').length) (Int32.ofNat p') 0 draft' ∧ f_X12_whole_9 N Q (Int32.ofNat u) s KR n' (Int32.ofNat p) (Int32.ofNat o) (Int32.ofNat (toks ++ cur).length) step = KR (Int32.ofNat p') (Int32.ofNat o) (Int32.ofNat (toks ++ cur').length) step' ∧ Tks (toks ++ cur') draft' step' ∧ (∀ t ∈ cur', goodTok u t) ∧ RP cur') ∨
      (∃ p' dr' draft' o' st' step' y', p ≤ p' ∧ p' ≤ E ∧ dr' ≤ 60 ∧ f_X4_readEither_7 N R (Int32.ofNat o) (Int32.ofNat E) bytes u KC n (Int32.ofNat i) (Int32.ofNat (toks ++ cur).length) (Int32.ofNat p) 0 draft = KC y' (Int32.ofNat dr') (Int32.ofNat p') 1 draft' ∧ f_X12_whole_9 N Q (Int32.ofNat u) s KR n' (Int32.ofNat p) (Int32.ofNat o) (Int32.ofNat (toks ++ cur).length) step = some (0, Int32.ofNat p', o', st', step')) := by
  intro k
  induction k with
  | zero =>
    intro n n' i p cur draft step hp hk hn hn' hi hlen ht hg hr
    obtain ⟨n, rfl⟩ : ∃ q, n = q + 1 := ⟨n - 1, by omega⟩
    obtain ⟨n', rfl⟩ : ∃ q, n' = q + 1 := ⟨n' - 1, by omega⟩
    have hb : ¬ bt E s p = 124 := fun h => by have := bt_lt h (by decide); omega
    left
    rw [f_X4_readEither_7, f_X12_whole_9, nx0 N hE hby hp, lk N hE hs3 hp, Option.bind_some, Option.bind_some, if_neg hb, if_neg hb]
    refine ⟨cur, p, draft, step, Int32.ofNat i, by omega, hp, by omega, ?_, rfl, ht, hg, hr⟩
    split <;> rfl
  | succ k ih =>
    intro n n' i p cur draft step hp hk hn hn' hi hlen ht hg hr
    obtain ⟨n, rfl⟩ : ∃ q, n = q + 1 := ⟨n - 1, by omega⟩
    obtain ⟨n', rfl⟩ : ∃ q, n' = q + 1 := ⟨n' - 1, by omega⟩
    by_cases hb : bt E s p = 124
    rotate_left
    · left
      rw [f_X4_readEither_7, f_X12_whole_9, nx0 N hE hby hp, lk N hE hs3 hp, Option.bind_some, Option.bind_some, if_neg hb, if_neg hb]
      refine ⟨cur, p, draft, step, Int32.ofNat i, by omega, hp, by omega, ?_, rfl, ht, hg, hr⟩
      split <;> rfl
    have hpE : p < E := bt_lt hb (by decide)
    rw [f_X4_readEither_7, f_X12_whole_9, if_neg (show ¬ (60 : Int32) ≤ Int32.ofNat i by rw [lit_le (by omega) (by omega)]; omega), nx0 N hE hby hp, lk N hE hs3 hp, Option.bind_some, Option.bind_some, if_pos hb, if_pos hb]
    rw [show Int32.ofNat p + (1 : Int32) = Int32.ofNat (p + 1) from add_lit 1 p, show Int32.ofNat i + (1 : Int32) = Int32.ofNat (i + 1) from add_lit 1 i]
    rcases opd (v := 124) N hE hX (by unfold isSg; simp) hpE hlen ht hg hr with ⟨cur1, q1, p1, draft1, draft2, step1, step2, a1, a2, a3, a4, a5, a6, a7, a8, a9, a10, a11⟩ | ⟨p1, dr1, draft1, dr2, draft2, o1, st1, step1, a1, a2, a3, a4, a5, a6⟩
    · have a5 : R (Int32.ofNat o) (Int32.ofNat (toks ++ cur).length) (Int32.ofNat E) (Int32.ofNat (p + 1)) 0 bytes draft u = _ := a5
      have a7 : Q (Int32.ofNat (p + 1)) (Int32.ofNat o) (Int32.ofNat (toks ++ cur).length) (Int32.ofNat u) s step = _ := a7
      rw [a5, a7, Option.bind_some, Option.bind_some]
      dsimp only
      rw [a6, if_neg (show ¬ (1 : Int32) = 0 by decide), a8, Option.bind_some, Option.bind_some]
      dsimp only
      rcases ih n n' (i + 1) p1 cur1 draft2 step2 a2 (by omega) (by omega) (by omega) (by omega) a3 a9 a10 a11 with ⟨cur', p', draft', step', y', b1, b2, b3, b4, b5, b6, b7, b8⟩ | ⟨p', dr', draft', o', st', step', y', b1, b2, b3, b4, b5⟩
      · exact Or.inl ⟨cur', p', draft', step', y', by omega, b2, by omega, b4, b5, b6, b7, b8⟩
      · exact Or.inr ⟨p', dr', draft', o', st', step', y', by omega, b2, b3, b4, b5⟩
    · right
      have a4 : R (Int32.ofNat o) (Int32.ofNat (toks ++ cur).length) (Int32.ofNat E) (Int32.ofNat (p + 1)) 0 bytes draft u = _ := a4
      have a6 : Q (Int32.ofNat (p + 1)) (Int32.ofNat o) (Int32.ofNat (toks ++ cur).length) (Int32.ofNat u) s step = _ := a6
      rw [a4, a6, Option.bind_some, Option.bind_some]
      dsimp only
      rw [a5, if_pos (show (0 : Int32) = 0 from rfl), Option.bind_some]
      dsimp only
      obtain ⟨n, rfl⟩ : ∃ q, n = q + 1 := ⟨n - 1, by omega⟩
      refine ⟨p1, dr2, draft2, o1, st1, step1, Int32.ofNat (i + 1), by omega, a2, a3, ?_, rfl⟩
      rw [f_X4_readEither_7, nx1, Option.bind_some, if_neg (show ¬ (-1 : Int32) = 124 by decide)]
      split <;> rfl
theorem lv_Either (hN : 100 ≤ N) (hE : E ≤ 60) (hby : ∀ i, i < E → bytes i = s (290 + i)) (hs3 : s 3 = Int32.ofNat E) (hX : Corr u E o (cF R u E o bytes) (rF Q u o s)) (R1 R2 R3 R4 R5 : RC) (Q1 Q2 Q3 Q4 Q5 : RQ) : Corr u E o (cF (f_X4_readEither_b N R1 R R2 R3 R4 R5) u E o bytes) (rF (f_X12_whole_b N Q1 Q Q2 Q3 Q4 Q5) u o s) := by
  constructor
  · intro toks p draft step hp hlen ht
    unfold Good
    show (∃ new p' draft' step', _ ∧ _ ∧ _ ∧ f_X4_readEither_b N R1 R R2 R3 R4 R5 (Int32.ofNat o) (Int32.ofNat toks.length) (Int32.ofNat E) (Int32.ofNat p) 0 bytes draft u = _ ∧ f_X12_whole_b N Q1 Q Q2 Q3 Q4 Q5 (Int32.ofNat p) (Int32.ofNat o) (Int32.ofNat toks.length) (Int32.ofNat u) s step = _ ∧ _) ∨ (∃ p' dr' draft' o' st' step', _ ∧ _ ∧ _ ∧ f_X4_readEither_b N R1 R R2 R3 R4 R5 (Int32.ofNat o) (Int32.ofNat toks.length) (Int32.ofNat E) (Int32.ofNat p) 0 bytes draft u = _ ∧ f_X12_whole_b N Q1 Q Q2 Q3 Q4 Q5 (Int32.ofNat p) (Int32.ofNat o) (Int32.ofNat toks.length) (Int32.ofNat u) s step = _)
    unfold f_X4_readEither_b f_X12_whole_b
    rcases hX.1 toks p draft step hp hlen ht with ⟨new, p1, draft1, step1, a1, a2, a3, a4, a5, a6, a7, a8⟩ | ⟨p1, dr1, draft1, o1, st1, step1, a1, a2, a3, a4, a5⟩
    · have a4 : R (Int32.ofNat o) (Int32.ofNat toks.length) (Int32.ofNat E) (Int32.ofNat p) 0 bytes draft u = _ := a4
      have a5 : Q (Int32.ofNat p) (Int32.ofNat o) (Int32.ofNat toks.length) (Int32.ofNat u) s step = _ := a5
      rw [a4, a5, Option.bind_some, Option.bind_some]
      dsimp only
      rw [if_neg (show ¬ (1 : Int32) = 0 by decide)]
      rcases lp_Either hE hby hs3 hX toks (fun v2_7 this_drafted_7 this_place_7 this_failed_7 this_draft_7 => (some (this_drafted_7, this_place_7, this_failed_7, this_draft_7))) (fun this_at_8 this_open_8 this_steps_8 this_step_8 => (some ((1 : Int32), this_at_8, this_open_8, this_steps_8, this_step_8))) 61 N N 0 p1 new draft1 step1 a2 (by omega) (by omega) (by omega) (by omega) (by omega) a6 a7 a8 with ⟨cur', p', draft', step', y', b1, b2, b3, b4, b5, b6, b7, b8⟩ | ⟨p', dr', draft', o', st', step', y', b1, b2, b3, b4, b5⟩
      · exact Or.inl ⟨cur', p', draft', step', by omega, b2, by omega, b4, b5, b6, b7, b8⟩
      · exact Or.inr ⟨p', dr', draft', o', st', step', by omega, b2, b3, b4, b5⟩
    · right
      have a4 : R (Int32.ofNat o) (Int32.ofNat toks.length) (Int32.ofNat E) (Int32.ofNat p) 0 bytes draft u = _ := a4
      have a5 : Q (Int32.ofNat p) (Int32.ofNat o) (Int32.ofNat toks.length) (Int32.ofNat u) s step = _ := a5
      rw [a4, a5, Option.bind_some, Option.bind_some]
      dsimp only
      rw [if_pos (show (0 : Int32) = 0 from rfl)]
      obtain ⟨M, hM⟩ : ∃ q, N = q + 1 := ⟨N - 1, by omega⟩
      refine ⟨p1, dr1, draft1, o1, st1, step1, a1, a2, a3, ?_, rfl⟩
      have e : ∀ K, f_X4_readEither_7 N R (Int32.ofNat o) (Int32.ofNat E) bytes u K (M + 1) 0 (Int32.ofNat dr1) (Int32.ofNat p1) 1 draft1 = K 0 (Int32.ofNat dr1) (Int32.ofNat p1) 1 draft1 := fun K => by
        rw [f_X4_readEither_7, if_neg (show ¬ (60 : Int32) ≤ 0 by decide), nx1, Option.bind_some, if_neg (show ¬ (-1 : Int32) = 124 by decide)]
      rw [← hM] at e
      rw [e]
  · intro dr p draft hdr hp
    obtain ⟨dr1, draft1, a1, a2⟩ := hX.2 dr p draft hdr hp
    have a2 : R (Int32.ofNat o) (Int32.ofNat dr) (Int32.ofNat E) (Int32.ofNat p) 1 bytes draft u = _ := a2
    refine ⟨dr1, draft1, a1, ?_⟩
    show f_X4_readEither_b N R1 R R2 R3 R4 R5 (Int32.ofNat o) (Int32.ofNat dr) (Int32.ofNat E) (Int32.ofNat p) 1 bytes draft u = _
    unfold f_X4_readEither_b
    rw [a2, Option.bind_some]
    dsimp only
    obtain ⟨M, hM⟩ : ∃ q, N = q + 1 := ⟨N - 1, by omega⟩
    have e : ∀ K, f_X4_readEither_7 N R (Int32.ofNat o) (Int32.ofNat E) bytes u K (M + 1) 0 (Int32.ofNat dr1) (Int32.ofNat p) 1 draft1 = K 0 (Int32.ofNat dr1) (Int32.ofNat p) 1 draft1 := fun K => by
      rw [f_X4_readEither_7, if_neg (show ¬ (60 : Int32) ≤ 0 by decide), nx1, Option.bind_some, if_neg (show ¬ (-1 : Int32) = 124 by decide)]
    rw [← hM] at e
    rw [e]
theorem lp_Both (hE : E ≤ 60) (hby : ∀ i, i < E → bytes i = s (290 + i)) (hs3 : s 3 = Int32.ofNat E) (hX : Corr u E o (cF R u E o bytes) (rF Q u o s)) (toks : List Tok) (KC : Int32 → Int32 → Int32 → Int32 → (Nat → Int32) → Option (Int32 × Int32 × Int32 × (Nat → Int32))) (KR : Int32 → Int32 → Int32 → (Nat → Int32) → Option (Int32 × Int32 × Int32 × Int32 × (Nat → Int32))) :
    ∀ (k n n' i p : Nat) (cur : List Tok) (draft step : Nat → Int32), p ≤ E → E ≤ p + k → k + 1 < n → k < n' → i ≤ p → toks.length + cur.length ≤ p → Tks (toks ++ cur) draft step → (∀ t ∈ cur, goodTok u t) → RP cur →
      (∃ cur' p' draft' step' y', p ≤ p' ∧ p' ≤ E ∧ cur'.length + p ≤ cur.length + p' ∧ f_X4_readBoth_7 N R (Int32.ofNat o) (Int32.ofNat E) bytes u KC n (Int32.ofNat i) (Int32.ofNat (toks ++ cur).length) (Int32.ofNat p) 0 draft = KC y' (Int32.ofNat (toks ++ cur').length) (Int32.ofNat p') 0 draft' ∧ f_X12_both_9 N Q (Int32.ofNat u) s KR n' (Int32.ofNat p) (Int32.ofNat o) (Int32.ofNat (toks ++ cur).length) step = KR (Int32.ofNat p') (Int32.ofNat o) (Int32.ofNat (toks ++ cur').length) step' ∧ Tks (toks ++ cur') draft' step' ∧ (∀ t ∈ cur', goodTok u t) ∧ RP cur') ∨
      (∃ p' dr' draft' o' st' step' y', p ≤ p' ∧ p' ≤ E ∧ dr' ≤ 60 ∧ f_X4_readBoth_7 N R (Int32.ofNat o) (Int32.ofNat E) bytes u KC n (Int32.ofNat i) (Int32.ofNat (toks ++ cur).length) (Int32.ofNat p) 0 draft = KC y' (Int32.ofNat dr') (Int32.ofNat p') 1 draft' ∧ f_X12_both_9 N Q (Int32.ofNat u) s KR n' (Int32.ofNat p) (Int32.ofNat o) (Int32.ofNat (toks ++ cur).length) step = some (0, Int32.ofNat p', o', st', step')) := by
  intro k
  induction k with
  | zero =>
    intro n n' i p cur draft step hp hk hn hn' hi hlen ht hg hr
    obtain ⟨n, rfl⟩ : ∃ q, n = q + 1 := ⟨n - 1, by omega⟩
    obtain ⟨n', rfl⟩ : ∃ q, n' = q + 1 := ⟨n' - 1, by omega⟩
    have hb : ¬ bt E s p = 38 := fun h => by have := bt_lt h (by decide); omega
    left
    rw [f_X4_readBoth_7, f_X12_both_9, nx0 N hE hby hp, lk N hE hs3 hp, Option.bind_some, Option.bind_some, if_neg hb, if_neg hb]
    refine ⟨cur, p, draft, step, Int32.ofNat i, by omega, hp, by omega, ?_, rfl, ht, hg, hr⟩
    split <;> rfl
  | succ k ih =>
    intro n n' i p cur draft step hp hk hn hn' hi hlen ht hg hr
    obtain ⟨n, rfl⟩ : ∃ q, n = q + 1 := ⟨n - 1, by omega⟩
    obtain ⟨n', rfl⟩ : ∃ q, n' = q + 1 := ⟨n' - 1, by omega⟩
    by_cases hb : bt E s p = 38
    rotate_left
    · left
      rw [f_X4_readBoth_7, f_X12_both_9, nx0 N hE hby hp, lk N hE hs3 hp, Option.bind_some, Option.bind_some, if_neg hb, if_neg hb]
      refine ⟨cur, p, draft, step, Int32.ofNat i, by omega, hp, by omega, ?_, rfl, ht, hg, hr⟩
      split <;> rfl
    have hpE : p < E := bt_lt hb (by decide)
    rw [f_X4_readBoth_7, f_X12_both_9, if_neg (show ¬ (60 : Int32) ≤ Int32.ofNat i by rw [lit_le (by omega) (by omega)]; omega), nx0 N hE hby hp, lk N hE hs3 hp, Option.bind_some, Option.bind_some, if_pos hb, if_pos hb]
    rw [show Int32.ofNat p + (1 : Int32) = Int32.ofNat (p + 1) from add_lit 1 p, show Int32.ofNat i + (1 : Int32) = Int32.ofNat (i + 1) from add_lit 1 i]
    rcases opd (v := 38) N hE hX (by unfold isSg; simp) hpE hlen ht hg hr with ⟨cur1, q1, p1, draft1, draft2, step1, step2, a1, a2, a3, a4, a5, a6, a7, a8, a9, a10, a11⟩ | ⟨p1, dr1, draft1, dr2, draft2, o1, st1, step1, a1, a2, a3, a4, a5, a6⟩
    · have a5 : R (Int32.ofNat o) (Int32.ofNat (toks ++ cur).length) (Int32.ofNat E) (Int32.ofNat (p + 1)) 0 bytes draft u = _ := a5
      have a7 : Q (Int32.ofNat (p + 1)) (Int32.ofNat o) (Int32.ofNat (toks ++ cur).length) (Int32.ofNat u) s step = _ := a7
      rw [a5, a7, Option.bind_some, Option.bind_some]
      dsimp only
      rw [a6, if_neg (show ¬ (1 : Int32) = 0 by decide), a8, Option.bind_some, Option.bind_some]
      dsimp only
      rcases ih n n' (i + 1) p1 cur1 draft2 step2 a2 (by omega) (by omega) (by omega) (by omega) a3 a9 a10 a11 with ⟨cur', p', draft', step', y', b1, b2, b3, b4, b5, b6, b7, b8⟩ | ⟨p', dr', draft', o', st', step', y', b1, b2, b3, b4, b5⟩
      · exact Or.inl ⟨cur', p', draft', step', y', by omega, b2, by omega, b4, b5, b6, b7, b8⟩
      · exact Or.inr ⟨p', dr', draft', o', st', step', y', by omega, b2, b3, b4, b5⟩
    · right
      have a4 : R (Int32.ofNat o) (Int32.ofNat (toks ++ cur).length) (Int32.ofNat E) (Int32.ofNat (p + 1)) 0 bytes draft u = _ := a4
      have a6 : Q (Int32.ofNat (p + 1)) (Int32.ofNat o) (Int32.ofNat (toks ++ cur).length) (Int32.ofNat u) s step = _ := a6
      rw [a4, a6, Option.bind_some, Option.bind_some]
      dsimp only
      rw [a5, if_pos (show (0 : Int32) = 0 from rfl), Option.bind_some]
      dsimp only
      obtain ⟨n, rfl⟩ : ∃ q, n = q + 1 := ⟨n - 1, by omega⟩
      refine ⟨p1, dr2, draft2, o1, st1, step1, Int32.ofNat (i + 1), by omega, a2, a3, ?_, rfl⟩
      rw [f_X4_readBoth_7, nx1, Option.bind_some, if_neg (show ¬ (-1 : Int32) = 38 by decide)]
      split <;> rfl
theorem lv_Both (hN : 100 ≤ N) (hE : E ≤ 60) (hby : ∀ i, i < E → bytes i = s (290 + i)) (hs3 : s 3 = Int32.ofNat E) (hX : Corr u E o (cF R u E o bytes) (rF Q u o s)) (R1 R2 R3 R4 R5 : RC) (Q1 Q2 Q3 Q4 Q5 : RQ) : Corr u E o (cF (f_X4_readBoth_b N R1 R2 R R3 R4 R5) u E o bytes) (rF (f_X12_both_b N Q1 Q2 Q Q3 Q4 Q5) u o s) := by
  constructor
  · intro toks p draft step hp hlen ht
    unfold Good
    show (∃ new p' draft' step', _ ∧ _ ∧ _ ∧ f_X4_readBoth_b N R1 R2 R R3 R4 R5 (Int32.ofNat o) (Int32.ofNat toks.length) (Int32.ofNat E) (Int32.ofNat p) 0 bytes draft u = _ ∧ f_X12_both_b N Q1 Q2 Q Q3 Q4 Q5 (Int32.ofNat p) (Int32.ofNat o) (Int32.ofNat toks.length) (Int32.ofNat u) s step = _ ∧ _) ∨ (∃ p' dr' draft' o' st' step', _ ∧ _ ∧ _ ∧ f_X4_readBoth_b N R1 R2 R R3 R4 R5 (Int32.ofNat o) (Int32.ofNat toks.length) (Int32.ofNat E) (Int32.ofNat p) 0 bytes draft u = _ ∧ f_X12_both_b N Q1 Q2 Q Q3 Q4 Q5 (Int32.ofNat p) (Int32.ofNat o) (Int32.ofNat toks.length) (Int32.ofNat u) s step = _)
    unfold f_X4_readBoth_b f_X12_both_b
    rcases hX.1 toks p draft step hp hlen ht with ⟨new, p1, draft1, step1, a1, a2, a3, a4, a5, a6, a7, a8⟩ | ⟨p1, dr1, draft1, o1, st1, step1, a1, a2, a3, a4, a5⟩
    · have a4 : R (Int32.ofNat o) (Int32.ofNat toks.length) (Int32.ofNat E) (Int32.ofNat p) 0 bytes draft u = _ := a4
      have a5 : Q (Int32.ofNat p) (Int32.ofNat o) (Int32.ofNat toks.length) (Int32.ofNat u) s step = _ := a5
      rw [a4, a5, Option.bind_some, Option.bind_some]
      dsimp only
      rw [if_neg (show ¬ (1 : Int32) = 0 by decide)]
      rcases lp_Both hE hby hs3 hX toks (fun v2_7 this_drafted_7 this_place_7 this_failed_7 this_draft_7 => (some (this_drafted_7, this_place_7, this_failed_7, this_draft_7))) (fun this_at_8 this_open_8 this_steps_8 this_step_8 => (some ((1 : Int32), this_at_8, this_open_8, this_steps_8, this_step_8))) 61 N N 0 p1 new draft1 step1 a2 (by omega) (by omega) (by omega) (by omega) (by omega) a6 a7 a8 with ⟨cur', p', draft', step', y', b1, b2, b3, b4, b5, b6, b7, b8⟩ | ⟨p', dr', draft', o', st', step', y', b1, b2, b3, b4, b5⟩
      · exact Or.inl ⟨cur', p', draft', step', by omega, b2, by omega, b4, b5, b6, b7, b8⟩
      · exact Or.inr ⟨p', dr', draft', o', st', step', by omega, b2, b3, b4, b5⟩
    · right
      have a4 : R (Int32.ofNat o) (Int32.ofNat toks.length) (Int32.ofNat E) (Int32.ofNat p) 0 bytes draft u = _ := a4
      have a5 : Q (Int32.ofNat p) (Int32.ofNat o) (Int32.ofNat toks.length) (Int32.ofNat u) s step = _ := a5
      rw [a4, a5, Option.bind_some, Option.bind_some]
      dsimp only
      rw [if_pos (show (0 : Int32) = 0 from rfl)]
      obtain ⟨M, hM⟩ : ∃ q, N = q + 1 := ⟨N - 1, by omega⟩
      refine ⟨p1, dr1, draft1, o1, st1, step1, a1, a2, a3, ?_, rfl⟩
      have e : ∀ K, f_X4_readBoth_7 N R (Int32.ofNat o) (Int32.ofNat E) bytes u K (M + 1) 0 (Int32.ofNat dr1) (Int32.ofNat p1) 1 draft1 = K 0 (Int32.ofNat dr1) (Int32.ofNat p1) 1 draft1 := fun K => by
        rw [f_X4_readBoth_7, if_neg (show ¬ (60 : Int32) ≤ 0 by decide), nx1, Option.bind_some, if_neg (show ¬ (-1 : Int32) = 38 by decide)]
      rw [← hM] at e
      rw [e]
  · intro dr p draft hdr hp
    obtain ⟨dr1, draft1, a1, a2⟩ := hX.2 dr p draft hdr hp
    have a2 : R (Int32.ofNat o) (Int32.ofNat dr) (Int32.ofNat E) (Int32.ofNat p) 1 bytes draft u = _ := a2
    refine ⟨dr1, draft1, a1, ?_⟩
    show f_X4_readBoth_b N R1 R2 R R3 R4 R5 (Int32.ofNat o) (Int32.ofNat dr) (Int32.ofNat E) (Int32.ofNat p) 1 bytes draft u = _
    unfold f_X4_readBoth_b
    rw [a2, Option.bind_some]
    dsimp only
    obtain ⟨M, hM⟩ : ∃ q, N = q + 1 := ⟨N - 1, by omega⟩
    have e : ∀ K, f_X4_readBoth_7 N R (Int32.ofNat o) (Int32.ofNat E) bytes u K (M + 1) 0 (Int32.ofNat dr1) (Int32.ofNat p) 1 draft1 = K 0 (Int32.ofNat dr1) (Int32.ofNat p) 1 draft1 := fun K => by
      rw [f_X4_readBoth_7, if_neg (show ¬ (60 : Int32) ≤ 0 by decide), nx1, Option.bind_some, if_neg (show ¬ (-1 : Int32) = 38 by decide)]
    rw [← hM] at e
    rw [e]
end
end PLEVEL
