/-! PURE: texts are read: one -/
section PONE
variable {N u E o : Nat} {bytes s : Nat → Int32} {R1 R2 R3 R4 R5 R6 : RC} {Q1 Q2 Q3 Q4 Q5 Q6 : RQ}
theorem nm_lt {c : Int32} (h : isNm u c) : c ≠ -1 := by
  intro e
  subst e
  unfold isNm at h
  split at h
  · rcases h with h | h | h <;> exact absurd h (by decide)
  · rcases h with h | h | h <;> exact absurd h (by decide)
theorem lv_One (hN : 100 ≤ N) (hu : u < 2) (ho : o ≤ 5) (hE : E ≤ 60) (hby : ∀ i, i < E → bytes i = s (290 + i)) (hs3 : s 3 = Int32.ofNat E) (hX : o < 5 → Corr u E (o + 1) (cF R6 u E (o + 1) bytes) (rF Q6 u (o + 1) s)) (hY : o < 5 → Corr u E (o + 1) (cF R1 u E (o + 1) bytes) (rF Q1 u (o + 1) s)) : Corr u E o (cF (f_X4_readOne_b N R1 R2 R3 R4 R5 R6) u E o bytes) (rF (f_X12_one_b N Q1 Q2 Q3 Q4 Q5 Q6) u o s) := by
  constructor
  · intro toks p draft step hp hlen ht
    unfold Good
    show (∃ new p' draft' step', _ ∧ _ ∧ _ ∧ f_X4_readOne_b N R1 R2 R3 R4 R5 R6 (Int32.ofNat o) (Int32.ofNat toks.length) (Int32.ofNat E) (Int32.ofNat p) 0 bytes draft u = _ ∧ f_X12_one_b N Q1 Q2 Q3 Q4 Q5 Q6 (Int32.ofNat p) (Int32.ofNat o) (Int32.ofNat toks.length) (Int32.ofNat u) s step = _ ∧ _) ∨ (∃ p' dr' draft' o' st' step', _ ∧ _ ∧ _ ∧ f_X4_readOne_b N R1 R2 R3 R4 R5 R6 (Int32.ofNat o) (Int32.ofNat toks.length) (Int32.ofNat E) (Int32.ofNat p) 0 bytes draft u = _ ∧ f_X12_one_b N Q1 Q2 Q3 Q4 Q5 Q6 (Int32.ofNat p) (Int32.ofNat o) (Int32.ofNat toks.length) (Int32.ofNat u) s step = _)
    have eo1 : Int32.ofNat o + (1 : Int32) = Int32.ofNat (o + 1) := add_lit 1 o
    have ep1 : Int32.ofNat p + (1 : Int32) = Int32.ofNat (p + 1) := add_lit 1 p
    have eo2 : Int32.ofNat (o + 1) - (1 : Int32) = Int32.ofNat o := sub_lit (c := 1) (show 1 ≤ o + 1 by omega)
    have e5 : (5 : Int32) ≤ Int32.ofNat o ↔ 5 ≤ o := by rw [lit_le (by omega) (by omega)]
    have e5' : Int32.ofNat o = (5 : Int32) ↔ o = 5 := by rw [eq_lit (by omega) (by omega)]
    unfold f_X4_readOne_b f_X12_one_b
    rw [nx0 N hE hby hp, lk N hE hs3 hp, Option.bind_some, Option.bind_some, p4_isDigit, Option.bind_some]
    by_cases hd : 48 ≤ bt E s p ∧ bt E s p ≤ 57
    · have hpE : p < E := by
        by_cases h : p < E
        · exact h
        · have : bt E s p = -1 := by unfold bt; rw [if_neg h]
          rw [this] at hd
          exact absurd hd.1 (by decide)
      have hn : ¬ isNm u (bt E s p) := fun h => by
        obtain ⟨r, -, -, -, -, h5, -⟩ := nm_yes (N := N) (by omega) hu h
        exact h5 hd
      have nd : ¬ bi (48 ≤ bt E s p ∧ bt E s p ≤ 57) = 0 := by rw [bi_0]; exact not_not_intro hd
      rw [(nm_no (N := N) (by omega) hu hn).2, Option.bind_some, if_neg nd, if_pos (show (0 : Int32) = 0 from rfl), p12_in, Option.bind_some, if_neg nd]
      left
      unfold f_X4_readNumber
      obtain ⟨a', i', p', z1, z2, z3, z4, z5, z6⟩ := nums_ok N hE hby hs3 (fun v1_6 v2_6 this_place_6 => ((f_X4_write N v1_6 (Int32.ofNat toks.length) draft).bind fun r7 => (some (r7.1, this_place_6, r7.2)))) (fun v2_24 v3_24 this_at_24 => ((f_X12_step1 N 0 v2_24 (Int32.ofNat toks.length) step).bind fun r25 => (some (1, this_at_24, Int32.ofNat o, r25.1, r25.2)))) 4 N N 0 0 p (by omega) (by omega) (by omega) hp (by omega)
      have z6 := z6 (by omega) hd
      have z4 : f_X4_readNumber_4 N (Int32.ofNat E) 0 bytes _ N 0 0 (Int32.ofNat p) = _ := z4
      have z5 : f_X12_one_46 N s _ N 0 0 (Int32.ofNat p) = _ := z5
      have hl : (toks ++ [((0 : Int32), Int32.ofNat a')]).length = toks.length + 1 := by simp
      refine ⟨[(0, Int32.ofNat a')], p', upd draft toks.length (Int32.ofNat a'), upd (upd step (2 * toks.length) 0) (2 * toks.length + 1) (Int32.ofNat a'), z6, z2, by simp; omega, ?_, ?_, ?_, ?_, RP.num _⟩
      · rw [z4, hl, wr0 N (by omega), Option.bind_some, Option.bind_some]
      · rw [z5, hl, st0 N (by omega), Option.bind_some]
      · have := ht.push (0, Int32.ofNat a')
        rwa [show enc (0, Int32.ofNat a') = Int32.ofNat a' by simp [enc]] at this
      · intro t h
        rw [List.mem_singleton] at h
        rw [h]
        exact Or.inl ⟨rfl, on_nn (by omega)⟩
    have nd : bi (48 ≤ bt E s p ∧ bt E s p ≤ 57) = 0 := by rw [bi_0]; exact hd
    rw [if_pos nd]
    by_cases hn : isNm u (bt E s p)
    · have hpE : p < E := bt_lt (v := bt E s p) rfl (nm_lt hn)
      obtain ⟨r, y1, y2, y3, y4, y5, y6, y7⟩ := nm_yes (N := N) (by omega) hu hn
      rw [y1, y4, Option.bind_some, Option.bind_some, if_neg y2, Option.bind_some, y3, if_neg (show ¬ (1 : Int32) = 0 by decide)]
      left
      have hl : (toks ++ [((1 : Int32), bt E s p)]).length = toks.length + 1 := by simp
      refine ⟨[(1, bt E s p)], p + 1, upd draft toks.length (enc (1, bt E s p)), upd (upd step (2 * toks.length) 1) (2 * toks.length + 1) (bt E s p), by omega, by omega, by simp; omega, ?_, ?_, ht.push (1, bt E s p), ?_, RP.name _⟩
      · rw [hl, wr0 N (by omega), Option.bind_some, ep1]
      · rw [hl, st0 N (by omega), Option.bind_some, ep1]
      · intro t h
        rw [List.mem_singleton] at h
        rw [h]
        exact Or.inr (Or.inl ⟨rfl, hn⟩)
    obtain ⟨n1, n2⟩ := nm_no (N := N) (by omega) hu hn
    rw [n1, Option.bind_some, if_pos (show (-1 : Int32) < 0 by decide), n2, Option.bind_some, if_pos (show (0 : Int32) = 0 from rfl), p12_in, Option.bind_some, if_pos nd]
    by_cases h33 : bt E s p = 33
    · have hpE : p < E := bt_lt h33 (by decide)
      rw [if_pos h33, if_pos h33]
      unfold f_X12_opens
      by_cases h5 : o = 5
      · right
        rw [if_pos (e5.mpr (by omega)), if_neg (show ¬ bt E s p = 40 by rw [h33]; decide), if_pos (e5'.mpr h5), Option.bind_some]
        exact ⟨p, toks.length, draft, _, _, _, by omega, hp, by omega, rfl, rfl⟩
      · rw [if_neg (fun h => h5 (by have := e5.mp h; omega)), if_neg (fun h => h5 (e5'.mp h)), Option.bind_some]
        dsimp only
        rw [if_neg (show ¬ (1 : Int32) = 0 by decide), eo1, ep1]
        rcases (hX (by omega)).1 toks (p + 1) draft step (by omega) (by omega) ht with ⟨new, p1, draft1, step1, a1, a2, a3, a4, a5, a6, a7, a8⟩ | ⟨p1, dr1, draft1, o1, st1, step1, a1, a2, a3, a4, a5⟩
        · left
          have a4 : R6 (Int32.ofNat (o + 1)) (Int32.ofNat toks.length) (Int32.ofNat E) (Int32.ofNat (p + 1)) 0 bytes draft u = _ := a4
          have a5 : Q6 (Int32.ofNat (p + 1)) (Int32.ofNat (o + 1)) (Int32.ofNat toks.length) (Int32.ofNat u) s step = _ := a5
          have hl0 : (toks ++ new).length = toks.length + new.length := by simp
          have hl : (toks ++ (new ++ [((2 : Int32), (0 : Int32))])).length = (toks ++ new).length + 1 := by simp; omega
          have e3 : toks ++ (new ++ [((2 : Int32), (0 : Int32))]) = (toks ++ new) ++ [(2, 0)] := by simp
          refine ⟨new ++ [(2, 0)], p1, upd draft1 (toks ++ new).length (-33), upd (upd step1 (2 * (toks ++ new).length) 2) (2 * (toks ++ new).length + 1) 0, by omega, a2, by simp; omega, ?_, ?_, ?_, ?_, RP.nt a8⟩
          · rw [a4, Option.bind_some]
            dsimp only
            rw [hl, wr0 N (by omega), Option.bind_some]
          · rw [a5, Option.bind_some]
            dsimp only
            rw [if_neg (show ¬ (1 : Int32) = 0 by decide), hl, st0 N (by omega), Option.bind_some, eo2]
          · rw [e3]
            have := a6.push (2, 0)
            rwa [show enc (2, 0) = -33 by simp [enc]] at this
          · intro t h
            rw [List.mem_append, List.mem_singleton] at h
            rcases h with h | h
            · exact a7 t h
            · rw [h]; exact Or.inr (Or.inr (Or.inl ⟨rfl, rfl⟩))
        · right
          have a4 : R6 (Int32.ofNat (o + 1)) (Int32.ofNat toks.length) (Int32.ofNat E) (Int32.ofNat (p + 1)) 0 bytes draft u = _ := a4
          have a5 : Q6 (Int32.ofNat (p + 1)) (Int32.ofNat (o + 1)) (Int32.ofNat toks.length) (Int32.ofNat u) s step = _ := a5
          obtain ⟨dr2, draft2, g1, g2⟩ := wr1 N a3 (-33) draft1
          refine ⟨p1, dr2, draft2, o1, st1, step1, by omega, a2, g1, ?_, ?_⟩
          · rw [a4, Option.bind_some]
            dsimp only
            rw [g2, Option.bind_some]
          · rw [a5, Option.bind_some]
            dsimp only
            rw [if_pos (show (0 : Int32) = 0 from rfl)]
    rw [if_neg h33, if_neg h33]
    by_cases h40 : bt E s p = 40
    · have hpE : p < E := bt_lt h40 (by decide)
      rw [if_pos h40, if_pos h40]
      unfold f_X12_opens
      by_cases h5 : o = 5
      · right
        rw [if_pos (e5.mpr (by omega)), if_pos (e5'.mpr h5), Option.bind_some]
        exact ⟨p, toks.length, draft, _, _, _, by omega, hp, by omega, rfl, rfl⟩
      · rw [if_neg (fun h => h5 (by have := e5.mp h; omega)), if_neg (fun h => h5 (e5'.mp h)), Option.bind_some]
        dsimp only
        rw [if_neg (show ¬ (1 : Int32) = 0 by decide), eo1, ep1]
        unfold f_X4_readClose
        rcases (hY (by omega)).1 toks (p + 1) draft step (by omega) (by omega) ht with ⟨new, p1, draft1, step1, a1, a2, a3, a4, a5, a6, a7, a8⟩ | ⟨p1, dr1, draft1, o1, st1, step1, a1, a2, a3, a4, a5⟩
        · have a4 : R1 (Int32.ofNat (o + 1)) (Int32.ofNat toks.length) (Int32.ofNat E) (Int32.ofNat (p + 1)) 0 bytes draft u = _ := a4
          have a5 : Q1 (Int32.ofNat (p + 1)) (Int32.ofNat (o + 1)) (Int32.ofNat toks.length) (Int32.ofNat u) s step = _ := a5
          rw [a4, a5, Option.bind_some, Option.bind_some]
          dsimp only
          rw [nx0 N hE hby a2, Option.bind_some, if_neg (show ¬ (1 : Int32) = 0 by decide), lk N hE hs3 a2, Option.bind_some]
          by_cases h41 : bt E s p1 = 41
          · left
            have hp1 : p1 < E := bt_lt h41 (by decide)
            rw [if_pos h41, if_pos h41, Option.bind_some, eo2, show Int32.ofNat p1 + (1 : Int32) = Int32.ofNat (p1 + 1) from add_lit 1 p1]
            exact ⟨new, p1 + 1, draft1, step1, by omega, by omega, by omega, rfl, rfl, a6, a7, a8⟩
          · right
            rw [if_neg h41, if_neg h41, Option.bind_some]
            have hl0 : (toks ++ new).length = toks.length + new.length := by simp
            exact ⟨p1, (toks ++ new).length, draft1, _, _, _, by omega, a2, by omega, rfl, rfl⟩
        · right
          have a4 : R1 (Int32.ofNat (o + 1)) (Int32.ofNat toks.length) (Int32.ofNat E) (Int32.ofNat (p + 1)) 0 bytes draft u = _ := a4
          have a5 : Q1 (Int32.ofNat (p + 1)) (Int32.ofNat (o + 1)) (Int32.ofNat toks.length) (Int32.ofNat u) s step = _ := a5
          rw [a4, a5, Option.bind_some, Option.bind_some]
          dsimp only
          rw [nx1, Option.bind_some, if_neg (show ¬ (-1 : Int32) = 41 by decide), Option.bind_some, if_pos (show (0 : Int32) = 0 from rfl)]
          exact ⟨p1, dr1, draft1, o1, st1, step1, by omega, a2, a3, rfl, rfl⟩
    · right
      rw [if_neg h40, if_neg h40]
      exact ⟨p, toks.length, draft, _, _, _, by omega, hp, by omega, rfl, rfl⟩
  · intro dr p draft hdr hp
    refine ⟨dr, draft, hdr, ?_⟩
    show f_X4_readOne_b N R1 R2 R3 R4 R5 R6 (Int32.ofNat o) (Int32.ofNat dr) (Int32.ofNat E) (Int32.ofNat p) 1 bytes draft u = _
    unfold f_X4_readOne_b
    have hn : ¬ isNm u (-1) := fun h => nm_lt h rfl
    rw [nx1, Option.bind_some, p4_isDigit, Option.bind_some, if_pos (show bi (48 ≤ (-1 : Int32) ∧ (-1 : Int32) ≤ 57) = 0 by decide), (nm_no (N := N) (by omega) hu hn).1, Option.bind_some, if_pos (show (-1 : Int32) < 0 by decide), if_neg (show ¬ (-1 : Int32) = 33 by decide), if_neg (show ¬ (-1 : Int32) = 40 by decide)]
/-- all levels -/
def LV (u E o : Nat) (bytes s : Nat → Int32) (C : RC) (Q : RQ) : Prop := Corr u E o (cF C u E o bytes) (rF Q u o s)
theorem lV_One (hN : 100 ≤ N) (hu : u < 2) (ho : o ≤ 5) (hE : E ≤ 60) (hby : ∀ i, i < E → bytes i = s (290 + i)) (hs3 : s 3 = Int32.ofNat E) (hX : o < 5 → LV u E (o + 1) bytes s R6 Q6) (hY : o < 5 → LV u E (o + 1) bytes s R1 Q1) : LV u E o bytes s (f_X4_readOne_b N R1 R2 R3 R4 R5 R6) (f_X12_one_b N Q1 Q2 Q3 Q4 Q5 Q6) := lv_One hN hu ho hE hby hs3 hX hY
theorem lV_Times (hN : 100 ≤ N) (hE : E ≤ 60) (hby : ∀ i, i < E → bytes i = s (290 + i)) (hs3 : s 3 = Int32.ofNat E) (hX : LV u E o bytes s R6 Q6) : LV u E o bytes s (f_X4_readTimes_b N R1 R2 R3 R4 R5 R6) (f_X12_product_b N Q1 Q2 Q3 Q4 Q5 Q6) := lv_Times hN hE hby hs3 hX R1 R2 R3 R4 R5 Q1 Q2 Q3 Q4 Q5
theorem lV_Added (hN : 100 ≤ N) (hE : E ≤ 60) (hby : ∀ i, i < E → bytes i = s (290 + i)) (hs3 : s 3 = Int32.ofNat E) (hX : LV u E o bytes s R5 Q5) : LV u E o bytes s (f_X4_readAdded_b N R1 R2 R3 R4 R5 R6) (f_X12_sum_b N Q1 Q2 Q3 Q4 Q5 Q6) := lv_Added hN hE hby hs3 hX R1 R2 R3 R4 R6 Q1 Q2 Q3 Q4 Q6
theorem lV_Compared (hN : 100 ≤ N) (hE : E ≤ 60) (hby : ∀ i, i < E → bytes i = s (290 + i)) (hs3 : s 3 = Int32.ofNat E) (hX : LV u E o bytes s R4 Q4) : LV u E o bytes s (f_X4_readCompared_b N R1 R2 R3 R4 R5 R6) (f_X12_compared_b N Q1 Q2 Q3 Q4 Q5 Q6) := lv_Compared hN hE hby hs3 hX R1 R2 R3 R5 R6 Q1 Q2 Q3 Q5 Q6
theorem lV_Both (hN : 100 ≤ N) (hE : E ≤ 60) (hby : ∀ i, i < E → bytes i = s (290 + i)) (hs3 : s 3 = Int32.ofNat E) (hX : LV u E o bytes s R3 Q3) : LV u E o bytes s (f_X4_readBoth_b N R1 R2 R3 R4 R5 R6) (f_X12_both_b N Q1 Q2 Q3 Q4 Q5 Q6) := lv_Both hN hE hby hs3 hX R1 R2 R4 R5 R6 Q1 Q2 Q4 Q5 Q6
theorem lV_Either (hN : 100 ≤ N) (hE : E ≤ 60) (hby : ∀ i, i < E → bytes i = s (290 + i)) (hs3 : s 3 = Int32.ofNat E) (hX : LV u E o bytes s R2 Q2) : LV u E o bytes s (f_X4_readEither_b N R1 R2 R3 R4 R5 R6) (f_X12_whole_b N Q1 Q2 Q3 Q4 Q5 Q6) := lv_Either hN hE hby hs3 hX R1 R3 R4 R5 R6 Q1 Q3 Q4 Q5 Q6
theorem lv_all (hN : 100 ≤ N) (hu : u < 2) (hE : E ≤ 60) (hby : ∀ i, i < E → bytes i = s (290 + i)) (hs3 : s 3 = Int32.ofNat E) : ∀ (k o d : Nat), o + k = 5 → 6 * k + 6 ≤ d →
    LV u E o bytes s (fg_read N d).2.2.2.2.2 (fg_whole N d).2.2.2.2.2 ∧ LV u E o bytes s (fg_read N d).1 (fg_whole N d).1 := by
  intro k
  induction k with
  | zero =>
    intro o d ho hd
    obtain ⟨d, rfl⟩ : ∃ q, d = q + 6 := ⟨d - 6, by omega⟩
    have hone : ∀ d, LV u E o bytes s (fg_read N (d + 1)).2.2.2.2.2 (fg_whole N (d + 1)).2.2.2.2.2 := fun d => by
      rw [fg_read, fg_whole]
      dsimp only
      exact lV_One hN hu (by omega) hE hby hs3 (fun h => absurd h (by omega)) (fun h => absurd h (by omega))
    have h1 := hone d
    have h2 : LV u E o bytes s (fg_read N (d + 2)).2.2.2.2.1 (fg_whole N (d + 2)).2.2.2.2.1 := by
      rw [fg_read, fg_whole]
      dsimp only
      exact lV_Times hN hE hby hs3 h1
    have h3 : LV u E o bytes s (fg_read N (d + 3)).2.2.2.1 (fg_whole N (d + 3)).2.2.2.1 := by
      rw [fg_read, fg_whole]
      dsimp only
      exact lV_Added hN hE hby hs3 h2
    have h4 : LV u E o bytes s (fg_read N (d + 4)).2.2.1 (fg_whole N (d + 4)).2.2.1 := by
      rw [fg_read, fg_whole]
      dsimp only
      exact lV_Compared hN hE hby hs3 h3
    have h5 : LV u E o bytes s (fg_read N (d + 5)).2.1 (fg_whole N (d + 5)).2.1 := by
      rw [fg_read, fg_whole]
      dsimp only
      exact lV_Both hN hE hby hs3 h4
    refine ⟨hone (d + 5), ?_⟩
    rw [fg_read, fg_whole]
    dsimp only
    exact lV_Either hN hE hby hs3 h5
  | succ k ih =>
    intro o d ho hd
    obtain ⟨d, rfl⟩ : ∃ q, d = q + 6 := ⟨d - 6, by omega⟩
    have hone : ∀ d', 6 * k + 6 ≤ d' → LV u E o bytes s (fg_read N (d' + 1)).2.2.2.2.2 (fg_whole N (d' + 1)).2.2.2.2.2 := fun d' h => by
      obtain ⟨i1, i2⟩ := ih (o + 1) d' (by omega) h
      rw [fg_read, fg_whole]
      dsimp only
      exact lV_One hN hu (by omega) hE hby hs3 (fun _ => i1) (fun _ => i2)
    have h1 := hone d (by omega)
    have h2 : LV u E o bytes s (fg_read N (d + 2)).2.2.2.2.1 (fg_whole N (d + 2)).2.2.2.2.1 := by
      rw [fg_read, fg_whole]
      dsimp only
      exact lV_Times hN hE hby hs3 h1
    have h3 : LV u E o bytes s (fg_read N (d + 3)).2.2.2.1 (fg_whole N (d + 3)).2.2.2.1 := by
      rw [fg_read, fg_whole]
      dsimp only
      exact lV_Added hN hE hby hs3 h2
    have h4 : LV u E o bytes s (fg_read N (d + 4)).2.2.1 (fg_whole N (d + 4)).2.2.1 := by
      rw [fg_read, fg_whole]
      dsimp only
      exact lV_Compared hN hE hby hs3 h3
    have h5 : LV u E o bytes s (fg_read N (d + 5)).2.1 (fg_whole N (d + 5)).2.1 := by
      rw [fg_read, fg_whole]
      dsimp only
      exact lV_Both hN hE hby hs3 h4
    refine ⟨hone (d + 5) (by omega), ?_⟩
    rw [fg_read, fg_whole]
    dsimp only
    exact lV_Either hN hE hby hs3 h5
end PONE
