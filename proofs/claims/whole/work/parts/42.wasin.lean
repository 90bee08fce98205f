/-! PURE: nines, wasIn -/
section PWAS
abbrev r3 : List Nat := [3, 3, 3, 3, 3, 3, 3, 3]
abbrev t3 : List (List Nat) := (en r3 3).tail
theorem r3_at (t : Nat) (ht : t < 8) : r3.getD t 0 = 3 := by
  have : t = 0 ∨ t = 1 ∨ t = 2 ∨ t = 3 ∨ t = 4 ∨ t = 5 ∨ t = 6 ∨ t = 7 := by omega
  rcases this with rfl | rfl | rfl | rfl | rfl | rfl | rfl | rfl <;> rfl
theorem r3_le (t : Nat) : r3.getD t 0 ≤ 9 := by
  by_cases h : t < 8
  · rw [r3_at t h]; omega
  · simp [List.getD, List.getElem?_eq_none (show r3.length ≤ t by simp; omega)]
theorem getD_le_sum : ∀ (l : List Nat) (t : Nat), l.getD t 0 ≤ l.sum
  | [], t => by simp
  | a :: l, 0 => by simp
  | a :: l, t + 1 => by
    have := getD_le_sum l t
    rw [List.getD_cons_succ, List.sum_cons]; omega
theorem few_facts : ∃ tl, en r3 3 = zs r3 :: tl ∧ Lnk (nxt r3 3) (zs r3) tl none ∧ tl ≠ [] ∧ tl.length < 900000 ∧ (∀ x ∈ zs r3 :: tl, x.length = 8 ∧ x.sum ≤ 3) ∧ (∀ x ∈ tl, x.sum ≠ 0) ∧ tl.Pairwise (fun a b => dec a < dec b) := by
  obtain ⟨tl, h1, h2⟩ := en_head r3 3
  have hall : ∀ x ∈ zs r3 :: tl, x.length = 8 ∧ x.sum ≤ 3 := fun x hx => by
    rw [← h1] at hx
    obtain ⟨g1, g2, -⟩ := en_mem _ _ x hx
    exact ⟨g1, g2⟩
  have hp := en_sorted r3 3 r3_le
  rw [h1, List.pairwise_cons] at hp
  have hc := en_count 4 r3 3 (by omega)
  rw [h1] at hc
  simp only [List.length_cons, List.length_nil] at hc
  refine ⟨tl, h1, h2, ?_, by omega, hall, fun x hx h0 => ?_, hp.2⟩
  · intro h
    subst h
    have h2 : nxt r3 3 (zs r3) = none := h2
    exact absurd h2 (by decide)
  · have := hp.1 x hx
    rw [dec_zero x h0] at this
    omega
theorem p11_few9 {N : Nat} (h : 9 ≤ N) (K : Int32 → (Nat → Int32) → Option (Int32 × Int32 × (Nat → Int32) × (Nat → Int32))) (r : Nat → Int32) : ∃ r', f_X11_startFew_9 N K N 0 r = K 8 r' ∧ IsL r' r3 := by
  obtain ⟨M, rfl⟩ := N_of N h
  refine ⟨upd (upd (upd (upd (upd (upd (upd (upd r 0 3) 1 3) 2 3) 3 3) 4 3) 5 3) 6 3) 7 3, by simp [f_X11_startFew_9, v8_0, v8_1, v8_2, v8_3, v8_4, v8_5, v8_6, v8_7], fun t ht => ?_⟩
  rw [r3_at t ht]
  have : t = 0 ∨ t = 1 ∨ t = 2 ∨ t = 3 ∨ t = 4 ∨ t = 5 ∨ t = 6 ∨ t = 7 := by omega
  rcases this with rfl | rfl | rfl | rfl | rfl | rfl | rfl | rfl <;> simp [upd]
theorem p11_startFew {N : Nat} (h : 9 ≤ N) (a b : Int32) (e r : Nat → Int32) : ∃ r', f_X11_startFew N a b e r = some (0, 0, z8 e, r') ∧ IsL r' r3 := by
  unfold f_X11_startFew
  rw [p0_clear2 h, Option.bind_some]
  dsimp only
  obtain ⟨r', h1, h2⟩ := p11_few9 (N := N) h (fun v1_4 this_room_4 => (some ((0 : Int32), (0 : Int32), z8 e, this_room_4))) r
  exact ⟨r', h1, h2⟩
section
variable {N : Nat} {k0 k1 k2 k3 : Nat} {tn tm s : Nat → Int32} {ts : List Tok} {pl : Int32} {pc : Nat → Int32} {j : Nat} {p : Nat → Nat} {g : Nat → Nat → Int32} {room : Nat → Int32}
/-- the class's step through few, and what is paid -/
theorem few_step (hN : 100 ≤ N) (hG : GR g s) (hT : TR k0 k1 k2 k3 tn tm s) (hL : LRt 0 ts pl pc s) (hp : PrN s p) (hj : j < 4) (hroom : IsL room r3) {e x : List Nat} {L : List (List Nat)} (hl : Lnk (nxt r3 3) e (x :: L) none) (he8 : e.length = 8) (heM : e.sum ≤ 3) (hx8 : x.length = 8) (hxM : x.sum ≤ 3) {erow : Nat → Int32} (he : IsL erow e) (st : Nat → Int32) :
    ∃ row' st', f_X0_step N 3 room (g 0) (Int32.ofNat e.sum) (dot erow (g 0)) erow = some (1, Int32.ofNat x.sum, dot row' (g 0), row') ∧ IsL row' x ∧ f_X7_paid N (Int32.ofNat j) (dot row' (g 0)) (Int32.ofNat x.sum) pl pc st k0 k1 k2 k3 tn tm = some (sV s ts j p x, st') := by
  rcases p0_step hN (rm := r3) rfl he8 (M := 3) (by omega) (by omega) (fun t => by have := r3_le t; omega) (price := g 0) hroom he with ⟨l', row', h1, h2, h3, h4⟩ | ⟨h1, -⟩
  rotate_left
  · rw [hl.1] at h1; cases h1
  have hxl : l' = x := by rw [hl.1] at h1; exact (Option.some.inj h1).symm
  subst hxl
  have hr4 : IsRow row' (fun t => l'.getD t 0) := h4
  obtain ⟨st', f1⟩ := p7_paidB hN hT hL hj (th := Int32.ofNat l'.sum) (l := fun t => l'.getD t 0) (p := p) (by rw [nS_list h2]) (hr4.dot (hp.row0 hG)) (nD_ok hp (by rw [nS_list h2]; omega)) st
  exact ⟨row', st', h3, h4, f1⟩
theorem few_end (hN : 100 ≤ N) (hroom : IsL room r3) {e : List Nat} (hl : Lnk (nxt r3 3) e [] none) (he8 : e.length = 8) (heM : e.sum ≤ 3) {erow : Nat → Int32} (he : IsL erow e) : ∃ b c d, f_X0_step N 3 room (g 0) (Int32.ofNat e.sum) (dot erow (g 0)) erow = some (0, b, c, d) := by
  rcases p0_step hN (rm := r3) rfl he8 (M := 3) (by omega) (by omega) (fun t => by have := r3_le t; omega) (price := g 0) hroom he with ⟨l', row', h1, -⟩ | ⟨-, h2⟩
  · have hl : nxt r3 3 e = none := hl
    rw [hl] at h1; cases h1
  · exact h2
theorem was_loop (hN : 100 ≤ N) (hG : GR g s) (hT : TR k0 k1 k2 k3 tn tm s) (hL : LRt 0 ts pl pc s) (hp : PrN s p) (hj : j < 4) (hroom : IsL room r3) (w : Int32)
    (K : Int32 → Int32 → Int32 → Int32 → Int32 → (Nat → Int32) → (Nat → Int32) → Option (Int32 × (Nat → Int32) × Int32 × Int32 × (Nat → Int32) × (Nat → Int32) × (Nat → Int32))) :
    ∀ (L : List (List Nat)) (e : List Nat) (n i k : Nat) (fc fr le : Int32) (erow st : Nat → Int32), Lnk (nxt r3 3) e L none → i + L.length < 1000000 → k + L.length < 1000000 → L.length < n → IsL erow e → (∀ x ∈ e :: L, x.length = 8 ∧ x.sum ≤ 3) → (∀ x ∈ L, x.sum ≠ 0) → L.Pairwise (fun a b => dec a < dec b) →
      ((k = 0 ∧ fr = -1) ∨ (0 < k ∧ ∃ f, f < 100000000 ∧ fr = Int32.ofNat f ∧ fc = Int32.ofNat f ∧ ∀ x ∈ L, f ≤ dec x)) →
      ∃ k' fc' fr' le' y' eth' esu' erow' st', k' < 1000000 ∧ f_X11_wasIn_46 N (Int32.ofNat j) w room g pl pc k0 k1 k2 k3 tn tm K n (Int32.ofNat k) fc (Int32.ofNat i) (Int32.ofNat e.sum) (dot erow (g 0)) erow st = K (Int32.ofNat k') fc' y' eth' esu' erow' st' ∧ L.foldl (sst (sV s ts j p) w) (Int32.ofNat k, fr, le) = (Int32.ofNat k', fr', le') ∧ ((k' = 0 ∧ fr' = -1) ∨ (0 < k' ∧ ∃ f, f < 100000000 ∧ fr' = Int32.ofNat f ∧ fc' = Int32.ofNat f)) := by
  intro L
  induction L with
  | nil =>
    intro e n i k fc fr le erow st hl hi hk hn he hall hnz hpw hrel
    obtain ⟨n, rfl⟩ : ∃ m, n = m + 1 := ⟨n - 1, by omega⟩
    simp only [List.length_nil, Nat.add_zero] at hi hk
    obtain ⟨he8, heM⟩ := hall e List.mem_cons_self
    obtain ⟨b, c, d, h2⟩ := few_end (g := g) hN hroom hl he8 heM he
    rw [f_X11_wasIn_46, if_neg (show ¬ (1000000 : Int32) ≤ Int32.ofNat i by rw [lit_le (by omega) (by omega)]; omega), h2, Option.bind_some]
    dsimp only
    rw [if_pos rfl]
    refine ⟨k, fc, fr, le, _, _, _, _, _, hk, rfl, rfl, ?_⟩
    rcases hrel with h | ⟨h1, f, h2, h3, h4, -⟩
    · exact Or.inl h
    · exact Or.inr ⟨h1, f, h2, h3, h4⟩
  | cons x L ih =>
    intro e n i k fc fr le erow st hl hi hk hn he hall hnz hpw hrel
    obtain ⟨n, rfl⟩ : ∃ m, n = m + 1 := ⟨n - 1, by omega⟩
    simp only [List.length_cons] at hi hk hn
    obtain ⟨he8, heM⟩ := hall e List.mem_cons_self
    obtain ⟨hx8, hxM⟩ := hall x (List.mem_cons_of_mem _ List.mem_cons_self)
    obtain ⟨row', st', h1, h2, h3⟩ := few_step hN hG hT hL hp hj hroom hl he8 heM hx8 hxM he st
    rw [List.pairwise_cons] at hpw
    have hdx : dec x < 100000000 := by
      have := dec_lt x (fun t => by
        by_cases ht : t < x.length
        · have := getD_le_sum x t
          omega
        · simp [List.getD, List.getElem?_eq_none (show x.length ≤ t by omega)])
      rwa [hx8] at this
    have hall' : ∀ y ∈ x :: L, y.length = 8 ∧ y.sum ≤ 3 := fun y hy => hall y (List.mem_cons_of_mem _ hy)
    have hnz' : ∀ y ∈ L, y.sum ≠ 0 := fun y hy => hnz y (List.mem_cons_of_mem _ hy)
    have hxz := hnz x List.mem_cons_self
    rw [f_X11_wasIn_46, if_neg (show ¬ (1000000 : Int32) ≤ Int32.ofNat i by rw [lit_le (by omega) (by omega)]; omega), h1, Option.bind_some]
    dsimp only
    rw [if_neg (show ¬ (1 : Int32) = 0 by decide), h3, Option.bind_some]
    dsimp only
    rw [show Int32.ofNat i + (1 : Int32) = Int32.ofNat (i + 1) from add_lit 1 i, List.foldl_cons]
    by_cases hw : sV s ts j p x = w
    · rw [if_pos hw, show Int32.ofNat k + (1 : Int32) = Int32.ofNat (k + 1) from add_lit 1 k]
      have hs : sst (sV s ts j p) w (Int32.ofNat k, fr, le) x = (Int32.ofNat (k + 1), (if fr = -1 then Int32.ofNat (dec x) else if fr ≤ Int32.ofNat (dec x) then fr else Int32.ofNat (dec x)), lst le (sV s ts j p x)) := by
        rw [sst, if_neg hxz, if_pos hw, ← add_lit 1 k]
      rw [hs]
      rcases hrel with ⟨hk0, hfr⟩ | ⟨hk0, f, hf, hfr, hfc, hfle⟩
      · subst hk0
        rw [if_pos (show Int32.ofNat 0 = 0 from rfl), p0_rowAsNumber (by omega) hx8 h2, Option.bind_some, if_pos hfr]
        exact ih x n (i + 1) (0 + 1) (Int32.ofNat (dec x)) (Int32.ofNat (dec x)) _ row' st' hl.2 (by omega) (by omega) (by omega) h2 hall' hnz' hpw.2 (Or.inr ⟨by omega, dec x, hdx, rfl, rfl, fun y hy => Nat.le_of_lt (hpw.1 y hy)⟩)
      · rw [if_neg (show ¬ Int32.ofNat k = 0 by rw [eq_lit (by omega) (by omega)]; omega)]
        have hfx := hfle x List.mem_cons_self
        rw [if_neg (show ¬ fr = -1 by
          rw [hfr]; intro h
          have := on_nn (a := f) (by omega)
          rw [h] at this
          exact absurd this (by decide)), if_pos (show fr ≤ Int32.ofNat (dec x) by rw [hfr, on_le (by omega) (by omega)]; exact hfx)]
        exact ih x n (i + 1) (k + 1) fc fr _ row' st' hl.2 (by omega) (by omega) (by omega) h2 hall' hnz' hpw.2 (Or.inr ⟨by omega, f, hf, hfr, hfc, fun y hy => hfle y (List.mem_cons_of_mem _ hy)⟩)
    · rw [if_neg hw]
      have hs : sst (sV s ts j p) w (Int32.ofNat k, fr, le) x = (Int32.ofNat k, fr, lst le (sV s ts j p x)) := by
        rw [sst, if_neg hxz, if_neg hw]
      rw [hs]
      refine ih x n (i + 1) k fc fr _ row' st' hl.2 (by omega) (by omega) (by omega) h2 hall' hnz' hpw.2 ?_
      rcases hrel with h | ⟨hk0, f, hf, hfr, hfc, hfle⟩
      · exact Or.inl h
      · exact Or.inr ⟨hk0, f, hf, hfr, hfc, fun y hy => hfle y (List.mem_cons_of_mem _ hy)⟩
theorem few_loop (hN : 100 ≤ N) (hG : GR g s) (hT : TR k0 k1 k2 k3 tn tm s) (hL : LRt 0 ts pl pc s) (hp : PrN s p) (hj : j < 4) (hroom : IsL room r3) (w : Int32)
    (K : Int32 → Int32 → Int32 → Int32 → (Nat → Int32) → (Nat → Int32) → Option (Int32 × Int32 × Int32 × (Nat → Int32) × (Nat → Int32) × (Nat → Int32))) :
    ∀ (L : List (List Nat)) (e : List Nat) (n i : Nat) (m : Int32) (F : Int32 × Int32 × Int32) (erow st : Nat → Int32), Lnk (nxt r3 3) e L none → i + L.length < 1000000 → L.length < n → IsL erow e → (∀ x ∈ e :: L, x.length = 8 ∧ x.sum ≤ 3) → (∀ x ∈ L, x.sum ≠ 0) → ((L ≠ [] ∧ m = 9999 ∧ F.2.2 = -1) ∨ (m = F.2.2 ∧ F.2.2 ≠ -1)) →
      ∃ y' eth' esu' erow' st', f_X11_leastOfFew_10 N (Int32.ofNat j) room g pl pc k0 k1 k2 k3 tn tm K n m (Int32.ofNat i) (Int32.ofNat e.sum) (dot erow (g 0)) erow st = K (L.foldl (sst (sV s ts j p) w) F).2.2 y' eth' esu' erow' st' := by
  intro L
  induction L with
  | nil =>
    intro e n i m F erow st hl hi hn he hall hnz hrel
    obtain ⟨n, rfl⟩ : ∃ q, n = q + 1 := ⟨n - 1, by omega⟩
    simp only [List.length_nil, Nat.add_zero] at hi
    obtain ⟨he8, heM⟩ := hall e List.mem_cons_self
    obtain ⟨b, c, d, h2⟩ := few_end (g := g) hN hroom hl he8 heM he
    rw [f_X11_leastOfFew_10, if_neg (show ¬ (1000000 : Int32) ≤ Int32.ofNat i by rw [lit_le (by omega) (by omega)]; omega), h2, Option.bind_some]
    dsimp only
    rw [if_pos rfl]
    rcases hrel with ⟨h, -⟩ | ⟨h, -⟩
    · exact absurd rfl h
    · rw [h]; exact ⟨_, _, _, _, _, rfl⟩
  | cons x L ih =>
    intro e n i m F erow st hl hi hn he hall hnz hrel
    obtain ⟨n, rfl⟩ : ∃ q, n = q + 1 := ⟨n - 1, by omega⟩
    simp only [List.length_cons] at hi hn
    obtain ⟨he8, heM⟩ := hall e List.mem_cons_self
    obtain ⟨hx8, hxM⟩ := hall x (List.mem_cons_of_mem _ List.mem_cons_self)
    obtain ⟨row', st', h1, h2, h3⟩ := few_step hN hG hT hL hp hj hroom hl he8 heM hx8 hxM he st
    have hxz := hnz x List.mem_cons_self
    rw [f_X11_leastOfFew_10, if_neg (show ¬ (1000000 : Int32) ≤ Int32.ofNat i by rw [lit_le (by omega) (by omega)]; omega), h1, Option.bind_some]
    dsimp only
    rw [if_neg (show ¬ (1 : Int32) = 0 by decide), h3, Option.bind_some]
    dsimp only
    rw [show Int32.ofNat i + (1 : Int32) = Int32.ofNat (i + 1) from add_lit 1 i, List.foldl_cons]
    obtain ⟨r, hr, er⟩ : ∃ r, r ≤ 9999 ∧ sV s ts j p x = Int32.ofNat r := payV_range _ _ _ _ _
    have hF : (sst (sV s ts j p) w F x).2.2 = lst F.2.2 (sV s ts j p x) := by
      rw [sst, if_neg hxz]
      split <;> rfl
    have hrn : sV s ts j p x ≠ -1 := by
      rw [er]; intro h
      have := on_nn (a := r) (by omega)
      rw [h] at this
      exact absurd this (by decide)
    refine ih x n (i + 1) _ (sst (sV s ts j p) w F x) row' st' hl.2 (by omega) (by omega) h2 (fun y hy => hall y (List.mem_cons_of_mem _ hy)) (fun y hy => hnz y (List.mem_cons_of_mem _ hy)) (Or.inr ?_)
    rw [hF, lst]
    rcases hrel with ⟨-, h4, h5⟩ | ⟨h4, h5⟩
    · rw [if_pos h5, h4]
      refine ⟨?_, hrn⟩
      rw [er]
      by_cases h : Int32.ofNat r < 9999
      · rw [if_pos h]
      · rw [if_neg h]
        rw [lt_lit (by omega) (by omega)] at h
        rw [show r = 9999 by omega]; rfl
    · rw [if_neg h5, h4]
      by_cases h : sV s ts j p x < F.2.2
      · rw [if_pos h, if_neg (Int32.not_le.mpr h)]; exact ⟨rfl, hrn⟩
      · rw [if_neg h, if_pos (Int32.not_lt.mp h)]; exact ⟨rfl, h5⟩
end
theorem p12_allSmall {N : Nat} (hN : 100 ≤ N) {k0 k1 k2 k3 : Nat} {tn tm s : Nat → Int32} {ts : List Tok} {pl : Int32} {pc : Nat → Int32} {j : Nat} {p : Nat → Nat} (hT : TR k0 k1 k2 k3 tn tm s) (hL : LRt 0 ts pl pc s) (hp : PrN s p) (hj : j < 4) (w f1 f2 f3 : Int32) (named pile row : Nat → Int32) {tl : List (List Nat)} (hen : en r3 3 = zs r3 :: tl) :
    ∃ named' pile' row', f_X12_allSmall N (Int32.ofNat j) w f1 f2 f3 named pile row s = some ((tl.foldl (sst (sV s ts j p) w) (0, -1, -1)).1, (tl.foldl (sst (sV s ts j p) w) (0, -1, -1)).2.1, (tl.foldl (sst (sV s ts j p) w) (0, -1, -1)).2.2, named', pile', row') := by
  obtain ⟨named', pile', row', g1, -⟩ := small_ok hN hT hL hp hj w r3 0 10 3 [] (0, -1, -1) named pile row rfl (by simp) (fun i hi => r3_at i hi) rfl (by simp) (fun i hi => by omega)
  have g1 : f_X12_small N 10 (Int32.ofNat j) 0 3 w 0 (-1) (-1) named pile row s = _ := g1
  have e : (en r3 3).foldl (fun F e => sst (sV s ts j p) w F ([] ++ e)) (0, -1, -1) = tl.foldl (sst (sV s ts j p) w) (0, -1, -1) := by
    rw [hen, List.foldl_cons]
    have h0 : sst (sV s ts j p) w (0, -1, -1) (zs r3) = (0, -1, -1) := by
      rw [sst, if_pos (zs_sum _)]
    show tl.foldl (fun F e => sst (sV s ts j p) w F ([] ++ e)) (sst (sV s ts j p) w (0, -1, -1) (zs r3)) = _
    rw [h0]
    rfl
  rw [e] at g1
  unfold f_X12_allSmall
  rw [g1, Option.bind_some]
  exact ⟨_, _, _, rfl⟩
theorem p11_by9 {N : Nat} (g : Nat → Nat → Int32) : ∀ (d n y : Nat), y + d = 8 → d < n → (f_X11_allByNine_2 N g (fun v1_4 => (some (1 : Int32))) n (Int32.ofNat y) = some 1 ∧ ∀ t, y ≤ t → t < 8 → g 0 t - g 0 t / (9 : Int32) * (9 : Int32) = 0) ∨ (f_X11_allByNine_2 N g (fun v1_4 => (some (1 : Int32))) n (Int32.ofNat y) = some 0 ∧ ¬ ∀ t, y ≤ t → t < 8 → g 0 t - g 0 t / (9 : Int32) * (9 : Int32) = 0) := by
  intro d
  induction d with
  | zero =>
    intro n y hy hn
    obtain ⟨n, rfl⟩ : ∃ m, n = m + 1 := ⟨n - 1, by omega⟩
    have : y = 8 := by omega
    subst this
    left
    exact ⟨by rw [f_X11_allByNine_2, if_pos (by decide)], fun t h1 h2 => by omega⟩
  | succ d ih =>
    intro n y hy hn
    obtain ⟨n, rfl⟩ : ∃ m, n = m + 1 := ⟨n - 1, by omega⟩
    rw [f_X11_allByNine_2, if_neg (show ¬ (8 : Int32) ≤ Int32.ofNat y by rw [lit_le (by omega) (by omega)]; omega), if_pos (of_eq_true (on_vin (k := y) (by omega) (by omega))), on_tn (k := y) (by omega), show Int32.ofNat y + (1 : Int32) = Int32.ofNat (y + 1) from add_lit 1 y]
    by_cases h : g 0 y - g 0 y / (9 : Int32) * (9 : Int32) = 0
    · rw [if_pos h]
      rcases ih n (y + 1) (by omega) (by omega) with ⟨h1, h2⟩ | ⟨h1, h2⟩
      · left
        refine ⟨h1, fun t h3 h4 => ?_⟩
        by_cases e : t = y
        · subst e; exact h
        · exact h2 t (by omega) h4
      · right
        exact ⟨h1, fun h3 => h2 (fun t h4 h5 => h3 t (by omega) h5)⟩
    · right
      rw [if_neg h]
      exact ⟨rfl, fun h3 => h (h3 y (by omega) (by omega))⟩
theorem p12_by9z {N : Nat} (s : Nat → Int32) (K : Int32 → Int32 → Option (Int32 × Int32 × Int32 × Int32 × (Nat → Int32) × (Nat → Int32) × (Nat → Int32) × (Nat → Int32))) : ∀ (d n y : Nat), y + d = 8 → d < n → f_X12_nines_24 N s K n 0 (Int32.ofNat y) = K 0 8 := by
  intro d
  induction d with
  | zero =>
    intro n y hy hn
    obtain ⟨n, rfl⟩ : ∃ m, n = m + 1 := ⟨n - 1, by omega⟩
    have : y = 8 := by omega
    subst this
    rw [f_X12_nines_24, if_pos (by decide)]; rfl
  | succ d ih =>
    intro n y hy hn
    obtain ⟨n, rfl⟩ : ∃ m, n = m + 1 := ⟨n - 1, by omega⟩
    rw [f_X12_nines_24, if_neg (show ¬ (8 : Int32) ≤ Int32.ofNat y by rw [lit_le (by omega) (by omega)]; omega), if_pos rfl, show Int32.ofNat y + (1 : Int32) = Int32.ofNat (y + 1) from add_lit 1 y]
    exact ih n (y + 1) (by omega) (by omega)
theorem p12_by9 {N : Nat} (s : Nat → Int32) (K : Int32 → Int32 → Option (Int32 × Int32 × Int32 × Int32 × (Nat → Int32) × (Nat → Int32) × (Nat → Int32) × (Nat → Int32))) : ∀ (d n y : Nat), y + d = 8 → d < n → (f_X12_nines_24 N s K n 1 (Int32.ofNat y) = K 1 8 ∧ ∀ t, y ≤ t → t < 8 → s (8 + t) - s (8 + t) / (9 : Int32) * (9 : Int32) = 0) ∨ (f_X12_nines_24 N s K n 1 (Int32.ofNat y) = K 0 8 ∧ ¬ ∀ t, y ≤ t → t < 8 → s (8 + t) - s (8 + t) / (9 : Int32) * (9 : Int32) = 0) := by
  intro d
  induction d with
  | zero =>
    intro n y hy hn
    obtain ⟨n, rfl⟩ : ∃ m, n = m + 1 := ⟨n - 1, by omega⟩
    have : y = 8 := by omega
    subst this
    left
    exact ⟨by rw [f_X12_nines_24, if_pos (by decide)]; rfl, fun t h1 h2 => by omega⟩
  | succ d ih =>
    intro n y hy hn
    obtain ⟨n, rfl⟩ : ∃ m, n = m + 1 := ⟨n - 1, by omega⟩
    rw [f_X12_nines_24, if_neg (show ¬ (8 : Int32) ≤ Int32.ofNat y by rw [lit_le (by omega) (by omega)]; omega), if_neg (show ¬ (1 : Int32) = 0 by decide), show (8 : Int32) + Int32.ofNat y = Int32.ofNat (8 + y) from lit_add 8 y, if_pos (of_eq_true (on_vin (k := 8 + y) (by omega) (by omega))), on_tn (k := 8 + y) (by omega), show Int32.ofNat y + (1 : Int32) = Int32.ofNat (y + 1) from add_lit 1 y]
    by_cases h : s (8 + y) - s (8 + y) / (9 : Int32) * (9 : Int32) = 0
    · rw [if_pos h]
      rcases ih n (y + 1) (by omega) (by omega) with ⟨h1, h2⟩ | ⟨h1, h2⟩
      · left
        refine ⟨h1, fun t h3 h4 => ?_⟩
        by_cases e : t = y
        · subst e; exact h
        · exact h2 t (by omega) h4
      · right
        exact ⟨h1, fun h3 => h2 (fun t h4 h5 => h3 t (by omega) h5)⟩
    · right
      rw [if_neg h]
      exact ⟨p12_by9z s K d n (y + 1) (by omega) (by omega), fun h3 => h (h3 y (by omega) (by omega))⟩
theorem dot0 (r p : Nat → Int32) : dot (z8 r) p = 0 := by
  have e0 : ∀ t, t < 8 → z8 r t = 0 := fun t ht => z8_at _ ht
  unfold dot
  rw [e0 0 (by omega), e0 1 (by omega), e0 2 (by omega), e0 3 (by omega), e0 4 (by omega), e0 5 (by omega), e0 6 (by omega), e0 7 (by omega)]
  simp
theorem pm_nines {N : Nat} (hN : 2000000 ≤ N) (a : Int32) {k0 k1 k2 k3 : Nat} {tn tm s ce me pc : Nat → Int32} {pl : Int32} {g : Nat → Nat → Int32} (hE : ER ce me) (hG : GR g s) (hT : TR k0 k1 k2 k3 tn tm s) (hL : LR 0 pl pc s)
    (eth esu : Int32) (erow room st : Nat → Int32) (f1 f2 f3 : Int32) (named pile mrow : Nat → Int32) :
    ∃ v ce' a1 a2 a3 a4 a5 b1 b2 b3 me' b4 b5 b6, f_X11_nines N a ce eth esu erow room g pl pc st k0 k1 k2 k3 tn tm = some (v, ce', a1, a2, a3, a4, a5) ∧ f_X12_nines N a f1 f2 f3 me named pile mrow s = some (v, b1, b2, b3, me', b4, b5, b6) ∧ ER ce' me' := by
  obtain ⟨ts, hL⟩ := hL
  have hN1 : 100 ≤ N := by omega
  have hp := hG.prN
  unfold f_X11_nines f_X12_nines
  rw [p11_within, p12_in, Option.bind_some, Option.bind_some]
  by_cases h1 : -1 ≤ a ∧ a ≤ 3
  rotate_left
  · have n1 : bi (-1 ≤ a ∧ a ≤ 3) = 0 := by rw [bi_0]; exact h1
    rw [if_pos n1, if_pos n1, p11_error1, p12_error1]
    exact ⟨_, _, _, _, _, _, _, _, _, _, _, _, _, _, rfl, rfl, hE.up (by omega)⟩
  have n1 : ¬ bi (-1 ≤ a ∧ a ≤ 3) = 0 := by rw [bi_0]; exact not_not_intro h1
  rw [if_neg n1, if_neg n1]
  by_cases ha : 0 ≤ a
  · rw [if_pos ha, if_neg (show ¬ a = -1 by intro h; rw [h] at ha; exact absurd ha (by decide))]
    obtain ⟨j, hj, rfl⟩ := in_nat (b := 3) ⟨ha, h1.2⟩ (by omega)
    obtain ⟨tl, q1, q2, q3, q4, q5, q6, q7⟩ := few_facts
    obtain ⟨room', r1, r2⟩ := p11_startFew (N := N) (by omega) eth esu erow room
    obtain ⟨y', eth', esu', erow', st', w1⟩ := few_loop hN1 hG hT hL hp (show j < 4 by omega) r2 (-1) (fun v2_6 v3_6 this_extra_things_6 this_extra_sum_6 this_extra_row_6 this_shop_paysLaw_stack_6 => (some (v2_6, this_extra_things_6, this_extra_sum_6, this_extra_row_6, room', this_shop_paysLaw_stack_6))) tl (zs r3) N 0 9999 (0, -1, -1) (z8 erow) st q2 (by omega) (by omega) (fun t ht => by rw [z8_at _ ht, zs_getD]; rfl) q5 q6 (Or.inl ⟨q3, rfl, rfl⟩)
    rw [dot0] at w1
    have w1 : f_X11_leastOfFew_10 N (Int32.ofNat j) room' g pl pc k0 k1 k2 k3 tn tm _ N 9999 0 0 0 (z8 erow) st = _ := w1
    obtain ⟨named', pile', row', z1⟩ := p12_allSmall hN1 hT hL hp (show j < 4 by omega) (-1) f1 f2 f3 named pile mrow q1
    have hcl : f_X11_leastOfFew N (Int32.ofNat j) eth esu erow room g pl pc st k0 k1 k2 k3 tn tm = some ((tl.foldl (sst (sV s ts j (prN s)) (-1)) (0, -1, -1)).2.2, eth', esu', erow', room', st') := by
      unfold f_X11_leastOfFew
      rw [r1, Option.bind_some]
      exact w1
    rw [hcl, z1, Option.bind_some, Option.bind_some]
    exact ⟨_, _, _, _, _, _, _, _, _, _, _, _, _, _, rfl, rfl, hE⟩
  · rw [if_neg ha, if_pos (show a = -1 by
      have h2 := h1.1
      have ha' := Int32.not_le.mp ha
      rw [Int32.le_iff_toInt_le] at h2
      rw [Int32.lt_iff_toInt_lt] at ha'
      have e1 : (-1 : Int32).toInt = -1 := rfl
      have e2 : (0 : Int32).toInt = 0 := rfl
      apply Int32.toInt_inj.mp
      omega)]
    have hg : ∀ t, t < 8 → g 0 t = s (8 + t) := fun t ht => hG.1 0 t (by omega) ht
    have c := p11_by9 (N := N) g 8 N 0 (by omega) (by omega)
    have r := p12_by9 (N := N) s (fun v2_9 v3_9 => (if v2_9 = 0 then (some ((0 : Int32), f1, f2, f3, me, named, pile, mrow)) else (some ((1 : Int32), f1, f2, f3, me, named, pile, mrow)))) 8 N 0 (by omega) (by omega)
    unfold f_X11_allByNine
    rcases c with ⟨c1, c2⟩ | ⟨c1, c2⟩ <;> rcases r with ⟨d1, d2⟩ | ⟨d1, d2⟩
    · have c1 : f_X11_allByNine_2 N g (fun v1_4 => some 1) N 0 = some 1 := c1
      rw [c1, Option.bind_some]
      exact ⟨1, ce, _, _, _, _, _, _, _, _, me, _, _, _, rfl, d1.trans (by rw [if_neg (by decide)]), hE⟩
    · exact absurd (fun t h3 h4 => by rw [← hg t h4]; exact c2 t h3 h4) d2
    · exact absurd (fun t h3 h4 => by rw [hg t h4]; exact d2 t h3 h4) c2
    · have c1 : f_X11_allByNine_2 N g (fun v1_4 => some 1) N 0 = some 0 := c1
      rw [c1, Option.bind_some]
      exact ⟨0, ce, _, _, _, _, _, _, _, _, me, _, _, _, rfl, d1.trans (by rw [if_pos rfl]), hE⟩
theorem pm_wasIn {N : Nat} (hN : 2000000 ≤ N) (a b c : Int32) {k0 k1 k2 k3 : Nat} {tn tm s ce me pc : Nat → Int32} {pl : Int32} {g : Nat → Nat → Int32} (hE : ER ce me) (hG : GR g s) (hT : TR k0 k1 k2 k3 tn tm s) (hL : LR 0 pl pc s)
    (eth esu : Int32) (erow room st : Nat → Int32) (f1 f2 f3 : Int32) (named pile mrow : Nat → Int32) :
    ∃ v ce' a1 a2 a3 a4 a5 b1 b2 b3 me' b4 b5 b6, f_X11_wasIn N a b c ce eth esu erow room g pl pc st k0 k1 k2 k3 tn tm = some (v, ce', a1, a2, a3, a4, a5) ∧ f_X12_wasIn N a b c f1 f2 f3 me named pile mrow s = some (v, b1, b2, b3, me', b4, b5, b6) ∧ ER ce' me' := by
  obtain ⟨ts, hL⟩ := hL
  have hN1 : 100 ≤ N := by omega
  have hp := hG.prN
  unfold f_X11_wasIn f_X12_wasIn
  rw [p11_isTill, p12_isTill, p11_within, p11_within, p12_in, p12_in, Option.bind_some, Option.bind_some, Option.bind_some, Option.bind_some, Option.bind_some, Option.bind_some]
  by_cases h1 : 0 ≤ a ∧ a ≤ 3
  rotate_left
  · have n1 : bi (0 ≤ a ∧ a ≤ 3) = 0 := by rw [bi_0]; exact h1
    rw [if_pos n1, if_pos n1, p11_error1, p12_error1]
    exact ⟨_, _, _, _, _, _, _, _, _, _, _, _, _, _, rfl, rfl, hE.up (by omega)⟩
  have n1 : ¬ bi (0 ≤ a ∧ a ≤ 3) = 0 := by rw [bi_0]; exact not_not_intro h1
  rw [if_neg n1, if_neg n1]
  by_cases h2 : 0 ≤ b ∧ b ≤ 9999
  rotate_left
  · have n2 : bi (0 ≤ b ∧ b ≤ 9999) = 0 := by rw [bi_0]; exact h2
    rw [if_pos n2, if_pos n2, p11_error1, p12_error1]
    exact ⟨_, _, _, _, _, _, _, _, _, _, _, _, _, _, rfl, rfl, hE.up (by omega)⟩
  have n2 : ¬ bi (0 ≤ b ∧ b ≤ 9999) = 0 := by rw [bi_0]; exact not_not_intro h2
  rw [if_neg n2, if_neg n2]
  by_cases h3 : 0 ≤ c ∧ c ≤ 1
  rotate_left
  · have n3 : bi (0 ≤ c ∧ c ≤ 1) = 0 := by rw [bi_0]; exact h3
    rw [if_pos n3, if_pos n3, p11_error1, p12_error1]
    exact ⟨_, _, _, _, _, _, _, _, _, _, _, _, _, _, rfl, rfl, hE.up (by omega)⟩
  have n3 : ¬ bi (0 ≤ c ∧ c ≤ 1) = 0 := by rw [bi_0]; exact not_not_intro h3
  rw [if_neg n3, if_neg n3]
  obtain ⟨j, hj, rfl⟩ := in_nat (b := 3) h1 (by omega)
  obtain ⟨tl, q1, q2, q3, q4, q5, q6, q7⟩ := few_facts
  obtain ⟨room', r1, r2⟩ := p11_startFew (N := N) (by omega) eth esu erow room
  obtain ⟨k', fc', fr', le', y', eth', esu', erow', st', hk', w1, w2, w3⟩ := was_loop hN1 hG hT hL hp (show j < 4 by omega) r2 b (fun v4_17 v5_17 v6_17 this_extra_things_17 this_extra_sum_17 this_extra_row_17 this_shop_paysLaw_stack_17 => (if c = 0 then (some (v4_17, ce, this_extra_things_17, this_extra_sum_17, this_extra_row_17, room', this_shop_paysLaw_stack_17)) else (if v4_17 = 0 then ((f_X11_error N (2 : Int32) ce).bind fun r20 => (some (r20.1, r20.2, this_extra_things_17, this_extra_sum_17, this_extra_row_17, room', this_shop_paysLaw_stack_17))) else (some (v5_17, ce, this_extra_things_17, this_extra_sum_17, this_extra_row_17, room', this_shop_paysLaw_stack_17))))) tl (zs r3) N 0 0 0 (-1) (-1) (z8 erow) st q2 (by omega) (by omega) (by omega) (fun t ht => by rw [z8_at _ ht, zs_getD]; rfl) q5 q6 q7 (Or.inl ⟨rfl, rfl⟩)
  rw [dot0] at w1
  have w1 : f_X11_wasIn_46 N (Int32.ofNat j) b room' g pl pc k0 k1 k2 k3 tn tm _ N 0 0 0 0 0 (z8 erow) st = _ := w1
  have w2 : tl.foldl (sst (sV s ts j (prN s)) b) (0, -1, -1) = (Int32.ofNat k', fr', le') := w2
  obtain ⟨named', pile', row', z1⟩ := p12_allSmall hN1 hT hL hp (show j < 4 by omega) b f1 f2 f3 named pile mrow q1
  rw [w2] at z1
  rw [r1, z1, Option.bind_some, Option.bind_some]
  dsimp only
  have w4 := w1
  rw [w4]
  by_cases hc : c = 0
  · rw [if_pos hc, if_pos hc]
    exact ⟨_, _, _, _, _, _, _, _, _, _, _, _, _, _, rfl, rfl, hE⟩
  rw [if_neg hc, if_neg hc]
  rcases w3 with ⟨e1, e2⟩ | ⟨e1, f, e2, e3, e4⟩
  · rw [if_pos (show Int32.ofNat k' = 0 by rw [e1]; rfl), if_pos e2, p11_error2, p12_error2]
    exact ⟨_, _, _, _, _, _, _, _, _, _, _, _, _, _, rfl, rfl, hE.up (by omega)⟩
  · rw [if_neg (show ¬ Int32.ofNat k' = 0 by rw [eq_lit (by omega) (by omega)]; omega), if_neg (show ¬ fr' = -1 by
      rw [e3]; intro h
      have := on_nn (a := f) (by omega)
      rw [h] at this
      exact absurd this (by decide)), e3, e4]
    exact ⟨_, _, _, _, _, _, _, _, _, _, _, _, _, _, rfl, rfl, hE⟩
end PWAS
