/-! PURE: MORE: what is cheapest -/
section PTRIES
theorem nS_list {l : List Nat} (h : l.length = 8) : nS (fun t => l.getD t 0) = l.sum := by
  match l, h with
  | [a, b, c, d, e, f, g, i], _ => simp [nS]; omega
def dotE (e : List Nat) (W : Nat → Int32) : Int32 := dot (fun t => Int32.ofNat (e.getD t 0)) W
/-- what remains to pay of a basket with more, less its worth -/
def NV (s : Nat → Int32) (ts : List Tok) (j : Nat) (lt p : Nat → Nat) (W : Nat → Int32) (e : List Nat) : Int32 := PV s ts j (fun t => lt t + e.getD t 0) p - dotE e W
def bs (V : List Nat → Int32) (b e : List Nat) : List Nat := if V e < V b ∨ (V e = V b ∧ Int32.ofNat e.sum < Int32.ofNat b.sum) then e else b
def bsO (V : List Nat → Int32) : Option (List Nat) → List Nat → Option (List Nat)
  | none, e => some e
  | some b, e => some (bs V b e)
def BRel (V : List Nat → Int32) (lt : Nat → Nat) (bn bm : Int32) (best : Nat → Int32) : Option (List Nat) → Prop
  | none => bm = -1
  | some b => b.sum < 1000 ∧ bn = V b ∧ bm = Int32.ofNat b.sum ∧ IsRow best (fun t => lt t + b.getD t 0)
theorem tries20 {N : Nat} (row told W : Nat → Int32) (K : Int32 → Int32 → Option (Int32 × Int32 × (Nat → Int32) × (Nat → Int32) × (Nat → Int32) × (Nat → Int32))) (h : 9 ≤ N) (v : Int32) : f_X12_tries_20 N row told W K N v 0 = K (v - (row 0 - told 0) * W 0 - (row 1 - told 1) * W 1 - (row 2 - told 2) * W 2 - (row 3 - told 3) * W 3 - (row 4 - told 4) * W 4 - (row 5 - told 5) * W 5 - (row 6 - told 6) * W 6 - (row 7 - told 7) * W 7) 8 := by
  obtain ⟨M, rfl⟩ := N_of N h
  simp [f_X12_tries_20, v8_0, v8_1, v8_2, v8_3, v8_4, v8_5, v8_6, v8_7]
theorem tries106_1 {N : Nat} (row best : Nat → Int32) (K : Int32 → (Nat → Int32) → Option (Int32 × Int32 × (Nat → Int32) × (Nat → Int32) × (Nat → Int32) × (Nat → Int32))) (h : 9 ≤ N) : ∃ best', f_X12_tries_106 N 1 row K N 0 best = K 8 best' ∧ ∀ t, t < 8 → best' t = row t := by
  obtain ⟨M, rfl⟩ := N_of N h
  refine ⟨upd (upd (upd (upd (upd (upd (upd (upd best 0 (row 0)) 1 (row 1)) 2 (row 2)) 3 (row 3)) 4 (row 4)) 5 (row 5)) 6 (row 6)) 7 (row 7), by simp [f_X12_tries_106, v8_0, v8_1, v8_2, v8_3, v8_4, v8_5, v8_6, v8_7], fun t ht => ?_⟩
  have : t = 0 ∨ t = 1 ∨ t = 2 ∨ t = 3 ∨ t = 4 ∨ t = 5 ∨ t = 6 ∨ t = 7 := by omega
  rcases this with rfl | rfl | rfl | rfl | rfl | rfl | rfl | rfl <;> simp [upd]
theorem tries106_0 {N : Nat} (row best : Nat → Int32) (K : Int32 → (Nat → Int32) → Option (Int32 × Int32 × (Nat → Int32) × (Nat → Int32) × (Nat → Int32) × (Nat → Int32))) (h : 9 ≤ N) : f_X12_tries_106 N 0 row K N 0 best = K 0 best := by
  obtain ⟨M, rfl⟩ := N_of N h
  simp [f_X12_tries_106]
theorem j101_1 {N : Nat} (h : 9 ≤ N) (x4 x5 bn bm : Int32) (best named pile row : Nat → Int32) : ∃ best', f_X12_tries_j101 N x4 x5 1 bn bm best named pile row = some (x5, x4, best', named, pile, row) ∧ ∀ t, t < 8 → best' t = row t := by
  obtain ⟨best', h1, h2⟩ := tries106_1 (N := N) row best (fun v7_5 this_best_5 => (if (1 : Int32) = 0 then (if (1 : Int32) = 0 then (some (bn, bm, this_best_5, named, pile, row)) else (some (bn, x4, this_best_5, named, pile, row))) else (if (1 : Int32) = 0 then (some (x5, bm, this_best_5, named, pile, row)) else (some (x5, x4, this_best_5, named, pile, row))))) h
  exact ⟨best', h1.trans (by rw [if_neg (by decide), if_neg (by decide)]), h2⟩
theorem j101_0 {N : Nat} (h : 9 ≤ N) (x4 x5 bn bm : Int32) (best named pile row : Nat → Int32) : f_X12_tries_j101 N x4 x5 0 bn bm best named pile row = some (bn, bm, best, named, pile, row) := by
  unfold f_X12_tries_j101
  rw [tries106_0 _ _ _ h, if_pos rfl, if_pos rfl]
section
variable {N : Nat} {k0 k1 k2 k3 : Nat} {tn tm s : Nat → Int32} {ts : List Tok} {pl : Int32} {pc : Nat → Int32} {j : Nat} {lt p : Nat → Nat} {told W : Nat → Int32}
theorem tries_leaf (hN : 100 ≤ N) (hT : TR k0 k1 k2 k3 tn tm s) (hL : LRt 0 ts pl pc s) (hp : PrN s p) (hj : j < 4) (htold : IsRow told lt) (Rec : Int32 → Int32 → Int32 → Int32 → Int32 → Int32 → (Nat → Int32) → (Nat → Int32) → (Nat → Int32) → (Nat → Int32) → (Nat → Int32) → (Nat → Int32) → (Nat → Int32) → Option (Int32 × Int32 × (Nat → Int32) × (Nat → Int32) × (Nat → Int32) × (Nat → Int32)))
    (left : Int32) (pre : List Nat) (hpre : pre.length = 8) (hsum : nS lt + pre.sum ≤ 31) (B : Option (List Nat)) (bn bm : Int32) (best named pile row : Nat → Int32) (hB : BRel (NV s ts j lt p W) lt bn bm best B) (hrow : IsRow row (fun t => lt t + pre.getD t 0)) :
    ∃ bn' bm' best' named' pile', f_X12_tries_b N Rec (Int32.ofNat j) 8 left (Int32.ofNat pre.sum) bn bm best named pile row s told W = some (bn', bm', best', named', pile', row) ∧ BRel (NV s ts j lt p W) lt bn' bm' best' (bsO (NV s ts j lt p W) B pre) := by
  have hS : nS (fun t => lt t + pre.getD t 0) = nS lt + pre.sum := by
    rw [nS_add lt (fun t => pre.getD t 0), nS_list hpre]
  obtain ⟨named', pile', h1⟩ := p12_paid hN hT hL hj hrow hp (nD_ok hp (by rw [hS]; omega)) named pile
  have hnet : PV s ts j (fun t => lt t + pre.getD t 0) p - (row 0 - told 0) * W 0 - (row 1 - told 1) * W 1 - (row 2 - told 2) * W 2 - (row 3 - told 3) * W 3 - (row 4 - told 4) * W 4 - (row 5 - told 5) * W 5 - (row 6 - told 6) * W 6 - (row 7 - told 7) * W 7 = NV s ts j lt p W pre := by
    have e : ∀ t, t < 8 → row t - told t = Int32.ofNat (pre.getD t 0) := fun t ht => by
      rw [hrow t ht, htold t ht]
      show Int32.ofNat (lt t + pre.getD t 0) - Int32.ofNat (lt t) = _
      rw [on_sub (by omega)]; congr 1; omega
    rw [e 0 (by omega), e 1 (by omega), e 2 (by omega), e 3 (by omega), e 4 (by omega), e 5 (by omega), e 6 (by omega), e 7 (by omega)]
    unfold NV dotE dot
    grind
  have hup : ∀ x5, x5 = NV s ts j lt p W pre → ∃ bn' bm' best', f_X12_tries_j101 N (Int32.ofNat pre.sum) x5 1 bn bm best named' pile' row = some (bn', bm', best', named', pile', row) ∧ BRel (NV s ts j lt p W) lt bn' bm' best' (some pre) := by
    intro x5 e
    obtain ⟨best', g1, g2⟩ := j101_1 (N := N) (by omega) (Int32.ofNat pre.sum) x5 bn bm best named' pile' row
    exact ⟨_, _, _, g1, by omega, e, rfl, fun t ht => by rw [g2 t ht]; exact hrow t ht⟩
  unfold f_X12_tries_b
  rw [if_pos rfl, h1, Option.bind_some]
  dsimp only
  rw [tries20 _ _ _ _ (by omega), hnet]
  cases B with
  | none =>
    have hB : bm = -1 := hB
    rw [if_pos hB]
    obtain ⟨bn', bm', best', g1, g2⟩ := hup _ rfl
    exact ⟨bn', bm', best', named', pile', g1, g2⟩
  | some b =>
    obtain ⟨b0, b1, b2, b3⟩ := hB
    have hm1 : ¬ bm = -1 := by
      rw [b2]
      intro h
      have := on_nn (a := b.sum) (by omega)
      rw [h] at this
      exact absurd this (by decide)
    rw [if_neg hm1]
    show ∃ bn' bm' best' named'_1 pile'_1, _ ∧ BRel (NV s ts j lt p W) lt bn' bm' best' (some (bs (NV s ts j lt p W) b pre))
    by_cases c1 : NV s ts j lt p W pre < bn
    · rw [if_pos c1]
      obtain ⟨bn', bm', best', g1, g2⟩ := hup _ rfl
      refine ⟨bn', bm', best', named', pile', g1, ?_⟩
      rw [bs, if_pos (Or.inl (by rw [← b1]; exact c1))]
      exact g2
    · rw [if_neg c1]
      by_cases c2 : NV s ts j lt p W pre = bn
      · rw [if_pos c2]
        by_cases c3 : bm ≤ Int32.ofNat pre.sum
        · rw [if_pos c3, j101_0 (by omega)]
          refine ⟨bn, bm, best, named', pile', rfl, ?_⟩
          rw [bs, if_neg (fun h => by
            rcases h with h | h
            · exact c1 (by rw [b1]; exact h)
            · exact absurd h.2 (by rw [← b2]; exact Int32.not_lt.mpr c3))]
          exact ⟨b0, b1, b2, b3⟩
        · rw [if_neg c3]
          obtain ⟨bn', bm', best', g1, g2⟩ := hup _ rfl
          refine ⟨bn', bm', best', named', pile', g1, ?_⟩
          rw [bs, if_pos (Or.inr ⟨by rw [← b1]; exact c2, by rw [← b2]; exact Int32.not_le.mp c3⟩)]
          exact g2
      · rw [if_neg c2, j101_0 (by omega)]
        refine ⟨bn, bm, best, named', pile', rfl, ?_⟩
        rw [bs, if_neg (fun h => by
          rcases h with h | h
          · exact c1 (by rw [b1]; exact h)
          · exact c2 (by rw [b1]; exact h.1))]
        exact ⟨b0, b1, b2, b3⟩
theorem tries_ok (hN : 100 ≤ N) (hT : TR k0 k1 k2 k3 tn tm s) (hL : LRt 0 ts pl pc s) (hp : PrN s p) (hj : j < 4) (htold : IsRow told lt) (hlt : ∀ t, t < 8 → lt t ≤ 9) :
    ∀ (cs : List Nat) (t d left : Nat) (pre : List Nat) (B : Option (List Nat)) (bn bm : Int32) (best named pile row : Nat → Int32), t + cs.length = 8 → cs.length < d → (∀ i, i < cs.length → cs.getD i 0 = 9 - lt (t + i)) → pre.length = t → nS lt + pre.sum + left ≤ 30 → left < 50 → BRel (NV s ts j lt p W) lt bn bm best B → (∀ i, i < t → row i = Int32.ofNat (lt i + pre.getD i 0)) →
      ∃ bn' bm' best' named' pile' row', fg_tries N d (Int32.ofNat j) (Int32.ofNat t) (Int32.ofNat left) (Int32.ofNat pre.sum) bn bm best named pile row s told W = some (bn', bm', best', named', pile', row') ∧ BRel (NV s ts j lt p W) lt bn' bm' best' ((en cs left).foldl (fun B e => bsO (NV s ts j lt p W) B (pre ++ e)) B) ∧ ∀ i, i < t → row' i = row i := by
  intro cs
  induction cs with
  | nil =>
    intro t d left pre B bn bm best named pile row ht hd hcs hpre hsum hleft hB hrow
    obtain ⟨d, rfl⟩ : ∃ m, d = m + 1 := ⟨d - 1, by omega⟩
    have ht8 : t = 8 := by simpa using ht
    subst ht8
    obtain ⟨bn', bm', best', named', pile', g1, g2⟩ := tries_leaf hN hT hL hp hj htold (fg_tries N d) (Int32.ofNat left) pre hpre (by omega) B bn bm best named pile row hB (fun i hi => hrow i hi)
    refine ⟨bn', bm', best', named', pile', row, g1, ?_, fun _ _ => rfl⟩
    simpa [en] using g2
  | cons c cs ih =>
    intro t d left pre B bn bm best named pile row ht hd hcs hpre hsum hleft hB hrow
    simp only [List.length_cons] at ht hd hcs
    obtain ⟨d, rfl⟩ : ∃ m, d = m + 1 := ⟨d - 1, by omega⟩
    have ht8 : t < 8 := by omega
    have hlt9 := hlt t ht8
    have hc : c = 9 - lt t := by have := hcs 0 (by omega); simpa using this
    have hcs' : ∀ i, i < cs.length → cs.getD i 0 = 9 - lt (t + 1 + i) := fun i hi => by
      have := hcs (i + 1) (by omega)
      rw [List.getD_cons_succ] at this
      rw [this, show t + (i + 1) = t + 1 + i by omega]
    have hv : vin (Int32.ofNat t) 8 = true := of_eq_true (on_vin ht8 (by omega))
    have htt : told t = Int32.ofNat (lt t) := htold t ht8
    -- the loop
    have loop : ∀ (k m n : Nat) (B : Option (List Nat)) (bn bm : Int32) (best named pile row : Nat → Int32) (K : Int32 → Int32 → Int32 → (Nat → Int32) → (Nat → Int32) → (Nat → Int32) → (Nat → Int32) → Option (Int32 × Int32 × (Nat → Int32) × (Nat → Int32) × (Nat → Int32) × (Nat → Int32))), n + k = min c left + 1 → k < m → BRel (NV s ts j lt p W) lt bn bm best B → (∀ i, i < t → row i = Int32.ofNat (lt i + pre.getD i 0)) →
        ∃ y' bn' bm' best' named' pile' row', f_X12_tries_178 N (fg_tries N d) (Int32.ofNat j) (Int32.ofNat t) (Int32.ofNat left) (Int32.ofNat pre.sum) s told W K m (Int32.ofNat n) bn bm best named pile row = K y' bn' bm' best' named' pile' row' ∧ BRel (NV s ts j lt p W) lt bn' bm' best' (((List.range' n k).flatMap fun n => (en cs (left - n)).map (fun r => n :: r)).foldl (fun B e => bsO (NV s ts j lt p W) B (pre ++ e)) B) ∧ ∀ i, i < t → row' i = row i := by
      intro k
      induction k with
      | zero =>
        intro m n B bn bm best named pile row K hn hm hB hrow
        obtain ⟨m, rfl⟩ : ∃ q, m = q + 1 := ⟨m - 1, by omega⟩
        rw [f_X12_tries_178]
        by_cases h1 : left < n
        · rw [if_pos (show Int32.ofNat left < Int32.ofNat n by rw [on_lt (by omega) (by omega)]; exact h1)]
          exact ⟨_, _, _, _, _, _, _, rfl, by simpa using hB, fun _ _ => rfl⟩
        · rw [if_neg (show ¬ Int32.ofNat left < Int32.ofNat n by rw [on_lt (by omega) (by omega)]; exact h1), if_pos hv, on_tn (k := t) (by omega), htt, on_add]
          rw [if_pos (show (9 : Int32) < Int32.ofNat (lt t + n) by rw [lit_lt (by omega) (by omega)]; omega)]
          exact ⟨_, _, _, _, _, _, _, rfl, by simpa using hB, fun _ _ => rfl⟩
      | succ k ihk =>
        intro m n B bn bm best named pile row K hn hm hB hrow
        obtain ⟨m, rfl⟩ : ∃ q, m = q + 1 := ⟨m - 1, by omega⟩
        rw [f_X12_tries_178]
        rw [if_neg (show ¬ Int32.ofNat left < Int32.ofNat n by rw [on_lt (by omega) (by omega)]; omega), if_pos hv, on_tn (k := t) (by omega), htt, on_add]
        rw [if_neg (show ¬ (9 : Int32) < Int32.ofNat (lt t + n) by rw [lit_lt (by omega) (by omega)]; omega), if_pos hv, if_pos hv]
        rw [show Int32.ofNat t + (1 : Int32) = Int32.ofNat (t + 1) from add_lit 1 t, on_sub (show n ≤ left by omega), on_add, show Int32.ofNat n + (1 : Int32) = Int32.ofNat (n + 1) from add_lit 1 n]
        have hps : (pre ++ [n]).sum = pre.sum + n := by simp
        have hrow2 : ∀ i, i < t + 1 → upd row t (Int32.ofNat (lt t + n)) i = Int32.ofNat (lt i + (pre ++ [n]).getD i 0) := by
          intro i hi
          by_cases e : i = t
          · subst e
            rw [upd_at, getD_app_r (by omega), hpre, Nat.sub_self]; rfl
          · rw [upd_ne _ _ e, getD_app_l (by omega)]
            exact hrow i (by omega)
        obtain ⟨bn1, bm1, best1, named1, pile1, row1, g1, g2, g3⟩ := ih (t + 1) d (left - n) (pre ++ [n]) B bn bm best named pile (upd row t (Int32.ofNat (lt t + n))) (by omega) (by omega) hcs' (by simp [hpre]) (by rw [hps]; omega) (by omega) hB hrow2
        rw [hps] at g1
        rw [g1, Option.bind_some]
        dsimp only
        have hrow1 : ∀ i, i < t → row1 i = row i := fun i hi => by rw [g3 i (by omega), upd_ne _ _ (by omega)]
        obtain ⟨y', bn2, bm2, best2, named2, pile2, row2, q1, q2, q3⟩ := ihk m (n + 1) _ bn1 bm1 best1 named1 pile1 row1 K (by omega) (by omega) g2 (fun i hi => by rw [hrow1 i hi]; exact hrow i hi)
        refine ⟨y', bn2, bm2, best2, named2, pile2, row2, q1, ?_, fun i hi => by rw [q3 i hi, hrow1 i hi]⟩
        rw [List.range'_succ, List.flatMap_cons, List.foldl_append, List.foldl_map]
        have e : (fun (x : Option (List Nat)) (y : List Nat) => bsO (NV s ts j lt p W) x (pre ++ n :: y)) = fun x y => bsO (NV s ts j lt p W) x (pre ++ [n] ++ y) := by
          funext x y; simp
        rw [e]
        exact q2
    obtain ⟨y', bn', bm', best', named', pile', row', q1, q2, q3⟩ := loop (min c left + 1) N 0 B bn bm best named pile row (fun v5_21 this_bestNet_21 this_bestMore_21 this_best_21 this_named_21 this_pile_21 this_row_21 => (if vin (Int32.ofNat t) 8 = true then (if vin (Int32.ofNat t) 8 = true then (some (this_bestNet_21, this_bestMore_21, this_best_21, this_named_21, this_pile_21, (upd this_row_21 (Int32.ofNat t).toNatClampNeg (told (Int32.ofNat t).toNatClampNeg)))) else none) else none)) (by omega) (by omega) hB hrow
    refine ⟨bn', bm', best', named', pile', upd row' t (told t), ?_, ?_, fun i hi => by rw [upd_ne _ _ (by omega)]; exact q3 i hi⟩
    · show f_X12_tries_b N (fg_tries N d) (Int32.ofNat j) (Int32.ofNat t) (Int32.ofNat left) (Int32.ofNat pre.sum) bn bm best named pile row s told W = _
      unfold f_X12_tries_b
      rw [if_neg (show ¬ Int32.ofNat t = 8 by rw [eq_lit (by omega) (by omega)]; omega)]
      refine Eq.trans q1 ?_
      rw [if_pos hv, if_pos hv, on_tn (k := t) (by omega)]
    · rw [en, List.range_eq_range']
      exact q2
end
end PTRIES
