/-! PURE: baskets of 1 to 3 things: nines, wasIn -/
section PSMALL
def dec : List Nat → Nat
  | [] => 0
  | n :: r => n * 10 ^ r.length + dec r
theorem dec_lt : ∀ (r : List Nat), (∀ t, r.getD t 0 ≤ 9) → dec r < 10 ^ r.length
  | [], _ => by simp [dec]
  | n :: r, h => by
    have h1 := dec_lt r (fun t => by have := h (t + 1); simpa using this)
    have h0 : n ≤ 9 := by have := h 0; simpa using this
    have : n * 10 ^ r.length ≤ 9 * 10 ^ r.length := Nat.mul_le_mul_right _ h0
    rw [dec, List.length_cons, Nat.pow_succ]
    omega
theorem dec_zero : ∀ (r : List Nat), r.sum = 0 → dec r = 0
  | [], _ => rfl
  | n :: r, h => by
    simp only [List.sum_cons] at h
    have h1 := dec_zero r (by omega)
    have h2 : n = 0 := by omega
    rw [dec, h1, h2]; simp
theorem en_sorted : ∀ (cs : List Nat) (left : Nat), (∀ t, cs.getD t 0 ≤ 9) → (en cs left).Pairwise (fun a b => dec a < dec b)
  | [], left, _ => by simp [en]
  | c :: cs, left, h => by
    have hcs : ∀ t, cs.getD t 0 ≤ 9 := fun t => by have := h (t + 1); simpa using this
    rw [en, List.pairwise_flatMap]
    refine ⟨fun n _ => ?_, ?_⟩
    · rw [List.pairwise_map]
      refine (List.Pairwise.and_mem.mp (en_sorted cs (left - n) hcs)).imp ?_
      intro a b hab
      obtain ⟨ha, hb, hlt⟩ := hab
      have l1 := (en_mem cs (left - n) a ha).1
      have l2 := (en_mem cs (left - n) b hb).1
      rw [dec, dec, l1, l2]; omega
    · refine List.pairwise_lt_range.imp ?_
      intro n m hnm x hx y hy
      simp only [List.mem_map] at hx hy
      obtain ⟨x', hx', rfl⟩ := hx
      obtain ⟨y', hy', rfl⟩ := hy
      obtain ⟨l1, -, d1⟩ := en_mem cs (left - n) x' hx'
      obtain ⟨l2, -, -⟩ := en_mem cs (left - m) y' hy'
      have := dec_lt x' (fun t => Nat.le_trans (d1 t) (hcs t))
      rw [dec, dec, l1, l2]
      rw [l1] at this
      have hm : (n + 1) * 10 ^ cs.length ≤ m * 10 ^ cs.length := Nat.mul_le_mul_right _ hnm
      rw [Nat.add_mul, Nat.one_mul] at hm
      omega
theorem dec8 {r : Nat → Int32} {l : List Nat} (hl : l.length = 8) (h : IsL r l) : (10 : Int32) * ((10 : Int32) * ((10 : Int32) * ((10 : Int32) * ((10 : Int32) * ((10 : Int32) * ((10 : Int32) * r 0 + r 1) + r 2) + r 3) + r 4) + r 5) + r 6) + r 7 = Int32.ofNat (dec l) := by
  rw [h 0 (by omega), h 1 (by omega), h 2 (by omega), h 3 (by omega), h 4 (by omega), h 5 (by omega), h 6 (by omega), h 7 (by omega)]
  simp only [lit_mul, on_add]
  congr 1
  match l, hl with
  | [a, b, c, d, e, f, g, i], _ => simp [dec]; omega
theorem p0_rowAsNumber {N : Nat} (h : 9 ≤ N) {r : Nat → Int32} {l : List Nat} (hl : l.length = 8) (hr : IsL r l) : f_X0_rowAsNumber N r = some (Int32.ofNat (dec l)) := by
  rw [← dec8 hl hr]
  obtain ⟨M, rfl⟩ := N_of N h
  simp [f_X0_rowAsNumber, f_X0_rowAsNumber_4, v8_0, v8_1, v8_2, v8_3, v8_4, v8_5, v8_6, v8_7]
theorem p12_small70 {N : Nat} (h : 9 ≤ N) {r : Nat → Int32} {l : List Nat} (hl : l.length = 8) (hr : IsL r l) (K : Int32 → Int32 → Option (Int32 × Int32 × Int32 × (Nat → Int32) × (Nat → Int32) × (Nat → Int32))) : f_X12_small_70 N r K N 0 0 = K (Int32.ofNat (dec l)) 8 := by
  rw [← dec8 hl hr]
  obtain ⟨M, rfl⟩ := N_of N h
  simp [f_X12_small_70, v8_0, v8_1, v8_2, v8_3, v8_4, v8_5, v8_6, v8_7]
def sV (s : Nat → Int32) (ts : List Tok) (j : Nat) (p : Nat → Nat) (e : List Nat) : Int32 := PV s ts j (fun t => e.getD t 0) p
/-- one basket more is looked at: found, first, least -/
def sst (V : List Nat → Int32) (w : Int32) (F : Int32 × Int32 × Int32) (e : List Nat) : Int32 × Int32 × Int32 :=
  if e.sum = 0 then F else if V e = w then (F.1 + 1, (if F.2.1 = -1 then Int32.ofNat (dec e) else if F.2.1 ≤ Int32.ofNat (dec e) then F.2.1 else Int32.ofNat (dec e)), lst F.2.2 (V e)) else (F.1, F.2.1, lst F.2.2 (V e))
section
variable {N : Nat} {k0 k1 k2 k3 : Nat} {tn tm s : Nat → Int32} {ts : List Tok} {pl : Int32} {pc : Nat → Int32} {j : Nat} {p : Nat → Nat} {g : Nat → Nat → Int32}
theorem small_leaf (hN : 100 ≤ N) (hT : TR k0 k1 k2 k3 tn tm s) (hL : LRt 0 ts pl pc s) (hp : PrN s p) (hj : j < 4) (Rec : Int32 → Int32 → Int32 → Int32 → Int32 → Int32 → Int32 → (Nat → Int32) → (Nat → Int32) → (Nat → Int32) → (Nat → Int32) → Option (Int32 × Int32 × Int32 × (Nat → Int32) × (Nat → Int32) × (Nat → Int32))) (left w : Int32) (pre : List Nat) (hpre : pre.length = 8) (hsum : pre.sum ≤ 3) (F : Int32 × Int32 × Int32) (named pile row : Nat → Int32) (hrow : IsL row pre) :
    ∃ named' pile', f_X12_small_b N Rec (Int32.ofNat j) 8 left w F.1 F.2.1 F.2.2 named pile row s = some ((sst (sV s ts j p) w F pre).1, (sst (sV s ts j p) w F pre).2.1, (sst (sV s ts j p) w F pre).2.2, named', pile', row) := by
  have hr : IsRow row (fun t => pre.getD t 0) := hrow
  have hS : nS (fun t => pre.getD t 0) = pre.sum := nS_list hpre
  unfold f_X12_small_b
  rw [if_pos rfl, p12_many (by omega), hr.sm, hS, Option.bind_some]
  unfold sst
  by_cases h0 : pre.sum = 0
  · rw [if_pos (show Int32.ofNat pre.sum ≤ 0 by rw [le_lit (by omega) (by omega)]; omega), if_pos h0]
    exact ⟨named, pile, rfl⟩
  rw [if_neg (show ¬ Int32.ofNat pre.sum ≤ 0 by rw [le_lit (by omega) (by omega)]; omega), if_neg h0]
  obtain ⟨n1, p1, g1⟩ := p12_paid hN hT hL hj hr hp (nD_ok hp (by omega)) named pile
  have g1 : f_X12_paid N (Int32.ofNat j) row named pile s = some (sV s ts j p pre, n1, p1) := g1
  rw [g1, Option.bind_some]
  dsimp only
  have hj54 : ∀ t1, f_X12_small_j54 N w (sV s ts j p pre) t1 F.1 F.2.1 n1 p1 row = if sV s ts j p pre = w then some (F.1 + 1, (if F.2.1 = -1 then Int32.ofNat (dec pre) else if F.2.1 ≤ Int32.ofNat (dec pre) then F.2.1 else Int32.ofNat (dec pre)), t1, n1, p1, row) else some (F.1, F.2.1, t1, n1, p1, row) := by
    intro t1
    unfold f_X12_small_j54
    by_cases h : sV s ts j p pre = w
    · rw [if_pos h, if_pos h, p12_small70 (by omega) hpre hrow]
      by_cases h1 : F.2.1 = -1
      · rw [if_pos h1, if_pos h1]
      · rw [if_neg h1, if_neg h1]
        by_cases h2 : F.2.1 ≤ Int32.ofNat (dec pre)
        · rw [if_pos h2, if_pos h2]
        · rw [if_neg h2, if_neg h2]
    · rw [if_neg h, if_neg h]
  rw [hj54, hj54]
  have hl : (if F.2.2 = -1 then (if sV s ts j p pre = w then some (F.1 + 1, (if F.2.1 = -1 then Int32.ofNat (dec pre) else if F.2.1 ≤ Int32.ofNat (dec pre) then F.2.1 else Int32.ofNat (dec pre)), sV s ts j p pre, n1, p1, row) else some (F.1, F.2.1, sV s ts j p pre, n1, p1, row)) else if F.2.2 ≤ sV s ts j p pre then (if sV s ts j p pre = w then some (F.1 + 1, (if F.2.1 = -1 then Int32.ofNat (dec pre) else if F.2.1 ≤ Int32.ofNat (dec pre) then F.2.1 else Int32.ofNat (dec pre)), F.2.2, n1, p1, row) else some (F.1, F.2.1, F.2.2, n1, p1, row)) else (if sV s ts j p pre = w then some (F.1 + 1, (if F.2.1 = -1 then Int32.ofNat (dec pre) else if F.2.1 ≤ Int32.ofNat (dec pre) then F.2.1 else Int32.ofNat (dec pre)), sV s ts j p pre, n1, p1, row) else some (F.1, F.2.1, sV s ts j p pre, n1, p1, row))) = (if sV s ts j p pre = w then some (F.1 + 1, (if F.2.1 = -1 then Int32.ofNat (dec pre) else if F.2.1 ≤ Int32.ofNat (dec pre) then F.2.1 else Int32.ofNat (dec pre)), lst F.2.2 (sV s ts j p pre), n1, p1, row) else some (F.1, F.2.1, lst F.2.2 (sV s ts j p pre), n1, p1, row)) := by
    unfold lst
    by_cases h1 : F.2.2 = -1
    · rw [if_pos h1, if_pos h1]
    · rw [if_neg h1, if_neg h1]
      by_cases h2 : F.2.2 ≤ sV s ts j p pre
      · rw [if_pos h2, if_pos h2]
      · rw [if_neg h2, if_neg h2]
  refine ⟨n1, p1, hl.trans ?_⟩
  by_cases h : sV s ts j p pre = w
  · rw [if_pos h, if_pos h]
  · rw [if_neg h, if_neg h]
theorem small_ok (hN : 100 ≤ N) (hT : TR k0 k1 k2 k3 tn tm s) (hL : LRt 0 ts pl pc s) (hp : PrN s p) (hj : j < 4) (w : Int32) :
    ∀ (cs : List Nat) (t d left : Nat) (pre : List Nat) (F : Int32 × Int32 × Int32) (named pile row : Nat → Int32), t + cs.length = 8 → cs.length < d → (∀ i, i < cs.length → cs.getD i 0 = 3) → pre.length = t → pre.sum + left ≤ 3 → (∀ i, i < t → row i = Int32.ofNat (pre.getD i 0)) →
      ∃ named' pile' row', fg_small N d (Int32.ofNat j) (Int32.ofNat t) (Int32.ofNat left) w F.1 F.2.1 F.2.2 named pile row s = some (((en cs left).foldl (fun F e => sst (sV s ts j p) w F (pre ++ e)) F).1, ((en cs left).foldl (fun F e => sst (sV s ts j p) w F (pre ++ e)) F).2.1, ((en cs left).foldl (fun F e => sst (sV s ts j p) w F (pre ++ e)) F).2.2, named', pile', row') ∧ ∀ i, i < t → row' i = row i := by
  intro cs
  induction cs with
  | nil =>
    intro t d left pre F named pile row ht hd hcs hpre hsum hrow
    obtain ⟨d, rfl⟩ : ∃ m, d = m + 1 := ⟨d - 1, by omega⟩
    have ht8 : t = 8 := by simpa using ht
    subst ht8
    obtain ⟨n1, p1, g1⟩ := small_leaf hN hT hL hp hj (fg_small N d) (Int32.ofNat left) w pre hpre (by omega) F named pile row hrow
    refine ⟨n1, p1, row, ?_, fun _ _ => rfl⟩
    have e : (en [] left).foldl (fun F e => sst (sV s ts j p) w F (pre ++ e)) F = sst (sV s ts j p) w F pre := by simp [en]
    rw [e]
    exact g1
  | cons c cs ih =>
    intro t d left pre F named pile row ht hd hcs hpre hsum hrow
    simp only [List.length_cons] at ht hd hcs
    obtain ⟨d, rfl⟩ : ∃ m, d = m + 1 := ⟨d - 1, by omega⟩
    have ht8 : t < 8 := by omega
    have hc : c = 3 := by have := hcs 0 (by omega); simpa using this
    have hcs' : ∀ i, i < cs.length → cs.getD i 0 = 3 := fun i hi => by
      have := hcs (i + 1) (by omega)
      rwa [List.getD_cons_succ] at this
    have hv : vin (Int32.ofNat t) 8 = true := of_eq_true (on_vin ht8 (by omega))
    have loop : ∀ (k f n : Nat) (F : Int32 × Int32 × Int32) (named pile row : Nat → Int32) (K : Int32 → Int32 → Int32 → Int32 → (Nat → Int32) → (Nat → Int32) → (Nat → Int32) → Option (Int32 × Int32 × Int32 × (Nat → Int32) × (Nat → Int32) × (Nat → Int32))), n + k = left + 1 → k < f → (∀ i, i < t → row i = Int32.ofNat (pre.getD i 0)) →
        ∃ y' named' pile' row', f_X12_small_142 N (fg_small N d) (Int32.ofNat j) (Int32.ofNat t) (Int32.ofNat left) w s K f (Int32.ofNat n) F.1 F.2.1 F.2.2 named pile row = K y' (((List.range' n k).flatMap fun n => (en cs (left - n)).map (fun r => n :: r)).foldl (fun F e => sst (sV s ts j p) w F (pre ++ e)) F).1 (((List.range' n k).flatMap fun n => (en cs (left - n)).map (fun r => n :: r)).foldl (fun F e => sst (sV s ts j p) w F (pre ++ e)) F).2.1 (((List.range' n k).flatMap fun n => (en cs (left - n)).map (fun r => n :: r)).foldl (fun F e => sst (sV s ts j p) w F (pre ++ e)) F).2.2 named' pile' row' ∧ ∀ i, i < t → row' i = row i := by
      intro k
      induction k with
      | zero =>
        intro f n F named pile row K hn hf hrow
        obtain ⟨f, rfl⟩ : ∃ q, f = q + 1 := ⟨f - 1, by omega⟩
        rw [f_X12_small_142, if_pos (show Int32.ofNat left < Int32.ofNat n by rw [on_lt (by omega) (by omega)]; omega)]
        exact ⟨_, _, _, _, rfl, fun _ _ => rfl⟩
      | succ k ihk =>
        intro f n F named pile row K hn hf hrow
        obtain ⟨f, rfl⟩ : ∃ q, f = q + 1 := ⟨f - 1, by omega⟩
        rw [f_X12_small_142, if_neg (show ¬ Int32.ofNat left < Int32.ofNat n by rw [on_lt (by omega) (by omega)]; omega), if_pos hv, on_tn (k := t) (by omega)]
        rw [show Int32.ofNat t + (1 : Int32) = Int32.ofNat (t + 1) from add_lit 1 t, on_sub (show n ≤ left by omega), show Int32.ofNat n + (1 : Int32) = Int32.ofNat (n + 1) from add_lit 1 n]
        have hps : (pre ++ [n]).sum = pre.sum + n := by simp
        have hrow2 : ∀ i, i < t + 1 → upd row t (Int32.ofNat n) i = Int32.ofNat ((pre ++ [n]).getD i 0) := by
          intro i hi
          by_cases e : i = t
          · subst e
            rw [upd_at, getD_app_r (by omega), hpre, Nat.sub_self]; rfl
          · rw [upd_ne _ _ e, getD_app_l (by omega)]
            exact hrow i (by omega)
        obtain ⟨named1, pile1, row1, g1, g3⟩ := ih (t + 1) d (left - n) (pre ++ [n]) F named pile (upd row t (Int32.ofNat n)) (by omega) (by omega) hcs' (by simp [hpre]) (by rw [hps]; omega) hrow2
        rw [g1, Option.bind_some]
        dsimp only
        have hrow1 : ∀ i, i < t → row1 i = row i := fun i hi => by rw [g3 i (by omega), upd_ne _ _ (by omega)]
        have e : (fun (x : Int32 × Int32 × Int32) (y : List Nat) => sst (sV s ts j p) w x (pre ++ n :: y)) = fun x y => sst (sV s ts j p) w x (pre ++ [n] ++ y) := by
          funext x y; simp
        obtain ⟨y', named2, pile2, row2, q1, q3⟩ := ihk f (n + 1) ((en cs (left - n)).foldl (fun F e => sst (sV s ts j p) w F (pre ++ [n] ++ e)) F) named1 pile1 row1 K (by omega) (by omega) (fun i hi => by rw [hrow1 i hi]; exact hrow i hi)
        refine ⟨y', named2, pile2, row2, ?_, fun i hi => by rw [q3 i hi, hrow1 i hi]⟩
        rw [q1, List.range'_succ, List.flatMap_cons, List.foldl_append, List.foldl_map, e]
    obtain ⟨y', named', pile', row', q1, q3⟩ := loop (left + 1) N 0 F named pile row (fun v5_14 this_found_14 this_first_14 this_leastPaid_14 this_named_14 this_pile_14 this_row_14 => (if vin (Int32.ofNat t) 8 = true then (some (this_found_14, this_first_14, this_leastPaid_14, this_named_14, this_pile_14, (upd this_row_14 (Int32.ofNat t).toNatClampNeg (0 : Int32)))) else none)) (by omega) (by omega) hrow
    refine ⟨named', pile', upd row' t 0, ?_, fun i hi => by rw [upd_ne _ _ (by omega)]; exact q3 i hi⟩
    show f_X12_small_b N (fg_small N d) (Int32.ofNat j) (Int32.ofNat t) (Int32.ofNat left) w F.1 F.2.1 F.2.2 named pile row s = _
    unfold f_X12_small_b
    rw [if_neg (show ¬ Int32.ofNat t = 8 by rw [eq_lit (by omega) (by omega)]; omega)]
    refine Eq.trans q1 ?_
    rw [if_pos hv, on_tn (k := t) (by omega), en, List.range_eq_range', Nat.min_eq_right (by omega)]
end
end PSMALL
