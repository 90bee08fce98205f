/-! PURE: inTwo -/
section PINTWO
theorem nD_congr {l l' p : Nat → Nat} (h : ∀ t, t < 8 → l t = l' t) : nD l p = nD l' p := by
  unfold nD
  rw [h 0 (by omega), h 1 (by omega), h 2 (by omega), h 3 (by omega), h 4 (by omega), h 5 (by omega), h 6 (by omega), h 7 (by omega)]
theorem nS_congr {l l' : Nat → Nat} (h : ∀ t, t < 8 → l t = l' t) : nS l = nS l' := by
  unfold nS
  rw [h 0 (by omega), h 1 (by omega), h 2 (by omega), h 3 (by omega), h 4 (by omega), h 5 (by omega), h 6 (by omega), h 7 (by omega)]
def ltL (lt : Nat → Nat) : List Nat := (List.range 8).map lt
theorem ltL_len (lt : Nat → Nat) : (ltL lt).length = 8 := by simp [ltL]
theorem ltL_at (lt : Nat → Nat) {t : Nat} (ht : t < 8) : (ltL lt).getD t 0 = lt t := by
  simp [ltL, List.getD, List.getElem?_map, ht]
theorem ltL_sum (lt : Nat → Nat) : (ltL lt).sum = nS lt := by
  rw [← nS_list (ltL_len lt)]
  exact nS_congr (fun t ht => ltL_at lt ht)
/-- what both parts pay -/
def vT (s : Nat → Int32) (ts : List Tok) (j : Nat) (lt p : Nat → Nat) (e : List Nat) : Int32 := PV s ts j (fun t => e.getD t 0) p + PV s ts j (fun t => lt t - e.getD t 0) p
def lst (m v : Int32) : Int32 := if m = -1 then v else if m ≤ v then m else v
section
variable {N : Nat} {k0 k1 k2 k3 : Nat} {tn tm s : Nat → Int32} {ts : List Tok} {pl : Int32} {pc : Nat → Int32} {j : Nat} {lt p : Nat → Nat} {told : Nat → Int32} {g : Nat → Nat → Int32}
theorem parts_ok (hN : 100 ≤ N) (hT : TR k0 k1 k2 k3 tn tm s) (hL : LRt 0 ts pl pc s) (hp : PrN s p) (hj : j < 4) (htold : IsRow told lt) (hlt : ∀ t, t < 8 → lt t ≤ 9) (hn : nS lt ≤ 12) :
    ∀ (cs : List Nat) (t d left : Nat) (pre : List Nat) (m : Int32) (bes named pile row : Nat → Int32), t + cs.length = 8 → cs.length < d → (∀ i, i < cs.length → cs.getD i 0 = lt (t + i)) → pre.length = t → cs.sum ≤ left → (∀ i, i < t → pre.getD i 0 ≤ lt i) → (∀ i, i < t → row i = Int32.ofNat (pre.getD i 0) ∧ bes i = Int32.ofNat (lt i - pre.getD i 0)) →
      ∃ bes' named' pile' row', fg_parts N d (Int32.ofNat j) (Int32.ofNat t) m bes named pile row s told = some ((en cs left).foldl (fun m e => lst m (vT s ts j lt p (pre ++ e))) m, bes', named', pile', row') ∧ ∀ i, i < t → row' i = row i ∧ bes' i = bes i := by
  intro cs
  induction cs with
  | nil =>
    intro t d left pre m bes named pile row ht hd hcs hpre hle hpl hrow
    obtain ⟨d, rfl⟩ : ∃ m, d = m + 1 := ⟨d - 1, by omega⟩
    have ht8 : t = 8 := by simpa using ht
    subst ht8
    have r1 : IsRow row (fun i => pre.getD i 0) := fun i hi => (hrow i hi).1
    have r2 : IsRow bes (fun i => lt i - pre.getD i 0) := fun i hi => (hrow i hi).2
    have hs1 : nS (fun i => pre.getD i 0) ≤ nS lt := by
      simp only [nS]
      have := hpl 0 (by omega); have := hpl 1 (by omega); have := hpl 2 (by omega); have := hpl 3 (by omega); have := hpl 4 (by omega); have := hpl 5 (by omega); have := hpl 6 (by omega); have := hpl 7 (by omega)
      omega
    have hs2 : nS (fun i => lt i - pre.getD i 0) ≤ nS lt := by simp only [nS]; omega
    obtain ⟨n1, p1, g1⟩ := p12_paid hN hT hL hj r1 hp (nD_ok hp (by omega)) named pile
    obtain ⟨n2, p2, g2⟩ := p12_paid hN hT hL hj r2 hp (nD_ok hp (by omega)) n1 p1
    have hv : PV s ts j (fun i => pre.getD i 0) p + PV s ts j (fun i => lt i - pre.getD i 0) p = vT s ts j lt p pre := rfl
    show ∃ bes' named' pile' row', f_X12_parts_b N (fg_parts N d) (Int32.ofNat j) 8 m bes named pile row s told = _ ∧ _
    unfold f_X12_parts_b
    rw [if_pos rfl, g1, Option.bind_some]
    dsimp only
    rw [g2, Option.bind_some]
    dsimp only
    rw [hv]
    refine ⟨bes, n2, p2, row, ?_, fun _ _ => ⟨rfl, rfl⟩⟩
    show _ = some (lst m (vT s ts j lt p (pre ++ [])), bes, n2, p2, row)
    rw [List.append_nil, lst]
    by_cases h1 : m = -1
    · rw [if_pos h1, if_pos h1]
    · rw [if_neg h1, if_neg h1]
      by_cases h2 : m ≤ vT s ts j lt p pre
      · rw [if_pos h2, if_pos h2]
      · rw [if_neg h2, if_neg h2]
  | cons c cs ih =>
    intro t d left pre m bes named pile row ht hd hcs hpre hle hpl hrow
    simp only [List.length_cons] at ht hd hcs
    simp only [List.sum_cons] at hle
    obtain ⟨d, rfl⟩ : ∃ m, d = m + 1 := ⟨d - 1, by omega⟩
    have ht8 : t < 8 := by omega
    have hlt9 := hlt t ht8
    have hc : c = lt t := by have := hcs 0 (by omega); simpa using this
    have hcs' : ∀ i, i < cs.length → cs.getD i 0 = lt (t + 1 + i) := fun i hi => by
      have := hcs (i + 1) (by omega)
      rw [List.getD_cons_succ] at this
      rw [this, show t + (i + 1) = t + 1 + i by omega]
    have hv : vin (Int32.ofNat t) 8 = true := of_eq_true (on_vin ht8 (by omega))
    have htt : told t = Int32.ofNat (lt t) := htold t ht8
    have loop : ∀ (k f n : Nat) (m : Int32) (bes named pile row : Nat → Int32) (K : Int32 → Int32 → (Nat → Int32) → (Nat → Int32) → (Nat → Int32) → (Nat → Int32) → Option (Int32 × (Nat → Int32) × (Nat → Int32) × (Nat → Int32) × (Nat → Int32))), n + k = c + 1 → k < f → (∀ i, i < t → row i = Int32.ofNat (pre.getD i 0) ∧ bes i = Int32.ofNat (lt i - pre.getD i 0)) →
        ∃ y' bes' named' pile' row', f_X12_parts_57 N (fg_parts N d) (Int32.ofNat j) (Int32.ofNat t) s told K f (Int32.ofNat n) m bes named pile row = K y' (((List.range' n k).flatMap fun n => (en cs (left - n)).map (fun r => n :: r)).foldl (fun m e => lst m (vT s ts j lt p (pre ++ e))) m) bes' named' pile' row' ∧ ∀ i, i < t → row' i = row i ∧ bes' i = bes i := by
      intro k
      induction k with
      | zero =>
        intro f n m bes named pile row K hn hf hrow
        obtain ⟨f, rfl⟩ : ∃ q, f = q + 1 := ⟨f - 1, by omega⟩
        rw [f_X12_parts_57, if_pos hv, on_tn (k := t) (by omega), htt, if_pos (show Int32.ofNat (lt t) < Int32.ofNat n by rw [on_lt (by omega) (by omega)]; omega)]
        exact ⟨_, _, _, _, _, rfl, fun _ _ => ⟨rfl, rfl⟩⟩
      | succ k ihk =>
        intro f n m bes named pile row K hn hf hrow
        obtain ⟨f, rfl⟩ : ∃ q, f = q + 1 := ⟨f - 1, by omega⟩
        rw [f_X12_parts_57, if_pos hv, on_tn (k := t) (by omega), htt, if_neg (show ¬ Int32.ofNat (lt t) < Int32.ofNat n by rw [on_lt (by omega) (by omega)]; omega), if_pos hv, if_pos hv, if_pos hv]
        rw [show Int32.ofNat t + (1 : Int32) = Int32.ofNat (t + 1) from add_lit 1 t, on_sub (show n ≤ lt t by omega), show Int32.ofNat n + (1 : Int32) = Int32.ofNat (n + 1) from add_lit 1 n]
        have hrow2 : ∀ i, i < t + 1 → upd row t (Int32.ofNat n) i = Int32.ofNat ((pre ++ [n]).getD i 0) ∧ upd bes t (Int32.ofNat (lt t - n)) i = Int32.ofNat (lt i - (pre ++ [n]).getD i 0) := by
          intro i hi
          by_cases e : i = t
          · subst e
            rw [upd_at, upd_at, getD_app_r (by omega), hpre, Nat.sub_self]; exact ⟨rfl, rfl⟩
          · rw [upd_ne _ _ e, upd_ne _ _ e, getD_app_l (by omega)]
            exact hrow i (by omega)
        have hpl2 : ∀ i, i < t + 1 → (pre ++ [n]).getD i 0 ≤ lt i := by
          intro i hi
          by_cases e : i = t
          · subst e
            rw [getD_app_r (by omega), hpre, Nat.sub_self]; show n ≤ _; omega
          · rw [getD_app_l (by omega)]; exact hpl i (by omega)
        obtain ⟨bes1, named1, pile1, row1, g1, g3⟩ := ih (t + 1) d (left - n) (pre ++ [n]) m (upd bes t (Int32.ofNat (lt t - n))) named pile (upd row t (Int32.ofNat n)) (by omega) (by omega) hcs' (by simp [hpre]) (by omega) hpl2 hrow2
        rw [g1, Option.bind_some]
        dsimp only
        have hrow1 : ∀ i, i < t → row1 i = row i ∧ bes1 i = bes i := fun i hi => by
          obtain ⟨z1, z2⟩ := g3 i (by omega)
          rw [upd_ne _ _ (by omega)] at z1 z2
          exact ⟨z1, z2⟩
        obtain ⟨y', bes2, named2, pile2, row2, q1, q3⟩ := ihk f (n + 1) ((en cs (left - n)).foldl (fun m e => lst m (vT s ts j lt p (pre ++ [n] ++ e))) m) bes1 named1 pile1 row1 K (by omega) (by omega) (fun i hi => by rw [(hrow1 i hi).1, (hrow1 i hi).2]; exact hrow i hi)
        refine ⟨y', bes2, named2, pile2, row2, ?_, fun i hi => by rw [(q3 i hi).1, (q3 i hi).2]; exact hrow1 i hi⟩
        rw [q1, List.range'_succ, List.flatMap_cons, List.foldl_append, List.foldl_map]
        have e : (fun (x : Int32) (y : List Nat) => lst x (vT s ts j lt p (pre ++ n :: y))) = fun x y => lst x (vT s ts j lt p (pre ++ [n] ++ y)) := by
          funext x y; simp
        rw [e]
    obtain ⟨y', bes', named', pile', row', q1, q3⟩ := loop (c + 1) N 0 m bes named pile row (fun v3_8 this_leastApart_8 this_beside1_8 this_named_8 this_pile_8 this_row_8 => (some (this_leastApart_8, this_beside1_8, this_named_8, this_pile_8, this_row_8))) (by omega) (by omega) hrow
    refine ⟨bes', named', pile', row', ?_, q3⟩
    show f_X12_parts_b N (fg_parts N d) (Int32.ofNat j) (Int32.ofNat t) m bes named pile row s told = _
    unfold f_X12_parts_b
    rw [if_neg (show ¬ Int32.ofNat t = 8 by rw [eq_lit (by omega) (by omega)]; omega)]
    refine Eq.trans q1 ?_
    rw [en, List.range_eq_range', Nat.min_eq_left (by omega)]
theorem tw_loop (hN : 100 ≤ N) (hG : GR g s) (hT : TR k0 k1 k2 k3 tn tm s) (hL : LRt 0 ts pl pc s) (hp : PrN s p) (hj : j < 4) (hn : nS lt ≤ 12) {one : Nat → Int32} (hone : IsRow one lt) {osu : Int32} (hosu : osu = Int32.ofNat (nD lt p))
    (K : Int32 → Int32 → Int32 → Int32 → (Nat → Int32) → (Nat → Int32) → Option (Int32 × (Nat → Int32) × Int32 × Int32 × (Nat → Int32) × Int32 × Int32 × (Nat → Int32) × (Nat → Int32))) :
    ∀ (L : List (List Nat)) (e : List Nat) (n i : Nat) (m : Int32) (erow st : Nat → Int32), Lnk (nxt (ltL lt) (nS lt)) e L none → i + L.length < 1000000 → L.length < n → IsL erow e → (∀ x ∈ e :: L, x.length = 8 ∧ x.sum ≤ nS lt ∧ ∀ t, t < 8 → x.getD t 0 ≤ lt t) → m ≠ -1 →
      ∃ y' eth' esu' erow' st', f_X11_inTwo_53 N (Int32.ofNat j) (Int32.ofNat (nS lt)) osu one g pl pc k0 k1 k2 k3 tn tm K n m (Int32.ofNat i) (Int32.ofNat e.sum) (dot erow (g 0)) erow st = K (L.foldl (fun m e => lst m (vT s ts j lt p e)) m) y' eth' esu' erow' st' := by
  intro L
  have hroom : IsL one (ltL lt) := fun t ht => by rw [ltL_at lt ht]; exact hone t ht
  have hrs : ∀ t, (ltL lt).getD t 0 < 100000 := fun t => by
    by_cases h : t < 8
    · rw [ltL_at lt h]
      have : lt t ≤ nS lt := by
        unfold nS
        have : t = 0 ∨ t = 1 ∨ t = 2 ∨ t = 3 ∨ t = 4 ∨ t = 5 ∨ t = 6 ∨ t = 7 := by omega
        rcases this with rfl | rfl | rfl | rfl | rfl | rfl | rfl | rfl <;> omega
      omega
    · simp [List.getD, List.getElem?_eq_none (show (ltL lt).length ≤ t by rw [ltL_len]; omega)]
  induction L with
  | nil =>
    intro e n i m erow st hl hi hnn he hall hm
    obtain ⟨n, rfl⟩ : ∃ q, n = q + 1 := ⟨n - 1, by omega⟩
    simp only [List.length_nil, Nat.add_zero] at hi
    obtain ⟨he8, heM, -⟩ := hall e List.mem_cons_self
    rw [f_X11_inTwo_53, if_neg (show ¬ (1000000 : Int32) ≤ Int32.ofNat i by rw [lit_le (by omega) (by omega)]; omega)]
    rcases p0_step hN (ltL_len lt) he8 (M := nS lt) (by omega) (by omega) hrs (price := g 0) hroom he with ⟨l', row', h1, -⟩ | ⟨h1, b', c', d', h2⟩
    · have hl : nxt (ltL lt) (nS lt) e = none := hl
      rw [hl] at h1; cases h1
    · rw [h2, Option.bind_some]
      dsimp only
      rw [if_pos rfl]
      exact ⟨_, _, _, _, _, rfl⟩
  | cons x L ih =>
    intro e n i m erow st hl hi hnn he hall hm
    obtain ⟨n, rfl⟩ : ∃ q, n = q + 1 := ⟨n - 1, by omega⟩
    simp only [List.length_cons] at hi hnn
    obtain ⟨he8, heM, -⟩ := hall e List.mem_cons_self
    obtain ⟨hx8, hxM, hxl⟩ := hall x (List.mem_cons_of_mem _ List.mem_cons_self)
    rw [f_X11_inTwo_53, if_neg (show ¬ (1000000 : Int32) ≤ Int32.ofNat i by rw [lit_le (by omega) (by omega)]; omega)]
    rcases p0_step hN (ltL_len lt) he8 (M := nS lt) (by omega) (by omega) hrs (price := g 0) hroom he with ⟨l', row', h1, h2, h3, h4⟩ | ⟨h1, -⟩
    rotate_left
    · rw [hl.1] at h1; cases h1
    have hxl' : l' = x := by rw [hl.1] at h1; exact (Option.some.inj h1).symm
    subst hxl'
    rw [h3, Option.bind_some]
    dsimp only
    rw [if_neg (show ¬ (1 : Int32) = 0 by decide)]
    have hr4 : IsRow row' (fun t => l'.getD t 0) := h4
    have hsu : dot row' (g 0) = Int32.ofNat (nD (fun t => l'.getD t 0) p) := hr4.dot (hp.row0 hG)
    have hth : Int32.ofNat l'.sum = Int32.ofNat (nS (fun t => l'.getD t 0)) := by rw [nS_list h2]
    have hadd : ∀ t, t < 8 → (fun t => (lt t - l'.getD t 0) + l'.getD t 0) t = lt t := fun t ht => by have := hxl t ht; show lt t - l'.getD t 0 + l'.getD t 0 = lt t; omega
    have hD : nD (fun t => lt t - l'.getD t 0) p + nD (fun t => l'.getD t 0) p = nD lt p := by rw [← nD_add]; exact nD_congr hadd
    have hS : nS (fun t => lt t - l'.getD t 0) + nS (fun t => l'.getD t 0) = nS lt := by rw [← nS_add]; exact nS_congr hadd
    have hSl := nS_list h2
    have hsu2 : osu - dot row' (g 0) = Int32.ofNat (nD (fun t => lt t - l'.getD t 0) p) := by rw [hosu, hsu, on_sub (by omega)]; congr 1; omega
    have hth2 : Int32.ofNat (nS lt) - Int32.ofNat l'.sum = Int32.ofNat (nS (fun t => lt t - l'.getD t 0)) := by rw [on_sub (by omega)]; congr 1; omega
    obtain ⟨st1, f1⟩ := p7_paidB hN hT hL hj hth hsu (nD_ok hp (by omega)) st
    obtain ⟨st2, f2⟩ := p7_paidB hN hT hL hj hth2 hsu2 (nD_ok hp (by omega)) st1
    rw [f1, Option.bind_some]
    dsimp only
    rw [f2, Option.bind_some]
    dsimp only
    rw [show PV s ts j (fun t => l'.getD t 0) p + PV s ts j (fun t => lt t - l'.getD t 0) p = vT s ts j lt p l' from rfl]
    rw [show Int32.ofNat i + (1 : Int32) = Int32.ofNat (i + 1) from add_lit 1 i]
    have hlst : (if vT s ts j lt p l' < m then vT s ts j lt p l' else m) = lst m (vT s ts j lt p l') := by
      rw [lst, if_neg hm]
      by_cases h : vT s ts j lt p l' < m
      · rw [if_pos h, if_neg (Int32.not_le.mpr h)]
      · rw [if_neg h, if_pos (Int32.not_lt.mp h)]
    have hvn : vT s ts j lt p l' ≠ -1 := by
      obtain ⟨r1, hr1, er1⟩ : ∃ r, r ≤ 9999 ∧ PV s ts j (fun t => l'.getD t 0) p = Int32.ofNat r := payV_range _ _ _ _ _
      obtain ⟨r2, hr2, er2⟩ : ∃ r, r ≤ 9999 ∧ PV s ts j (fun t => lt t - l'.getD t 0) p = Int32.ofNat r := payV_range _ _ _ _ _
      unfold vT
      rw [er1, er2, on_add]
      intro h
      have := on_nn (a := r1 + r2) (by omega)
      rw [h] at this
      exact absurd this (by decide)
    have hm' : lst m (vT s ts j lt p l') ≠ -1 := by
      rw [lst, if_neg hm]
      split
      · exact hm
      · exact hvn
    rw [hlst, List.foldl_cons]
    exact ih l' n (i + 1) _ row' st2 hl.2 (by omega) (by omega) h4 (fun y hy => hall y (List.mem_cons_of_mem _ hy)) hm'
end
theorem pm_inTwo {N : Nat} (hN : 2000000 ≤ N) (a b : Int32) {k0 k1 k2 k3 : Nat} {tn tm s ce me pc bits lens mbits msizes mnum : Nat → Int32} {pl : Int32} {nums g : Nat → Nat → Int32} (hE : ER ce me) (hH : HR bits lens nums mbits msizes mnum) (hG : GR g s) (hT : TR k0 k1 k2 k3 tn tm s) (hL : LR 0 pl pc s)
    (eth esu : Int32) (erow : Nat → Int32) (x y : Int32) (rw0 st : Nat → Int32) (mla : Int32) (bes named pile mrow told : Nat → Int32) :
    ∃ v ce' a1 a2 a3 a4 a5 a6 a7 me' b1 b2 b3 b4 b5 b6, f_X11_inTwo N a b ce eth esu erow x y rw0 bits lens nums g pl pc st k0 k1 k2 k3 tn tm = some (v, ce', a1, a2, a3, a4, a5, a6, a7) ∧ f_X12_inTwo N a b mla bes mbits me named mnum pile mrow s msizes told = some (v, b1, b2, me', b3, b4, b5, b6) ∧ ER ce' me' := by
  obtain ⟨ts, hL⟩ := hL
  have hN1 : 100 ≤ N := by omega
  have hp := hG.prN
  unfold f_X11_inTwo f_X12_inTwo
  obtain ⟨q, th, su, row, told', e1, e2, e3, e4⟩ := pm_lacks hN1 a b (M := 12) (by omega) hH x y rw0 told g
  have e1 : f_X11_refusal N a b 12 x y rw0 bits lens nums g = _ := e1
  have e2 : f_X12_lacks N a b 1 12 mbits mnum msizes told = _ := e2
  rw [e1, e2, Option.bind_some, Option.bind_some]
  dsimp only
  have hle := e3.le
  by_cases h0 : q = 0
  rotate_left
  · rw [if_neg h0, if_neg (by rw [hle]; exact h0)]
    obtain ⟨k, k1, k2, rfl⟩ := e3.err h0
    rw [p11_error N k1 k2, p12_error N k2]
    exact ⟨_, _, _, _, _, _, _, _, _, _, _, _, _, _, _, _, rfl, rfl, hE.up (by omega)⟩
  rw [if_pos h0, if_pos (by rw [hle]; exact h0)]
  obtain ⟨t, ht, rfl⟩ := e4 h0
  rcases e3 with ⟨-, l, ⟨b1, b2, b3, b4, b5⟩, hM⟩ | ⟨k, k1, k2, k3⟩
  rotate_left
  · exfalso; rw [h0] at k3; rw [lit_eq (by omega) (by omega)] at k3; omega
  have hsu := b5.trans (b1.dot (hp.row0 hG))
  obtain ⟨st1, f1⟩ := p7_paidB hN1 hT hL ht b4 hsu (nD_ok hp (by omega)) st
  rw [p0_clear2 (by omega), Option.bind_some]
  dsimp only
  rw [f1, Option.bind_some]
  dsimp only
  obtain ⟨tl, hen, hlnk⟩ := en_head (ltL l) (nS l)
  have hall : ∀ x ∈ zs (ltL l) :: tl, x.length = 8 ∧ x.sum ≤ nS l ∧ ∀ t, t < 8 → x.getD t 0 ≤ l t := fun x hx => by
    rw [← hen] at hx
    obtain ⟨h1, h2, h3⟩ := en_mem _ _ x hx
    exact ⟨by rw [h1, ltL_len], h2, fun t ht => by have := h3 t; rwa [ltL_at l ht] at this⟩
  have hcnt : tl.length + 1 ≤ 4096 := by
    have h := en_count2 (ltL l) (nS l)
    rw [hen, ltL_sum, List.length_cons] at h
    have : 2 ^ nS l ≤ 2 ^ 12 := Nat.pow_le_pow_right (by omega) hM
    omega
  have hz0 : (0 : Int32) = Int32.ofNat (zs (ltL l)).sum := by rw [zs_sum]; rfl
  have hze : IsL (z8 erow) (zs (ltL l)) := fun t ht => by rw [z8_at _ ht, zs_getD]; rfl
  have hzd : (0 : Int32) = dot (z8 erow) (g 0) := by
    have e0 : ∀ t, t < 8 → z8 erow t = 0 := fun t ht => z8_at _ ht
    unfold dot
    rw [e0 0 (by omega), e0 1 (by omega), e0 2 (by omega), e0 3 (by omega), e0 4 (by omega), e0 5 (by omega), e0 6 (by omega), e0 7 (by omega)]
    simp
  have hPV0 : PV s ts t (fun i => (zs (ltL l)).getD i 0) (prN s) = 0 := by
    have : nS (fun i => (zs (ltL l)).getD i 0) = 0 := by rw [nS_list (by rw [zs_length, ltL_len]), zs_sum]
    unfold PV payV
    rw [this, if_pos (show Int32.ofNat 0 = 0 from rfl)]
  have hv0 : vT s ts t l (prN s) (zs (ltL l)) = PV s ts t l (prN s) := by
    unfold vT
    rw [hPV0, Int32.zero_add]
    congr 1
    funext i; rw [zs_getD, Nat.sub_zero]
  have hvn : PV s ts t l (prN s) ≠ -1 := by
    obtain ⟨r1, hr1, er1⟩ : ∃ r, r ≤ 9999 ∧ PV s ts t l (prN s) = Int32.ofNat r := payV_range _ _ _ _ _
    rw [er1]
    intro h
    have := on_nn (a := r1) (by omega)
    rw [h] at this
    exact absurd this (by decide)
  obtain ⟨y', eth', esu', erow', st', w1⟩ := tw_loop hN1 hG hT hL hp ht hM b1 hsu (fun v4_10 v5_10 this_extra_things_10 this_extra_sum_10 this_extra_row_10 this_shop_paysLaw_stack_10 => (some (v4_10, ce, this_extra_things_10, this_extra_sum_10, this_extra_row_10, th, su, row, this_shop_paysLaw_stack_10))) tl (zs (ltL l)) N 0 (PV s ts t l (prN s)) (z8 erow) st1 hlnk (by omega) (by omega) hze hall hvn
  rw [← hz0, ← hzd, ← b4] at w1
  have w1 : f_X11_inTwo_53 N (Int32.ofNat t) th su row g pl pc k0 k1 k2 k3 tn tm _ N (PV s ts t l (prN s)) 0 0 0 (z8 erow) st1 = _ := w1
  obtain ⟨bes', named', pile', row', g1, -⟩ := parts_ok hN1 hT hL hp ht b2 b3 hM (ltL l) 0 10 (nS l) [] (-1) bes named pile mrow (by rw [ltL_len]) (by rw [ltL_len]; omega) (fun i hi => by rw [ltL_len] at hi; rw [ltL_at l hi, Nat.zero_add]) rfl (by rw [ltL_sum]; omega) (fun i hi => by omega) (fun i hi => by omega)
  have g1 : f_X12_parts N 10 (Int32.ofNat t) 0 (-1) bes named pile mrow s told' = _ := g1
  rw [hen, List.foldl_cons] at g1
  have hl0 : lst (-1) (vT s ts t l (prN s) ([] ++ zs (ltL l))) = PV s ts t l (prN s) := by
    rw [lst, if_pos rfl]; exact hv0
  rw [hl0] at g1
  rw [g1, Option.bind_some]
  exact ⟨_, _, _, _, _, _, _, _, _, _, _, _, _, _, _, _, w1, rfl, hE⟩
end PINTWO
