/-! PURE: MORE, in both -/
section PFIND
theorem p0_copy (N : Nat) (a b : Int32) (c : Nat → Int32) (x y : Int32) (z : Nat → Int32) : ∃ z', f_X0_copy N a b c x y z = some (a, b, z') ∧ ∀ t, t < 8 → z' t = c t := by
  refine ⟨va_cpy c z 0 0 8, ?_, fun t ht => ?_⟩
  · unfold f_X0_copy
    rw [if_pos ⟨by decide, by decide, by decide, by decide, by decide⟩]
    rfl
  · unfold va_cpy
    rw [if_pos ⟨by omega, by omega⟩]
    congr 1; omega
def prN (s : Nat → Int32) : Nat → Nat := fun t => (s (8 + t)).toNatClampNeg
theorem GR.prN {g : Nat → Nat → Int32} {s : Nat → Int32} (h : GR g s) : PrN s (prN s) := fun t ht => by
  obtain ⟨⟨h1, h2⟩, -⟩ := h.2 t ht
  obtain ⟨k, hk, e⟩ := nat_of (b := 9999) (Int32.le_trans (by decide) h1) h2 (by omega)
  unfold _root_.Jvm.Pilot.@@N@@.prN
  rw [e, on_tn (by omega)]
  exact ⟨rfl, hk⟩
def rmL (lt : Nat → Nat) : List Nat := (List.range 8).map (fun t => 9 - lt t)
theorem rmL_len (lt : Nat → Nat) : (rmL lt).length = 8 := by simp [rmL]
theorem rmL_at (lt : Nat → Nat) {t : Nat} (ht : t < 8) : (rmL lt).getD t 0 = 9 - lt t := by
  simp [rmL, List.getD, List.getElem?_map, ht]
theorem rmL_le (lt : Nat → Nat) (t : Nat) : (rmL lt).getD t 0 < 100000 := by
  by_cases h : t < 8
  · rw [rmL_at lt h]; omega
  · simp [List.getD, List.getElem?_eq_none (show (rmL lt).length ≤ t by rw [rmL_len]; omega)]
/-- the row of what is more -/
def cheap (s : Nat → Int32) (ts tv : List Tok) (j : Nat) (lt : Nat → Nat) (e : Nat) : List Nat := ((en (rmL lt) (min e (30 - nS lt))).tail).foldl (bs (NV s ts j lt (prN s) (valV s tv))) (zs (rmL lt))
theorem bs_fold_or (V : List Nat → Int32) : ∀ (L : List (List Nat)) (b : List Nat), L.foldl (bs V) b = b ∨ L.foldl (bs V) b ∈ L
  | [], b => Or.inl rfl
  | x :: L, b => by
    rw [List.foldl_cons]
    rcases bs_fold_or V L (bs V b x) with h | h
    · rw [h]
      unfold bs
      split
      · right; simp
      · left; rfl
    · right; exact List.mem_cons_of_mem _ h
theorem bsO_fold (V : List Nat → Int32) : ∀ (L : List (List Nat)) (b : List Nat), L.foldl (bsO V) (some b) = some (L.foldl (bs V) b)
  | [], b => rfl
  | x :: L, b => by
    rw [List.foldl_cons, List.foldl_cons]
    exact bsO_fold V L _
theorem cheap_ok (s : Nat → Int32) (ts tv : List Tok) (j : Nat) (lt : Nat → Nat) (e : Nat) : (cheap s ts tv j lt e).length = 8 ∧ (cheap s ts tv j lt e).sum ≤ min e (30 - nS lt) := by
  have hall : ∀ x ∈ en (rmL lt) (min e (30 - nS lt)), x.length = 8 ∧ x.sum ≤ min e (30 - nS lt) := fun x hx => by
    obtain ⟨h1, h2, -⟩ := en_mem _ _ x hx
    exact ⟨by rw [h1, rmL_len], h2⟩
  unfold cheap
  obtain ⟨tl, h1, -⟩ := en_head (rmL lt) (min e (30 - nS lt))
  rw [h1] at hall ⊢
  rcases bs_fold_or (NV s ts j lt (prN s) (valV s tv)) tl (zs (rmL lt)) with h | h
  · rw [List.tail_cons, h]; exact hall _ List.mem_cons_self
  · rw [List.tail_cons]; exact hall _ (List.mem_cons_of_mem _ h)
section
variable {N : Nat} {k0 k1 k2 k3 : Nat} {tn tm s : Nat → Int32} {ts : List Tok} {pl : Int32} {pc : Nat → Int32} {j : Nat} {lt p : Nat → Nat} {W : Nat → Int32} {g : Nat → Nat → Int32}
theorem fc_loop (hN : 100 ≤ N) (hG : GR g s) (hT : TR k0 k1 k2 k3 tn tm s) (hL : LRt 0 ts pl pc s) (hp : PrN s p) (hj : j < 4) {M : Nat} (hM : nS lt + M ≤ 31) {osu : Int32} (hosu : osu = Int32.ofNat (nD lt p)) {room values : Nat → Int32} (hroom : IsL room (rmL lt)) (hval : ∀ t, t < 8 → values t = W t)
    (K : Int32 → Int32 → Int32 → Int32 → Int32 → (Nat → Int32) → Int32 → Int32 → (Nat → Int32) → (Nat → Int32) → Option (Int32 × Int32 × Int32 × Int32 × (Nat → Int32) × Int32 × Int32 × (Nat → Int32) × (Nat → Int32) × (Nat → Int32) × (Nat → Int32) × (Nat → Int32))) :
    ∀ (L : List (List Nat)) (e b : List Nat) (n i : Nat) (bsu : Int32) (brow erow st : Nat → Int32), Lnk (nxt (rmL lt) M) e L none → i + L.length < 1000000 → L.length < n → IsL erow e → (∀ x ∈ e :: L, x.length = 8 ∧ x.sum ≤ M) → IsL brow b →
      ∃ y' bsu' brow' eth' esu' erow' st', f_X11_findCheapest_116 N (Int32.ofNat j) (Int32.ofNat M) (Int32.ofNat (nS lt)) osu room g pl pc k0 k1 k2 k3 tn tm values K n (Int32.ofNat i) (PV s ts j (fun t => lt t + b.getD t 0) p) (NV s ts j lt p W b) (Int32.ofNat b.sum) bsu brow (Int32.ofNat e.sum) (dot erow (g 0)) erow st = K y' (PV s ts j (fun t => lt t + (L.foldl (bs (NV s ts j lt p W)) b).getD t 0) p) (NV s ts j lt p W (L.foldl (bs (NV s ts j lt p W)) b)) (Int32.ofNat (L.foldl (bs (NV s ts j lt p W)) b).sum) bsu' brow' eth' esu' erow' st' ∧ IsL brow' (L.foldl (bs (NV s ts j lt p W)) b) := by
  intro L
  induction L with
  | nil =>
    intro e b n i bsu brow erow st hl hi hn he hall hb
    obtain ⟨n, rfl⟩ : ∃ m, n = m + 1 := ⟨n - 1, by omega⟩
    simp only [List.length_nil, Nat.add_zero] at hi
    obtain ⟨he8, heM⟩ := hall e List.mem_cons_self
    rw [f_X11_findCheapest_116, if_neg (show ¬ (1000000 : Int32) ≤ Int32.ofNat i by rw [lit_le (by omega) (by omega)]; omega)]
    rcases p0_step hN (rmL_len lt) he8 (M := M) (by omega) (by omega) (rmL_le lt) (price := g 0) hroom he with ⟨l', row', h1, -⟩ | ⟨h1, b', c', d', h2⟩
    · have hl : nxt (rmL lt) M e = none := hl
      rw [hl] at h1; cases h1
    · rw [h2, Option.bind_some]
      dsimp only
      rw [if_pos rfl]
      exact ⟨_, _, _, _, _, _, _, rfl, hb⟩
  | cons x L ih =>
    intro e b n i bsu brow erow st hl hi hn he hall hb
    obtain ⟨n, rfl⟩ : ∃ m, n = m + 1 := ⟨n - 1, by omega⟩
    simp only [List.length_cons] at hi hn
    obtain ⟨he8, heM⟩ := hall e List.mem_cons_self
    obtain ⟨hx8, hxM⟩ := hall x (List.mem_cons_of_mem _ List.mem_cons_self)
    rw [f_X11_findCheapest_116, if_neg (show ¬ (1000000 : Int32) ≤ Int32.ofNat i by rw [lit_le (by omega) (by omega)]; omega)]
    rcases p0_step hN (rmL_len lt) he8 (M := M) (by omega) (by omega) (rmL_le lt) (price := g 0) hroom he with ⟨l', row', h1, h2, h3, h4⟩ | ⟨h1, -⟩
    rotate_left
    · rw [hl.1] at h1; cases h1
    have hxl : l' = x := by rw [hl.1] at h1; exact (Option.some.inj h1).symm
    subst hxl
    rw [h3, Option.bind_some]
    dsimp only
    rw [if_neg (show ¬ (1 : Int32) = 0 by decide)]
    have hr4 : IsRow row' (fun t => l'.getD t 0) := h4
    have hsu : osu + dot row' (g 0) = Int32.ofNat (nD (fun t => lt t + l'.getD t 0) p) := by
      rw [hosu, hr4.dot (hp.row0 hG), on_add, nD_add lt (fun t => l'.getD t 0)]
    have hth : Int32.ofNat (nS lt) + Int32.ofNat l'.sum = Int32.ofNat (nS (fun t => lt t + l'.getD t 0)) := by
      rw [on_add, nS_add lt (fun t => l'.getD t 0), nS_list h2]
    obtain ⟨st1, f1⟩ := p7_paidB hN hT hL hj hth hsu (nD_ok hp (by rw [nS_add lt (fun t => l'.getD t 0), nS_list h2]; omega)) st
    have hd : dot row' values = dotE l' W := dot_congr (fun t ht => h4 t ht) hval
    rw [f1, Option.bind_some]
    dsimp only
    rw [p0_sumBy (by omega), Option.bind_some, hd]
    rw [show PV s ts j (fun t => lt t + l'.getD t 0) p - dotE l' W = NV s ts j lt p W l' from rfl]
    rw [show Int32.ofNat i + (1 : Int32) = Int32.ofNat (i + 1) from add_lit 1 i]
    have hall' : ∀ y ∈ l' :: L, y.length = 8 ∧ y.sum ≤ M := fun y hy => hall y (List.mem_cons_of_mem _ hy)
    obtain ⟨brow2, c1, c2⟩ := p0_copy N (Int32.ofNat l'.sum) (dot row' (g 0)) row' (Int32.ofNat b.sum) bsu brow
    have hb2 : IsL brow2 l' := fun t ht => by rw [c2 t ht]; exact h4 t ht
    rw [List.foldl_cons]
    by_cases k1 : NV s ts j lt p W l' < NV s ts j lt p W b
    · rw [if_pos k1, c1, Option.bind_some]
      dsimp only
      rw [show bs (NV s ts j lt p W) b l' = l' by rw [bs, if_pos (Or.inl k1)]]
      exact ih l' l' n (i + 1) _ brow2 row' st1 hl.2 (by omega) (by omega) h4 hall' hb2
    · rw [if_neg k1]
      by_cases k2 : NV s ts j lt p W l' = NV s ts j lt p W b
      · rw [if_pos k2]
        by_cases k3 : Int32.ofNat b.sum ≤ Int32.ofNat l'.sum
        · rw [if_pos k3]
          rw [show bs (NV s ts j lt p W) b l' = b by rw [bs, if_neg (fun h => by rcases h with h | h; exact k1 h; exact absurd h.2 (Int32.not_lt.mpr k3))]]
          exact ih l' b n (i + 1) _ brow row' st1 hl.2 (by omega) (by omega) h4 hall' hb
        · rw [if_neg k3, c1, Option.bind_some]
          dsimp only
          rw [show bs (NV s ts j lt p W) b l' = l' by rw [bs, if_pos (Or.inr ⟨k2, Int32.not_le.mp k3⟩)]]
          exact ih l' l' n (i + 1) _ brow2 row' st1 hl.2 (by omega) (by omega) h4 hall' hb2
      · rw [if_neg k2]
        rw [show bs (NV s ts j lt p W) b l' = b by rw [bs, if_neg (fun h => by rcases h with h | h; exact k1 h; exact k2 h.1)]]
        exact ih l' b n (i + 1) _ brow row' st1 hl.2 (by omega) (by omega) h4 hall' hb
theorem fc_first (hN : 100 ≤ N) (hG : GR g s) {tv : List Tok} {vl : Int32} {vc : Nat → Int32} (hV : LRt 1 tv vl vc s) {one : Nat → Int32} (hone : IsRow one lt) (hlt : ∀ t, t < 8 → lt t ≤ 9) (K : Int32 → (Nat → Int32) → (Nat → Int32) → (Nat → Int32) → Option (Int32 × Int32 × Int32 × Int32 × (Nat → Int32) × Int32 × Int32 × (Nat → Int32) × (Nat → Int32) × (Nat → Int32) × (Nat → Int32) × (Nat → Int32))) :
    ∀ (d n y : Nat) (room st values : Nat → Int32), y + d = 8 → d < n → (∀ t, t < y → room t = Int32.ofNat (9 - lt t) ∧ values t = valV s tv t) → ∃ room' st' values', f_X11_findCheapest_2 N one g vl vc K n (Int32.ofNat y) room st values = K 8 room' st' values' ∧ IsL room' (rmL lt) ∧ ∀ t, t < 8 → values' t = valV s tv t := by
  intro d
  induction d with
  | zero =>
    intro n y room st values hy hn h
    obtain ⟨n, rfl⟩ : ∃ m, n = m + 1 := ⟨n - 1, by omega⟩
    have : y = 8 := by omega
    subst this
    exact ⟨room, st, values, by rw [f_X11_findCheapest_2, if_pos (by decide)]; rfl, fun t ht => by rw [(h t ht).1, rmL_at lt ht], fun t ht => (h t ht).2⟩
  | succ d ih =>
    intro n y room st values hy hn h
    obtain ⟨n, rfl⟩ : ∃ m, n = m + 1 := ⟨n - 1, by omega⟩
    have hv : vin (Int32.ofNat y) 8 = true := of_eq_true (on_vin (by omega) (by omega))
    obtain ⟨st1, h1⟩ := p7_valueOf hN hG hV (show y < 8 by omega) st
    have hly := hlt y (by omega)
    rw [f_X11_findCheapest_2, if_neg (show ¬ (8 : Int32) ≤ Int32.ofNat y by rw [lit_le (by omega) (by omega)]; omega), if_pos hv, if_pos hv, h1, Option.bind_some]
    dsimp only
    rw [if_pos hv, on_tn (k := y) (by omega), hone y (by omega), show (9 : Int32) - Int32.ofNat (lt y) = Int32.ofNat (9 - lt y) from lit_sub (c := 9) hly, show Int32.ofNat y + (1 : Int32) = Int32.ofNat (y + 1) from add_lit 1 y]
    refine ih n (y + 1) _ _ _ (by omega) (by omega) (fun t ht => ?_)
    by_cases e : t = y
    · subst e; rw [upd_at, upd_at]; exact ⟨rfl, rfl⟩
    · rw [upd_ne _ _ e, upd_ne _ _ e]; exact h t (by omega)
theorem p12_seeks14 (hN : 100 ≤ N) {tv : List Tok} {vl : Int32} {vc : Nat → Int32} (hV : LRt 1 tv vl vc s) (K : Int32 → (Nat → Int32) → (Nat → Int32) → (Nat → Int32) → Option (Int32 × Int32 × (Nat → Int32) × (Nat → Int32) × (Nat → Int32) × (Nat → Int32) × (Nat → Int32))) :
    ∀ (d n y : Nat) (named pile worth : Nat → Int32), y + d = 8 → d < n → (∀ t, t < y → worth t = valV s tv t) → ∃ named' pile' worth', f_X12_seeks_14 N s K n (Int32.ofNat y) named pile worth = K 8 named' pile' worth' ∧ ∀ t, t < 8 → worth' t = valV s tv t := by
  intro d
  induction d with
  | zero =>
    intro n y named pile worth hy hn h
    obtain ⟨n, rfl⟩ : ∃ m, n = m + 1 := ⟨n - 1, by omega⟩
    have : y = 8 := by omega
    subst this
    exact ⟨named, pile, worth, by rw [f_X12_seeks_14, if_pos (by decide)]; rfl, h⟩
  | succ d ih =>
    intro n y named pile worth hy hn h
    obtain ⟨n, rfl⟩ : ∃ m, n = m + 1 := ⟨n - 1, by omega⟩
    have hv : vin (Int32.ofNat y) 8 = true := of_eq_true (on_vin (by omega) (by omega))
    obtain ⟨named', pile', h1⟩ := p12_values hN hV (show y < 8 by omega) named pile
    rw [f_X12_seeks_14, if_neg (show ¬ (8 : Int32) ≤ Int32.ofNat y by rw [lit_le (by omega) (by omega)]; omega), h1, Option.bind_some]
    dsimp only
    rw [if_pos hv, on_tn (k := y) (by omega), show Int32.ofNat y + (1 : Int32) = Int32.ofNat (y + 1) from add_lit 1 y]
    refine ih n (y + 1) _ _ _ (by omega) (by omega) (fun t ht => ?_)
    by_cases e : t = y
    · subst e; rw [upd_at]
    · rw [upd_ne _ _ e]; exact h t (by omega)
theorem NV_congr {W W' : Nat → Int32} (h : ∀ t, t < 8 → W t = W' t) : NV s ts j lt p W = NV s ts j lt p W' := by
  funext e
  unfold NV dotE
  rw [dot_congr (fun _ _ => rfl) h]
theorem pm_find (hN : 2000000 ≤ N) (hG : GR g s) (hT : TR k0 k1 k2 k3 tn tm s) (hL : LRt 0 ts pl pc s) {tv : List Tok} {vl : Int32} {vc : Nat → Int32} (hV : LRt 1 tv vl vc s) (hj : j < 4) {e : Nat} (he : e ≤ 4) {one told : Nat → Int32} (hone : IsRow one lt) (htold : IsRow told lt) (hlt : ∀ t, t < 8 → lt t ≤ 9) (hn : nS lt ≤ 30) {oth osu : Int32} (hoth : oth = Int32.ofNat (nS lt)) (hosu : osu = dot one (g 0)) (bp bnet bth bsu : Int32) (brow : Nat → Int32) (eth esu : Int32) (erow room st vst values : Nat → Int32) (mbn mbm : Int32) (mbest named pile mrow worth : Nat → Int32) :
    ∃ r bsu' brow' eth' esu' erow' room' st' vst' values' bm' mbest' named' pile' mrow' worth', r ≤ 9999 ∧ PV s ts j (fun t => lt t + (cheap s ts tv j lt e).getD t 0) (prN s) = Int32.ofNat r ∧
      f_X11_findCheapest N (Int32.ofNat j) (Int32.ofNat e) bp bnet bth bsu brow eth esu erow oth osu one room g pl pc st k0 k1 k2 k3 tn tm vl vc vst values = some (Int32.ofNat r, NV s ts j lt (prN s) (valV s tv) (cheap s ts tv j lt e), Int32.ofNat (cheap s ts tv j lt e).sum, bsu', brow', eth', esu', erow', room', st', vst', values') ∧
      f_X12_seeks N (Int32.ofNat j) (Int32.ofNat e) mbn mbm mbest named pile mrow s told worth = some (NV s ts j lt (prN s) (valV s tv) (cheap s ts tv j lt e), bm', mbest', named', pile', mrow', worth') ∧ IsL brow' (cheap s ts tv j lt e) ∧ IsRow mbest' (fun t => lt t + (cheap s ts tv j lt e).getD t 0) := by
  have hp := hG.prN
  have hN1 : 100 ≤ N := by omega
  obtain ⟨tl, hen, hlnk⟩ := en_head (rmL lt) (min e (30 - nS lt))
  have hall : ∀ x ∈ zs (rmL lt) :: tl, x.length = 8 ∧ x.sum ≤ min e (30 - nS lt) := fun x hx => by
    rw [← hen] at hx
    obtain ⟨h1, h2, -⟩ := en_mem _ _ x hx
    exact ⟨by rw [h1, rmL_len], h2⟩
  have hcnt : (en (rmL lt) (min e (30 - nS lt))).length ≤ 5 ^ 8 := by
    have := en_count 5 (rmL lt) (min e (30 - nS lt)) (by omega)
    rwa [rmL_len] at this
  have hcnt2 : tl.length + 1 ≤ 390625 := by
    rw [hen] at hcnt
    simpa using hcnt
  have hch : tl.foldl (bs (NV s ts j lt (prN s) (valV s tv))) (zs (rmL lt)) = cheap s ts tv j lt e := by
    unfold cheap
    rw [hen, List.tail_cons]
  obtain ⟨r, hr, er⟩ : ∃ r, r ≤ 9999 ∧ PV s ts j (fun t => lt t + (cheap s ts tv j lt e).getD t 0) (prN s) = Int32.ofNat r := payV_range _ _ _ _ _
  have hzr : (fun t => lt t + (zs (rmL lt)).getD t 0) = lt := by funext t; rw [zs_getD, Nat.add_zero]
  have hd0 : dotE (zs (rmL lt)) (valV s tv) = 0 := by
    unfold dotE dot
    simp only [zs_getD]
    rw [show Int32.ofNat 0 = 0 from rfl]
    simp
  have hNV0 : NV s ts j lt (prN s) (valV s tv) (zs (rmL lt)) = PV s ts j lt (prN s) := by
    unfold NV
    rw [hzr, hd0, Int32.sub_zero]
  have hosu' := hosu.trans (hone.dot (hp.row0 hG))
  have hM : (if (30 : Int32) - oth < Int32.ofNat e then (30 : Int32) - oth else Int32.ofNat e) = Int32.ofNat (min e (30 - nS lt)) := by
    rw [hoth, show (30 : Int32) - Int32.ofNat (nS lt) = Int32.ofNat (30 - nS lt) from lit_sub (c := 30) hn]
    simp (disch := omega) only [on_lt]
    by_cases h : 30 - nS lt < e
    · rw [if_pos h, Nat.min_eq_right (by omega)]
    · rw [if_neg h, Nat.min_eq_left (by omega)]
  -- the class
  have cls : ∃ bsu' brow' eth' esu' erow' room' st' vst' values', f_X11_findCheapest N (Int32.ofNat j) (Int32.ofNat e) bp bnet bth bsu brow eth esu erow oth osu one room g pl pc st k0 k1 k2 k3 tn tm vl vc vst values = some (PV s ts j (fun t => lt t + (cheap s ts tv j lt e).getD t 0) (prN s), NV s ts j lt (prN s) (valV s tv) (cheap s ts tv j lt e), Int32.ofNat (cheap s ts tv j lt e).sum, bsu', brow', eth', esu', erow', room', st', vst', values') ∧ IsL brow' (cheap s ts tv j lt e) := by
    unfold f_X11_findCheapest
    obtain ⟨room', vst', values', f1, f2, f3⟩ := fc_first hN1 hG hV hone hlt (fun v3_6 this_room_6 this_shop_valuesLaw_stack_6 this_values_6 => ((f_X0_clear N eth esu erow).bind fun r7 => ((f_X0_copy N r7.1 r7.2.1 r7.2.2 bth bsu brow).bind fun r8 => ((f_X7_paid N (Int32.ofNat j) osu oth pl pc st k0 k1 k2 k3 tn tm).bind fun r9 => (f_X11_findCheapest_116 N (Int32.ofNat j) (if ((30 : Int32) - oth) < (Int32.ofNat e) then ((30 : Int32) - oth) else (Int32.ofNat e)) oth osu this_room_6 g pl pc k0 k1 k2 k3 tn tm this_values_6 (fun v4_20 this_bestPaid_20 this_bestNet_20 this_best_things_20 this_best_sum_20 this_best_row_20 this_extra_things_20 this_extra_sum_20 this_extra_row_20 this_shop_paysLaw_stack_20 => (some (this_bestPaid_20, this_bestNet_20, this_best_things_20, this_best_sum_20, this_best_row_20, this_extra_things_20, this_extra_sum_20, this_extra_row_20, this_room_6, this_shop_paysLaw_stack_20, this_shop_valuesLaw_stack_6, this_values_6))) N (0 : Int32) r9.1 r9.1 r8.1 r8.2.1 r8.2.2 r7.1 r7.2.1 r7.2.2 r9.2))))) 8 N 0 room vst values (by omega) (by omega) (fun t ht => by omega)
    have f1 : f_X11_findCheapest_2 N one g vl vc _ N 0 room vst values = _ := f1
    rw [f1]
    rw [p0_clear2 (by omega), Option.bind_some]
    dsimp only
    obtain ⟨brow2, c1, c2⟩ := p0_copy N 0 0 (z8 erow) bth bsu brow
    rw [c1, Option.bind_some]
    dsimp only
    obtain ⟨st1, q1⟩ := p7_paidB hN1 hT hL hj hoth hosu' (nD_ok hp (by omega)) st
    rw [q1, Option.bind_some, hM, hoth]
    dsimp only
    have hze : IsL (z8 erow) (zs (rmL lt)) := fun t ht => by rw [z8_at _ ht, zs_getD]; rfl
    have hzb : IsL brow2 (zs (rmL lt)) := fun t ht => by rw [c2 t ht]; exact hze t ht
    have hz0 : (0 : Int32) = Int32.ofNat (zs (rmL lt)).sum := by rw [zs_sum]; rfl
    have hzd : (0 : Int32) = dot (z8 erow) (g 0) := by
      have e0 : ∀ t, t < 8 → z8 erow t = 0 := fun t ht => z8_at _ ht
      unfold dot
      rw [e0 0 (by omega), e0 1 (by omega), e0 2 (by omega), e0 3 (by omega), e0 4 (by omega), e0 5 (by omega), e0 6 (by omega), e0 7 (by omega)]
      simp
    obtain ⟨y', bsu', brow', eth', esu', erow', st', w1, w2⟩ := fc_loop (W := valV s tv) hN1 hG hT hL hp hj (M := min e (30 - nS lt)) (by omega) hosu' f2 f3 (fun v4_20 this_bestPaid_20 this_bestNet_20 this_best_things_20 this_best_sum_20 this_best_row_20 this_extra_things_20 this_extra_sum_20 this_extra_row_20 this_shop_paysLaw_stack_20 => (some (this_bestPaid_20, this_bestNet_20, this_best_things_20, this_best_sum_20, this_best_row_20, this_extra_things_20, this_extra_sum_20, this_extra_row_20, room', this_shop_paysLaw_stack_20, vst', values'))) tl (zs (rmL lt)) (zs (rmL lt)) N 0 0 brow2 (z8 erow) st1 hlnk (by omega) (by omega) hze hall hzb
    rw [hNV0, hzr, ← hz0, ← hzd, hch] at w1
    rw [hch] at w2
    exact ⟨_, _, _, _, _, _, _, _, _, w1, w2⟩
  -- the reference
  have hwit : ∃ bm' mbest' named' pile' mrow' worth', f_X12_seeks N (Int32.ofNat j) (Int32.ofNat e) mbn mbm mbest named pile mrow s told worth = some (NV s ts j lt (prN s) (valV s tv) (cheap s ts tv j lt e), bm', mbest', named', pile', mrow', worth') ∧ IsRow mbest' (fun t => lt t + (cheap s ts tv j lt e).getD t 0) := by
    unfold f_X12_seeks
    rw [p12_many (by omega), Option.bind_some, htold.sm]
    obtain ⟨named1, pile1, worth', f1, f2⟩ := p12_seeks14 (N := N) hN1 hV (fun v4_5 this_named_5 this_pile_5 this_worthOf_5 => (if ((30 : Int32) - Int32.ofNat (nS lt)) ≤ (Int32.ofNat e) then ((f_X12_tries N 10 (Int32.ofNat j) (0 : Int32) ((30 : Int32) - Int32.ofNat (nS lt)) (0 : Int32) mbn (-1 : Int32) mbest this_named_5 this_pile_5 mrow s told this_worthOf_5).bind fun r7 => (some (r7.1, r7.2.1, r7.2.2.1, r7.2.2.2.1, r7.2.2.2.2.1, r7.2.2.2.2.2, this_worthOf_5))) else ((f_X12_tries N 10 (Int32.ofNat j) (0 : Int32) (Int32.ofNat e) (0 : Int32) mbn (-1 : Int32) mbest this_named_5 this_pile_5 mrow s told this_worthOf_5).bind fun r8 => (some (r8.1, r8.2.1, r8.2.2.1, r8.2.2.2.1, r8.2.2.2.2.1, r8.2.2.2.2.2, this_worthOf_5))))) 8 N 0 named pile worth (by omega) (by omega) (fun t ht => by omega)
    have f1 : f_X12_seeks_14 N s _ N 0 named pile worth = _ := f1
    rw [f1]
    have hNVe : NV s ts j lt (prN s) worth' = NV s ts j lt (prN s) (valV s tv) := NV_congr f2
    obtain ⟨bn', bm', best', named', pile', row', t1, t2, -⟩ := tries_ok (W := worth') hN1 hT hL hp hj htold hlt (rmL lt) 0 10 (min e (30 - nS lt)) [] none mbn (-1) mbest named1 pile1 mrow (by rw [rmL_len]) (by rw [rmL_len]; omega) (fun i hi => by rw [rmL_len] at hi; rw [rmL_at lt hi, Nat.zero_add]) rfl (by simp; omega) (by omega) rfl (fun i hi => by omega)
    have t1 : f_X12_tries N 10 (Int32.ofNat j) 0 (Int32.ofNat (min e (30 - nS lt))) 0 mbn (-1) mbest named1 pile1 mrow s told worth' = some (bn', bm', best', named', pile', row') := t1
    rw [hNVe] at t2
    have hf : (en (rmL lt) (min e (30 - nS lt))).foldl (fun B e => bsO (NV s ts j lt (prN s) (valV s tv)) B ([] ++ e)) none = some (cheap s ts tv j lt e) := by
      rw [hen, List.foldl_cons]
      show tl.foldl (bsO _) (some (zs (rmL lt))) = _
      rw [bsO_fold, hch]
    rw [hf] at t2
    obtain ⟨-, t3, -, t4⟩ := t2
    refine ⟨bm', best', named', pile', row', worth', ?_, t4⟩
    rw [show (30 : Int32) - Int32.ofNat (nS lt) = Int32.ofNat (30 - nS lt) from lit_sub (c := 30) hn]
    by_cases h : Int32.ofNat (30 - nS lt) ≤ Int32.ofNat e
    · rw [if_pos h]
      rw [on_le (by omega) (by omega)] at h
      rw [Nat.min_eq_right h] at t1
      rw [t1, Option.bind_some, ← t3]
    · rw [if_neg h]
      rw [on_le (by omega) (by omega)] at h
      rw [Nat.min_eq_left (by omega)] at t1
      rw [t1, Option.bind_some, ← t3]
  obtain ⟨bsu', brow', eth', esu', erow', room', st', vst', values', c1, c2⟩ := cls
  obtain ⟨bm', mbest', named', pile', mrow', worth', m1, m2⟩ := hwit
  rw [er] at c1
  exact ⟨r, bsu', brow', eth', esu', erow', room', st', vst', values', bm', mbest', named', pile', mrow', worth', hr, er, c1, m1, c2, m2⟩
end
end PFIND
