/-! PURE: more, dearer -/
section PDEARER
theorem pm_more {N : Nat} (hN : 2000000 ≤ N) (a b c d : Int32) {k0 k1 k2 k3 : Nat} {tn tm s ce me pc vc bits lens mbits msizes mnum : Nat → Int32} {pl vl : Int32} {nums g : Nat → Nat → Int32} (hE : ER ce me) (hH : HR bits lens nums mbits msizes mnum) (hG : GR g s) (hT : TR k0 k1 k2 k3 tn tm s) (hL : LR 0 pl pc s) (hV : LR 1 vl vc s)
    (bp bnet bth bsu : Int32) (brow : Nat → Int32) (eth esu : Int32) (erow : Nat → Int32) (x y : Int32) (rw0 room st vst values : Nat → Int32) (mbn mbm : Int32) (mbest named pile mrow told worth : Nat → Int32) :
    ∃ v ce' a1 a2 a3 a4 a5 a6 a7 a8 a9 a10 a11 a12 a13 a14 a15 me' b1 b2 b3 b4 b5 b6 b7 b8, f_X11_more N a b c d bp bnet bth bsu brow ce eth esu erow x y rw0 room bits lens nums g pl pc st k0 k1 k2 k3 tn tm vl vc vst values = some (v, a1, a2, a3, a4, a5, ce', a6, a7, a8, a9, a10, a11, a12, a13, a14, a15) ∧ f_X12_more N a b c d mbn mbm mbest mbits me named mnum pile mrow s msizes told worth = some (v, b1, b2, b3, me', b4, b5, b6, b7, b8) ∧ ER ce' me' := by
  obtain ⟨ts, hL⟩ := hL
  obtain ⟨tv, hV⟩ := hV
  have hN1 : 100 ≤ N := by omega
  have hno : f_X12_more_j29 N b c d a b 0 mbn mbm mbest mbits me named mnum pile mrow s msizes told worth = some (eLow 1, mbn, mbm, mbest, upd me 1 (me 1 + 1), named, pile, mrow, told, worth) := by
    unfold f_X12_more_j29
    rw [p12_lacks0, Option.bind_some]
    dsimp only
    rw [if_neg (show ¬ (1 : Int32) ≤ 0 by decide), p12_error1, Option.bind_some]
  unfold f_X11_more f_X12_more
  rw [p11_within, p11_within, p12_in, p12_in, Option.bind_some, Option.bind_some, Option.bind_some, Option.bind_some, hno]
  by_cases h1 : 0 ≤ c ∧ c ≤ 4
  rotate_left
  · have n1 : bi (0 ≤ c ∧ c ≤ 4) = 0 := by rw [bi_0]; exact h1
    rw [if_pos n1, if_pos n1, p11_error1]
    exact ⟨_, _, _, _, _, _, _, _, _, _, _, _, _, _, _, _, _, _, _, _, _, _, _, _, _, _, rfl, rfl, hE.up (by omega)⟩
  have n1 : ¬ bi (0 ≤ c ∧ c ≤ 4) = 0 := by rw [bi_0]; exact not_not_intro h1
  rw [if_neg n1, if_neg n1]
  by_cases h2 : -2 ≤ d ∧ d ≤ 7
  rotate_left
  · have n2 : bi (-2 ≤ d ∧ d ≤ 7) = 0 := by rw [bi_0]; exact h2
    rw [if_pos n2, if_pos n2, p11_error1]
    exact ⟨_, _, _, _, _, _, _, _, _, _, _, _, _, _, _, _, _, _, _, _, _, _, _, _, _, _, rfl, rfl, hE.up (by omega)⟩
  have n2 : ¬ bi (-2 ≤ d ∧ d ≤ 7) = 0 := by rw [bi_0]; exact not_not_intro h2
  rw [if_neg n2, if_neg n2]
  clear hno
  unfold f_X12_more_j29
  obtain ⟨q, th, su, row, told', e1, e2, e3, e4⟩ := pm_lacks hN1 a b (M := 30) (by omega) hH x y rw0 told g
  have e1 : f_X11_refusal N a b 30 x y rw0 bits lens nums g = _ := e1
  have e2 : f_X12_lacks N a b 1 30 mbits mnum msizes told = _ := e2
  rw [e1, e2, Option.bind_some, Option.bind_some]
  dsimp only
  have hle := e3.le
  by_cases h0 : q = 0
  rotate_left
  · rw [if_neg h0, if_neg (by rw [hle]; exact h0)]
    obtain ⟨k, k1, k2, rfl⟩ := e3.err h0
    rw [p11_error N k1 k2, p12_error N k2]
    exact ⟨_, _, _, _, _, _, _, _, _, _, _, _, _, _, _, _, _, _, _, _, _, _, _, _, _, _, rfl, rfl, hE.up (by omega)⟩
  rw [if_pos h0, if_pos (by rw [hle]; exact h0)]
  obtain ⟨t, ht, rfl⟩ := e4 h0
  rcases e3 with ⟨-, l, ⟨b1, b2, b3, b4, b5⟩, hM⟩ | ⟨k, k1, k2, k3⟩
  rotate_left
  · exfalso; rw [h0] at k3; rw [lit_eq (by omega) (by omega)] at k3; omega
  obtain ⟨e, he, rfl⟩ := in_nat (b := 4) h1 (by omega)
  obtain ⟨r, f1, f2, f3, f4, f5, f6, f7, f8, f9, m1, m2, m3, m4, m5, m6, hr, er, w1, w2, w3, w4⟩ := pm_find hN hG hT hL hV ht he b1 b2 b3 hM b4 b5 bp bnet bth bsu brow eth esu erow room st vst values mbn mbm mbest named pile mrow worth
  rw [w1, w2, Option.bind_some, Option.bind_some]
  dsimp only
  by_cases g1 : d = -2
  · subst g1
    rw [if_pos (show (-2 : Int32) < 0 by decide), if_neg (show ¬ (-2 : Int32) = -1 by decide), if_pos rfl]
    exact ⟨_, _, _, _, _, _, _, _, _, _, _, _, _, _, _, _, _, _, _, _, _, _, _, _, _, _, rfl, rfl, hE⟩
  rw [if_neg g1]
  by_cases g2 : d = -1
  · subst g2
    rw [if_pos (show (-1 : Int32) < 0 by decide), if_pos rfl, if_pos rfl]
    obtain ⟨hc1, hc2⟩ := cheap_ok s ts tv t l e
    obtain ⟨named', pile', z⟩ := p12_paid hN1 hT hL ht w4 hG.prN (nD_ok hG.prN (by rw [nS_add l (fun t => (cheap s ts tv _ l e).getD t 0), nS_list hc1]; omega)) m3 m4
    rw [z, er, Option.bind_some]
    exact ⟨_, _, _, _, _, _, _, _, _, _, _, _, _, _, _, _, _, _, _, _, _, _, _, _, _, _, rfl, rfl, hE⟩
  rw [if_neg g2, if_neg g2]
  have hd0 : 0 ≤ d := by
    have h := h2.1
    rw [Int32.le_iff_toInt_le] at h ⊢
    have g1' : d.toInt ≠ -2 := fun z => g1 (Int32.toInt_inj.mp (z.trans rfl))
    have g2' : d.toInt ≠ -1 := fun z => g2 (Int32.toInt_inj.mp (z.trans rfl))
    have e1 : (-2 : Int32).toInt = -2 := rfl
    have e2 : (0 : Int32).toInt = 0 := rfl
    omega
  obtain ⟨w, hw, rfl⟩ := in_nat (b := 7) ⟨hd0, h2.2⟩ (by omega)
  rw [if_neg (Int32.not_lt.mpr hd0)]
  have hv : vin (Int32.ofNat w) 8 = true := of_eq_true (on_vin (by omega) (by omega))
  rw [if_pos hv, if_pos hv, if_pos hv, on_tn (k := w) (by omega)]
  have hval : m2 w - told' w = f2 w := by
    rw [w4 w (by omega), b2 w (by omega), w3 w (by omega)]
    show Int32.ofNat (l w + (cheap s ts tv _ l e).getD w 0) - Int32.ofNat (l w) = _
    rw [on_sub (by omega)]; congr 1; omega
  rw [hval]
  exact ⟨_, _, _, _, _, _, _, _, _, _, _, _, _, _, _, _, _, _, _, _, _, _, _, _, _, _, rfl, rfl, hE⟩
theorem upd_same (f : Nat → Int32) (k : Nat) : upd f k (f k) = f := by
  funext i
  unfold upd
  split
  · next h => rw [h]
  · rfl
theorem upd_upd (f : Nat → Int32) (k : Nat) (x y : Int32) : upd (upd f k x) k y = upd f k y := by
  funext i
  unfold upd
  split <;> rfl
theorem up_back (g : Nat → Nat → Int32) (t : Nat) (x : Int32) : va_up (va_up g 0 (upd (g 0) t x)) 0 (upd ((va_up g 0 (upd (g 0) t x)) 0) t (g 0 t)) = g := by
  funext w
  unfold va_up
  split
  · next h => subst h; rw [if_pos rfl, upd_upd, upd_same]
  · rfl
section
variable {N : Nat} {k0 k1 k2 k3 : Nat} {tn tm s : Nat → Int32} {ts tv : List Tok} {pl vl : Int32} {pc vc : Nat → Int32} {j e : Nat} {lt : Nat → Nat} {g : Nat → Nat → Int32} {one told : Nat → Int32}
/-- what is paid if a thing is so much dearer -/
def dV (s : Nat → Int32) (ts tv : List Tok) (j : Nat) (lt : Nat → Nat) (e : Nat) : Int32 := PV s ts j (fun t => lt t + (cheap s ts tv j lt e).getD t 0) (prN s)
theorem p11_pid (hN : 2000000 ≤ N) (hG : GR g s) (hT : TR k0 k1 k2 k3 tn tm s) (hL : LRt 0 ts pl pc s) (hV : LRt 1 tv vl vc s) (hj : j < 4) (he : e ≤ 4) (hone : IsRow one lt) (hlt : ∀ t, t < 8 → lt t ≤ 9) (hn : nS lt ≤ 30) {t : Nat} (ht : t < 8) (u : Int32) (bp bnet bth bsu : Int32) (brow : Nat → Int32) (eth esu : Int32) (erow : Nat → Int32) (oth osu : Int32) (room st vst values : Nat → Int32) :
    ∃ v a1 a2 a3 a4 a5 a6 a7 a8 a9 a10 a11 a12 a13 a14, f_X11_paidIfDearer N (Int32.ofNat j) (Int32.ofNat e) (Int32.ofNat t) u bp bnet bth bsu brow eth esu erow oth osu one room g pl pc st k0 k1 k2 k3 tn tm vl vc vst values = some (v, a1, a2, a3, a4, a5, a6, a7, a8, a9, a10, a11, g, a12, a13, a14) ∧ v = (if gdV 0 (s (8 + t) + u) then dV (upd s (8 + t) (s (8 + t) + u)) ts tv j lt e else -1) := by
  have hv : vin (Int32.ofNat t) 8 = true := of_eq_true (on_vin ht (by omega))
  have hg0 : g 0 t = s (8 + t) := hG.1 0 t (by omega) ht
  obtain ⟨q, hq, hq2⟩ := p11_isGood N (w := 0) (by omega) (s (8 + t) + u)
  have hq : f_X11_isGood N 0 (s (8 + t) + u) = some q := hq
  unfold f_X11_paidIfDearer
  rw [if_pos hv, on_tn (k := t) (by omega), hg0, hq, Option.bind_some]
  by_cases hg : gdV 0 (s (8 + t) + u)
  rotate_left
  · rw [if_pos (show q = 0 by rw [hq2]; exact hg), if_neg hg]
    exact ⟨_, _, _, _, _, _, _, _, _, _, _, _, _, _, _, rfl, rfl⟩
  rw [if_neg (show ¬ q = 0 by rw [hq2]; exact not_not_intro hg), if_pos hv, if_pos hg, p0_add (by omega), Option.bind_some]
  dsimp only
  have hG1 : GR (va_up g 0 (upd (g 0) t (s (8 + t) + u))) (upd s (8 + t) (s (8 + t) + u)) := by
    have := hG.set (w := 0) (t := t) (by omega) ht hg
    rwa [show 8 + 8 * 0 + t = 8 + t by omega] at this
  have hT1 : TR k0 k1 k2 k3 tn tm (upd s (8 + t) (s (8 + t) + u)) := hT.frame (fun i h1 h2 => upd_ne _ _ (by omega))
  have hL1 : LRt 0 ts pl pc (upd s (8 + t) (s (8 + t) + u)) := hL.frame (fun i h1 h2 => upd_ne _ _ (by omega))
  have hV1 : LRt 1 tv vl vc (upd s (8 + t) (s (8 + t) + u)) := hV.frame (fun i h1 h2 => upd_ne _ _ (by omega))
  obtain ⟨r, f1, f2, f3, f4, f5, f6, f7, f8, f9, m1, m2, m3, m4, m5, m6, hr, er, w1, w2, w3, w4⟩ := pm_find hN hG1 hT1 hL1 hV1 hj he hone hone hlt hn (oth := sm8 one) (osu := dot one (va_up g 0 (upd (g 0) t (s (8 + t) + u)) 0)) hone.sm rfl bp bnet bth bsu brow eth esu erow room st vst values 0 0 one one one one one
  rw [w1, Option.bind_some]
  dsimp only
  rw [if_pos hv, ← hg0, up_back]
  refine ⟨_, _, _, _, _, _, _, _, _, _, _, _, _, _, _, rfl, ?_⟩
  unfold dV
  rw [← er, hg0]
theorem p12_sk (hN : 2000000 ≤ N) (hG : GR g s) (hT : TR k0 k1 k2 k3 tn tm s) (hL : LRt 0 ts pl pc s) (hV : LRt 1 tv vl vc s) (hj : j < 4) (he : e ≤ 4) (htold : IsRow told lt) (hlt : ∀ t, t < 8 → lt t ≤ 9) (hn : nS lt ≤ 30) {t : Nat} (ht : t < 8) {x : Int32} (hx : gdV 0 x) (mbn mbm : Int32) (mbest named pile mrow worth : Nat → Int32) :
    ∃ b1 b2 b3 b4 b5 b6 b7 n2 p2, f_X12_seeks N (Int32.ofNat j) (Int32.ofNat e) mbn mbm mbest named pile mrow (upd s (8 + t) x) told worth = some (b1, b2, b3, b4, b5, b6, b7) ∧ f_X12_paid N (Int32.ofNat j) b3 b4 b5 (upd s (8 + t) x) = some (dV (upd s (8 + t) x) ts tv j lt e, n2, p2) := by
  have hG1 : GR (va_up g 0 (upd (g 0) t x)) (upd s (8 + t) x) := by
    have := hG.set (w := 0) (t := t) (by omega) ht hx
    rwa [show 8 + 8 * 0 + t = 8 + t by omega] at this
  have hT1 : TR k0 k1 k2 k3 tn tm (upd s (8 + t) x) := hT.frame (fun i h1 h2 => upd_ne _ _ (by omega))
  have hL1 : LRt 0 ts pl pc (upd s (8 + t) x) := hL.frame (fun i h1 h2 => upd_ne _ _ (by omega))
  have hV1 : LRt 1 tv vl vc (upd s (8 + t) x) := hV.frame (fun i h1 h2 => upd_ne _ _ (by omega))
  obtain ⟨r, f1, f2, f3, f4, f5, f6, f7, f8, f9, m1, m2, m3, m4, m5, m6, hr, er, w1, w2, w3, w4⟩ := pm_find hN hG1 hT1 hL1 hV1 hj he htold htold hlt hn (oth := Int32.ofNat (nS lt)) (osu := dot told (va_up g 0 (upd (g 0) t x) 0)) rfl rfl 0 0 0 0 told 0 0 told told told told told mbn mbm mbest named pile mrow worth
  obtain ⟨hc1, hc2⟩ := cheap_ok (upd s (8 + t) x) ts tv j lt e
  obtain ⟨n2, p2, z⟩ := p12_paid (show 100 ≤ N by omega) hT1 hL1 hj w4 hG1.prN (nD_ok hG1.prN (by rw [nS_add lt (fun i => (cheap (upd s (8 + t) x) ts tv j lt e).getD i 0), nS_list hc1]; omega)) m3 m4
  exact ⟨_, _, _, _, _, _, _, n2, p2, w2, z⟩
theorem dV_nat (s : Nat → Int32) (ts tv : List Tok) (j : Nat) (lt : Nat → Nat) (e : Nat) : ∃ r, r ≤ 9999 ∧ dV s ts tv j lt e = Int32.ofNat r := payV_range _ _ _ _ _
theorem price_up {t u : Nat} (hG : GR g s) (ht : t < 8) (hu : u ≤ 9) : ∃ p, 1 ≤ p ∧ p ≤ 9999 ∧ s (8 + t) = Int32.ofNat p ∧ (gdV 0 (s (8 + t) + Int32.ofNat u) ↔ p + u ≤ 9999) := by
  obtain ⟨⟨h1, h2⟩, -⟩ := hG.2 t ht
  obtain ⟨p, hp, ep⟩ := nat_of (b := 9999) (Int32.le_trans (by decide) h1) h2 (by omega)
  rw [ep, lit_le (by omega) (by omega)] at h1
  refine ⟨p, h1, hp, ep, ?_⟩
  rw [ep, on_add]
  constructor
  · intro h
    have := (h.1 rfl).2
    rwa [le_lit (by omega) (by omega)] at this
  · intro h
    refine ⟨fun _ => ?_, fun h => by omega, fun h => by omega⟩
    rw [lit_le (by omega) (by omega), le_lit (by omega) (by omega)]
    omega
theorem pm_ups (hN : 2000000 ≤ N) (hG : GR g s) (hT : TR k0 k1 k2 k3 tn tm s) (hL : LRt 0 ts pl pc s) (hV : LRt 1 tv vl vc s) (hj : j < 4) (he : e ≤ 4) (hone : IsRow one lt) (htold : IsRow told lt) (hlt : ∀ t, t < 8 → lt t ≤ 9) (hn : nS lt ≤ 30) {t : Nat} (ht : t < 8)
    (KC : Int32 → Int32 → Int32 → Int32 → Int32 → Int32 → Int32 → (Nat → Int32) → Int32 → Int32 → (Nat → Int32) → Int32 → Int32 → (Nat → Int32) → (Nat → Nat → Int32) → (Nat → Int32) → (Nat → Int32) → (Nat → Int32) → Option (Int32 × Int32 × Int32 × Int32 × Int32 × (Nat → Int32) × (Nat → Int32) × Int32 × Int32 × (Nat → Int32) × Int32 × Int32 × (Nat → Int32) × (Nat → Int32) × (Nat → Nat → Int32) × (Nat → Int32) × (Nat → Int32) × (Nat → Int32)))
    (KR : Int32 → Int32 → Int32 → Int32 → Int32 → (Nat → Int32) → (Nat → Int32) → (Nat → Int32) → (Nat → Int32) → (Nat → Int32) → (Nat → Int32) → Option (Int32 × Int32 × Int32 × (Nat → Int32) × (Nat → Int32) × (Nat → Int32) × (Nat → Int32) × (Nat → Int32) × (Nat → Int32) × (Nat → Int32) × (Nat → Int32))) :
    ∀ (d u n n' m a : Nat) (bp bnet bth bsu : Int32) (brow : Nat → Int32) (eth esu : Int32) (erow : Nat → Int32) (oth osu : Int32) (room st vst values : Nat → Int32) (mbn mbm : Int32) (mbest named pile mrow s1 worth : Nat → Int32), u + d = 10 → 1 ≤ u → d < n → d < n' → m ≤ 9999 → a < 100 → (∀ i, i ≠ 8 + t → s1 i = s i) →
      ∃ m' a', m ≤ m' ∧ m' ≤ 9999 ∧ a' < 100 ∧
        (∃ c1 c2 c3 c4 c5 c6 c7 c8 c9 c10 c11 c12 c13 c14 c15, f_X11_dearer_65 N (Int32.ofNat j) (Int32.ofNat e) (Int32.ofNat t) one pl pc k0 k1 k2 k3 tn tm vl vc KC n (Int32.ofNat m) (Int32.ofNat a) (Int32.ofNat u) bp bnet bth bsu brow eth esu erow oth osu room g st vst values = KC (Int32.ofNat m') (Int32.ofNat a') c1 c2 c3 c4 c5 c6 c7 c8 c9 c10 c11 c12 g c13 c14 c15) ∧
        (∃ r1 r2 r3 r4 r5 r6 r7 s2 r8, f_X12_dearer_59 N (Int32.ofNat j) (Int32.ofNat e) (Int32.ofNat t) (s (8 + t)) told KR n' (Int32.ofNat a) (Int32.ofNat m) (Int32.ofNat u) mbn mbm mbest named pile mrow s1 worth = KR (Int32.ofNat a') (Int32.ofNat m') r1 r2 r3 r4 r5 r6 r7 s2 r8 ∧ ∀ i, i ≠ 8 + t → s2 i = s i) := by
  intro d
  induction d with
  | zero =>
    intro u n n' m a bp bnet bth bsu brow eth esu erow oth osu room st vst values mbn mbm mbest named pile mrow s1 worth hu hu1 hnn hnn' hm ha hs1
    obtain ⟨n, rfl⟩ : ∃ q, n = q + 1 := ⟨n - 1, by omega⟩
    obtain ⟨n', rfl⟩ : ∃ q, n' = q + 1 := ⟨n' - 1, by omega⟩
    have hu10 : u = 10 := by omega
    subst hu10
    refine ⟨m, a, by omega, hm, ha, ?_, ?_⟩
    · rw [f_X11_dearer_65, if_pos (show (9 : Int32) < Int32.ofNat 10 by decide)]
      exact ⟨_, _, _, _, _, _, _, _, _, _, _, _, _, _, _, rfl⟩
    · rw [f_X12_dearer_59, if_pos (show (10 : Int32) ≤ Int32.ofNat 10 by decide)]
      exact ⟨_, _, _, _, _, _, _, _, _, rfl, hs1⟩
  | succ d ih =>
    intro u n n' m a bp bnet bth bsu brow eth esu erow oth osu room st vst values mbn mbm mbest named pile mrow s1 worth hu hu1 hnn hnn' hm ha hs1
    obtain ⟨n, rfl⟩ : ∃ q, n = q + 1 := ⟨n - 1, by omega⟩
    obtain ⟨n', rfl⟩ : ∃ q, n' = q + 1 := ⟨n' - 1, by omega⟩
    obtain ⟨p, hp1, hp2, ep, hgd⟩ := price_up (u := u) hG ht (by omega)
    obtain ⟨v, a1, a2, a3, a4, a5, a6, a7, a8, a9, a10, a11, a12, a13, a14, g1, g2⟩ := p11_pid hN hG hT hL hV hj he hone hlt hn ht (Int32.ofNat u) bp bnet bth bsu brow eth esu erow oth osu room st vst values
    have hs1u : ∀ x, upd s1 (8 + t) x = upd s (8 + t) x := fun x => by
      funext i
      by_cases e : i = 8 + t
      · subst e; rw [upd_at, upd_at]
      · rw [upd_ne _ _ e, upd_ne _ _ e, hs1 i e]
    rw [f_X11_dearer_65, if_neg (show ¬ (9 : Int32) < Int32.ofNat u by rw [lit_lt (by omega) (by omega)]; omega), g1, Option.bind_some]
    dsimp only
    rw [f_X12_dearer_59, if_neg (show ¬ (10 : Int32) ≤ Int32.ofNat u by rw [lit_le (by omega) (by omega)]; omega)]
    rw [show Int32.ofNat u + (1 : Int32) = Int32.ofNat (u + 1) from add_lit 1 u]
    have i9 : (8 : Int32) + Int32.ofNat t = Int32.ofNat (8 + t) := lit_add 8 t
    have hv374 : vin (Int32.ofNat (8 + t)) 374 = true := of_eq_true (on_vin (by omega) (by omega))
    rw [i9, if_pos hv374, on_tn (k := 8 + t) (by omega), hs1u]
    have hsum : s (8 + t) + Int32.ofNat u = Int32.ofNat (p + u) := by rw [ep, on_add]
    have hten : (10 : Int32) * Int32.ofNat t + Int32.ofNat u = Int32.ofNat (10 * t + u) := by rw [lit_mul, on_add]
    by_cases hg : p + u ≤ 9999
    · rw [if_neg (show ¬ (9999 : Int32) < s (8 + t) + Int32.ofNat u by rw [hsum, lit_lt (by omega) (by omega)]; omega)]
      rw [if_pos (hgd.mpr hg)] at g2
      obtain ⟨b1, b2, b3, b4, b5, b6, b7, n2, p2, q1, q2⟩ := p12_sk hN hG hT hL hV hj he htold hlt hn ht (hgd.mpr hg) mbn mbm mbest named pile mrow worth
      rw [q1, Option.bind_some]
      dsimp only
      rw [q2, Option.bind_some]
      dsimp only
      obtain ⟨r, hr, er⟩ := dV_nat (upd s (8 + t) (s (8 + t) + Int32.ofNat u)) ts tv j lt e
      rw [if_neg (show ¬ Int32.ofNat a = -1 by
        intro h
        have := on_nn (a := a) (by omega)
        rw [h] at this
        exact absurd this (by decide))]
      rw [g2, er, hten]
      by_cases hle : r ≤ m
      · have hle' : Int32.ofNat r ≤ Int32.ofNat m := by rw [on_le (by omega) (by omega)]; exact hle
        rw [if_pos hle', if_pos hle']
        exact ih (u + 1) n n' m a _ _ _ _ _ _ _ _ _ _ _ _ _ _ _ _ _ _ _ _ _ _ (by omega) (by omega) (by omega) (by omega) hm ha (fun i hi => upd_ne _ _ hi)
      · have hle' : ¬ Int32.ofNat r ≤ Int32.ofNat m := by rw [on_le (by omega) (by omega)]; exact hle
        rw [if_neg hle', if_neg hle']
        obtain ⟨m', a', z1, z2, z3, z4, z5⟩ := ih (u + 1) n n' r (10 * t + u) a1 a2 a3 a4 a5 a6 a7 a8 a9 a10 a11 a12 a13 a14 b1 b2 b3 n2 p2 b6 (upd s (8 + t) (s (8 + t) + Int32.ofNat u)) b7 (by omega) (by omega) (by omega) (by omega) hr (by omega) (fun i hi => upd_ne _ _ hi)
        exact ⟨m', a', by omega, z2, z3, z4, z5⟩
    · rw [if_pos (show (9999 : Int32) < s (8 + t) + Int32.ofNat u by rw [hsum, lit_lt (by omega) (by omega)]; omega)]
      rw [if_neg (fun h => hg (hgd.mp h))] at g2
      rw [g2, if_pos (show (-1 : Int32) ≤ Int32.ofNat m from Int32.le_trans (by decide) (on_nn (by omega)))]
      -- the class goes on, and finds none
      have cls : ∀ (d u n : Nat) (bp bnet bth bsu : Int32) (brow : Nat → Int32) (eth esu : Int32) (erow : Nat → Int32) (oth osu : Int32) (room st vst values : Nat → Int32), u + d = 10 → d < n → 9999 < p + u → ∃ c1 c2 c3 c4 c5 c6 c7 c8 c9 c10 c11 c12 c13 c14 c15, f_X11_dearer_65 N (Int32.ofNat j) (Int32.ofNat e) (Int32.ofNat t) one pl pc k0 k1 k2 k3 tn tm vl vc KC n (Int32.ofNat m) (Int32.ofNat a) (Int32.ofNat u) bp bnet bth bsu brow eth esu erow oth osu room g st vst values = KC (Int32.ofNat m) (Int32.ofNat a) c1 c2 c3 c4 c5 c6 c7 c8 c9 c10 c11 c12 g c13 c14 c15 := by
        intro d
        induction d with
        | zero =>
          intro u n bp bnet bth bsu brow eth esu erow oth osu room st vst values hu hnn hpu
          obtain ⟨n, rfl⟩ : ∃ q, n = q + 1 := ⟨n - 1, by omega⟩
          have hu10 : u = 10 := by omega
          subst hu10
          rw [f_X11_dearer_65, if_pos (show (9 : Int32) < Int32.ofNat 10 by decide)]
          exact ⟨_, _, _, _, _, _, _, _, _, _, _, _, _, _, _, rfl⟩
        | succ d ihd =>
          intro u n bp bnet bth bsu brow eth esu erow oth osu room st vst values hu hnn hpu
          obtain ⟨n, rfl⟩ : ∃ q, n = q + 1 := ⟨n - 1, by omega⟩
          obtain ⟨p', hp1', hp2', ep', hgd'⟩ := price_up (u := u) hG ht (by omega)
          have hpp : p' = p := by rw [ep, on_inj (by omega) (by omega)] at ep'; exact ep'.symm
          subst hpp
          obtain ⟨v, a1, a2, a3, a4, a5, a6, a7, a8, a9, a10, a11, a12, a13, a14, g1, g2⟩ := p11_pid hN hG hT hL hV hj he hone hlt hn ht (Int32.ofNat u) bp bnet bth bsu brow eth esu erow oth osu room st vst values
          rw [f_X11_dearer_65, if_neg (show ¬ (9 : Int32) < Int32.ofNat u by rw [lit_lt (by omega) (by omega)]; omega), g1, Option.bind_some]
          dsimp only
          rw [if_neg (fun h => absurd (hgd'.mp h) (by omega))] at g2
          rw [g2, if_pos (show (-1 : Int32) ≤ Int32.ofNat m from Int32.le_trans (by decide) (on_nn (by omega))), show Int32.ofNat u + (1 : Int32) = Int32.ofNat (u + 1) from add_lit 1 u]
          exact ihd (u + 1) n _ _ _ _ _ _ _ _ _ _ _ _ _ _ (by omega) (by omega) (by omega)
      exact ⟨m, a, by omega, hm, ha, cls d (u + 1) n _ _ _ _ _ _ _ _ _ _ _ _ _ _ (by omega) (by omega) (by omega), _, _, _, _, _, _, _, _, _, rfl, hs1⟩
theorem pm_things (hN : 2000000 ≤ N) (hG : GR g s) (hT : TR k0 k1 k2 k3 tn tm s) (hL : LRt 0 ts pl pc s) (hV : LRt 1 tv vl vc s) (hj : j < 4) (he : e ≤ 4) (hone : IsRow one lt) (htold : IsRow told lt) (hlt : ∀ t, t < 8 → lt t ≤ 9) (hn : nS lt ≤ 30) {r0 : Nat} (hr0 : r0 ≤ 9999) (er0 : dV s ts tv j lt e = Int32.ofNat r0)
    (KC : Int32 → Int32 → Int32 → Int32 → Int32 → Int32 → Int32 → (Nat → Int32) → Int32 → Int32 → (Nat → Int32) → Int32 → Int32 → (Nat → Int32) → (Nat → Nat → Int32) → (Nat → Int32) → (Nat → Int32) → (Nat → Int32) → Option (Int32 × Int32 × Int32 × Int32 × Int32 × (Nat → Int32) × (Nat → Int32) × Int32 × Int32 × (Nat → Int32) × Int32 × Int32 × (Nat → Int32) × (Nat → Int32) × (Nat → Nat → Int32) × (Nat → Int32) × (Nat → Int32) × (Nat → Int32)))
    (KR : Int32 → Int32 → Int32 → Int32 → Int32 → (Nat → Int32) → (Nat → Int32) → (Nat → Int32) → (Nat → Int32) → (Nat → Int32) → (Nat → Int32) → Option (Int32 × Int32 × Int32 × (Nat → Int32) × (Nat → Int32) × (Nat → Int32) × (Nat → Int32) × (Nat → Int32) × (Nat → Int32) × (Nat → Int32) × (Nat → Int32))) :
    ∀ (d t n n' m a : Nat) (wh mo : Int32) (bp bnet bth bsu : Int32) (brow : Nat → Int32) (eth esu : Int32) (erow : Nat → Int32) (oth osu : Int32) (room st vst values : Nat → Int32) (mbn mbm : Int32) (mbest named pile mrow worth : Nat → Int32), t + d = 8 → d < n → d < n' → r0 ≤ m → m ≤ 9999 → a < 100 → ((t = 0 ∧ wh = -1 ∧ a = 0 ∧ m = r0) ∨ (wh = Int32.ofNat a ∧ mo = Int32.ofNat m)) → (d = 0 → wh = Int32.ofNat a) →
      ∃ m' a' : Nat,
        (∃ c1 c2 c3 c4 c5 c6 c7 c8 c9 c10 c11 c12 c13 c14 c15, f_X11_dearer_55 N (Int32.ofNat j) (Int32.ofNat e) one pl pc k0 k1 k2 k3 tn tm vl vc KC n (Int32.ofNat m) (Int32.ofNat a) (Int32.ofNat t) bp bnet bth bsu brow eth esu erow oth osu room g st vst values = KC (Int32.ofNat m') (Int32.ofNat a') c1 c2 c3 c4 c5 c6 c7 c8 c9 c10 c11 c12 g c13 c14 c15) ∧
        (∃ mo' r1 r2 r3 r4 r5 r6 r7 r8, f_X12_dearer_37 N (Int32.ofNat j) (Int32.ofNat e) told KR n' wh mo (Int32.ofNat t) mbn mbm mbest named pile mrow s worth = KR (Int32.ofNat a') mo' r1 r2 r3 r4 r5 r6 r7 s r8) := by
  intro d
  induction d with
  | zero =>
    intro t n n' m a wh mo bp bnet bth bsu brow eth esu erow oth osu room st vst values mbn mbm mbest named pile mrow worth ht hnn hnn' hm0 hm ha hw hwd
    obtain ⟨n, rfl⟩ : ∃ q, n = q + 1 := ⟨n - 1, by omega⟩
    obtain ⟨n', rfl⟩ : ∃ q, n' = q + 1 := ⟨n' - 1, by omega⟩
    have ht8 : t = 8 := by omega
    subst ht8
    refine ⟨m, a, ?_, ?_⟩
    · rw [f_X11_dearer_55, if_pos (show (8 : Int32) ≤ Int32.ofNat 8 by decide)]
      exact ⟨_, _, _, _, _, _, _, _, _, _, _, _, _, _, _, rfl⟩
    · rw [f_X12_dearer_37, if_pos (show (8 : Int32) ≤ Int32.ofNat 8 by decide), hwd rfl]
      exact ⟨_, _, _, _, _, _, _, _, _, rfl⟩
  | succ d ih =>
    intro t n n' m a wh mo bp bnet bth bsu brow eth esu erow oth osu room st vst values mbn mbm mbest named pile mrow worth ht hnn hnn' hm0 hm ha hw hwd
    obtain ⟨n, rfl⟩ : ∃ q, n = q + 1 := ⟨n - 1, by omega⟩
    obtain ⟨n', rfl⟩ : ∃ q, n' = q + 1 := ⟨n' - 1, by omega⟩
    have ht8 : t < 8 := by omega
    have hle8 : ¬ (8 : Int32) ≤ Int32.ofNat t := by rw [lit_le (by omega) (by omega)]; omega
    have i9 : (8 : Int32) + Int32.ofNat t = Int32.ofNat (8 + t) := lit_add 8 t
    have hv374 : vin (Int32.ofNat (8 + t)) 374 = true := of_eq_true (on_vin (by omega) (by omega))
    rw [f_X11_dearer_55, if_neg hle8, f_X12_dearer_37, if_neg hle8, i9, if_pos hv374, on_tn (k := 8 + t) (by omega)]
    -- the reference's first: no dearer
    obtain ⟨N', hN'⟩ : ∃ q, N = q + 1 := ⟨N - 1, by omega⟩
    obtain ⟨p, hp1, hp2, ep, hgd⟩ := price_up (u := 0) hG ht8 (by omega)
    have hp0 : s (8 + t) + 0 = s (8 + t) := Int32.add_zero _
    have hg0 : gdV 0 (s (8 + t)) := by
      have := hgd.mpr (by omega)
      rwa [show Int32.ofNat 0 = 0 from rfl, hp0] at this
    have first : ∀ (KR2 : Int32 → Int32 → Int32 → Int32 → Int32 → (Nat → Int32) → (Nat → Int32) → (Nat → Int32) → (Nat → Int32) → (Nat → Int32) → (Nat → Int32) → Option (Int32 × Int32 × Int32 × (Nat → Int32) × (Nat → Int32) × (Nat → Int32) × (Nat → Int32) × (Nat → Int32) × (Nat → Int32) × (Nat → Int32) × (Nat → Int32))), ∃ b1 b2 b3 b4 b5 b6 b7, f_X12_dearer_59 N (Int32.ofNat j) (Int32.ofNat e) (Int32.ofNat t) (s (8 + t)) told KR2 (N' + 1) wh mo 0 mbn mbm mbest named pile mrow s worth = f_X12_dearer_59 N (Int32.ofNat j) (Int32.ofNat e) (Int32.ofNat t) (s (8 + t)) told KR2 N' (Int32.ofNat a) (Int32.ofNat m) (Int32.ofNat 1) b1 b2 b3 b4 b5 b6 s b7 := by
      intro KR2
      obtain ⟨b1, b2, b3, b4, b5, b6, b7, n2, p2, q1, q2⟩ := p12_sk hN hG hT hL hV hj he htold hlt hn ht8 hg0 mbn mbm mbest named pile mrow worth
      rw [upd_same] at q1 q2
      rw [er0] at q2
      rw [f_X12_dearer_59, if_neg (show ¬ (10 : Int32) ≤ 0 by decide), hp0, if_neg (show ¬ (9999 : Int32) < s (8 + t) by rw [ep, lit_lt (by omega) (by omega)]; omega), i9, if_pos hv374, on_tn (k := 8 + t) (by omega), upd_same, q1, Option.bind_some]
      dsimp only
      rw [q2, Option.bind_some]
      dsimp only
      rw [show (0 : Int32) + 1 = Int32.ofNat 1 from rfl]
      rcases hw with ⟨h1, h2, h3, h4⟩ | ⟨h1, h2⟩
      · subst h1; subst h2; subst h3; subst h4
        rw [if_pos rfl, show (10 : Int32) * Int32.ofNat 0 + 0 = Int32.ofNat 0 from rfl]
        exact ⟨_, _, _, _, _, _, _, rfl⟩
      · subst h1; subst h2
        rw [if_neg (show ¬ Int32.ofNat a = -1 by
          intro h
          have := on_nn (a := a) (by omega)
          rw [h] at this
          exact absurd this (by decide)), if_pos (show Int32.ofNat r0 ≤ Int32.ofNat m by rw [on_le (by omega) (by omega)]; exact hm0)]
        exact ⟨_, _, _, _, _, _, _, rfl⟩
    obtain ⟨b1, b2, b3, b4, b5, b6, b7, hfirst⟩ := first (fun v5_13 v6_13 v9_13 this_bestNet_13 this_bestMore_13 this_best_13 this_named_13 this_pile_13 this_row_13 this_s_13 this_worthOf_13 => (if vin (Int32.ofNat (8 + t)) 374 = true then (f_X12_dearer_37 N (Int32.ofNat j) (Int32.ofNat e) told KR n' v5_13 v6_13 (Int32.ofNat t + (1 : Int32)) this_bestNet_13 this_bestMore_13 this_best_13 this_named_13 this_pile_13 this_row_13 (upd this_s_13 (8 + t) (s (8 + t))) this_worthOf_13) else none))
    rw [← hN'] at hfirst
    rw [hfirst]
    obtain ⟨m', a', z1, z2, z3, ⟨c1, c2, c3, c4, c5, c6, c7, c8, c9, c10, c11, c12, c13, c14, c15, z4⟩, ⟨r1, r2, r3, r4, r5, r6, r7, s2, r8, z5, z6⟩⟩ := pm_ups hN hG hT hL hV hj he hone htold hlt hn ht8 (fun v5_10 v6_10 v8_10 this_bestPaid_10 this_bestNet_10 this_best_things_10 this_best_sum_10 this_best_row_10 this_extra_things_10 this_extra_sum_10 this_extra_row_10 this_one_things_10 this_one_sum_10 this_room_10 this_shop_goods_10 this_shop_paysLaw_stack_10 this_shop_valuesLaw_stack_10 this_values_10 => (f_X11_dearer_55 N (Int32.ofNat j) (Int32.ofNat e) one pl pc k0 k1 k2 k3 tn tm vl vc KC n v5_10 v6_10 (Int32.ofNat t + (1 : Int32)) this_bestPaid_10 this_bestNet_10 this_best_things_10 this_best_sum_10 this_best_row_10 this_extra_things_10 this_extra_sum_10 this_extra_row_10 this_one_things_10 this_one_sum_10 this_room_10 this_shop_goods_10 this_shop_paysLaw_stack_10 this_shop_valuesLaw_stack_10 this_values_10))
      (fun v5_13 v6_13 v9_13 this_bestNet_13 this_bestMore_13 this_best_13 this_named_13 this_pile_13 this_row_13 this_s_13 this_worthOf_13 => (if vin (Int32.ofNat (8 + t)) 374 = true then (f_X12_dearer_37 N (Int32.ofNat j) (Int32.ofNat e) told KR n' v5_13 v6_13 (Int32.ofNat t + (1 : Int32)) this_bestNet_13 this_bestMore_13 this_best_13 this_named_13 this_pile_13 this_row_13 (upd this_s_13 (8 + t) (s (8 + t))) this_worthOf_13) else none)) 9 1 N N' m a bp bnet bth bsu brow eth esu erow oth osu room st vst values b1 b2 b3 b4 b5 b6 s b7 (by omega) (by omega) (by omega) (by omega) hm ha (fun _ _ => rfl)
    have z4 : f_X11_dearer_65 N (Int32.ofNat j) (Int32.ofNat e) (Int32.ofNat t) one pl pc k0 k1 k2 k3 tn tm vl vc _ N (Int32.ofNat m) (Int32.ofNat a) 1 bp bnet bth bsu brow eth esu erow oth osu room g st vst values = _ := z4
    rw [z4, z5, if_pos hv374, show Int32.ofNat t + (1 : Int32) = Int32.ofNat (t + 1) from add_lit 1 t]
    have hback : upd s2 (8 + t) (s (8 + t)) = s := by
      funext i
      by_cases e : i = 8 + t
      · subst e; rw [upd_at]
      · rw [upd_ne _ _ e, z6 i e]
    rw [hback]
    exact ih (t + 1) n n' m' a' (Int32.ofNat a') (Int32.ofNat m') _ _ _ _ _ _ _ _ _ _ _ _ _ _ _ _ _ _ _ _ _ (by omega) (by omega) (by omega) (by omega) z2 z3 (Or.inr ⟨rfl, rfl⟩) (fun _ => rfl)
end
theorem pm_dearer {N : Nat} (hN : 2000000 ≤ N) (a b c : Int32) {k0 k1 k2 k3 : Nat} {tn tm s ce me pc vc bits lens mbits msizes mnum : Nat → Int32} {pl vl : Int32} {nums g : Nat → Nat → Int32} (hE : ER ce me) (hH : HR bits lens nums mbits msizes mnum) (hG : GR g s) (hT : TR k0 k1 k2 k3 tn tm s) (hL : LR 0 pl pc s) (hV : LR 1 vl vc s)
    (bp bnet bth bsu : Int32) (brow : Nat → Int32) (eth esu : Int32) (erow : Nat → Int32) (x y : Int32) (rw0 room st vst values : Nat → Int32) (mbn mbm : Int32) (mbest named pile mrow told worth : Nat → Int32) :
    ∃ v ce' a1 a2 a3 a4 a5 a6 a7 a8 a9 a10 a11 a12 a13 a14 a15 me' b1 b2 b3 b4 b5 b6 b7 b8, f_X11_dearer N a b c bp bnet bth bsu brow ce eth esu erow x y rw0 room bits lens nums g pl pc st k0 k1 k2 k3 tn tm vl vc vst values = some (v, a1, a2, a3, a4, a5, ce', a6, a7, a8, a9, a10, a11, a12, g, a13, a14, a15) ∧ f_X12_dearer N a b c mbn mbm mbest mbits me named mnum pile mrow s msizes told worth = some (v, b1, b2, b3, me', b4, b5, b6, s, b7, b8) ∧ ER ce' me' := by
  obtain ⟨ts, hL⟩ := hL
  obtain ⟨tv, hV⟩ := hV
  have hN1 : 100 ≤ N := by omega
  unfold f_X11_dearer f_X12_dearer
  rw [p11_within, p12_in, Option.bind_some, Option.bind_some]
  by_cases h1 : 0 ≤ c ∧ c ≤ 2
  rotate_left
  · have n1 : bi (0 ≤ c ∧ c ≤ 2) = 0 := by rw [bi_0]; exact h1
    rw [if_pos n1, p11_error1, n1, p12_lacks0, Option.bind_some, Option.bind_some]
    dsimp only
    rw [if_neg (show ¬ (1 : Int32) ≤ 0 by decide), p12_error1]
    exact ⟨_, _, _, _, _, _, _, _, _, _, _, _, _, _, _, _, _, _, _, _, _, _, _, _, _, _, rfl, rfl, hE.up (by omega)⟩
  have n1 : bi (0 ≤ c ∧ c ≤ 2) = 1 := by unfold bi; rw [if_pos h1]
  rw [n1, if_neg (show ¬ (1 : Int32) = 0 by decide)]
  obtain ⟨q, th, su, row, told', e1, e2, e3, e4⟩ := pm_lacks hN1 a b (M := 30) (by omega) hH x y rw0 told g
  have e1 : f_X11_refusal N a b 30 x y rw0 bits lens nums g = _ := e1
  have e2 : f_X12_lacks N a b 1 30 mbits mnum msizes told = _ := e2
  rw [e1, e2, Option.bind_some, Option.bind_some]
  dsimp only
  have hle := e3.le
  by_cases h0 : q = 0
  rotate_left
  · rw [if_neg h0, if_neg (by rw [hle]; exact h0)]
    obtain ⟨k, k1, k2, rfl⟩ := e3.err h0
    rw [p11_error N k1 k2, p12_error N k2]
    exact ⟨_, _, _, _, _, _, _, _, _, _, _, _, _, _, _, _, _, _, _, _, _, _, _, _, _, _, rfl, rfl, hE.up (by omega)⟩
  rw [if_pos h0, if_pos (by rw [hle]; exact h0)]
  obtain ⟨t, ht, rfl⟩ := e4 h0
  rcases e3 with ⟨-, l, ⟨b1, b2, b3, b4, b5⟩, hM⟩ | ⟨k, k1, k2, k3⟩
  rotate_left
  · exfalso; rw [h0] at k3; rw [lit_eq (by omega) (by omega)] at k3; omega
  obtain ⟨e, he, rfl⟩ := in_nat (b := 2) h1 (by omega)
  obtain ⟨r, f1, f2, f3, f4, f5, f6, f7, f8, f9, m1, m2, m3, m4, m5, m6, hr, er, w1, w2, w3, w4⟩ := pm_find hN hG hT hL hV ht (show e ≤ 4 by omega) b1 b2 b3 hM b4 b5 bp bnet bth bsu brow eth esu erow room st vst values mbn mbm mbest named pile mrow worth
  rw [w1, Option.bind_some]
  dsimp only
  obtain ⟨m', a', ⟨c1, c2, c3, c4, c5, c6, c7, c8, c9, c10, c11, c12, c13, c14, c15, z1⟩, ⟨mo', r1, r2, r3, r4, r5, r6, r7, r8, z2⟩⟩ := pm_things hN hG hT hL hV ht (show e ≤ 4 by omega) b1 b2 b3 hM hr er
    (fun v5_15 v6_15 v7_15 this_bestPaid_15 this_bestNet_15 this_best_things_15 this_best_sum_15 this_best_row_15 this_extra_things_15 this_extra_sum_15 this_extra_row_15 this_one_things_15 this_one_sum_15 this_room_15 this_shop_goods_15 this_shop_paysLaw_stack_15 this_shop_valuesLaw_stack_15 this_values_15 => (some (v6_15, this_bestPaid_15, this_bestNet_15, this_best_things_15, this_best_sum_15, this_best_row_15, ce, this_extra_things_15, this_extra_sum_15, this_extra_row_15, this_one_things_15, this_one_sum_15, row, this_room_15, this_shop_goods_15, this_shop_paysLaw_stack_15, this_shop_valuesLaw_stack_15, this_values_15)))
    (fun v5_23 v6_23 v7_23 this_bestNet_23 this_bestMore_23 this_best_23 this_named_23 this_pile_23 this_row_23 this_s_23 this_worthOf_23 => (some (v5_23, this_bestNet_23, this_bestMore_23, this_best_23, me, this_named_23, this_pile_23, this_row_23, this_s_23, told', this_worthOf_23))) 8 0 N N r 0 (-1) 0 (Int32.ofNat r) (NV s ts t l (prN s) (valV s tv) (cheap s ts tv t l e)) (Int32.ofNat (cheap s ts tv t l e).sum) f1 f2 f3 f4 f5 th su f6 f7 f8 f9 mbn mbm mbest named pile mrow worth (by omega) (by omega) (by omega) (Nat.le_refl _) hr (by omega) (Or.inl ⟨rfl, rfl, rfl, rfl⟩) (fun h => by omega)
  exact ⟨_, _, _, _, _, _, _, _, _, _, _, _, _, _, _, _, _, _, _, _, _, _, _, _, _, _, z1, z2, hE⟩
end PDEARER
