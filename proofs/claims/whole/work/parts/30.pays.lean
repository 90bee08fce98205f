/-! PURE: asks, pays, basket, worth, thingIs, check -/
section PPAYS
theorem CK.err {c : Int32} {M : Nat} {th su : Int32} {row told g0 : Nat → Int32} (h : CK c M th su row told g0) (h0 : ¬ c = 0) : ∃ k, 1 ≤ k ∧ k ≤ 6 ∧ c = Int32.ofNat k := by
  rcases h with ⟨h1, -⟩ | h1
  · exact absurd h1 h0
  · exact h1
theorem CK.le {c : Int32} {M : Nat} {th su : Int32} {row told g0 : Nat → Int32} (h : CK c M th su row told g0) : (c ≤ 0) = (c = 0) := by
  rcases h with ⟨h1, -⟩ | ⟨k, h1, h2, h3⟩
  · subst h1; simp
  · subst h3
    rw [le_lit (by omega) (by omega), eq_lit (by omega) (by omega)]
    apply propext; omega
theorem pm_asks {N : Nat} (hN : 100 ≤ N) (a b c : Int32) {k0 k1 k2 k3 : Nat} {tn tm s ce me pc : Nat → Int32} {pl : Int32} (hE : ER ce me) (hT : TR k0 k1 k2 k3 tn tm s) (hL : LR 0 pl pc s) (st named pile : Nat → Int32) :
    ∃ v ce' st' me' named' pile', f_X11_asks N a b c ce pl pc st k0 k1 k2 k3 tn tm = some (v, ce', st') ∧ f_X12_asks N a b c me named pile s = some (v, me', named', pile') ∧ ER ce' me' := by
  obtain ⟨ts, hL⟩ := hL
  unfold f_X11_asks f_X12_asks
  simp only [p11_isTill, p12_isTill, p11_within, p12_in, Option.bind_some, bi_0, p11_error1, p12_error1]
  by_cases h1 : 0 ≤ a ∧ a ≤ 3
  rotate_left
  · rw [if_pos h1, if_pos h1]; exact ⟨_, _, _, _, _, _, rfl, rfl, hE.up (by omega)⟩
  rw [if_neg (not_not_intro h1), if_neg (not_not_intro h1)]
  by_cases h2 : 0 ≤ b ∧ b ≤ 299970
  rotate_left
  · rw [if_pos h2, if_pos h2]; exact ⟨_, _, _, _, _, _, rfl, rfl, hE.up (by omega)⟩
  rw [if_neg (not_not_intro h2), if_neg (not_not_intro h2)]
  by_cases h3 : 0 ≤ c ∧ c ≤ 30
  rotate_left
  · rw [if_pos h3, if_pos h3]; exact ⟨_, _, _, _, _, _, rfl, rfl, hE.up (by omega)⟩
  rw [if_neg (not_not_intro h3), if_neg (not_not_intro h3)]
  obtain ⟨j, hj, rfl⟩ := in_nat (b := 3) h1 (by omega)
  obtain ⟨n, hn, rfl⟩ := in_nat (b := 299970) h2 (by omega)
  obtain ⟨st', e1⟩ := p7_paid hN hT hL (show j < 4 by omega) (show n < 1000000 by omega) c st
  obtain ⟨named', pile', e2⟩ := p12_asked hN hT hL (show j < 4 by omega) (show n < 1000000 by omega) c named pile
  rw [e1, e2]
  exact ⟨_, _, _, _, _, _, rfl, rfl, hE⟩
/-- the class pays for its basket as the reference for its row -/
theorem p7_paidB {N : Nat} (hN : 100 ≤ N) {k0 k1 k2 k3 : Nat} {tn tm s : Nat → Int32} (hT : TR k0 k1 k2 k3 tn tm s) {ts : List Tok} {pl : Int32} {pc : Nat → Int32} (hL : LRt 0 ts pl pc s) {j : Nat} (hj : j < 4) {th su : Int32} {l p : Nat → Nat} (hth : th = Int32.ofNat (nS l)) (hsu : su = Int32.ofNat (nD l p)) (hn : nD l p < 1000000) (st : Nat → Int32) :
    ∃ st', f_X7_paid N (Int32.ofNat j) su th pl pc st k0 k1 k2 k3 tn tm = some (PV s ts j l p, st') := by
  subst hth
  subst hsu
  exact p7_paid hN hT hL hj hn _ st
theorem pm_pays {N : Nat} (hN : 100 ≤ N) (a b : Int32) {k0 k1 k2 k3 : Nat} {tn tm s ce me pc bits lens mbits msizes mnum : Nat → Int32} {pl : Int32} {nums g : Nat → Nat → Int32} (hE : ER ce me) (hH : HR bits lens nums mbits msizes mnum) (hG : GR g s) (hT : TR k0 k1 k2 k3 tn tm s) (hL : LR 0 pl pc s) (x y : Int32) (rw0 told st named pile : Nat → Int32) :
    ∃ v ce' x' y' rw' st' me' named' pile' told', f_X11_pays N a b ce x y rw0 bits lens nums g pl pc st k0 k1 k2 k3 tn tm = some (v, ce', x', y', rw', st') ∧ f_X12_pays N a b mbits me named mnum pile s msizes told = some (v, me', named', pile', told') ∧ ER ce' me' := by
  obtain ⟨ts, hL⟩ := hL
  obtain ⟨p, hp⟩ := hG.prices
  unfold f_X11_pays f_X12_pays
  obtain ⟨c, th, su, row, told', e1, e2, e3, e4⟩ := pm_lacks hN a b (M := 30) (by omega) hH x y rw0 told g
  have e1 : f_X11_refusal N a b 30 x y rw0 bits lens nums g = _ := e1
  have e2 : f_X12_lacks N a b 1 30 mbits mnum msizes told = _ := e2
  rw [e1, e2]
  simp only [Option.bind_some, e3.le]
  by_cases h0 : c = 0
  · rw [if_pos h0, if_pos h0]
    obtain ⟨t, ht, rfl⟩ := e4 h0
    rcases e3 with ⟨-, l, ⟨b1, b2, b3, b4, b5⟩, hM⟩ | ⟨k, k1, k2, k3⟩
    · obtain ⟨st', f1⟩ := p7_paidB hN hT hL ht b4 (b5.trans (b1.dot (hp.row0 hG))) (nD_ok hp (by omega)) st
      obtain ⟨named', pile', f2⟩ := p12_paid hN hT hL ht b2 hp (nD_ok hp (by omega)) named pile
      rw [f1, f2]
      exact ⟨_, _, _, _, _, _, _, _, _, _, rfl, rfl, hE⟩
    · exfalso; rw [h0] at k3; rw [lit_eq (by omega) (by omega)] at k3; omega
  · rw [if_neg h0, if_neg h0]
    obtain ⟨k, k1, k2, rfl⟩ := e3.err h0
    rw [p11_error N k1 k2, p12_error N k2]
    exact ⟨_, _, _, _, _, _, _, _, _, _, rfl, rfl, hE.up (by omega)⟩
theorem pm_basket {N : Nat} (hN : 100 ≤ N) (a b : Int32) {s ce me bits lens mbits msizes mnum : Nat → Int32} {nums g : Nat → Nat → Int32} (hE : ER ce me) (hH : HR bits lens nums mbits msizes mnum) (hG : GR g s) (x y : Int32) (rw0 told : Nat → Int32) :
    ∃ v ce' x' y' rw' me' told', f_X11_basket N a b ce x y rw0 bits lens nums g = some (v, ce', x', y', rw') ∧ f_X12_basket N a b mbits me mnum s msizes told = some (v, me', told') ∧ ER ce' me' := by
  unfold f_X11_basket f_X12_basket
  simp only [p11_isSheet, p11_within, p12_in, Option.bind_some, bi_0, p11_error1]
  by_cases h2 : 0 ≤ b ∧ b ≤ 2
  rotate_left
  · have e : bi (0 ≤ b ∧ b ≤ 2) = 0 := by rw [bi_0]; exact h2
    rw [e, p12_lacks0]
    simp only [Option.bind_some]
    rw [if_neg (show ¬ (1 : Int32) ≤ 0 by decide), p12_error1]
    by_cases h1 : 0 ≤ a ∧ a ≤ 3
    · rw [if_neg (not_not_intro h1), if_pos h2]
      exact ⟨_, _, _, _, _, _, _, rfl, rfl, hE.up (by omega)⟩
    · rw [if_pos h1]
      exact ⟨_, _, _, _, _, _, _, rfl, rfl, hE.up (by omega)⟩
  have e : bi (0 ≤ b ∧ b ≤ 2) = 1 := by unfold bi; rw [if_pos h2]
  rw [e]
  obtain ⟨c, th, su, row, told', e1, e2, e3, -⟩ := pm_lacks hN a 0 (M := 30) (by omega) hH x y rw0 told g
  have e2 : f_X12_lacks N a 0 1 30 mbits mnum msizes told = _ := e2
  rw [e2]
  simp only [Option.bind_some, e3.le]
  by_cases h1 : 0 ≤ a ∧ a ≤ 3
  · rw [if_neg (not_not_intro h1), if_neg (not_not_intro h2)]
    have e1 : f_X11_refusal_ N a 30 x y rw0 bits lens nums g = some (c, th, su, row) := by
      unfold f_X11_refusal at e1
      simp only [p11_isSheet, p11_isTill, Option.bind_some, bi_0] at e1
      rw [if_neg (not_not_intro h1), if_neg (not_not_intro ⟨by decide, by decide⟩)] at e1
      obtain ⟨r, hr, hr2⟩ := kb e1
      have : f_X11_refusal_ N a 30 x y rw0 bits lens nums g = some r := hr
      rw [this]
      obtain ⟨r1, r2, r3, r4⟩ := r
      exact hr2
    rw [e1]
    simp only [Option.bind_some]
    by_cases h0 : c = 0
    · rw [if_pos h0, if_pos h0]
      rcases e3 with ⟨-, l, ⟨b1, b2, b3, b4, b5⟩, hM⟩ | ⟨k, k1, k2, k3⟩
      · rw [p12_many (by omega), p12_sumOf (by omega), p12_costOf (by omega), p0_sumBy (by omega), b4, b5, b2.sm]
        have d1 : dot row (g 0) = dot told' (fun t => s (8 + t)) := dot_congr (fun t ht => by rw [b1 t ht, b2 t ht]) (fun t ht => hG.1 0 t (by omega) ht)
        have d2 : dot row (g 1) = dot told' (fun t => s (16 + t)) := dot_congr (fun t ht => by rw [b1 t ht, b2 t ht]) (fun t ht => hG.1 1 t (by omega) ht)
        rw [d1, d2]
        simp only [Option.bind_some]
        by_cases q0 : b = 0
        · rw [if_pos q0, if_pos q0]; exact ⟨_, _, _, _, _, _, _, rfl, rfl, hE⟩
        rw [if_neg q0, if_neg q0]
        by_cases q1 : b = 1
        · rw [if_pos q1, if_pos q1]; exact ⟨_, _, _, _, _, _, _, rfl, rfl, hE⟩
        rw [if_neg q1, if_neg q1]
        exact ⟨_, _, _, _, _, _, _, rfl, rfl, hE⟩
      · exfalso; rw [h0] at k3; rw [lit_eq (by omega) (by omega)] at k3; omega
    · rw [if_neg h0, if_neg h0]
      obtain ⟨k, k1, k2, rfl⟩ := e3.err h0
      rw [p11_error N k1 k2, p12_error N k2]
      exact ⟨_, _, _, _, _, _, _, rfl, rfl, hE.up (by omega)⟩
  · rw [if_pos h1]
    have e4 : f_X11_refusal N a 0 (Int32.ofNat 30) x y rw0 bits lens nums g = some (1, x, y, rw0) := by
      unfold f_X11_refusal
      simp only [p11_isSheet, Option.bind_some, bi_0]
      rw [if_pos h1]
    rw [e4] at e1
    cases e1
    rw [if_neg (by decide), p12_error1]
    exact ⟨_, _, _, _, _, _, _, rfl, rfl, hE.up (by omega)⟩
theorem nS_up {l : Nat → Nat} {t : Nat} (ht : t < 8) : nS (fun j => if j = t then l t + 1 else l j) = nS l + 1 := by
  unfold nS
  have : t = 0 ∨ t = 1 ∨ t = 2 ∨ t = 3 ∨ t = 4 ∨ t = 5 ∨ t = 6 ∨ t = 7 := by omega
  rcases this with rfl | rfl | rfl | rfl | rfl | rfl | rfl | rfl <;> simp <;> omega
theorem nD_up {l p : Nat → Nat} {t : Nat} (ht : t < 8) : nD (fun j => if j = t then l t + 1 else l j) p = nD l p + p t := by
  unfold nD
  have : t = 0 ∨ t = 1 ∨ t = 2 ∨ t = 3 ∨ t = 4 ∨ t = 5 ∨ t = 6 ∨ t = 7 := by omega
  rcases this with rfl | rfl | rfl | rfl | rfl | rfl | rfl | rfl <;> simp [Nat.add_mul] <;> omega
theorem IsRow.up {r : Nat → Int32} {l : Nat → Nat} (h : IsRow r l) (t : Nat) (ht : t < 8) : IsRow (upd r t (r t + 1)) (fun j => if j = t then l t + 1 else l j) := by
  intro j hj
  show upd r t (r t + 1) j = Int32.ofNat (if j = t then l t + 1 else l j)
  by_cases e : j = t
  · subst e; rw [upd_at, if_pos rfl, h j hj]; exact add_lit 1 _
  · rw [upd_ne _ _ e, if_neg e]; exact h j hj
theorem pm_worth {N : Nat} (hN : 100 ≤ N) (a b d : Int32) {k0 k1 k2 k3 : Nat} {tn tm s ce me pc bits lens mbits msizes mnum : Nat → Int32} {pl : Int32} {nums g : Nat → Nat → Int32} (hE : ER ce me) (hH : HR bits lens nums mbits msizes mnum) (hG : GR g s) (hT : TR k0 k1 k2 k3 tn tm s) (hL : LR 0 pl pc s) (x y : Int32) (rw0 told st named pile : Nat → Int32) :
    ∃ v ce' x' y' rw' st' me' named' pile' told', f_X11_worth N a b d ce x y rw0 bits lens nums g pl pc st k0 k1 k2 k3 tn tm = some (v, ce', x', y', rw', st') ∧ f_X12_worth N a b d mbits me named mnum pile s msizes told = some (v, me', named', pile', told') ∧ ER ce' me' := by
  obtain ⟨ts, hL⟩ := hL
  obtain ⟨p, hp⟩ := hG.prices
  unfold f_X11_worth f_X12_worth
  simp only [p11_isThing, p12_isThing, Option.bind_some, bi_0, p11_error1]
  by_cases h2 : 0 ≤ d ∧ d ≤ 7
  rotate_left
  · have e : bi (0 ≤ d ∧ d ≤ 7) = 0 := by rw [bi_0]; exact h2
    rw [e, p12_lacks0, if_pos h2]
    simp only [Option.bind_some]
    rw [if_neg (show ¬ (1 : Int32) ≤ 0 by decide), p12_error1]
    exact ⟨_, _, _, _, _, _, _, _, _, _, rfl, rfl, hE.up (by omega)⟩
  have e : bi (0 ≤ d ∧ d ≤ 7) = 1 := by unfold bi; rw [if_pos h2]
  rw [e, if_neg (not_not_intro h2)]
  obtain ⟨w, hw, rfl⟩ := in_nat (b := 7) h2 (by omega)
  obtain ⟨c, th, su, row, told', e1, e2, e3, e4⟩ := pm_lacks hN a b (M := 29) (by omega) hH x y rw0 told g
  have e1 : f_X11_refusal N a b 29 x y rw0 bits lens nums g = _ := e1
  have e2 : f_X12_lacks N a b 1 29 mbits mnum msizes told = _ := e2
  rw [e1, e2]
  simp only [Option.bind_some, e3.le]
  by_cases h0 : c = 0
  · rw [if_pos h0, if_pos h0]
    obtain ⟨t, ht, rfl⟩ := e4 h0
    rcases e3 with ⟨-, l, ⟨b1, b2, b3, b4, b5⟩, hM⟩ | ⟨k, k1, k2, k3⟩
    · have hsu := b5.trans (b1.dot (hp.row0 hG))
      obtain ⟨st', f1⟩ := p7_paidB hN hT hL ht b4 hsu (nD_ok hp (by omega)) st
      obtain ⟨named', pile', f2⟩ := p12_paid hN hT hL ht b2 hp (nD_ok hp (by omega)) named pile
      have hw8 : w < 8 := by omega
      have r2 := b2.up w hw8
      have n1 := nS_up (l := l) hw8
      have n2 := nD_up (l := l) (p := p) hw8
      have hlt := nD_ok hp (l := fun j => if j = w then l w + 1 else l j) (by rw [n1]; omega)
      obtain ⟨st2, f3⟩ := p7_paidB hN hT hL (su := su + g 0 w) (th := th + 1) (l := fun j => if j = w then l w + 1 else l j) (p := p) ht (by rw [n1, b4]; exact add_lit 1 _) (by rw [n2, hsu, (hp.row0 hG) w hw8, on_add]) hlt st'
      obtain ⟨named2, pile2, f4⟩ := p12_paid hN hT hL ht r2 hp hlt named' pile'
      rw [f1, f2]
      simp (disch := omega) only [Option.bind_some, on_vin, on_tn, if_true]
      rw [f3, f4]
      exact ⟨_, _, _, _, _, _, _, _, _, _, rfl, rfl, hE⟩
    · exfalso; rw [h0] at k3; rw [lit_eq (by omega) (by omega)] at k3; omega
  · rw [if_neg h0, if_neg h0]
    obtain ⟨k, k1, k2, rfl⟩ := e3.err h0
    rw [p11_error N k1 k2, p12_error N k2]
    exact ⟨_, _, _, _, _, _, _, _, _, _, rfl, rfl, hE.up (by omega)⟩
/-- VALUE of a thing -/
def valV (s : Nat → Int32) (ts : List Tok) (t : Nat) : Int32 := if ts = [] then 0 else hd (Tv (nmf (Int32.ofNat t) (s (8 + t)) (s (16 + t))) ts) 99
theorem p7_valueOf {N : Nat} (hN : 100 ≤ N) {g : Nat → Nat → Int32} {s : Nat → Int32} (hG : GR g s) {ts : List Tok} {vl : Int32} {vc : Nat → Int32} (hL : LRt 1 ts vl vc s) {t : Nat} (ht : t < 8) (st : Nat → Int32) : ∃ st', f_X7_valueOf N (Int32.ofNat t) g vl vc st = some (valV s ts t, st') := by
  unfold f_X7_valueOf valV
  have h60 := hL.1
  have h8 : f_X4_isTold N vl = some (bi (ts.length ≠ 0)) := by rw [hL.2.1]; exact p4_isTold N (by omega)
  rw [h8]
  simp only [Option.bind_some, bi_0]
  by_cases hts : ts = []
  · rw [if_pos (by simp [hts]), if_pos hts]; exact ⟨st, rfl⟩
  · rw [if_neg (by simpa using hts), if_neg hts]
    obtain ⟨st', h⟩ := p4_workedOut (N := N) (by omega) hL hts (Int32.ofNat t) (g 0 t) (g 1 t) st
    simp (disch := omega) only [on_vin, on_tn, if_true]
    rw [h]
    simp only [Option.bind_some, p11_held N (show (0 : Int32) ≤ 99 by decide)]
    rw [hG.1 0 t (by omega) ht, hG.1 1 t (by omega) ht]
    exact ⟨st', rfl⟩
theorem p12_values {N : Nat} (hN : 100 ≤ N) {s : Nat → Int32} {ts : List Tok} {vl : Int32} {vc : Nat → Int32} (hL : LRt 1 ts vl vc s) {t : Nat} (ht : t < 8) (named pile : Nat → Int32) : ∃ named' pile', f_X12_values N (Int32.ofNat t) named pile s = some (valV s ts t, named', pile') := by
  unfold f_X12_values valV
  rw [show f_X12_hasText N 1 s = some (bi (ts ≠ [])) from p12_hasText N (u := 1) (by omega) hL]
  simp only [Option.bind_some, bi_0]
  by_cases hts : ts = []
  · rw [if_pos (by simp [hts]), if_pos hts]; exact ⟨named, pile, rfl⟩
  · rw [if_neg (by simp [hts]), if_neg hts]
    simp (disch := omega) only [lit_add, on_vin, on_tn, if_true]
    obtain ⟨pile', h⟩ := p12_worked (N := N) (by omega) (u := 1) (by omega) hL hts (Int32.ofNat t) (s (8 + t)) (s (16 + t)) (upd (upd (upd named (116 : Int32).toNatClampNeg (Int32.ofNat t)) (112 : Int32).toNatClampNeg (s (8 + t))) (99 : Int32).toNatClampNeg (s (16 + t))) pile (fun v hv => by
      unfold isNm at hv
      rw [if_neg (by omega)] at hv
      rcases hv with rfl | rfl | rfl <;> exact ⟨by decide +kernel, by simp [upd, nmf]⟩)
    have h : f_X12_worked N 1 _ pile s = _ := h
    rw [h]
    simp only [Option.bind_some, p12_held]
    exact ⟨_, _, rfl⟩
theorem pm_thingIs {N : Nat} (hN : 100 ≤ N) (a b : Int32) {s ce me vc : Nat → Int32} {vl : Int32} {g : Nat → Nat → Int32} (hE : ER ce me) (hG : GR g s) (hL : LR 1 vl vc s) (st named pile : Nat → Int32) :
    ∃ v ce' st' me' named' pile', f_X11_thingIs N a b ce g vl vc st = some (v, ce', st') ∧ f_X12_thingIs N a b me named pile s = some (v, me', named', pile') ∧ ER ce' me' := by
  obtain ⟨ts, hL⟩ := hL
  unfold f_X11_thingIs f_X12_thingIs
  simp only [p11_isThing, p12_isThing, p11_within, p12_in, Option.bind_some, bi_0, p11_error1, p12_error1]
  by_cases h1 : 0 ≤ a ∧ a ≤ 7
  rotate_left
  · rw [if_pos h1, if_pos h1]; exact ⟨_, _, _, _, _, _, rfl, rfl, hE.up (by omega)⟩
  rw [if_neg (not_not_intro h1), if_neg (not_not_intro h1)]
  by_cases h2 : 0 ≤ b ∧ b ≤ 3
  rotate_left
  · rw [if_pos h2, if_pos h2]; exact ⟨_, _, _, _, _, _, rfl, rfl, hE.up (by omega)⟩
  rw [if_neg (not_not_intro h2), if_neg (not_not_intro h2)]
  obtain ⟨t, ht, rfl⟩ := in_nat (b := 7) h1 (by omega)
  obtain ⟨w, hw, rfl⟩ := in_nat (b := 3) h2 (by omega)
  simp (disch := omega) only [le_lit, eq_lit]
  by_cases h3 : w ≤ 2
  · rw [if_pos h3, if_neg (show ¬ w = 3 by omega)]
    simp (disch := omega) only [lit_mul, lit_add, on_add, on_vin, on_tn, if_true]
    rw [hG.1 w t (by omega) (by omega)]
    exact ⟨_, _, _, _, _, _, rfl, rfl, hE⟩
  · rw [if_neg h3, if_pos (show w = 3 by omega)]
    obtain ⟨st', e1⟩ := p7_valueOf hN hG hL (show t < 8 by omega) st
    obtain ⟨named', pile', e2⟩ := p12_values hN hL (show t < 8 by omega) named pile
    rw [e1, e2]
    exact ⟨_, _, _, _, _, _, rfl, rfl, hE⟩
theorem pm_checkL {N : Nat} (hN : 100 ≤ N) {j q : Nat} (hj : j < 4) (hq : q ≤ 24) {k0 k1 k2 k3 : Nat} {tn tm s waiting pc : Nat → Int32} {pl : Int32} {ts : List Tok} (hT : TR k0 k1 k2 k3 tn tm s) (hL : LRt 0 ts pl pc s) (hw : ∀ i, i < 24 → waiting i = s (350 + i)) (ce me : Nat → Int32) :
    ∀ (d n n' y : Nat) (st named pile : Nat → Int32), y + d = q → d < n → d < n' →
    ∃ v st' named' pile', f_X11_check_31 N (Int32.ofNat j) (Int32.ofNat q) ce 0 pl pc k0 k1 k2 k3 tn tm waiting (fun v3_8 this_shop_paysLaw_stack_8 => (some ((0 : Int32), ce, (0 : Int32), this_shop_paysLaw_stack_8))) n (Int32.ofNat y) st = some (v, ce, 0, st') ∧
      f_X12_check_29 N (Int32.ofNat j) (Int32.ofNat q) s (fun v3_7 this_named_7 this_pile_7 => (if v3_7 = Int32.ofNat q then (some ((0 : Int32), me, this_named_7, this_pile_7, s)) else (some (((1 : Int32) + v3_7), me, this_named_7, this_pile_7, s)))) n' (Int32.ofNat y) named pile = some (v, me, named', pile', s) := by
  intro d
  induction d with
  | zero =>
    intro n n' y st named pile hy hn hn'
    obtain ⟨n, rfl⟩ : ∃ m, n = m + 1 := ⟨n - 1, by omega⟩
    obtain ⟨n', rfl⟩ : ∃ m, n' = m + 1 := ⟨n' - 1, by omega⟩
    have : y = q := by omega
    subst this
    refine ⟨0, st, named, pile, ?_, ?_⟩
    · rw [f_X11_check_31, if_pos (Int32.le_refl _)]
    · rw [f_X12_check_29, if_pos (Int32.le_refl _), if_pos rfl]
  | succ d ih =>
    intro n n' y st named pile hy hn hn'
    obtain ⟨n, rfl⟩ : ∃ m, n = m + 1 := ⟨n - 1, by omega⟩
    obtain ⟨n', rfl⟩ : ∃ m, n' = m + 1 := ⟨n' - 1, by omega⟩
    obtain ⟨st', e1⟩ := p7_paid hN hT hL hj (n := y + 1) (by omega) 1 st
    obtain ⟨named', pile', e2⟩ := p12_asked hN hT hL hj (n := y + 1) (by omega) 1 named pile
    rw [f_X11_check_31, f_X12_check_29]
    rw [show (1 : Int32) + Int32.ofNat y = Int32.ofNat (y + 1) by rw [lit_add, Nat.add_comm]]
    simp (disch := omega) only [on_le, lit_le, lit_add, add_lit, on_vin, on_tn, if_true, e1, e2, Option.bind_some]
    rw [if_neg (show ¬ q ≤ y by omega), if_neg (show ¬ 24 ≤ y by omega), if_neg (show ¬ q ≤ y by omega), hw y (by omega)]
    by_cases h : s (350 + y) = payV s ts j (y + 1) 1
    · rw [if_pos h, if_pos h]
      exact ih n n' (y + 1) st' named' pile' (by omega) (by omega) (by omega)
    · rw [if_neg h, if_neg h, if_neg (by rw [on_inj (by omega) (by omega)]; omega)]
      exact ⟨_, _, _, _, rfl, rfl⟩
theorem pm_check {N : Nat} (hN : 100 ≤ N) (a : Int32) {k0 k1 k2 k3 : Nat} {tn tm s ce me waiting pc : Nat → Int32} {pl waits : Int32} (hE : ER ce me) (hT : TR k0 k1 k2 k3 tn tm s) (hL : LR 0 pl pc s) (hW : WR waits waiting s) (st named pile : Nat → Int32) :
    ∃ v ce' w' st' me' named' pile' s', f_X11_check N a ce waits pl pc st k0 k1 k2 k3 tn tm waiting = some (v, ce', w', st') ∧ f_X12_check N a me named pile s = some (v, me', named', pile', s') ∧ ER ce' me' ∧ WR w' waiting s' ∧ ∀ j, j ≠ 4 → s' j = s j := by
  obtain ⟨ts, hL⟩ := hL
  obtain ⟨h1, h3, h4⟩ := hW
  obtain ⟨q, hq, e⟩ := in_nat (b := 24) h3 (by omega)
  have hW' : WR 0 waiting (upd s 4 0) := ⟨(upd_at _ _ _).symm, by rw [upd_at]; decide, fun j hj => by rw [upd_ne _ _ (by omega)]; exact h4 j hj⟩
  unfold f_X11_check f_X12_check
  rw [show (4 : Int32).toNatClampNeg = 4 from rfl, h1, e]
  simp only [p11_isTill, p12_isTill, Option.bind_some, bi_0, p11_error1, p12_error1]
  by_cases h2 : 0 ≤ a ∧ a ≤ 3
  · rw [if_neg (not_not_intro h2), if_neg (not_not_intro h2)]
    obtain ⟨j, hj, rfl⟩ := in_nat (b := 3) h2 (by omega)
    obtain ⟨v, st', named', pile', k1, k2⟩ := pm_checkL hN (show j < 4 by omega) hq (hT.frame (s' := upd s 4 0) (fun j h _ => upd_ne _ _ (by omega))) (hL.frame (s' := upd s 4 0) (fun j h _ => upd_ne _ _ (by omega))) hW'.2.2 ce me q N N 0 st named pile (by omega) (by omega) (by omega)
    exact ⟨v, ce, 0, st', me, named', pile', upd s 4 0, k1, k2, hE, hW', fun j hj => upd_ne _ _ hj⟩
  · rw [if_pos h2, if_pos h2]
    exact ⟨_, _, _, _, _, _, _, _, rfl, rfl, hE.up (by omega), hW', fun j hj => upd_ne _ _ hj⟩
end PPAYS
