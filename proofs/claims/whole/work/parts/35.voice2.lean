/-! PURE: voices, both -/
section PVOICE2
def vd_a (N k : Nat) (x r1 : Int32) (b : Nat → Int32) (P M : Int32) : Option (Int32 × Int32 × (Nat → Int32)) := (if k = 8 then ((f_X8_adds N x r1 b P).bind fun q => some (q.1, q.2.1, q.2.2)) else (if k = 1 then ((f_X8_adds_X1 N x r1 b P).bind fun q => some (q.1, q.2.1, q.2.2)) else (if k = 2 then ((f_X2_adds N x r1 b P).bind fun q => some (q.1, q.2.1, q.2.2)) else (if k = 3 then ((f_X3_adds N x r1 b P).bind fun q => some (q.1, q.2.1, q.2.2)) else (if k = 5 then ((f_X8_adds_X5 N x r1 b P).bind fun q => some (q.1, q.2.1, q.2.2)) else (if k = 6 then ((f_X8_adds_X6 N x r1 b P).bind fun q => some (q.1, q.2.1, q.2.2)) else (if k = 9 then ((f_X9_adds N x r1 b).bind fun q => some (q.1, q.2.1, q.2.2)) else none)))))))
def vd_c (N k : Nat) (x r1 : Int32) (b : Nat → Int32) (P M : Int32) : Option (Int32 × Int32 × (Nat → Int32)) := (if k = 8 then ((f_X8_comes N x r1 b P).bind fun q => some (q.1, q.2.1, q.2.2)) else (if k = 1 then ((f_X8_comes_X1 N x r1 b P).bind fun q => some (q.1, q.2.1, q.2.2)) else (if k = 2 then ((f_X8_comes_X2 N x r1 b P).bind fun q => some (q.1, q.2.1, q.2.2)) else (if k = 3 then ((f_X8_comes_X3 N x r1 b P).bind fun q => some (q.1, q.2.1, q.2.2)) else (if k = 5 then ((f_X5_comes N x r1 b P).bind fun q => some (q.1, q.2.1, q.2.2)) else (if k = 6 then ((f_X6_comes N x r1 b P).bind fun q => some (q.1, q.2.1, q.2.2)) else (if k = 9 then ((f_X9_comes N x r1 b M).bind fun q => some (q.1, q.2.1, q.2.2)) else none)))))))
def vd_g (N k : Nat) (x r1 : Int32) (b : Nat → Int32) (P M : Int32) : Option (Int32 × Int32 × (Nat → Int32)) := (if k = 8 then ((f_X8_gives N x r1 b P M).bind fun q => some (q.1, q.2.1, q.2.2)) else (if k = 1 then ((f_X1_gives N x r1 b P M).bind fun q => some (q.1, q.2.1, q.2.2)) else (if k = 2 then ((f_X2_gives N x r1 b P M).bind fun q => some (q.1, q.2.1, q.2.2)) else (if k = 3 then ((f_X8_gives_X3 N x r1 b P M).bind fun q => some (q.1, q.2.1, q.2.2)) else (if k = 5 then ((f_X8_gives_X5 N x r1 b P M).bind fun q => some (q.1, q.2.1, q.2.2)) else (if k = 6 then ((f_X8_gives_X6 N x r1 b P M).bind fun q => some (q.1, q.2.1, q.2.2)) else (if k = 9 then ((f_X8_gives_X9 N x r1 b M).bind fun q => some (q.1, q.2.1, q.2.2)) else none)))))))
def vd_p (N k : Nat) (x r1 r2 : Int32) (b : Nat → Int32) (P M : Int32) : Option (Int32 × Int32 × Int32 × (Nat → Int32)) := (if k = 8 then ((f_X8_parts N x r1 r2 b P M).bind fun q => some (q.1, q.2.1, q.2.2.1, q.2.2.2)) else (if k = 1 then ((f_X8_parts_X1 N x r1 r2 b P M).bind fun q => some (q.1, q.2.1, q.2.2.1, q.2.2.2)) else (if k = 2 then ((f_X3_parts_X2 N x r1 r2 b P M).bind fun q => some (q.1, q.2.1, q.2.2.1, q.2.2.2)) else (if k = 3 then ((f_X3_parts N x r1 r2 b P M).bind fun q => some (q.1, q.2.1, q.2.2.1, q.2.2.2)) else (if k = 5 then ((f_X8_parts_X5 N x r1 r2 b P M).bind fun q => some (q.1, q.2.1, q.2.2.1, q.2.2.2)) else (if k = 6 then ((f_X8_parts_X6 N x r1 r2 b P M).bind fun q => some (q.1, q.2.1, q.2.2.1, q.2.2.2)) else (if k = 9 then ((f_X8_parts_X9 N x r1 r2 b P M).bind fun q => some (q.1, q.2.1, q.2.2.1, q.2.2.2)) else none)))))))
theorem vt_a (N : Nat) {κ : Nat} (hκ : κ ≤ 6) (x P M : Int32) (s : Nat → Int32) (hk : f_X12_kindOf N P s = some (Int32.ofNat κ)) (hm : f_X12_mOf N P s = some M) : ∃ (v : Int32) (l : List Int32), l.length ≤ 30 ∧ (∀ b, vd_a N (tk (Int32.ofNat κ)) x 0 b P M = some (v, Int32.ofNat l.length, app b 0 l)) ∧ ∀ b, f_X12_addsAs N 4 (Int32.ofNat κ) x 0 P b = some (v, Int32.ofNat l.length, app b 0 l) := by
  have : κ = 0 ∨ κ = 1 ∨ κ = 2 ∨ κ = 3 ∨ κ = 4 ∨ κ = 5 ∨ κ = 6 := by omega
  rcases this with rfl | rfl | rfl | rfl | rfl | rfl | rfl
  · obtain ⟨v, h1, h2⟩ := vo_a0 N x P M s hk hm
    refine ⟨v, [10], by decide, fun b => ?_, h2⟩
    rw [tk0]
    exact (congrArg (fun o => Option.bind o (fun q => some (q.1, q.2.1, q.2.2))) (h1 b)).trans rfl
  · obtain ⟨v, h1, h2⟩ := vo_a1 N x P M s hk hm
    refine ⟨v, [20, 10], by decide, fun b => ?_, h2⟩
    rw [tk1]
    exact (congrArg (fun o => Option.bind o (fun q => some (q.1, q.2.1, q.2.2))) (h1 b)).trans rfl
  · obtain ⟨v, h1, h2⟩ := vo_a2 N x P M s hk hm
    refine ⟨v, [10], by decide, fun b => ?_, h2⟩
    rw [tk2]
    exact (congrArg (fun o => Option.bind o (fun q => some (q.1, q.2.1, q.2.2))) (h1 b)).trans rfl
  · obtain ⟨v, h1, h2⟩ := vo_a3 N x P M s hk hm
    refine ⟨v, [10], by decide, fun b => ?_, h2⟩
    rw [tk3]
    exact (congrArg (fun o => Option.bind o (fun q => some (q.1, q.2.1, q.2.2))) (h1 b)).trans rfl
  · obtain ⟨v, h1, h2⟩ := vo_a4 N x P M s hk hm
    refine ⟨v, [10], by decide, fun b => ?_, h2⟩
    rw [tk4]
    exact (congrArg (fun o => Option.bind o (fun q => some (q.1, q.2.1, q.2.2))) (h1 b)).trans rfl
  · obtain ⟨v, h1, h2⟩ := vo_a5 N x P M s hk hm
    refine ⟨v, [50, 20, 10], by decide, fun b => ?_, h2⟩
    rw [tk5]
    exact (congrArg (fun o => Option.bind o (fun q => some (q.1, q.2.1, q.2.2))) (h1 b)).trans rfl
  · obtain ⟨v, h1, h2⟩ := vo_a6 N x P M s hk hm
    refine ⟨v, [70], by decide, fun b => ?_, h2⟩
    rw [tk6]
    exact (congrArg (fun o => Option.bind o (fun q => some (q.1, q.2.1, q.2.2))) (h1 b)).trans rfl
theorem vt_c (N : Nat) {κ : Nat} (hκ : κ ≤ 6) (x P M : Int32) (s : Nat → Int32) (hk : f_X12_kindOf N P s = some (Int32.ofNat κ)) (hm : f_X12_mOf N P s = some M) : ∃ (v : Int32) (l : List Int32), l.length ≤ 30 ∧ (∀ b, vd_c N (tk (Int32.ofNat κ)) x 0 b P M = some (v, Int32.ofNat l.length, app b 0 l)) ∧ ∀ b, f_X12_comesAs N 4 (Int32.ofNat κ) x 0 P s b = some (v, Int32.ofNat l.length, app b 0 l) := by
  have : κ = 0 ∨ κ = 1 ∨ κ = 2 ∨ κ = 3 ∨ κ = 4 ∨ κ = 5 ∨ κ = 6 := by omega
  rcases this with rfl | rfl | rfl | rfl | rfl | rfl | rfl
  · obtain ⟨v, h1, h2⟩ := vo_c0 N x P M s hk hm
    refine ⟨v, [11, 10], by decide, fun b => ?_, h2⟩
    rw [tk0]
    exact (congrArg (fun o => Option.bind o (fun q => some (q.1, q.2.1, q.2.2))) (h1 b)).trans rfl
  · obtain ⟨v, h1, h2⟩ := vo_c1 N x P M s hk hm
    refine ⟨v, [11, 20, 10], by decide, fun b => ?_, h2⟩
    rw [tk1]
    exact (congrArg (fun o => Option.bind o (fun q => some (q.1, q.2.1, q.2.2))) (h1 b)).trans rfl
  · obtain ⟨v, h1, h2⟩ := vo_c2 N x P M s hk hm
    refine ⟨v, [30, 11, 10], by decide, fun b => ?_, h2⟩
    rw [tk2]
    exact (congrArg (fun o => Option.bind o (fun q => some (q.1, q.2.1, q.2.2))) (h1 b)).trans rfl
  · obtain ⟨v, h1, h2⟩ := vo_c3 N x P M s hk hm
    refine ⟨v, [11, 10], by decide, fun b => ?_, h2⟩
    rw [tk3]
    exact (congrArg (fun o => Option.bind o (fun q => some (q.1, q.2.1, q.2.2))) (h1 b)).trans rfl
  · obtain ⟨v, h1, h2⟩ := vo_c4 N x P M s hk hm
    refine ⟨v, [60, 30, 11, 10], by decide, fun b => ?_, h2⟩
    rw [tk4]
    exact (congrArg (fun o => Option.bind o (fun q => some (q.1, q.2.1, q.2.2))) (h1 b)).trans rfl
  · obtain ⟨v, h1, h2⟩ := vo_c5 N x P M s hk hm
    refine ⟨v, [11, 50, 20, 10], by decide, fun b => ?_, h2⟩
    rw [tk5]
    exact (congrArg (fun o => Option.bind o (fun q => some (q.1, q.2.1, q.2.2))) (h1 b)).trans rfl
  · obtain ⟨v, h1, h2⟩ := vo_c6 N x P M s hk hm
    refine ⟨v, [71, 11, 70], by decide, fun b => ?_, h2⟩
    rw [tk6]
    exact (congrArg (fun o => Option.bind o (fun q => some (q.1, q.2.1, q.2.2))) (h1 b)).trans rfl
theorem vt_g (N : Nat) {κ : Nat} (hκ : κ ≤ 6) (x P M : Int32) (s : Nat → Int32) (hk : f_X12_kindOf N P s = some (Int32.ofNat κ)) (hm : f_X12_mOf N P s = some M) : ∃ (v : Int32) (l : List Int32), l.length ≤ 30 ∧ (∀ b, vd_g N (tk (Int32.ofNat κ)) x 0 b P M = some (v, Int32.ofNat l.length, app b 0 l)) ∧ ∀ b, f_X12_givesAs N 4 (Int32.ofNat κ) x 0 P s b = some (v, Int32.ofNat l.length, app b 0 l) := by
  have : κ = 0 ∨ κ = 1 ∨ κ = 2 ∨ κ = 3 ∨ κ = 4 ∨ κ = 5 ∨ κ = 6 := by omega
  rcases this with rfl | rfl | rfl | rfl | rfl | rfl | rfl
  · obtain ⟨v, h1, h2⟩ := vo_g0 N x P M s hk hm
    refine ⟨v, [12, 11, 10], by decide, fun b => ?_, h2⟩
    rw [tk0]
    exact (congrArg (fun o => Option.bind o (fun q => some (q.1, q.2.1, q.2.2))) (h1 b)).trans rfl
  · obtain ⟨v, h1, h2⟩ := vo_g1 N x P M s hk hm
    refine ⟨v, [12, 11, 20, 10], by decide, fun b => ?_, h2⟩
    rw [tk1]
    exact (congrArg (fun o => Option.bind o (fun q => some (q.1, q.2.1, q.2.2))) (h1 b)).trans rfl
  · obtain ⟨v, h1, h2⟩ := vo_g2 N x P M s hk hm
    refine ⟨v, [12, 30, 11, 10], by decide, fun b => ?_, h2⟩
    rw [tk2]
    exact (congrArg (fun o => Option.bind o (fun q => some (q.1, q.2.1, q.2.2))) (h1 b)).trans rfl
  · obtain ⟨v, h1, h2⟩ := vo_g3 N x P M s hk hm
    refine ⟨v, [40, 12, 11, 10], by decide, fun b => ?_, h2⟩
    rw [tk3]
    exact (congrArg (fun o => Option.bind o (fun q => some (q.1, q.2.1, q.2.2))) (h1 b)).trans rfl
  · obtain ⟨v, h1, h2⟩ := vo_g4 N x P M s hk hm
    refine ⟨v, [12, 60, 30, 11, 10], by decide, fun b => ?_, h2⟩
    rw [tk4]
    exact (congrArg (fun o => Option.bind o (fun q => some (q.1, q.2.1, q.2.2))) (h1 b)).trans rfl
  · obtain ⟨v, h1, h2⟩ := vo_g5 N x P M s hk hm
    refine ⟨v, [51, 12, 11, 50, 20, 10], by decide, fun b => ?_, h2⟩
    rw [tk5]
    exact (congrArg (fun o => Option.bind o (fun q => some (q.1, q.2.1, q.2.2))) (h1 b)).trans rfl
  · obtain ⟨v, h1, h2⟩ := vo_g6 N x P M s hk hm
    refine ⟨v, [12, 71, 11, 70], by decide, fun b => ?_, h2⟩
    rw [tk6]
    exact (congrArg (fun o => Option.bind o (fun q => some (q.1, q.2.1, q.2.2))) (h1 b)).trans rfl
theorem vt_p (N : Nat) {κ : Nat} (hκ : κ ≤ 6) (x P M : Int32) (s : Nat → Int32) (hk : f_X12_kindOf N P s = some (Int32.ofNat κ)) (hm : f_X12_mOf N P s = some M) : ∃ (v pt : Int32) (l : List Int32), l.length ≤ 30 ∧ (∀ b, vd_p N (tk (Int32.ofNat κ)) x 0 0 b P M = some (v, Int32.ofNat l.length, pt, app b 0 l)) ∧ ∀ b, f_X12_partsAs N 4 (Int32.ofNat κ) x 0 P 0 s b = some (v, Int32.ofNat l.length, pt, app b 0 l) := by
  have : κ = 0 ∨ κ = 1 ∨ κ = 2 ∨ κ = 3 ∨ κ = 4 ∨ κ = 5 ∨ κ = 6 := by omega
  by_cases h : M - P = 0
  · rcases this with rfl | rfl | rfl | rfl | rfl | rfl | rfl
    · obtain ⟨h1, h2⟩ := vo_z0 N x P M s hk hm h
      refine ⟨0, 1, [13], by decide, fun b => ?_, h2⟩
      rw [tk0]
      exact (congrArg (fun o => Option.bind o (fun q => some (q.1, q.2.1, q.2.2.1, q.2.2.2))) (h1 b)).trans rfl
    · obtain ⟨h1, h2⟩ := vo_z1 N x P M s hk hm h
      refine ⟨0, 1, [21, 13], by decide, fun b => ?_, h2⟩
      rw [tk1]
      exact (congrArg (fun o => Option.bind o (fun q => some (q.1, q.2.1, q.2.2.1, q.2.2.2))) (h1 b)).trans rfl
    · obtain ⟨h1, h2⟩ := vo_z2 N x P M s hk hm h
      refine ⟨0, 1, [13], by decide, fun b => ?_, h2⟩
      rw [tk2]
      exact (congrArg (fun o => Option.bind o (fun q => some (q.1, q.2.1, q.2.2.1, q.2.2.2))) (h1 b)).trans rfl
    · obtain ⟨h1, h2⟩ := vo_z3 N x P M s hk hm h
      refine ⟨0, 1, [13], by decide, fun b => ?_, h2⟩
      rw [tk3]
      exact (congrArg (fun o => Option.bind o (fun q => some (q.1, q.2.1, q.2.2.1, q.2.2.2))) (h1 b)).trans rfl
    · obtain ⟨h1, h2⟩ := vo_z4 N x P M s hk hm h
      refine ⟨0, 1, [13], by decide, fun b => ?_, h2⟩
      rw [tk4]
      exact (congrArg (fun o => Option.bind o (fun q => some (q.1, q.2.1, q.2.2.1, q.2.2.2))) (h1 b)).trans rfl
    · obtain ⟨h1, h2⟩ := vo_z5 N x P M s hk hm h
      refine ⟨0, 1, [21, 13], by decide, fun b => ?_, h2⟩
      rw [tk5]
      exact (congrArg (fun o => Option.bind o (fun q => some (q.1, q.2.1, q.2.2.1, q.2.2.2))) (h1 b)).trans rfl
    · obtain ⟨h1, h2⟩ := vo_z6 N x P M s hk hm h
      refine ⟨0, 1, [13], by decide, fun b => ?_, h2⟩
      rw [tk6]
      exact (congrArg (fun o => Option.bind o (fun q => some (q.1, q.2.1, q.2.2.1, q.2.2.2))) (h1 b)).trans rfl
  · rcases this with rfl | rfl | rfl | rfl | rfl | rfl | rfl
    · obtain ⟨v, h1, h2⟩ := vo_p0 N x P M s hk hm h
      refine ⟨v, 0, [13], by decide, fun b => ?_, h2⟩
      rw [tk0]
      exact (congrArg (fun o => Option.bind o (fun q => some (q.1, q.2.1, q.2.2.1, q.2.2.2))) (h1 b)).trans rfl
    · obtain ⟨v, h1, h2⟩ := vo_p1 N x P M s hk hm h
      refine ⟨v, 0, [21, 13, 11, 20, 10], by decide, fun b => ?_, h2⟩
      rw [tk1]
      exact (congrArg (fun o => Option.bind o (fun q => some (q.1, q.2.1, q.2.2.1, q.2.2.2))) (h1 b)).trans rfl
    · obtain ⟨v, h1, h2⟩ := vo_p2 N x P M s hk hm h
      refine ⟨v, 0, [13], by decide, fun b => ?_, h2⟩
      rw [tk2]
      exact (congrArg (fun o => Option.bind o (fun q => some (q.1, q.2.1, q.2.2.1, q.2.2.2))) (h1 b)).trans rfl
    · obtain ⟨v, h1, h2⟩ := vo_p3 N x P M s hk hm h
      refine ⟨v, 0, [13], by decide, fun b => ?_, h2⟩
      rw [tk3]
      exact (congrArg (fun o => Option.bind o (fun q => some (q.1, q.2.1, q.2.2.1, q.2.2.2))) (h1 b)).trans rfl
    · obtain ⟨v, h1, h2⟩ := vo_p4 N x P M s hk hm h
      refine ⟨v, 0, [13], by decide, fun b => ?_, h2⟩
      rw [tk4]
      exact (congrArg (fun o => Option.bind o (fun q => some (q.1, q.2.1, q.2.2.1, q.2.2.2))) (h1 b)).trans rfl
    · obtain ⟨v, h1, h2⟩ := vo_p5 N x P M s hk hm h
      refine ⟨v, 0, [21, 13, 11, 50, 20, 10], by decide, fun b => ?_, h2⟩
      rw [tk5]
      exact (congrArg (fun o => Option.bind o (fun q => some (q.1, q.2.1, q.2.2.1, q.2.2.2))) (h1 b)).trans rfl
    · obtain ⟨v, h1, h2⟩ := vo_p6 N x P M s hk hm h
      refine ⟨v, 0, [13], by decide, fun b => ?_, h2⟩
      rw [tk6]
      exact (congrArg (fun o => Option.bind o (fun q => some (q.1, q.2.1, q.2.2.1, q.2.2.2))) (h1 b)).trans rfl
theorem pm_voice {N : Nat} (a b x : Int32) {k0 k1 k2 k3 : Nat} {tn tm ce me s bodies mtrace : Nat → Int32} {len parted traced speaks isP : Int32} (hE : ER ce me) (hT : TR k0 k1 k2 k3 tn tm s) (hC : CR len bodies traced mtrace) :
    ∃ v ce' len' parted' bodies' traced' speaks' isP' me' mtrace', f_X11_voice N a b x ce k0 k1 k2 k3 tn tm len parted bodies = some (v, ce', len', parted', bodies') ∧ f_X12_voice N a b x traced speaks isP me s mtrace = some (v, traced', speaks', isP', me', mtrace') ∧ ER ce' me' ∧ CR len' bodies' traced' mtrace' := by
  unfold f_X11_voice f_X12_voice
  rw [p11_isTill, p12_isTill, p11_within, p12_in, Option.bind_some, Option.bind_some, Option.bind_some, Option.bind_some]
  by_cases h1 : 0 ≤ a ∧ a ≤ 3
  rotate_left
  · have n1 : bi (0 ≤ a ∧ a ≤ 3) = 0 := by rw [bi_0]; exact h1
    rw [if_pos n1, if_pos n1, p11_error1, p12_error1]
    exact ⟨_, _, _, _, _, _, _, _, _, _, rfl, rfl, hE.up (by omega), hC⟩
  have n1 : ¬ bi (0 ≤ a ∧ a ≤ 3) = 0 := by rw [bi_0]; exact not_not_intro h1
  rw [if_neg n1, if_neg n1]
  by_cases h2 : 0 ≤ b ∧ b ≤ 3
  rotate_left
  · have n2 : bi (0 ≤ b ∧ b ≤ 3) = 0 := by rw [bi_0]; exact h2
    rw [if_pos n2, if_pos n2, p11_error1, p12_error1]
    exact ⟨_, _, _, _, _, _, _, _, _, _, rfl, rfl, hE.up (by omega), hC⟩
  have n2 : ¬ bi (0 ≤ b ∧ b ≤ 3) = 0 := by rw [bi_0]; exact not_not_intro h2
  rw [if_neg n2, if_neg n2]
  obtain ⟨j, hj, rfl⟩ := in_nat (b := 3) h1 (by omega)
  obtain ⟨κ, mm, hκ, hm, e1, e2, e3, e4, e5⟩ := hT.nat (show j < 4 by omega)
  have hk : f_X12_kindOf N (Int32.ofNat j) s = some (Int32.ofNat κ) := by rw [p12_kindOf N (by omega), e1]
  have hmo : f_X12_mOf N (Int32.ofNat j) s = some (Int32.ofNat mm) := by rw [p12_mOf N (by omega), e2]
  rw [hk, Option.bind_some, show f_X10_start N len parted = some (0, 0) from rfl, Option.bind_some]
  dsimp only
  rw [if_pos (of_eq_true (on_vin (k := j) (by omega) (by omega))), on_tn (k := j) (by omega), e3, e4, e5]
  have fin : ∀ (v : Int32) (l : List Int32), l.length ≤ 30 → CR (Int32.ofNat l.length) (app bodies 0 l) (Int32.ofNat l.length) (app mtrace 0 l) := fun v l hl => ⟨rfl, ⟨on_nn (by omega), by rw [le_lit (by omega) (by omega)]; exact hl⟩, fun i hi => app_congr l 0 _ _ hC.2.2 i hi⟩
  by_cases q0 : b = 0
  · rw [if_pos q0, if_pos q0]
    obtain ⟨v, l, hl, f1, f2⟩ := vt_a N hκ x (Int32.ofNat j) (Int32.ofNat mm) s hk hmo
    rw [f2 mtrace, Option.bind_some]
    dsimp only
    rw [if_pos rfl]
    refine ⟨v, ce, _, 0, _, _, _, _, _, _, ?_, rfl, hE, fin v l hl⟩
    exact (congrArg (fun o => Option.bind o (fun r9 => if (0 : Int32) = 0 then some (r9.1, ce, r9.2.1, (0 : Int32), r9.2.2) else ((f_X11_error N 6 ce).bind fun r12 => (some (r12.1, r12.2, r9.2.1, (0 : Int32), r9.2.2))))) (f1 bodies)).trans (by rw [Option.bind_some, if_pos rfl])
  rw [if_neg q0, if_neg q0]
  by_cases q1 : b = 1
  · rw [if_pos q1, if_pos q1]
    obtain ⟨v, l, hl, f1, f2⟩ := vt_c N hκ x (Int32.ofNat j) (Int32.ofNat mm) s hk hmo
    rw [f2 mtrace, Option.bind_some]
    dsimp only
    rw [if_pos rfl]
    refine ⟨v, ce, _, 0, _, _, _, _, _, _, ?_, rfl, hE, fin v l hl⟩
    exact (congrArg (fun o => Option.bind o (fun r9 => if (0 : Int32) = 0 then some (r9.1, ce, r9.2.1, (0 : Int32), r9.2.2) else ((f_X11_error N 6 ce).bind fun r12 => (some (r12.1, r12.2, r9.2.1, (0 : Int32), r9.2.2))))) (f1 bodies)).trans (by rw [Option.bind_some, if_pos rfl])
  rw [if_neg q1, if_neg q1]
  by_cases q2 : b = 2
  · rw [if_pos q2, if_pos q2]
    obtain ⟨v, l, hl, f1, f2⟩ := vt_g N hκ x (Int32.ofNat j) (Int32.ofNat mm) s hk hmo
    rw [f2 mtrace, Option.bind_some]
    dsimp only
    rw [if_pos rfl]
    refine ⟨v, ce, _, 0, _, _, _, _, _, _, ?_, rfl, hE, fin v l hl⟩
    exact (congrArg (fun o => Option.bind o (fun r9 => if (0 : Int32) = 0 then some (r9.1, ce, r9.2.1, (0 : Int32), r9.2.2) else ((f_X11_error N 6 ce).bind fun r12 => (some (r12.1, r12.2, r9.2.1, (0 : Int32), r9.2.2))))) (f1 bodies)).trans (by rw [Option.bind_some, if_pos rfl])
  rw [if_neg q2, if_neg q2]
  obtain ⟨v, pt, l, hl, f1, f2⟩ := vt_p N hκ x (Int32.ofNat j) (Int32.ofNat mm) s hk hmo
  rw [f2 mtrace, Option.bind_some]
  dsimp only
  by_cases hp : pt = 0
  · rw [if_pos hp]
    refine ⟨v, ce, _, pt, _, _, _, _, _, _, ?_, rfl, hE, fin v l hl⟩
    exact (congrArg (fun o => Option.bind o (fun r9 => if r9.2.2.1 = 0 then some (r9.1, ce, r9.2.1, r9.2.2.1, r9.2.2.2) else ((f_X11_error N 6 ce).bind fun r12 => (some (r12.1, r12.2, r9.2.1, r9.2.2.1, r9.2.2.2))))) (f1 bodies)).trans (by rw [Option.bind_some, if_pos hp])
  · rw [if_neg hp, p12_error6, Option.bind_some]
    refine ⟨eLow 6, upd ce 6 (ce 6 + 1), _, pt, _, _, _, _, _, _, ?_, rfl, hE.up (by omega), fin v l hl⟩
    exact (congrArg (fun o => Option.bind o (fun r9 => if r9.2.2.1 = 0 then some (r9.1, ce, r9.2.1, r9.2.2.1, r9.2.2.2) else ((f_X11_error N 6 ce).bind fun r12 => (some (r12.1, r12.2, r9.2.1, r9.2.2.1, r9.2.2.2))))) (f1 bodies)).trans (by rw [Option.bind_some, if_neg hp, p11_error6, Option.bind_some])
end PVOICE2
