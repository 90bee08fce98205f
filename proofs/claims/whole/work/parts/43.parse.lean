/-! PURE: texts are read: the pieces -/
section PPARSE
theorem evs_append (nm : Int32 → Int32) : ∀ (a b : List Tok) (st : List Int32), evs nm (a ++ b) st = (evs nm a st).bind (evs nm b)
  | [], b, st => rfl
  | (w, v) :: a, b, st => by
    rw [List.cons_append, evs_cons, evs_cons]
    by_cases h0 : w = 0
    · rw [if_pos h0, if_pos h0]; exact evs_append nm a b _
    rw [if_neg h0, if_neg h0]
    by_cases h1 : w = 1
    · rw [if_pos h1, if_pos h1]; exact evs_append nm a b _
    rw [if_neg h1, if_neg h1]
    by_cases h2 : w = 2
    · rw [if_pos h2, if_pos h2]
      cases st with
      | nil => rfl
      | cons x r => exact evs_append nm a b _
    rw [if_neg h2, if_neg h2]
    match st with
    | [] => rfl
    | [_] => rfl
    | y :: x :: r => exact evs_append nm a b _
theorem RP.bin {a b : List Tok} (ha : RP a) (hb : RP b) (v : Int32) : RP (a ++ b ++ [(3, v)]) := by
  intro nm st
  obtain ⟨x, hx⟩ := ha nm st
  obtain ⟨y, hy⟩ := hb nm (x :: st)
  refine ⟨jn v x y, ?_⟩
  rw [evs_append, evs_append, hx, Option.bind_some, hy, Option.bind_some, evs_cons, if_neg (by decide), if_neg (by decide), if_neg (by decide)]
  rfl
theorem RP.nt {a : List Tok} (ha : RP a) : RP (a ++ [(2, 0)]) := by
  intro nm st
  obtain ⟨x, hx⟩ := ha nm st
  refine ⟨if x = 0 then 1 else 0, ?_⟩
  rw [evs_append, hx, Option.bind_some, evs_cons, if_neg (by decide), if_neg (by decide), if_pos rfl]
  rfl
theorem RP.num (v : Int32) : RP [(0, v)] := fun nm st => ⟨v, by rw [evs_cons, if_pos rfl]; rfl⟩
theorem RP.name (v : Int32) : RP [(1, v)] := fun nm st => ⟨nm v, by rw [evs_cons, if_neg (by decide), if_pos rfl]; rfl⟩
/-- what is read stands in both drafts -/
def Tks (ts : List Tok) (draft step : Nat → Int32) : Prop := ∀ (i : Nat) (t : Tok), ts[i]? = some t → draft i = enc t ∧ step (2 * i) = t.1 ∧ step (2 * i + 1) = t.2
theorem Tks.push {ts : List Tok} {draft step : Nat → Int32} (h : Tks ts draft step) (t : Tok) : Tks (ts ++ [t]) (upd draft ts.length (enc t)) (upd (upd step (2 * ts.length) t.1) (2 * ts.length + 1) t.2) := by
  intro i x hx
  by_cases hi : i < ts.length
  · rw [List.getElem?_append_left hi] at hx
    rw [upd_ne _ _ (by omega), upd_ne _ _ (by omega), upd_ne _ _ (by omega), upd_ne _ _ (by omega), upd_ne _ _ (by omega)]
    exact h i x hx
  · rw [List.getElem?_append_right (by omega)] at hx
    have hi2 : i = ts.length := by
      by_cases e : i = ts.length
      · exact e
      · obtain ⟨k, hk⟩ : ∃ k, i - ts.length = k + 1 := ⟨i - ts.length - 1, by omega⟩
        rw [hk] at hx; simp at hx
    subst hi2
    rw [Nat.sub_self] at hx
    have hx : t = x := by simpa using hx
    subst hx
    exact ⟨upd_at _ _ _, by rw [upd_ne _ _ (by omega), upd_at], upd_at _ _ _⟩
def bt (E : Nat) (s : Nat → Int32) (p : Nat) : Int32 := if p < E then s (290 + p) else -1
theorem nx0 (N : Nat) {E : Nat} (hE : E ≤ 60) {bytes s : Nat → Int32} (hby : ∀ i, i < E → bytes i = s (290 + i)) {p : Nat} (hp : p ≤ E) : f_X4_next N (Int32.ofNat E) (Int32.ofNat p) 0 bytes = some (bt E s p) := by
  unfold f_X4_next bt
  rw [if_pos rfl]
  by_cases h : p < E
  · rw [if_pos (show Int32.ofNat p < Int32.ofNat E by rw [on_lt (by omega) (by omega)]; exact h), if_pos (of_eq_true (on_vin (by omega) (by omega))), on_tn (k := p) (by omega), if_pos h, hby p h]
  · rw [if_neg (show ¬ Int32.ofNat p < Int32.ofNat E by rw [on_lt (by omega) (by omega)]; exact h), if_neg h]
theorem nx1 (N : Nat) (e p : Int32) (bytes : Nat → Int32) : f_X4_next N e p 1 bytes = some (-1) := by
  unfold f_X4_next
  rw [if_neg (by decide)]
theorem lk (N : Nat) {E : Nat} (hE : E ≤ 60) {s : Nat → Int32} (hs3 : s 3 = Int32.ofNat E) {p : Nat} (hp : p ≤ E) : f_X12_look N (Int32.ofNat p) s = some (bt E s p) := by
  unfold f_X12_look bt
  rw [show (3 : Int32).toNatClampNeg = 3 from rfl, hs3]
  by_cases h : p < E
  · rw [if_neg (show ¬ Int32.ofNat E ≤ Int32.ofNat p by rw [on_le (by omega) (by omega)]; omega), show (290 : Int32) + Int32.ofNat p = Int32.ofNat (290 + p) from lit_add 290 p, if_pos (of_eq_true (on_vin (by omega) (by omega))), on_tn (k := 290 + p) (by omega), if_pos h]
  · rw [if_pos (show Int32.ofNat E ≤ Int32.ofNat p by rw [on_le (by omega) (by omega)]; omega), if_neg h]
theorem wr0 (N : Nat) {q : Nat} (hq : q < 60) (v : Int32) (draft : Nat → Int32) : f_X4_write N v (Int32.ofNat q) draft = some (Int32.ofNat (q + 1), upd draft q v) := by
  unfold f_X4_write
  rw [if_neg (show ¬ (60 : Int32) ≤ Int32.ofNat q by rw [lit_le (by omega) (by omega)]; omega), if_pos (of_eq_true (on_vin (by omega) (by omega))), on_tn (k := q) (by omega), show Int32.ofNat q + (1 : Int32) = Int32.ofNat (q + 1) from add_lit 1 q]
theorem wr1 (N : Nat) {q : Nat} (hq : q ≤ 60) (v : Int32) (draft : Nat → Int32) : ∃ q' draft', q' ≤ 60 ∧ f_X4_write N v (Int32.ofNat q) draft = some (Int32.ofNat q', draft') := by
  by_cases h : q < 60
  · exact ⟨_, _, by omega, wr0 N h v draft⟩
  · refine ⟨q, draft, hq, ?_⟩
    unfold f_X4_write
    rw [if_pos (show (60 : Int32) ≤ Int32.ofNat q by rw [lit_le (by omega) (by omega)]; omega)]
theorem st0 (N : Nat) {q : Nat} (hq : q < 60) (w v : Int32) (step : Nat → Int32) : f_X12_step1 N w v (Int32.ofNat q) step = some (Int32.ofNat (q + 1), upd (upd step (2 * q) w) (2 * q + 1) v) := by
  unfold f_X12_step1
  rw [show (2 : Int32) * Int32.ofNat q = Int32.ofNat (2 * q) from lit_mul 2 q, show Int32.ofNat (2 * q) + (1 : Int32) = Int32.ofNat (2 * q + 1) from add_lit 1 _, if_pos (of_eq_true (on_vin (by omega) (by omega))), if_pos (of_eq_true (on_vin (by omega) (by omega))), on_tn (k := 2 * q) (by omega), on_tn (k := 2 * q + 1) (by omega), show Int32.ofNat q + (1 : Int32) = Int32.ofNat (q + 1) from add_lit 1 q]
abbrev FnC : Type := Int32 → Int32 → Int32 → (Nat → Int32) → Option (Int32 × Int32 × Int32 × (Nat → Int32))
abbrev FnR : Type := Int32 → Int32 → (Nat → Int32) → Option (Int32 × Int32 × Int32 × Int32 × (Nat → Int32))
/-- both read on from byte p: both come through, with the same steps; or both fail at the same byte -/
def Good (u E o : Nat) (fc : FnC) (fr : FnR) (toks : List Tok) (p : Nat) (draft step : Nat → Int32) : Prop :=
  (∃ new p' draft' step', p < p' ∧ p' ≤ E ∧ new.length + p ≤ p' ∧ fc (Int32.ofNat toks.length) (Int32.ofNat p) 0 draft = some (Int32.ofNat (toks ++ new).length, Int32.ofNat p', 0, draft') ∧ fr (Int32.ofNat p) (Int32.ofNat toks.length) step = some (1, Int32.ofNat p', Int32.ofNat o, Int32.ofNat (toks ++ new).length, step') ∧ Tks (toks ++ new) draft' step' ∧ (∀ t ∈ new, goodTok u t) ∧ RP new) ∨
  (∃ p' dr' draft' o' st' step', p ≤ p' ∧ p' ≤ E ∧ dr' ≤ 60 ∧ fc (Int32.ofNat toks.length) (Int32.ofNat p) 0 draft = some (Int32.ofNat dr', Int32.ofNat p', 1, draft') ∧ fr (Int32.ofNat p) (Int32.ofNat toks.length) step = some (0, Int32.ofNat p', o', st', step'))
def Corr (u E o : Nat) (fc : FnC) (fr : FnR) : Prop :=
  (∀ toks p draft step, p ≤ E → toks.length ≤ p → Tks toks draft step → Good u E o fc fr toks p draft step) ∧
  (∀ dr p draft, dr ≤ 60 → p ≤ 60 → ∃ dr' draft', dr' ≤ 60 ∧ fc (Int32.ofNat dr) (Int32.ofNat p) 1 draft = some (Int32.ofNat dr', Int32.ofNat p, 1, draft'))
/-- a sign and what follows it -/
theorem opd {u E o : Nat} {fc : FnC} {fr : FnR} (N : Nat) (hE : E ≤ 60) (hX : Corr u E o fc fr) {toks cur : List Tok} {p : Nat} {v : Int32} {draft step : Nat → Int32} (hv : isSg v) (hp : p < E) (hlen : toks.length + cur.length ≤ p) (ht : Tks (toks ++ cur) draft step) (hg : ∀ t ∈ cur, goodTok u t) (hr : RP cur) :
    (∃ cur' q1 p' draft1 draft' step1 step', p < p' ∧ p' ≤ E ∧ toks.length + cur'.length ≤ p' ∧ cur'.length + p ≤ cur.length + p' ∧
      fc (Int32.ofNat (toks ++ cur).length) (Int32.ofNat (p + 1)) 0 draft = some (Int32.ofNat q1, Int32.ofNat p', 0, draft1) ∧ f_X4_write N (-v) (Int32.ofNat q1) draft1 = some (Int32.ofNat (toks ++ cur').length, draft') ∧
      fr (Int32.ofNat (p + 1)) (Int32.ofNat (toks ++ cur).length) step = some (1, Int32.ofNat p', Int32.ofNat o, Int32.ofNat q1, step1) ∧ f_X12_step1 N 3 v (Int32.ofNat q1) step1 = some (Int32.ofNat (toks ++ cur').length, step') ∧ Tks (toks ++ cur') draft' step' ∧ (∀ t ∈ cur', goodTok u t) ∧ RP cur') ∨
    (∃ p' dr1 draft1 dr' draft' o' st' step', p < p' ∧ p' ≤ E ∧ dr' ≤ 60 ∧ fc (Int32.ofNat (toks ++ cur).length) (Int32.ofNat (p + 1)) 0 draft = some (Int32.ofNat dr1, Int32.ofNat p', 1, draft1) ∧ f_X4_write N (-v) (Int32.ofNat dr1) draft1 = some (Int32.ofNat dr', draft') ∧ fr (Int32.ofNat (p + 1)) (Int32.ofNat (toks ++ cur).length) step = some (0, Int32.ofNat p', o', st', step')) := by
  rcases hX.1 (toks ++ cur) (p + 1) draft step (by omega) (by simp; omega) ht with ⟨new, p', draft1, step1, h1, h2, h3, h4, h5, h6, h7, h8⟩ | ⟨p', dr', draft', o', st', step', h1, h2, h3, h4, h5⟩
  · left
    have hl : (toks ++ cur ++ new).length = toks.length + cur.length + new.length := by simp; omega
    have hl2 : (toks ++ (cur ++ new ++ [(3, v)])).length = (toks ++ cur ++ new).length + 1 := by simp; omega
    have e3 : toks ++ (cur ++ new ++ [(3, v)]) = (toks ++ cur ++ new) ++ [(3, v)] := by simp
    refine ⟨cur ++ new ++ [(3, v)], (toks ++ cur ++ new).length, p', draft1, upd draft1 (toks ++ cur ++ new).length (-v), step1, upd (upd step1 (2 * (toks ++ cur ++ new).length) 3) (2 * (toks ++ cur ++ new).length + 1) v, by omega, h2, by simp; omega, by simp; omega, h4, ?_, h5, ?_, ?_, ?_, RP.bin hr h8 v⟩
    · rw [hl2]; exact wr0 N (by omega) _ _
    · rw [hl2]; exact st0 N (by omega) _ _ _
    · rw [e3]
      have := h6.push (3, v)
      rwa [show enc (3, v) = -v by simp [enc]] at this
    · intro t ht
      simp only [List.mem_append, List.mem_singleton] at ht
      rcases ht with (ht | ht) | ht
      · exact hg t ht
      · exact h7 t ht
      · rw [ht]; exact Or.inr (Or.inr (Or.inr ⟨rfl, hv⟩))
  · right
    obtain ⟨dr2, draft2, g1, g2⟩ := wr1 N h3 (-v) draft'
    exact ⟨p', dr', draft', dr2, draft2, o', st', step', by omega, h2, g1, h4, g2, h5⟩
theorem p4_isDigit (N : Nat) (c : Int32) : f_X4_isDigit N c = some (bi (48 ≤ c ∧ c ≤ 57)) := p11_within N c 48 57
theorem nameOf0 (N : Nat) (hN : 9 ≤ N) (c : Int32) : f_X4_nameOf N c 0 = some (if c = 115 then 0 else if c = 107 then 1 else if c = 109 then 2 else -1) := by
  obtain ⟨M, rfl⟩ := N_of N hN
  have c0 : chS 0 0 = 115 := rfl
  have c1 : chS 0 1 = 107 := rfl
  have c2 : chS 0 2 = 109 := rfl
  have w0 : vin (0 : Int32) 3 = true := v3_0
  have w1 : vin (1 : Int32) 3 = true := v3_1
  have w2 : vin (2 : Int32) 3 = true := v3_2
  simp only [f_X4_nameOf, f_X4_nameOf_2]
  simp [w0, w1, w2, c0, c1, c2, eq_comm]
  (repeat' split) <;> rfl
theorem nameOf1 (N : Nat) (hN : 9 ≤ N) (c : Int32) : f_X4_nameOf N c 1 = some (if c = 116 then 0 else if c = 112 then 1 else if c = 99 then 2 else -1) := by
  obtain ⟨M, rfl⟩ := N_of N hN
  have c0 : chS 1 0 = 116 := rfl
  have c1 : chS 1 1 = 112 := rfl
  have c2 : chS 1 2 = 99 := rfl
  have w0 : vin (0 : Int32) 3 = true := v3_0
  have w1 : vin (1 : Int32) 3 = true := v3_1
  have w2 : vin (2 : Int32) 3 = true := v3_2
  simp only [f_X4_nameOf, f_X4_nameOf_2]
  simp [w0, w1, w2, c0, c1, c2, eq_comm]
  (repeat' split) <;> rfl
/-- a name: both know it -/
theorem nm_yes {N : Nat} (hN : 9 ≤ N) {u : Nat} (hu : u < 2) {c : Int32} (h : isNm u c) : ∃ r, f_X4_nameOf N c u = some r ∧ ¬ r < 0 ∧ (-1 : Int32) - r = enc (1, c) ∧ f_X12_isName N c (Int32.ofNat u) = some 1 ∧ ¬ (48 ≤ c ∧ c ≤ 57) ∧ ¬ c = 33 ∧ ¬ c = 40 := by
  have : u = 0 ∨ u = 1 := by omega
  unfold isNm at h
  rcases this with rfl | rfl
  · rw [if_pos rfl] at h
    rcases h with rfl | rfl | rfl
    · exact ⟨0, by rw [nameOf0 N hN]; rfl, by decide, by decide, by unfold f_X12_isName; decide, by decide, by decide, by decide⟩
    · exact ⟨1, by rw [nameOf0 N hN]; rfl, by decide, by decide, by unfold f_X12_isName; decide, by decide, by decide, by decide⟩
    · exact ⟨2, by rw [nameOf0 N hN]; rfl, by decide, by decide, by unfold f_X12_isName; decide, by decide, by decide, by decide⟩
  · rw [if_neg (by omega)] at h
    rcases h with rfl | rfl | rfl
    · exact ⟨0, by rw [nameOf1 N hN]; rfl, by decide, by decide, by unfold f_X12_isName; decide, by decide, by decide, by decide⟩
    · exact ⟨1, by rw [nameOf1 N hN]; rfl, by decide, by decide, by unfold f_X12_isName; decide, by decide, by decide, by decide⟩
    · exact ⟨2, by rw [nameOf1 N hN]; rfl, by decide, by decide, by unfold f_X12_isName; decide, by decide, by decide, by decide⟩
theorem nm_no {N : Nat} (hN : 9 ≤ N) {u : Nat} (hu : u < 2) {c : Int32} (h : ¬ isNm u c) : f_X4_nameOf N c u = some (-1) ∧ f_X12_isName N c (Int32.ofNat u) = some 0 := by
  have : u = 0 ∨ u = 1 := by omega
  unfold isNm at h
  rcases this with rfl | rfl
  · rw [if_pos rfl] at h
    have h1 : ¬ c = 115 := fun e => h (Or.inl e)
    have h2 : ¬ c = 107 := fun e => h (Or.inr (Or.inl e))
    have h3 : ¬ c = 109 := fun e => h (Or.inr (Or.inr e))
    refine ⟨by rw [nameOf0 N hN, if_neg h1, if_neg h2, if_neg h3], ?_⟩
    unfold f_X12_isName
    rw [if_pos (show Int32.ofNat 0 = 0 from rfl), if_neg h1, if_neg h2, if_neg h3]
  · rw [if_neg (by omega)] at h
    have h1 : ¬ c = 116 := fun e => h (Or.inl e)
    have h2 : ¬ c = 112 := fun e => h (Or.inr (Or.inl e))
    have h3 : ¬ c = 99 := fun e => h (Or.inr (Or.inr e))
    refine ⟨by rw [nameOf1 N hN, if_neg h1, if_neg h2, if_neg h3], ?_⟩
    unfold f_X12_isName
    rw [if_neg (show ¬ Int32.ofNat 1 = 0 by decide), if_neg h1, if_neg h2, if_neg h3]
/-- the digits of a number, in both -/
theorem nums_ok (N : Nat) {E : Nat} (hE : E ≤ 60) {bytes s : Nat → Int32} (hby : ∀ i, i < E → bytes i = s (290 + i)) (hs3 : s 3 = Int32.ofNat E) (KC : Int32 → Int32 → Int32 → Option (Int32 × Int32 × (Nat → Int32))) (KR : Int32 → Int32 → Int32 → Option (Int32 × Int32 × Int32 × Int32 × (Nat → Int32))) :
    ∀ (d n n' i a p : Nat), i + d = 4 → d < n → d < n' → p ≤ E → a < 10 ^ i → ∃ a' i' p', p ≤ p' ∧ p' ≤ E ∧ a' < 10000 ∧ f_X4_readNumber_4 N (Int32.ofNat E) 0 bytes KC n (Int32.ofNat a) (Int32.ofNat i) (Int32.ofNat p) = KC (Int32.ofNat a') i' (Int32.ofNat p') ∧ f_X12_one_46 N s KR n' (Int32.ofNat a) (Int32.ofNat i) (Int32.ofNat p) = KR (Int32.ofNat a') i' (Int32.ofNat p') ∧ (i < 4 → 48 ≤ bt E s p ∧ bt E s p ≤ 57 → p < p') := by
  intro d
  induction d with
  | zero =>
    intro n n' i a p hi hn hn' hp ha
    obtain ⟨n, rfl⟩ : ∃ q, n = q + 1 := ⟨n - 1, by omega⟩
    obtain ⟨n', rfl⟩ : ∃ q, n' = q + 1 := ⟨n' - 1, by omega⟩
    have hi4 : i = 4 := by omega
    subst hi4
    rw [f_X4_readNumber_4, f_X12_one_46, if_pos (show (4 : Int32) ≤ Int32.ofNat 4 by decide), if_pos (show (4 : Int32) ≤ Int32.ofNat 4 by decide)]
    exact ⟨a, _, p, by omega, hp, by simpa using ha, rfl, rfl, fun h => by omega⟩
  | succ d ih =>
    intro n n' i a p hi hn hn' hp ha
    obtain ⟨n, rfl⟩ : ∃ q, n = q + 1 := ⟨n - 1, by omega⟩
    obtain ⟨n', rfl⟩ : ∃ q, n' = q + 1 := ⟨n' - 1, by omega⟩
    have h4 : ¬ (4 : Int32) ≤ Int32.ofNat i := by rw [lit_le (by omega) (by omega)]; omega
    have hpow : 10 ^ i ≤ 1000 := by
      have : 10 ^ i ≤ 10 ^ 3 := Nat.pow_le_pow_right (by omega) (by omega)
      omega
    rw [f_X4_readNumber_4, f_X12_one_46, if_neg h4, if_neg h4, nx0 N hE hby hp, Option.bind_some, Option.bind_some, lk N hE hs3 hp, Option.bind_some, Option.bind_some, p4_isDigit, p12_in, Option.bind_some, Option.bind_some]
    by_cases hd : 48 ≤ bt E s p ∧ bt E s p ≤ 57
    · have nd : ¬ bi (48 ≤ bt E s p ∧ bt E s p ≤ 57) = 0 := by rw [bi_0]; exact not_not_intro hd
      rw [if_neg nd, if_neg nd]
      have hpE : p < E := by
        by_cases h : p < E
        · exact h
        · have : bt E s p = -1 := by unfold bt; rw [if_neg h]
          rw [this] at hd
          exact absurd hd.1 (by decide)
      obtain ⟨c, hc, ec⟩ := nat_of (b := 57) (Int32.le_trans (by decide) hd.1) hd.2 (by omega)
      have hc48 : 48 ≤ c := by have := hd.1; rw [ec, lit_le (by omega) (by omega)] at this; exact this
      have ev : (10 : Int32) * Int32.ofNat a + bt E s p - (48 : Int32) = Int32.ofNat (10 * a + c - 48) := by
        rw [ec, lit_mul, on_add]; exact sub_lit (c := 48) (show 48 ≤ 10 * a + c by omega)
      rw [ev, show Int32.ofNat i + (1 : Int32) = Int32.ofNat (i + 1) from add_lit 1 i, show Int32.ofNat p + (1 : Int32) = Int32.ofNat (p + 1) from add_lit 1 p]
      have ha' : 10 * a + c - 48 < 10 ^ (i + 1) := by rw [Nat.pow_succ]; omega
      obtain ⟨a', i', p', z1, z2, z3, z4, z5, -⟩ := ih n n' (i + 1) (10 * a + c - 48) (p + 1) (by omega) (by omega) (by omega) (by omega) ha'
      exact ⟨a', i', p', by omega, z2, z3, z4, z5, fun _ _ => by omega⟩
    · have nd : bi (48 ≤ bt E s p ∧ bt E s p ≤ 57) = 0 := by rw [bi_0]; exact hd
      rw [if_pos nd, if_pos nd]
      exact ⟨a, _, p, by omega, hp, by omega, rfl, rfl, fun _ h => absurd h hd⟩
end PPARSE
