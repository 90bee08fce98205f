/-! PURE: numbers. Small numbers stand as Int32.ofNat k. -/
section PNUM
theorem N_of {a : Nat} (N : Nat) (h : a ≤ N) : ∃ M, N = M + a := ⟨N - a, by omega⟩
theorem on_tn {k : Nat} (h : k < 2147483648) : (Int32.ofNat k).toNatClampNeg = k := Int32.toNatClampNeg_ofNat_of_lt h
theorem on_toInt {k : Nat} (h : k < 2147483648) : (Int32.ofNat k).toInt = k := Int32.toInt_ofNat_of_lt h
theorem on_le {a b : Nat} (ha : a < 2147483648) (hb : b < 2147483648) : (Int32.ofNat a ≤ Int32.ofNat b) = (a ≤ b) := propext (Int32.ofNat_le_iff_le ha hb)
theorem on_lt {a b : Nat} (ha : a < 2147483648) (hb : b < 2147483648) : (Int32.ofNat a < Int32.ofNat b) = (a < b) := propext (Int32.ofNat_lt_iff_lt ha hb)
theorem on_inj {a b : Nat} (ha : a < 2147483648) (hb : b < 2147483648) : (Int32.ofNat a = Int32.ofNat b) = (a = b) := propext ⟨fun h => by have := congrArg Int32.toNatClampNeg h; rwa [on_tn ha, on_tn hb] at this, fun h => by rw [h]⟩
theorem on_add (a b : Nat) : Int32.ofNat a + Int32.ofNat b = Int32.ofNat (a + b) := (Int32.ofNat_add a b).symm
theorem on_mul (a b : Nat) : Int32.ofNat a * Int32.ofNat b = Int32.ofNat (a * b) := (Int32.ofNat_mul a b).symm
theorem on_sub {a b : Nat} (h : b ≤ a) : Int32.ofNat a - Int32.ofNat b = Int32.ofNat (a - b) := (Int32.ofNat_sub a b h).symm
theorem on_div {a b : Nat} (ha : a < 2147483648) (hb : b < 2147483648) : Int32.ofNat a / Int32.ofNat b = Int32.ofNat (a / b) := (Int32.ofNat_div ha hb).symm
theorem on_rem {a b : Nat} (ha : a < 2147483648) (hb : b < 2147483648) : Int32.ofNat a - Int32.ofNat a / Int32.ofNat b * Int32.ofNat b = Int32.ofNat (a % b) := by
  rw [on_div ha hb, on_mul, on_sub (Nat.div_mul_le_self a b)]
  congr 1
  have := Nat.div_add_mod a b
  rw [Nat.mul_comm] at this
  omega
theorem on_nn {a : Nat} (ha : a < 2147483648) : (0 : Int32) ≤ Int32.ofNat a := Int32.zero_le_ofNat_of_lt ha
theorem lit (n : Nat) : (no_index (OfNat.ofNat n) : Int32) = Int32.ofNat (OfNat.ofNat n) := rfl
theorem lit_add (c a : Nat) : (no_index (OfNat.ofNat c) : Int32) + Int32.ofNat a = Int32.ofNat (OfNat.ofNat c + a) := on_add c a
theorem add_lit (c a : Nat) : Int32.ofNat a + (no_index (OfNat.ofNat c) : Int32) = Int32.ofNat (a + OfNat.ofNat c) := on_add a c
theorem lit_mul (c a : Nat) : (no_index (OfNat.ofNat c) : Int32) * Int32.ofNat a = Int32.ofNat (OfNat.ofNat c * a) := on_mul c a
theorem mul_lit (c a : Nat) : Int32.ofNat a * (no_index (OfNat.ofNat c) : Int32) = Int32.ofNat (a * OfNat.ofNat c) := on_mul a c
theorem sub_lit {c a : Nat} (h : OfNat.ofNat c ≤ a) : Int32.ofNat a - (no_index (OfNat.ofNat c) : Int32) = Int32.ofNat (a - OfNat.ofNat c) := on_sub h
theorem lit_sub {c a : Nat} (h : a ≤ OfNat.ofNat c) : (no_index (OfNat.ofNat c) : Int32) - Int32.ofNat a = Int32.ofNat (OfNat.ofNat c - a) := on_sub h
theorem add_m1 {a : Nat} (h : 1 ≤ a) : Int32.ofNat a + (-1 : Int32) = Int32.ofNat (a - 1) := by
  rw [← on_sub h, Int32.sub_eq_add_neg]; rfl
theorem lit_le {c a : Nat} (hc : (OfNat.ofNat c : Nat) < 2147483648) (ha : a < 2147483648) : ((no_index (OfNat.ofNat c) : Int32) ≤ Int32.ofNat a) = ((OfNat.ofNat c : Nat) ≤ a) := on_le hc ha
theorem le_lit {c a : Nat} (ha : a < 2147483648) (hc : (OfNat.ofNat c : Nat) < 2147483648) : (Int32.ofNat a ≤ (no_index (OfNat.ofNat c) : Int32)) = (a ≤ (OfNat.ofNat c : Nat)) := on_le ha hc
theorem lit_lt {c a : Nat} (hc : (OfNat.ofNat c : Nat) < 2147483648) (ha : a < 2147483648) : ((no_index (OfNat.ofNat c) : Int32) < Int32.ofNat a) = ((OfNat.ofNat c : Nat) < a) := on_lt hc ha
theorem lt_lit {c a : Nat} (ha : a < 2147483648) (hc : (OfNat.ofNat c : Nat) < 2147483648) : (Int32.ofNat a < (no_index (OfNat.ofNat c) : Int32)) = (a < (OfNat.ofNat c : Nat)) := on_lt ha hc
theorem eq_lit {c a : Nat} (ha : a < 2147483648) (hc : (OfNat.ofNat c : Nat) < 2147483648) : (Int32.ofNat a = (no_index (OfNat.ofNat c) : Int32)) = (a = (OfNat.ofNat c : Nat)) := on_inj ha hc
theorem lit_eq {c a : Nat} (hc : (OfNat.ofNat c : Nat) < 2147483648) (ha : a < 2147483648) : ((no_index (OfNat.ofNat c) : Int32) = Int32.ofNat a) = ((OfNat.ofNat c : Nat) = a) := on_inj hc ha
theorem lit_tn {c : Nat} (hc : (OfNat.ofNat c : Nat) < 2147483648) : (no_index (OfNat.ofNat c) : Int32).toNatClampNeg = OfNat.ofNat c := on_tn hc
theorem on_vin {k n : Nat} (h : k < n) (hn : n ≤ 2147483648) : (vin (Int32.ofNat k) n = true) = True := by
  refine eq_true (decide_eq_true ?_)
  rw [on_tn (by omega)]
  intro h2
  rcases h2 with h2 | h2
  · have h3 := on_nn (a := k) (by omega)
    exact absurd h2 (Int32.not_lt.mpr h3)
  · omega
theorem lit_vin {c n : Nat} (h : (OfNat.ofNat c : Nat) < n) (hn : n ≤ 2147483648) : (vin (no_index (OfNat.ofNat c) : Int32) n = true) = True := on_vin h hn
theorem nat_of {x : Int32} {b : Nat} (h0 : 0 ≤ x) (h1 : x ≤ Int32.ofNat b) (hb : b < 2147483648) : ∃ k, k ≤ b ∧ x = Int32.ofNat k := by
  refine ⟨x.toNatClampNeg, ?_, (Int32.ofNat_toNatClampNeg x h0).symm⟩
  have := Int32.toNatClampNeg_le h1
  rwa [on_tn hb] at this
theorem nat_lt (x : Int32) (h0 : 0 ≤ x) : ∃ k, k < 2147483648 ∧ x = Int32.ofNat k := ⟨x.toNatClampNeg, Int32.toNatClampNeg_lt x, (Int32.ofNat_toNatClampNeg x h0).symm⟩
theorem nle {a b : Int32} : (¬ a ≤ b) = (b < a) := propext Int32.not_le
theorem nlt {a b : Int32} : (¬ a < b) = (b ≤ a) := propext Int32.not_lt
theorem upd_at (f : Nat → Int32) (k : Nat) (x : Int32) : upd f k x k = x := by simp [upd]
theorem upd_ne (f : Nat → Int32) {j k : Nat} (x : Int32) (h : j ≠ k) : upd f k x j = f j := by simp [upd, h]
theorem up_at {α : Type} (f : Nat → α) (k : Nat) (x : α) : va_up f k x k = x := by simp [va_up]
theorem up_ne {α : Type} (f : Nat → α) {j k : Nat} (x : α) (h : j ≠ k) : va_up f k x j = f j := by simp [va_up, h]
/-! tests: 1 or 0 -/
def bi (c : Prop) [Decidable c] : Int32 := if c then 1 else 0
theorem bi_0 (c : Prop) [Decidable c] : (bi c = 0) = ¬ c := by
  unfold bi; by_cases h : c <;> simp [h]
theorem bi_ok (c : Prop) [Decidable c] : (bi c = 0 ∨ bi c = 1) = True := by
  unfold bi; by_cases h : c <;> simp [h]
theorem p11_within (N : Nat) (a b c : Int32) : f_X11_within N a b c = some (bi (b ≤ a ∧ a ≤ c)) := by
  unfold f_X11_within bi
  by_cases h1 : a < b
  · have : ¬ b ≤ a := Int32.not_le.mpr h1
    simp [h1, this]
  · have h1' : b ≤ a := Int32.not_lt.mp h1
    by_cases h2 : c < a
    · have : ¬ a ≤ c := Int32.not_le.mpr h2
      simp [h1, h2, this]
    · have h2' : a ≤ c := Int32.not_lt.mp h2
      simp [h1, h2, h1', h2']
theorem p12_in (N : Nat) (a b c : Int32) : f_X12_in N a b c = some (bi (b ≤ a ∧ a ≤ c)) := p11_within N a b c
theorem p11_isThing (N : Nat) (a : Int32) : f_X11_isThing N a = some (bi (0 ≤ a ∧ a ≤ 7)) := by
  simp [f_X11_isThing, p11_within, bi_ok]
theorem p11_isTill (N : Nat) (a : Int32) : f_X11_isTill N a = some (bi (0 ≤ a ∧ a ≤ 3)) := by
  simp [f_X11_isTill, p11_within, bi_ok]
theorem p11_isSheet (N : Nat) (a : Int32) : f_X11_isSheet N a = some (bi (0 ≤ a ∧ a ≤ 3)) := by
  simp [f_X11_isSheet, p11_within, bi_ok]
theorem p12_isThing (N : Nat) (a : Int32) : f_X12_isThing N a = some (bi (0 ≤ a ∧ a ≤ 7)) := by
  simp [f_X12_isThing, p12_in, bi_ok]
theorem p12_isTill (N : Nat) (a : Int32) : f_X12_isTill N a = some (bi (0 ≤ a ∧ a ≤ 3)) := by
  simp [f_X12_isTill, p12_in, bi_ok]
theorem p12_isSheet (N : Nat) (a : Int32) : f_X12_isSheet N a = some (bi (0 ≤ a ∧ a ≤ 3)) := by
  simp [f_X12_isSheet, p12_in, bi_ok]
/-! errors -/
def ER (ce me : Nat → Int32) : Prop := ∀ k, k < 7 → ce k = me k
def eLow (k : Nat) : Int32 := (-1000000000 : Int32) - Int32.ofNat k
theorem p11_error (N : Nat) {k : Nat} (h1 : 1 ≤ k) (h6 : k ≤ 6) (ce : Nat → Int32) : f_X11_error N (Int32.ofNat k) ce = some (eLow k, upd ce k (ce k + 1)) := by
  unfold f_X11_error
  simp (disch := omega) only [p11_within, Option.bind_some, bi_0, lit_le, le_lit, on_vin, on_tn, if_true]
  rw [if_neg (by omega)]
  rfl
theorem p12_error (N : Nat) {k : Nat} (h6 : k ≤ 6) (me : Nat → Int32) : f_X12_error N (Int32.ofNat k) me = some (eLow k, upd me k (me k + 1)) := by
  unfold f_X12_error
  simp (disch := omega) only [on_vin, on_tn, if_true]
  rfl
theorem p11_error1 (N : Nat) (ce : Nat → Int32) : f_X11_error N 1 ce = some (eLow 1, upd ce 1 (ce 1 + 1)) := p11_error N (k := 1) (by omega) (by omega) ce
theorem p11_error2 (N : Nat) (ce : Nat → Int32) : f_X11_error N 2 ce = some (eLow 2, upd ce 2 (ce 2 + 1)) := p11_error N (k := 2) (by omega) (by omega) ce
theorem p11_error3 (N : Nat) (ce : Nat → Int32) : f_X11_error N 3 ce = some (eLow 3, upd ce 3 (ce 3 + 1)) := p11_error N (k := 3) (by omega) (by omega) ce
theorem p11_error4 (N : Nat) (ce : Nat → Int32) : f_X11_error N 4 ce = some (eLow 4, upd ce 4 (ce 4 + 1)) := p11_error N (k := 4) (by omega) (by omega) ce
theorem p11_error5 (N : Nat) (ce : Nat → Int32) : f_X11_error N 5 ce = some (eLow 5, upd ce 5 (ce 5 + 1)) := p11_error N (k := 5) (by omega) (by omega) ce
theorem p11_error6 (N : Nat) (ce : Nat → Int32) : f_X11_error N 6 ce = some (eLow 6, upd ce 6 (ce 6 + 1)) := p11_error N (k := 6) (by omega) (by omega) ce
theorem p12_error1 (N : Nat) (ce : Nat → Int32) : f_X12_error N 1 ce = some (eLow 1, upd ce 1 (ce 1 + 1)) := p12_error N (k := 1) (by omega) ce
theorem p12_error2 (N : Nat) (ce : Nat → Int32) : f_X12_error N 2 ce = some (eLow 2, upd ce 2 (ce 2 + 1)) := p12_error N (k := 2) (by omega) ce
theorem p12_error3 (N : Nat) (ce : Nat → Int32) : f_X12_error N 3 ce = some (eLow 3, upd ce 3 (ce 3 + 1)) := p12_error N (k := 3) (by omega) ce
theorem p12_error4 (N : Nat) (ce : Nat → Int32) : f_X12_error N 4 ce = some (eLow 4, upd ce 4 (ce 4 + 1)) := p12_error N (k := 4) (by omega) ce
theorem p12_error5 (N : Nat) (ce : Nat → Int32) : f_X12_error N 5 ce = some (eLow 5, upd ce 5 (ce 5 + 1)) := p12_error N (k := 5) (by omega) ce
theorem p12_error6 (N : Nat) (ce : Nat → Int32) : f_X12_error N 6 ce = some (eLow 6, upd ce 6 (ce 6 + 1)) := p12_error N (k := 6) (by omega) ce
theorem ER.up {ce me : Nat → Int32} (h : ER ce me) {k : Nat} (hk : k < 7) : ER (upd ce k (ce k + 1)) (upd me k (me k + 1)) := by
  intro j hj
  unfold upd
  rw [h k hk, h j hj]
/-! the states of both, held beside each other -/
/-- a row of numbers of the reference is the same outside some places -/
def SameAt (P : Nat → Prop) (s s' : Nat → Int32) : Prop := ∀ j, P j → s' j = s j
def GR (g : Nat → Nat → Int32) (s : Nat → Int32) : Prop := (∀ w t, w < 3 → t < 8 → g w t = s (8 + 8 * w + t)) ∧ (∀ t, t < 8 → (1 ≤ s (8 + t) ∧ s (8 + t) ≤ 9999) ∧ (0 ≤ s (16 + t) ∧ s (16 + t) ≤ 9999) ∧ (0 ≤ s (24 + t) ∧ s (24 + t) ≤ 99))
def TR (k0 k1 k2 k3 : Nat) (n m : Nat → Int32) (s : Nat → Int32) : Prop := ∀ j, j < 4 → sel4 j k0 k1 k2 k3 = tk (s (32 + 2 * j)) ∧ (0 ≤ s (32 + 2 * j) ∧ s (32 + 2 * j) ≤ 6) ∧ n j = Int32.ofNat j ∧ m j = s (33 + 2 * j) ∧ (0 ≤ s (33 + 2 * j) ∧ s (33 + 2 * j) ≤ 9)
def MR (takings costs goes z : Int32) (s : Nat → Int32) : Prop := takings = s 1 ∧ costs = s 2 ∧ goes = s 0 ∧ z = s 5 ∧ (0 ≤ s 1 ∧ s 1 ≤ 99999999) ∧ (0 ≤ s 2 ∧ s 2 ≤ 99999999) ∧ (0 ≤ s 0 ∧ s 0 ≤ 9999)
def FR (fed : Int32) (tape : Nat → Int32) (s : Nat → Int32) : Prop := fed = s 3 ∧ (0 ≤ s 3 ∧ s 3 ≤ 60) ∧ ∀ j, j < 60 → tape j = s (290 + j)
def WR (waits : Int32) (waiting : Nat → Int32) (s : Nat → Int32) : Prop := waits = s 4 ∧ (0 ≤ s 4 ∧ s 4 ≤ 24) ∧ ∀ j, j < 24 → waiting j = s (350 + j)
abbrev Tok : Type := Int32 × Int32
def jn (c x y : Int32) : Int32 := if c = 43 then x + y else if c = 45 then x - y else if c = 42 then x * y else if c = 47 then (if y = 0 then 0 else x / y) else if c = 37 then (if y = 0 then 0 else x - x / y * y) else if c = 60 then (if y ≤ x then 0 else 1) else if c = 62 then (if x ≤ y then 0 else 1) else if c = 61 then (if x = y then 1 else 0) else if c = 38 then (if x = 0 ∨ y = 0 then 0 else 1) else (if x = 0 ∧ y = 0 then 0 else 1)
/-- a text, worked out on a pile; none: the pile is too low -/
def evs (nm : Int32 → Int32) : List Tok → List Int32 → Option (List Int32)
  | [], st => some st
  | (w, v) :: ts, st => if w = 0 then evs nm ts (v :: st) else if w = 1 then evs nm ts (nm v :: st) else if w = 2 then (match st with
    | [] => none
    | x :: r => evs nm ts ((if x = 0 then 1 else 0) :: r)) else (match st with
    | y :: x :: r => evs nm ts (jn v x y :: r)
    | _ => none)
theorem evs_cons (nm : Int32 → Int32) (w v : Int32) (ts : List Tok) (st : List Int32) : evs nm ((w, v) :: ts) st = if w = 0 then evs nm ts (v :: st) else if w = 1 then evs nm ts (nm v :: st) else if w = 2 then (match st with
    | [] => none
    | x :: r => evs nm ts ((if x = 0 then 1 else 0) :: r)) else (match st with
    | y :: x :: r => evs nm ts (jn v x y :: r)
    | _ => none) := rfl
def RP (ts : List Tok) : Prop := ∀ (nm : Int32 → Int32) (st : List Int32), ∃ v, evs nm ts st = some (v :: st)
def isNm (u : Nat) (v : Int32) : Prop := if u = 0 then v = 115 ∨ v = 107 ∨ v = 109 else v = 116 ∨ v = 112 ∨ v = 99
def isSg (v : Int32) : Prop := v = 43 ∨ v = 45 ∨ v = 42 ∨ v = 47 ∨ v = 37 ∨ v = 60 ∨ v = 62 ∨ v = 61 ∨ v = 38 ∨ v = 124
/-- the code of a step in the class -/
def enc (t : Tok) : Int32 := if t.1 = 0 then t.2 else if t.1 = 1 then (if t.2 = 115 ∨ t.2 = 116 then -1 else if t.2 = 107 ∨ t.2 = 112 then -2 else -3) else if t.1 = 2 then -33 else -t.2
def goodTok (u : Nat) (t : Tok) : Prop := (t.1 = 0 ∧ 0 ≤ t.2) ∨ (t.1 = 1 ∧ isNm u t.2) ∨ (t.1 = 2 ∧ t.2 = 0) ∨ (t.1 = 3 ∧ isSg t.2)
/-- a text stands in both -/
def LRt (u : Nat) (ts : List Tok) (len : Int32) (code : Nat → Int32) (s : Nat → Int32) : Prop :=
  ts.length ≤ 60 ∧ len = Int32.ofNat ts.length ∧ s (40 + 125 * u) = Int32.ofNat ts.length ∧ (∀ t ∈ ts, goodTok u t) ∧ (ts ≠ [] → RP ts) ∧ ∀ (j : Nat) (t : Tok), ts[j]? = some t → code j = enc t ∧ s (41 + 125 * u + 2 * j) = t.1 ∧ s (42 + 125 * u + 2 * j) = t.2
def LR (u : Nat) (len : Int32) (code : Nat → Int32) (s : Nat → Int32) : Prop := ∃ ts, LRt u ts len code s
/-- what an image keeps -/
def SR (g : Nat → Nat → Int32) (k0 k1 k2 k3 : Nat) (n m : Nat → Int32) (takings costs goes z fed : Int32) (tape : Nat → Int32) (pl : Int32) (pc : Nat → Int32) (vl : Int32) (vc : Nat → Int32) (waits : Int32) (waiting s : Nat → Int32) : Prop :=
  GR g s ∧ TR k0 k1 k2 k3 n m s ∧ MR takings costs goes z s ∧ FR fed tape s ∧ LR 0 pl pc s ∧ LR 1 vl vc s ∧ WR waits waiting s
/-- sheets -/
def HR (bits lens : Nat → Int32) (nums : Nat → Nat → Int32) (mbits msizes mnum : Nat → Int32) : Prop := (∀ j, j < 4 → bits j = mbits j ∧ lens j = msizes j ∧ (mbits j = 0 ∨ mbits j = 8 ∨ mbits j = 16 ∨ mbits j = 32) ∧ (0 ≤ msizes j ∧ msizes j ≤ 24)) ∧ ∀ j i, j < 4 → i < 24 → nums j i = mnum (24 * j + i)
/-- the trace -/
def CR (len : Int32) (bodies : Nat → Int32) (traced : Int32) (mtrace : Nat → Int32) : Prop := len = traced ∧ (0 ≤ traced ∧ traced ≤ 30) ∧ ∀ j, j < 30 → bodies j = mtrace j
/-! frames -/
theorem GR.frame {g : Nat → Nat → Int32} {s s' : Nat → Int32} (h : GR g s) (hs : ∀ j, 8 ≤ j → j < 32 → s' j = s j) : GR g s' :=
  ⟨fun w t hw ht => by rw [h.1 w t hw ht, hs _ (by omega) (by omega)], fun t ht => by rw [hs _ (by omega) (by omega), hs _ (by omega) (by omega), hs _ (by omega) (by omega)]; exact h.2 t ht⟩
theorem TR.frame {k0 k1 k2 k3 : Nat} {n m s s' : Nat → Int32} (h : TR k0 k1 k2 k3 n m s) (hs : ∀ j, 32 ≤ j → j < 40 → s' j = s j) : TR k0 k1 k2 k3 n m s' := fun j hj => by
  rw [hs _ (by omega) (by omega), hs _ (by omega) (by omega)]; exact h j hj
theorem MR.frame {a b c d : Int32} {s s' : Nat → Int32} (h : MR a b c d s) (hs : ∀ j, j < 3 ∨ j = 5 → s' j = s j) : MR a b c d s' := by
  unfold MR
  rw [hs 0 (by omega), hs 1 (by omega), hs 2 (by omega), hs 5 (by omega)]; exact h
theorem FR.frame {f : Int32} {t s s' : Nat → Int32} (h : FR f t s) (hs : ∀ j, j = 3 ∨ (290 ≤ j ∧ j < 350) → s' j = s j) : FR f t s' := by
  unfold FR
  rw [hs 3 (by omega)]
  exact ⟨h.1, h.2.1, fun j hj => by rw [hs _ (by omega)]; exact h.2.2 j hj⟩
theorem WR.frame {f : Int32} {t s s' : Nat → Int32} (h : WR f t s) (hs : ∀ j, j = 4 ∨ (350 ≤ j ∧ j < 374) → s' j = s j) : WR f t s' := by
  unfold WR
  rw [hs 4 (by omega)]
  exact ⟨h.1, h.2.1, fun j hj => by rw [hs _ (by omega)]; exact h.2.2 j hj⟩
theorem LRt.frame {u : Nat} {ts : List Tok} {len : Int32} {code s s' : Nat → Int32} (h : LRt u ts len code s) (hs : ∀ j, 40 + 125 * u ≤ j → j < 165 + 125 * u → s' j = s j) : LRt u ts len code s' := by
  obtain ⟨h1, h2, h3, h4, h5, h6⟩ := h
  refine ⟨h1, h2, by rw [hs _ (by omega) (by omega)]; exact h3, h4, h5, fun j t hj => ?_⟩
  have hlt : j < ts.length := (List.getElem?_eq_some_iff.mp hj).1
  rw [hs _ (by omega) (by omega), hs _ (by omega) (by omega)]
  exact h6 j t hj
theorem LR.frame {u : Nat} {len : Int32} {code s s' : Nat → Int32} (h : LR u len code s) (hs : ∀ j, 40 + 125 * u ≤ j → j < 165 + 125 * u → s' j = s j) : LR u len code s' := by
  obtain ⟨ts, h⟩ := h
  exact ⟨ts, h.frame hs⟩
end PNUM
