/-! PURE: a text worked out -/
section PEVAL
/-- names as they are -/
def nmf (a b c : Int32) (v : Int32) : Int32 := if v = 115 ∨ v = 116 then a else if v = 107 ∨ v = 112 then b else c
def Hold (arr : Nat → Int32) : List Int32 → Prop
  | [] => True
  | x :: r => arr r.length = x ∧ Hold arr r
theorem Hold.upd {arr : Nat → Int32} {k : Nat} {v : Int32} : ∀ {st : List Int32}, Hold arr st → st.length ≤ k → Hold (upd arr k v) st
  | [], _, _ => trivial
  | x :: r, h, hk => by
    have hk' : r.length + 1 ≤ k := by simpa using hk
    exact ⟨by rw [upd_ne _ _ (by omega)]; exact h.1, Hold.upd h.2 (by omega)⟩
theorem Hold.push {arr : Nat → Int32} {v : Int32} {st : List Int32} (h : Hold arr st) : Hold (_root_.Jvm.Pilot.@@N@@.upd arr st.length v) (v :: st) := ⟨upd_at _ _ _, h.upd (Nat.le_refl _)⟩
theorem Hold.get0 {arr : Nat → Int32} : ∀ {st : List Int32} {x : Int32}, Hold arr (st ++ [x]) → arr 0 = x
  | [], x, h => h.1
  | y :: r, x, h => Hold.get0 (st := r) h.2
theorem neg_inj32 {a : Int32} {b : Int32} (h : -b = a) : (-a) = b := by rw [← h, Int32.neg_neg]
theorem p4_joined (N : Nat) {c : Int32} (hc : isSg c) (x y : Int32) : f_X4_joined N c x y = some (jn c x y) := by
  rcases hc with rfl | rfl | rfl | rfl | rfl | rfl | rfl | rfl | rfl | rfl <;> simp only [f_X4_joined, jn] <;> simp <;> (repeat' split) <;> (try simp_all)
theorem div_m1 (x : Int32) : x / (-1) = -x := by
  apply Int32.toInt_inj.mp
  rw [Int32.toInt_div, show (-1 : Int32).toInt = -1 from rfl, Int.tdiv_neg, Int.tdiv_one, Int32.toInt_neg]
theorem m1a (x : Int32) : x - -x * -1 = 0 := by rw [Int32.neg_mul_neg, Int32.mul_one, Int32.sub_self]
theorem p12_joined (N : Nat) {c : Int32} (hc : isSg c) (x y : Int32) : f_X12_joined N c x y = some (jn c x y) := by
  by_cases hy : y = -1
  · subst hy
    rcases hc with rfl | rfl | rfl | rfl | rfl | rfl | rfl | rfl | rfl | rfl <;> simp only [f_X12_joined, f_X12_joined_j226, jn, div_m1, m1a] <;> simp <;> (repeat' split) <;> (try simp_all)
  · rcases hc with rfl | rfl | rfl | rfl | rfl | rfl | rfl | rfl | rfl | rfl <;> simp only [f_X12_joined, f_X12_joined_j226, jn] <;> simp [hy] <;> (repeat' split) <;> (try simp_all)
theorem evs_len {nm : Int32 → Int32} : ∀ (ts : List Tok) (st fin : List Int32), evs nm ts st = some fin → fin.length ≤ st.length + ts.length
  | [], st, fin, h => by
    simp only [evs, Option.some.injEq] at h
    subst h; simp
  | (w, v) :: ts, st, fin, h => by
    rw [evs_cons] at h
    by_cases h0 : w = 0
    · rw [if_pos h0] at h
      have := evs_len ts _ _ h
      simp only [List.length_cons] at this ⊢; omega
    · rw [if_neg h0] at h
      by_cases h1 : w = 1
      · rw [if_pos h1] at h
        have := evs_len ts _ _ h
        simp only [List.length_cons] at this ⊢; omega
      · rw [if_neg h1] at h
        by_cases h2 : w = 2
        · rw [if_pos h2] at h
          cases st with
          | nil => cases h
          | cons x r =>
            have := evs_len ts _ _ h
            simp only [List.length_cons] at this ⊢; omega
        · rw [if_neg h2] at h
          match st, h with
          | [], h => cases h
          | [_], h => cases h
          | y :: x :: r, h =>
            have := evs_len ts _ _ h
            simp only [List.length_cons] at this ⊢; omega
theorem p4_named (N : Nat) (a b c : Int32) {u : Nat} {v : Int32} (h : isNm u v) : (enc (1, v) = -1 ∨ enc (1, v) = -2 ∨ enc (1, v) = -3) ∧ f_X4_named N (enc (1, v)) a b c = some (nmf a b c v) := by
  unfold isNm at h
  split at h <;> rcases h with rfl | rfl | rfl <;> simp [enc, f_X4_named, nmf]
theorem p4_workedOut6 {N : Nat} (a b c : Int32) (u : Nat) (len : Nat) (hlen : len ≤ 60) (code : Nat → Int32) (K : Int32 → Int32 → (Nat → Int32) → Option (Int32 × (Nat → Int32))) :
    ∀ (rest : List Tok) (n j : Nat) (st fin : List Int32) (arr : Nat → Int32), j + rest.length = len → rest.length < n → (∀ t ∈ rest, goodTok u t) → (∀ i t, rest[i]? = some t → code (j + i) = enc t) → st.length ≤ j → Hold arr st → evs (nmf a b c) rest st = some fin →
      ∃ arr', f_X4_workedOut_6 N a b c (Int32.ofNat len) code K n (Int32.ofNat st.length) (Int32.ofNat j) arr = K (Int32.ofNat fin.length) (Int32.ofNat len) arr' ∧ Hold arr' fin := by
  intro rest
  induction rest with
  | nil =>
    intro n j st fin arr hj hn _ _ hst hh he
    obtain ⟨n, rfl⟩ : ∃ m, n = m + 1 := ⟨n - 1, by omega⟩
    simp only [evs, Option.some.injEq] at he
    subst he
    simp only [List.length_nil, Nat.add_zero] at hj
    subst hj
    refine ⟨arr, ?_, hh⟩
    rw [f_X4_workedOut_6]
    rw [if_pos (Int32.le_refl _)]
  | cons t rest ih =>
    intro n j st fin arr hj hn hg hc hst hh he
    obtain ⟨n, rfl⟩ : ∃ m, n = m + 1 := ⟨n - 1, by omega⟩
    simp only [List.length_cons] at hj hn
    have hcj : code j = enc t := hc 0 t rfl
    have hg' : ∀ t ∈ rest, goodTok u t := fun t h => hg t (List.mem_cons_of_mem _ h)
    have hc' : ∀ i t, rest[i]? = some t → code (j + 1 + i) = enc t := fun i t h => by
      have := hc (i + 1) t (by simpa using h)
      rwa [show j + (i + 1) = j + 1 + i from by omega] at this
    have a1 : ¬ (Int32.ofNat len ≤ Int32.ofNat j) := by rw [on_le (by omega) (by omega)]; omega
    have a2 : ¬ ((60 : Int32) ≤ Int32.ofNat j) := by rw [lit_le (by omega) (by omega)]; omega
    have a3 : vin (Int32.ofNat j) 60 = true := of_eq_true (on_vin (by omega) (by omega))
    have a4 : ¬ ((60 : Int32) ≤ Int32.ofNat st.length) := by rw [lit_le (by omega) (by omega)]; omega
    have a5 : vin (Int32.ofNat st.length) 60 = true := of_eq_true (on_vin (by omega) (by omega))
    have a6 : (Int32.ofNat st.length).toNatClampNeg = st.length := on_tn (by omega)
    rw [f_X4_workedOut_6, if_neg a1, if_neg a2, if_pos a3, on_tn (k := j) (by omega), hcj, if_neg a4]
    obtain ⟨w, v⟩ := t
    rw [evs_cons] at he
    rcases hg _ List.mem_cons_self with ⟨h1, h2⟩ | ⟨h1, h2⟩ | ⟨h1, h2⟩ | ⟨h1, h2⟩
    · replace h1 : w = 0 := h1
      replace h2 : 0 ≤ v := h2
      subst h1
      rw [if_pos rfl] at he
      have e : enc ((0 : Int32), v) = v := by simp [enc]
      rw [e]
      have h3 : ¬ v < (-3 : Int32) := fun h => absurd (Int32.lt_of_le_of_lt h2 h) (by decide)
      rw [if_neg h3, if_neg (Int32.not_lt.mpr h2), if_pos a5, a6]
      have hp := hh.push (v := v)
      obtain ⟨arr', h5, h6⟩ := ih n (j + 1) (v :: st) fin _ (by omega) (by omega) hg' hc' (by simp; omega) hp he
      refine ⟨arr', ?_, h6⟩
      rw [← h5]
      simp only [add_lit, List.length_cons]
    · replace h1 : w = 1 := h1
      replace h2 : isNm u v := h2
      subst h1
      rw [if_neg (by decide), if_pos rfl] at he
      obtain ⟨e1, e2⟩ := p4_named N a b c h2
      have h3 : ¬ enc (1, v) < (-3 : Int32) := by rcases e1 with e | e | e <;> rw [e] <;> decide
      have h4 : enc (1, v) < (0 : Int32) := by rcases e1 with e | e | e <;> rw [e] <;> decide
      rw [if_neg h3, if_pos h4, e2, Option.bind_some, if_pos a5, a6]
      have hp := hh.push (v := nmf a b c v)
      obtain ⟨arr', h5, h6⟩ := ih n (j + 1) (nmf a b c v :: st) fin _ (by omega) (by omega) hg' hc' (by simp; omega) hp he
      refine ⟨arr', ?_, h6⟩
      rw [← h5]
      simp only [add_lit, List.length_cons]
    · replace h1 : w = 2 := h1
      subst h1
      rw [if_neg (by decide), if_neg (by decide), if_pos rfl] at he
      have e : enc ((2 : Int32), v) = -33 := by simp [enc]
      rw [e, if_pos (by decide), if_pos rfl]
      cases st with
      | nil => cases he
      | cons x r =>
        simp only [List.length_cons] at hst
        have hx : arr r.length = x := hh.1
        have hp : Hold (upd arr r.length (if x = 0 then 1 else 0)) ((if x = 0 then 1 else 0) :: r) := Hold.push hh.2
        obtain ⟨arr', h5, h6⟩ := ih n (j + 1) ((if x = 0 then 1 else 0) :: r) fin _ (by omega) (by omega) hg' hc' (by simp; omega) hp he
        refine ⟨arr', ?_, h6⟩
        rw [← h5]
        simp (disch := omega) only [le_lit, add_lit, List.length_cons, sub_lit, Nat.add_sub_cancel, on_vin, on_tn, if_true, hx]
        rw [if_neg (by omega)]
        by_cases h0 : x = 0
        · rw [if_pos h0, if_pos h0]
        · rw [if_neg h0, if_neg h0]
    · replace h1 : w = 3 := h1
      replace h2 : isSg v := h2
      subst h1
      rw [if_neg (by decide), if_neg (by decide), if_neg (by decide)] at he
      have e : enc ((3 : Int32), v) = -v := by simp [enc]
      have h3 : (-v) < (-3 : Int32) := by rcases h2 with rfl | rfl | rfl | rfl | rfl | rfl | rfl | rfl | rfl | rfl <;> decide
      have h4 : ¬ (-v) = (-33 : Int32) := by rcases h2 with rfl | rfl | rfl | rfl | rfl | rfl | rfl | rfl | rfl | rfl <;> decide
      rw [e, if_pos h3, if_neg h4, Int32.neg_neg]
      match st, he, hst, hh with
      | [], he, _, _ => cases he
      | [_], he, _, _ => cases he
      | y :: x :: r, he, hst, hh =>
        simp only [List.length_cons] at hst
        have hy : arr (r.length + 1) = y := hh.1
        have hx : arr r.length = x := hh.2.1
        have hp : Hold (upd arr r.length (jn v x y)) (jn v x y :: r) := Hold.push hh.2.2
        obtain ⟨arr', h5, h6⟩ := ih n (j + 1) (jn v x y :: r) fin _ (by omega) (by omega) hg' hc' (by simp; omega) hp he
        refine ⟨arr', ?_, h6⟩
        rw [← h5]
        simp (disch := omega) only [le_lit, add_lit, List.length_cons, add_m1, sub_lit, Nat.add_sub_cancel, on_vin, on_tn, if_true, hx, hy, p4_joined N h2, Option.bind_some]
        rw [if_neg (by omega)]
/-- what a text comes to -/
def Tv (nm : Int32 → Int32) (ts : List Tok) : Int32 := match evs nm ts [] with
  | some (v :: _) => v
  | _ => 0
theorem Tv_of {nm : Int32 → Int32} {ts : List Tok} (h : RP ts) : evs nm ts [] = some [Tv nm ts] := by
  obtain ⟨v, hv⟩ := h nm []
  unfold Tv
  rw [hv]
theorem p4_workedOut {N : Nat} (hN : 61 ≤ N) {u : Nat} {ts : List Tok} {len : Int32} {code s : Nat → Int32} (h : LRt u ts len code s) (hne : ts ≠ []) (a b c : Int32) (st : Nat → Int32) : ∃ st', f_X4_workedOut N a b c len code st = some (Tv (nmf a b c) ts, st') := by
  obtain ⟨h1, h2, h3, h4, h5, h6⟩ := h
  subst h2
  obtain ⟨arr', h7, h8⟩ := p4_workedOut6 (N := N) a b c u ts.length h1 code (fun v4_21 v5_21 this_stack_21 => (some ((this_stack_21 (0 : Int32).toNatClampNeg), this_stack_21))) ts N 0 [] _ st (by omega) (by omega) h4 (fun i t hi => by rw [Nat.zero_add]; exact (h6 i t hi).1) (by simp) trivial (Tv_of (h5 hne))
  refine ⟨arr', ?_⟩
  unfold f_X4_workedOut
  refine h7.trans ?_
  have : arr' 0 = Tv (nmf a b c) ts := h8.1
  rw [show (0 : Int32).toNatClampNeg = 0 from rfl, this]
theorem p12_worked13 {N : Nat} (a b c : Int32) (u : Nat) (hu : u < 2) (len : Nat) (hlen : len ≤ 60) (named s : Nat → Int32) (hl : s (40 + 125 * u) = Int32.ofNat len) (hnm : ∀ v, isNm u v → vin v 128 = true ∧ named v.toNatClampNeg = nmf a b c v) (K : Int32 → Int32 → (Nat → Int32) → Option (Int32 × (Nat → Int32))) :
    ∀ (rest : List Tok) (n j : Nat) (st fin : List Int32) (arr : Nat → Int32), j + rest.length = len → rest.length < n → (∀ t ∈ rest, goodTok u t) → (∀ i t, rest[i]? = some t → s (41 + 125 * u + 2 * (j + i)) = t.1 ∧ s (42 + 125 * u + 2 * (j + i)) = t.2) → st.length ≤ j → Hold arr st → evs (nmf a b c) rest st = some fin →
      ∃ arr', f_X12_worked_13 N (Int32.ofNat (40 + 125 * u)) named s K n (Int32.ofNat st.length) (Int32.ofNat j) arr = K (Int32.ofNat fin.length) (Int32.ofNat len) arr' ∧ Hold arr' fin := by
  intro rest
  induction rest with
  | nil =>
    intro n j st fin arr hj hn _ _ hst hh he
    obtain ⟨n, rfl⟩ : ∃ m, n = m + 1 := ⟨n - 1, by omega⟩
    simp only [evs, Option.some.injEq] at he
    subst he
    simp only [List.length_nil, Nat.add_zero] at hj
    subst hj
    refine ⟨arr, ?_, hh⟩
    have a1 : vin (Int32.ofNat (40 + 125 * u)) 374 = true := of_eq_true (on_vin (by omega) (by omega))
    rw [f_X12_worked_13, if_pos a1, on_tn (k := 40 + 125 * u) (by omega), hl, if_pos (Int32.le_refl _)]
  | cons t rest ih =>
    intro n j st fin arr hj hn hg hc hst hh he
    obtain ⟨n, rfl⟩ : ∃ m, n = m + 1 := ⟨n - 1, by omega⟩
    simp only [List.length_cons] at hj hn
    obtain ⟨hc1, hc2⟩ := hc 0 t rfl
    rw [Nat.add_zero] at hc1 hc2
    have hg' : ∀ t ∈ rest, goodTok u t := fun t h => hg t (List.mem_cons_of_mem _ h)
    have hc' : ∀ i t, rest[i]? = some t → s (41 + 125 * u + 2 * (j + 1 + i)) = t.1 ∧ s (42 + 125 * u + 2 * (j + 1 + i)) = t.2 := fun i t h => by
      have := hc (i + 1) t (by simpa using h)
      rwa [show j + (i + 1) = j + 1 + i from by omega] at this
    have a1 : vin (Int32.ofNat (40 + 125 * u)) 374 = true := of_eq_true (on_vin (by omega) (by omega))
    have a2 : ¬ (Int32.ofNat len ≤ Int32.ofNat j) := by rw [on_le (by omega) (by omega)]; omega
    have a5 : vin (Int32.ofNat st.length) 64 = true := of_eq_true (on_vin (by omega) (by omega))
    have a6 : (Int32.ofNat st.length).toNatClampNeg = st.length := on_tn (by omega)
    have e1 : 40 + 125 * u + 1 + 2 * j = 41 + 125 * u + 2 * j := by omega
    have e2 : 40 + 125 * u + 2 + 2 * j = 42 + 125 * u + 2 * j := by omega
    have i1 : Int32.ofNat (40 + 125 * u) + (1 : Int32) + (2 : Int32) * Int32.ofNat j = Int32.ofNat (41 + 125 * u + 2 * j) := by simp only [add_lit, lit_mul, on_add, e1]
    have i2 : Int32.ofNat (40 + 125 * u) + (2 : Int32) + (2 : Int32) * Int32.ofNat j = Int32.ofNat (42 + 125 * u + 2 * j) := by simp only [add_lit, lit_mul, on_add, e2]
    have a7 : vin (Int32.ofNat (41 + 125 * u + 2 * j)) 374 = true := of_eq_true (on_vin (by omega) (by omega))
    have a8 : vin (Int32.ofNat (42 + 125 * u + 2 * j)) 374 = true := of_eq_true (on_vin (by omega) (by omega))
    rw [f_X12_worked_13, if_pos a1, on_tn (k := 40 + 125 * u) (by omega), hl, if_neg a2, i1, i2, if_pos a7, if_pos a8, on_tn (k := 41 + 125 * u + 2 * j) (by omega), on_tn (k := 42 + 125 * u + 2 * j) (by omega), hc1, hc2]
    obtain ⟨w, v⟩ := t
    rw [evs_cons] at he
    rcases hg _ List.mem_cons_self with ⟨h1, h2⟩ | ⟨h1, h2⟩ | ⟨h1, h2⟩ | ⟨h1, h2⟩
    · replace h1 : w = 0 := h1
      subst h1
      rw [if_pos rfl] at he
      rw [if_pos (by simp), if_pos (by simp), if_pos a5, a6]
      have hp := hh.push (v := v)
      obtain ⟨arr', h5, h6⟩ := ih n (j + 1) (v :: st) fin _ (by omega) (by omega) hg' hc' (by simp; omega) hp he
      refine ⟨arr', ?_, h6⟩
      rw [← h5]
      simp only [List.length_cons, add_lit]
    · replace h1 : w = 1 := h1
      replace h2 : isNm u v := h2
      subst h1
      rw [if_neg (by simp), if_pos rfl] at he
      obtain ⟨e3, e4⟩ := hnm v h2
      rw [if_neg (by simp), if_pos (by simp), if_neg (by simp), if_pos e3, if_pos a5, a6, e4]
      have hp := hh.push (v := nmf a b c v)
      obtain ⟨arr', h5, h6⟩ := ih n (j + 1) (nmf a b c v :: st) fin _ (by omega) (by omega) hg' hc' (by simp; omega) hp he
      refine ⟨arr', ?_, h6⟩
      rw [← h5]
      simp only [List.length_cons, add_lit]
    · replace h1 : w = 2 := h1
      subst h1
      rw [if_neg (by simp), if_neg (by simp), if_pos rfl] at he
      rw [if_neg (by simp), if_neg (by simp), if_pos (by simp)]
      cases st with
      | nil => cases he
      | cons x r =>
        simp only [List.length_cons] at hst
        have hx : arr r.length = x := hh.1
        have hp : Hold (upd arr r.length (if x = 0 then 1 else 0)) ((if x = 0 then 1 else 0) :: r) := Hold.push hh.2
        obtain ⟨arr', h5, h6⟩ := ih n (j + 1) ((if x = 0 then 1 else 0) :: r) fin _ (by omega) (by omega) hg' hc' (by simp; omega) hp he
        refine ⟨arr', ?_, h6⟩
        rw [← h5]
        simp (disch := omega) only [List.length_cons, add_lit, sub_lit, Nat.add_sub_cancel, on_vin, on_tn, if_true, hx]
        by_cases h0 : x = 0
        · rw [if_pos h0, if_pos h0]
        · rw [if_neg h0, if_neg h0]
    · replace h1 : w = 3 := h1
      replace h2 : isSg v := h2
      subst h1
      rw [if_neg (by simp), if_neg (by simp), if_neg (by simp)] at he
      rw [if_neg (by simp), if_neg (by simp), if_neg (by simp)]
      match st, he, hst, hh with
      | [], he, _, _ => cases he
      | [_], he, _, _ => cases he
      | y :: x :: r, he, hst, hh =>
        simp only [List.length_cons] at hst
        have hy : arr (r.length + 1) = y := hh.1
        have hx : arr r.length = x := hh.2.1
        have hp : Hold (upd arr r.length (jn v x y)) (jn v x y :: r) := Hold.push hh.2.2
        obtain ⟨arr', h5, h6⟩ := ih n (j + 1) (jn v x y :: r) fin _ (by omega) (by omega) hg' hc' (by simp; omega) hp he
        refine ⟨arr', ?_, h6⟩
        rw [← h5]
        simp (disch := omega) only [List.length_cons, add_lit, add_m1, sub_lit, Nat.add_sub_cancel, on_vin, on_tn, if_true, hx, hy, p12_joined N h2, Option.bind_some]
theorem p12_worked {N : Nat} (hN : 61 ≤ N) {u : Nat} (hu : u < 2) {ts : List Tok} {len : Int32} {code s : Nat → Int32} (h : LRt u ts len code s) (hne : ts ≠ []) (a b c : Int32) (named pile : Nat → Int32) (hnm : ∀ v, isNm u v → vin v 128 = true ∧ named v.toNatClampNeg = nmf a b c v) : ∃ pile', f_X12_worked N (Int32.ofNat u) named pile s = some (Tv (nmf a b c) ts, pile') := by
  obtain ⟨h1, h2, h3, h4, h5, h6⟩ := h
  obtain ⟨arr', h7, h8⟩ := p12_worked13 (N := N) a b c u hu ts.length h1 named s h3 hnm (fun v3_24 v4_24 this_pile_24 => (some ((this_pile_24 (0 : Int32).toNatClampNeg), this_pile_24))) ts N 0 [] _ pile (by omega) (by omega) h4 (fun i t hi => by rw [Nat.zero_add]; exact (h6 i t hi).2) (by simp) trivial (Tv_of (h5 hne))
  refine ⟨arr', ?_⟩
  unfold f_X12_worked
  simp only [lit_mul, lit_add]
  refine h7.trans ?_
  have : arr' 0 = Tv (nmf a b c) ts := h8.1
  rw [show (0 : Int32).toNatClampNeg = 0 from rfl, this]
end PEVAL
