/-! PURE: all rows, in their order -/
section PENUM
def zs (cs : List Nat) : List Nat := cs.map (fun _ => 0)
def en : List Nat → Nat → List (List Nat)
  | [], _ => [[]]
  | c :: cs, left => (List.range (min c left + 1)).flatMap fun n => (en cs (left - n)).map (fun r => n :: r)
def nxt : List Nat → Nat → List Nat → Option (List Nat)
  | c :: cs, left, r :: rs => match nxt cs (left - r) rs with
    | some q => some (r :: q)
    | none => if r < c ∧ r < left then some ((r + 1) :: zs cs) else none
  | _, _, _ => none
def Lnk (f : List Nat → Option (List Nat)) : List Nat → List (List Nat) → Option (List Nat) → Prop
  | x, [], o => f x = o
  | x, y :: ys, o => f x = some y ∧ Lnk f y ys o
theorem Lnk.app {f : List Nat → Option (List Nat)} : ∀ {L1 : List (List Nat)} {x y : List Nat} {L2 : List (List Nat)} {o : Option (List Nat)}, Lnk f x L1 (some y) → Lnk f y L2 o → Lnk f x (L1 ++ y :: L2) o
  | [], _, _, _, _, h1, h2 => ⟨h1, h2⟩
  | _ :: L1, _, _, _, _, h1, h2 => ⟨h1.1, Lnk.app (L1 := L1) h1.2 h2⟩
theorem Lnk.map {c : Nat} {cs : List Nat} {left n : Nat} : ∀ {L : List (List Nat)} {x : List Nat}, Lnk (nxt cs (left - n)) x L none → Lnk (nxt (c :: cs) left) (n :: x) (L.map (fun r => n :: r)) (if n < c ∧ n < left then some ((n + 1) :: zs cs) else none)
  | [], x, h => by
    show nxt (c :: cs) left (n :: x) = _
    have h : nxt cs (left - n) x = none := h
    rw [nxt, h]
  | y :: L, x, h => by
    refine ⟨?_, Lnk.map (L := L) h.2⟩
    rw [nxt, h.1]
theorem en_head : ∀ (cs : List Nat) (left : Nat), ∃ tl, en cs left = zs cs :: tl ∧ Lnk (nxt cs left) (zs cs) tl none
  | [], left => ⟨[], rfl, by unfold Lnk nxt; rfl⟩
  | c :: cs, left => by
    have seg : ∀ (k n : Nat), n + k = min c left → ∃ tl, ((List.range' n (k + 1)).flatMap fun n => (en cs (left - n)).map (fun r => n :: r)) = (n :: zs cs) :: tl ∧ Lnk (nxt (c :: cs) left) (n :: zs cs) tl none := by
      intro k
      induction k with
      | zero =>
        intro n hn
        obtain ⟨tl, h1, h2⟩ := en_head cs (left - n)
        refine ⟨tl.map (fun r => n :: r), ?_, ?_⟩
        · simp [List.range', h1]
        · have := Lnk.map (c := c) h2
          rw [if_neg (by omega)] at this
          exact this
      | succ k ih =>
        intro n hn
        obtain ⟨tl, h1, h2⟩ := en_head cs (left - n)
        obtain ⟨tl2, h3, h4⟩ := ih (n + 1) (by omega)
        refine ⟨tl.map (fun r => n :: r) ++ ((n + 1) :: zs cs) :: tl2, ?_, ?_⟩
        · rw [List.range'_succ, List.flatMap_cons, h3, h1]
          simp
        · have := Lnk.map (c := c) h2
          rw [if_pos (by omega)] at this
          exact Lnk.app this h4
    obtain ⟨tl, h1, h2⟩ := seg (min c left) 0 (by omega)
    refine ⟨tl, ?_, h2⟩
    rw [en, List.range_eq_range']
    exact h1
theorem zs_length (cs : List Nat) : (zs cs).length = cs.length := by simp [zs]
theorem zs_sum (cs : List Nat) : (zs cs).sum = 0 := by
  induction cs with
  | nil => rfl
  | cons c cs ih => simpa [zs] using ih
theorem en_mem : ∀ (cs : List Nat) (left : Nat) (r : List Nat), r ∈ en cs left → r.length = cs.length ∧ r.sum ≤ left ∧ ∀ t, r.getD t 0 ≤ cs.getD t 0
  | [], left, r, h => by
    simp only [en, List.mem_singleton] at h
    subst h
    simp
  | c :: cs, left, r, h => by
    simp only [en, List.mem_flatMap, List.mem_range, List.mem_map] at h
    obtain ⟨n, hn, r', hr', rfl⟩ := h
    obtain ⟨h1, h2, h3⟩ := en_mem cs (left - n) r' hr'
    refine ⟨by simp [h1], by simp; omega, fun t => ?_⟩
    cases t with
    | zero => simp; omega
    | succ t => simpa using h3 t
theorem en_count (B : Nat) : ∀ (cs : List Nat) (left : Nat), left < B → (en cs left).length ≤ B ^ cs.length
  | [], left, h => by simp [en]
  | c :: cs, left, h => by
    have hb : ∀ (l : List Nat), (l.flatMap fun n => (en cs (left - n)).map (fun r => n :: r)).length ≤ l.length * B ^ cs.length := by
      intro l
      induction l with
      | nil => simp
      | cons a l ih =>
        rw [List.flatMap_cons, List.length_append, List.length_map, List.length_cons, Nat.add_mul]
        have := en_count B cs (left - a) (by omega)
        omega
    have h1 := hb (List.range (min c left + 1))
    rw [en, List.length_cons, Nat.pow_succ]
    refine Nat.le_trans h1 ?_
    rw [List.length_range, Nat.mul_comm]
    exact Nat.mul_le_mul_left _ (by omega)
theorem en_count2 : ∀ (cs : List Nat) (left : Nat), (en cs left).length ≤ 2 ^ cs.sum
  | [], left => by simp [en]
  | c :: cs, left => by
    have hb : ∀ (l : List Nat), (l.flatMap fun n => (en cs (left - n)).map (fun r => n :: r)).length ≤ l.length * 2 ^ cs.sum := by
      intro l
      induction l with
      | nil => simp
      | cons a l ih =>
        rw [List.flatMap_cons, List.length_append, List.length_map, List.length_cons, Nat.add_mul]
        have := en_count2 cs (left - a)
        omega
    have h1 := hb (List.range (min c left + 1))
    rw [en, List.sum_cons, Nat.pow_add]
    refine Nat.le_trans h1 ?_
    rw [List.length_range]
    refine Nat.mul_le_mul_right _ ?_
    have : c < 2 ^ c := Nat.lt_two_pow_self
    omega
/-! the class's step -/
def IsL (r : Nat → Int32) (l : List Nat) : Prop := ∀ t, t < 8 → r t = Int32.ofNat (l.getD t 0)
theorem nxt_up {rm l : List Nat} {M : Nat} : ∀ (y : Nat), y ≤ rm.length → y ≤ l.length → ∀ {q : List Nat}, nxt (rm.drop y) (M - (l.take y).sum) (l.drop y) = some q → nxt rm M l = some (l.take y ++ q) := by
  intro y
  induction y generalizing rm l M with
  | zero => intro _ _ q h; simpa using h
  | succ y ih =>
    intro h1 h2 q h
    cases rm with
    | nil => simp at h1
    | cons c cs =>
      cases l with
      | nil => simp at h2
      | cons r rs =>
        simp only [List.drop_succ_cons, List.take_succ_cons, List.sum_cons] at h
        have := ih (rm := cs) (l := rs) (M := M - r) (by simpa using h1) (by simpa using h2) (q := q) (by rw [Nat.sub_sub]; exact h)
        rw [nxt, this]
        simp
theorem dot_set (r p : Nat → Int32) {t : Nat} (ht : t < 8) (x : Int32) : dot (upd r t x) p = dot r p - r t * p t + x * p t := by
  have : t = 0 ∨ t = 1 ∨ t = 2 ∨ t = 3 ∨ t = 4 ∨ t = 5 ∨ t = 6 ∨ t = 7 := by omega
  rcases this with rfl | rfl | rfl | rfl | rfl | rfl | rfl | rfl <;> simp [dot, upd] <;> grind
theorem sum_take_succ (l : List Nat) {y : Nat} (h : y < l.length) : (l.take (y + 1)).sum = (l.take y).sum + l.getD y 0 := by
  rw [List.take_add_one, List.sum_append]
  simp [List.getElem?_eq_getElem h]
theorem zs_getD : ∀ (cs : List Nat) (k : Nat), (zs cs).getD k 0 = 0
  | [], k => by simp [zs]
  | c :: cs, 0 => by simp [zs]
  | c :: cs, k + 1 => by
    have := zs_getD cs k
    simpa [zs] using this
theorem getD_app_l {l1 l2 : List Nat} {t : Nat} (h : t < l1.length) : (l1 ++ l2).getD t 0 = l1.getD t 0 := by simp [List.getD, List.getElem?_append_left h]
theorem getD_app_r {l1 l2 : List Nat} {t : Nat} (h : l1.length ≤ t) : (l1 ++ l2).getD t 0 = l2.getD (t - l1.length) 0 := by simp [List.getD, List.getElem?_append_right h]
theorem p0_step4 {N : Nat} {rm l : List Nat} (hrm : rm.length = 8) (hl : l.length = 8) {M : Nat} (hM : M < 100000) (hls : l.sum < 100000) (hrs : ∀ t, rm.getD t 0 < 100000) (room price : Nat → Int32) (hroom : IsL room rm) (K : Int32 → Int32 → Int32 → (Nat → Int32) → Option (Int32 × (Int32) × (Int32) × (Nat → Int32))) (hK : ∀ a b c d, ∃ b' c' d', K a b c d = some (0, b', c', d')) :
    ∀ (y n : Nat) (th su : Int32) (row : Nat → Int32), y ≤ 8 → y < n → nxt (rm.drop y) (M - (l.take y).sum) (l.drop y) = none → th = Int32.ofNat (l.take y).sum → (∀ t, t < y → row t = Int32.ofNat (l.getD t 0)) → (∀ t, y ≤ t → t < 8 → row t = 0) → su = dot row price →
      (∃ l' row', nxt rm M l = some l' ∧ l'.length = 8 ∧ f_X0_step_4 N (Int32.ofNat M) room price K n (Int32.ofNat y + (-1 : Int32)) th su row = some (1, Int32.ofNat l'.sum, dot row' price, row') ∧ IsL row' l') ∨ (nxt rm M l = none ∧ ∃ b c d, f_X0_step_4 N (Int32.ofNat M) room price K n (Int32.ofNat y + (-1 : Int32)) th su row = some (0, b, c, d)) := by
  intro y
  induction y with
  | zero =>
    intro n th su row hy hn h1 h2 h3 h4 h5
    obtain ⟨n, rfl⟩ : ∃ m, n = m + 1 := ⟨n - 1, by omega⟩
    right
    refine ⟨by simpa using h1, ?_⟩
    rw [f_X0_step_4, if_pos (show Int32.ofNat 0 + (-1 : Int32) < 0 by decide)]
    exact hK _ _ _ _
  | succ y ih =>
    intro n th su row hy hn h1 h2 h3 h4 h5
    obtain ⟨n, rfl⟩ : ∃ m, n = m + 1 := ⟨n - 1, by omega⟩
    have hyl : y < l.length := by omega
    have hyr : y < rm.length := by omega
    have hlt : (l.take (y + 1)).sum = (l.take y).sum + l.getD y 0 := sum_take_succ l hyl
    have hle : (l.take (y + 1)).sum ≤ l.sum := by
      have := List.take_append_drop (y + 1) l
      have h := congrArg List.sum this
      rw [List.sum_append] at h
      omega
    have d1 : l.drop y = l.getD y 0 :: l.drop (y + 1) := by
      rw [List.drop_eq_getElem_cons hyl]; simp [List.getD, List.getElem?_eq_getElem hyl]
    have d2 : rm.drop y = rm.getD y 0 :: rm.drop (y + 1) := by
      rw [List.drop_eq_getElem_cons hyr]; simp [List.getD, List.getElem?_eq_getElem hyr]
    have hn2 : nxt (rm.drop y) (M - (l.take y).sum) (l.drop y) = if l.getD y 0 < rm.getD y 0 ∧ l.getD y 0 < M - (l.take y).sum then some ((l.getD y 0 + 1) :: zs (rm.drop (y + 1))) else none := by
      rw [d1, d2, nxt, Nat.sub_sub, ← hlt, h1]
    have hry : row y = Int32.ofNat (l.getD y 0) := h3 y (by omega)
    have hrmy := hrs y
    rw [f_X0_step_4, show Int32.ofNat (y + 1) + (-1 : Int32) = Int32.ofNat y from add_m1 (by omega)]
    have c0 : ¬ (Int32.ofNat y < 0) := Int32.not_lt.mpr (on_nn (by omega))
    have hv : vin (Int32.ofNat y) 8 = true := of_eq_true (on_vin (by omega) (by omega))
    rw [if_neg c0, if_pos hv, if_pos hv, on_tn (k := y) (by omega), hroom y (by omega), hry, h2]
    -- the row with this place 0
    have hz : ∀ (thz suz : Int32), thz = Int32.ofNat (l.take y).sum → suz = dot (upd row y 0) price → nxt (rm.drop y) (M - (l.take y).sum) (l.drop y) = none → (∃ l' row', nxt rm M l = some l' ∧ l'.length = 8 ∧ f_X0_step_4 N (Int32.ofNat M) room price K n (Int32.ofNat y + (-1 : Int32)) thz suz (upd row y 0) = some (1, Int32.ofNat l'.sum, dot row' price, row') ∧ IsL row' l') ∨ (nxt rm M l = none ∧ ∃ b c d, f_X0_step_4 N (Int32.ofNat M) room price K n (Int32.ofNat y + (-1 : Int32)) thz suz (upd row y 0) = some (0, b, c, d)) := by
      intro thz suz e1 e2 e3
      refine ih n thz suz (upd row y 0) (by omega) (by omega) e3 e1 (fun t ht => by rw [upd_ne _ _ (by omega)]; exact h3 t (by omega)) (fun t h6 h7 => ?_) e2
      by_cases e : t = y
      · subst e; rw [upd_at]
      · rw [upd_ne _ _ e]; exact h4 t (by omega) h7
    have eth : Int32.ofNat (l.take (y + 1)).sum - Int32.ofNat (l.getD y 0) = Int32.ofNat (l.take y).sum := by
      rw [on_sub (by omega)]; congr 1; omega
    have esu : su - Int32.ofNat (l.getD y 0) * price y = dot (upd row y 0) price := by
      rw [dot_set row price (by omega), h5, hry, Int32.zero_mul, Int32.add_zero]
    by_cases k1 : rm.getD y 0 ≤ l.getD y 0
    · have k1' : Int32.ofNat (rm.getD y 0) ≤ Int32.ofNat (l.getD y 0) := by rw [on_le (by omega) (by omega)]; exact k1
      rw [if_pos k1', if_pos hv, if_pos hv, if_pos hv, if_pos hv]
      exact hz _ _ eth esu (by rw [hn2, if_neg (by omega)])
    · have k1' : ¬ (Int32.ofNat (rm.getD y 0) ≤ Int32.ofNat (l.getD y 0)) := by rw [on_le (by omega) (by omega)]; exact k1
      rw [if_neg k1']
      by_cases k2 : M ≤ (l.take (y + 1)).sum
      · have k2' : Int32.ofNat M ≤ Int32.ofNat (l.take (y + 1)).sum := by rw [on_le (by omega) (by omega)]; exact k2
        rw [if_pos k2', if_pos hv, if_pos hv, if_pos hv, if_pos hv]
        exact hz _ _ eth esu (by rw [hn2, if_neg (by omega)])
      · have k2' : ¬ (Int32.ofNat M ≤ Int32.ofNat (l.take (y + 1)).sum) := by rw [on_le (by omega) (by omega)]; exact k2
        rw [if_neg k2', if_pos hv, if_pos hv, if_pos hv]
        left
        rw [if_pos ⟨by omega, by omega⟩] at hn2
        have hup := nxt_up y (by omega) (by omega) hn2
        refine ⟨_, upd row y (Int32.ofNat (l.getD y 0) + 1), hup, ?_, ?_, ?_⟩
        · simp [zs_length, hrm, hl]; omega
        · rw [List.sum_append, List.sum_cons, zs_sum]
          congr 1
          refine Prod.ext rfl (Prod.ext ?_ (Prod.ext ?_ rfl))
          · show Int32.ofNat (l.take (y + 1)).sum + 1 = _
            rw [show Int32.ofNat (l.take (y + 1)).sum + 1 = Int32.ofNat ((l.take (y + 1)).sum + 1) from add_lit 1 _]
            congr 1; omega
          · show su + price y = dot (upd row y (Int32.ofNat (l.getD y 0) + 1)) price
            rw [dot_set row price (by omega), h5, hry]
            grind
        · intro t ht
          by_cases e : t = y
          · subst e
            rw [upd_at, show Int32.ofNat (l.getD t 0) + 1 = Int32.ofNat (l.getD t 0 + 1) from add_lit 1 _]
            congr 1
            rw [getD_app_r (by simp; omega)]
            simp [show min t l.length = t by omega]
          · rw [upd_ne _ _ e]
            by_cases e2 : t < y
            · rw [h3 t (by omega), getD_app_l (by simp; omega)]
              congr 1
              simp [List.getD, List.getElem?_take, e2]
            · rw [h4 t (by omega) ht, getD_app_r (by simp; omega)]
              have : (l.take y).length = y := by simp; omega
              rw [this]
              obtain ⟨k, hk⟩ : ∃ k, t - y = k + 1 := ⟨t - y - 1, by omega⟩
              rw [hk]
              have : ((l.getD y 0 + 1) :: zs (rm.drop (y + 1))).getD (k + 1) 0 = 0 := by
                rw [List.getD_cons_succ]; exact zs_getD _ k
              rw [this]; rfl
theorem p0_step {N : Nat} (hN : 100 ≤ N) {rm l : List Nat} (hrm : rm.length = 8) (hl : l.length = 8) {M : Nat} (hM : M < 100000) (hls : l.sum < 100000) (hrs : ∀ t, rm.getD t 0 < 100000) {room price row : Nat → Int32} (hroom : IsL room rm) (hrow : IsL row l) :
    (∃ l' row', nxt rm M l = some l' ∧ l'.length = 8 ∧ f_X0_step N (Int32.ofNat M) room price (Int32.ofNat l.sum) (dot row price) row = some (1, Int32.ofNat l'.sum, dot row' price, row') ∧ IsL row' l') ∨ (nxt rm M l = none ∧ ∃ b c d, f_X0_step N (Int32.ofNat M) room price (Int32.ofNat l.sum) (dot row price) row = some (0, b, c, d)) := by
  have := p0_step4 (N := N) hrm hl hM hls hrs room price hroom (fun v4_17 this_things_17 this_sum_17 this_row_17 => (some ((0 : Int32), this_things_17, this_sum_17, this_row_17))) (fun a b c d => ⟨b, c, d, rfl⟩) 8 N (Int32.ofNat l.sum) (dot row price) row (by omega) (by omega) (by rw [List.drop_eq_nil_of_le (by omega)]; rfl) (by rw [List.take_of_length_le (by omega)]) (fun t ht => hrow t ht) (fun t h1 h2 => by omega) rfl
  exact this
end PENUM
