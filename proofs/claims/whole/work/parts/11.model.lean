abbrev k_X12_error (G : KG) (a_this : Nat) (a_this_s : Nat) (a_this_kept : Nat) (a_this_errors : Nat) (a_this_step : Nat) (a_this_named : Nat) (a_this_pile : Nat) (a_this_told : Nat) (a_this_beside1 : Nat) (a_this_row : Nat) (a_this_best : Nat) (a_this_worthOf : Nat) (a_this_trace : Nat) (a_this_bits : Nat) (a_this_sizes : Nat) (a_this_number : Nat) (a_this_aside : Nat) (this_images : Int32) (this_at : Int32) (this_open : Int32) (this_steps : Int32) (this_use : Int32) (this_bestNet : Int32) (this_bestMore : Int32) (this_leastApart : Int32) (this_found : Int32) (this_first : Int32) (this_leastPaid : Int32) (this_traced : Int32) (this_speaks : Int32) (this_isParted : Int32) (this_errors : Nat → Int32) : va_W := [(a_this, .inr (12, [.ref a_this_s, .ref a_this_kept, .int this_images, .ref a_this_errors, .int this_at, .int this_open, .int this_steps, .int this_use, .ref a_this_step, .ref a_this_named, .ref a_this_pile, .ref a_this_told, .ref a_this_beside1, .ref a_this_row, .ref a_this_best, .int this_bestNet, .int this_bestMore, .ref a_this_worthOf, .int this_leastApart, .int this_found, .int this_first, .int this_leastPaid, .ref a_this_trace, .int this_traced, .int this_speaks, .int this_isParted, .ref a_this_bits, .ref a_this_sizes, .ref a_this_number, .ref a_this_aside])), (a_this_errors, .inl (gI G, 7, .inl this_errors))]
def f_X12_error (N : Nat) (p0 : Int32) (this_errors : Nat → Int32) : Option (Int32 × (Nat → Int32)) := (if vin p0 7 = true then (if vin p0 7 = true then (some (((-1000000000 : Int32) - p0), (upd this_errors p0.toNatClampNeg ((this_errors p0.toNatClampNeg) + (1 : Int32))))) else none) else none)
set_option maxRecDepth 100000 in
set_option maxHeartbeats 4000000 in
theorem c_X12_error (l : Launch) (G : KG) (N : Nat) (a_this : Nat) (a_this_s : Nat) (a_this_kept : Nat) (a_this_errors : Nat) (a_this_step : Nat) (a_this_named : Nat) (a_this_pile : Nat) (a_this_told : Nat) (a_this_beside1 : Nat) (a_this_row : Nat) (a_this_best : Nat) (a_this_worthOf : Nat) (a_this_trace : Nat) (a_this_bits : Nat) (a_this_sizes : Nat) (a_this_number : Nat) (a_this_aside : Nat) (p0 : Int32) (this_images : Int32) (this_at : Int32) (this_open : Int32) (this_steps : Int32) (this_use : Int32) (this_bestNet : Int32) (this_bestMore : Int32) (this_leastApart : Int32) (this_found : Int32) (this_first : Int32) (this_leastPaid : Int32) (this_traced : Int32) (this_speaks : Int32) (this_isParted : Int32) (this_errors : Nat → Int32)  (out : Int32 × (Nat → Int32)) (hf : f_X12_error N p0 this_errors = some out) : KM l G yX12_error (kw yX12_error cX12_error 2 (some .int)) 0 0 [.ref a_this, .int p0] (k_X12_error G a_this a_this_s a_this_kept a_this_errors a_this_step a_this_named a_this_pile a_this_told a_this_beside1 a_this_row a_this_best a_this_worthOf a_this_trace a_this_bits a_this_sizes a_this_number a_this_aside this_images this_at this_open this_steps this_use this_bestNet this_bestMore this_leastApart this_found this_first this_leastPaid this_traced this_speaks this_isParted this_errors) (k_X12_error G a_this a_this_s a_this_kept a_this_errors a_this_step a_this_named a_this_pile a_this_told a_this_beside1 a_this_row a_this_best a_this_worthOf a_this_trace a_this_bits a_this_sizes a_this_number a_this_aside this_images this_at this_open this_steps this_use this_bestNet this_bestMore this_leastApart this_found this_first this_leastPaid this_traced this_speaks this_isParted (out.2)) (some (.int (out.1))) := by
  refine KM.of (by decide) (Nat.le_of_ble_eq_true rfl) ?_
  intro p e s m below meth c A ls args Q Fx0 hP hK hD hA hS hAm hQ hl
  obtain ⟨hx, hb, hr, hml, hts, hown, hlk, hnm⟩ := Fx0
  have hown : s.vm.findClass RX12 = some m.cls := hown
  have hl : lv_has ls 2 [(0, .ref a_this), (1, .int p0)] := hl
  have fl_16 := hts _ tw_989
  have kc_58 := hts _ tw_1088
  unfold f_X12_error at hf
  refine lv_aload_n hx hb dX12_error_0 rfl (lv_at hl 0 rfl) ?_
  refine va_get (D := gD G) (ci := 12) (C := RX12) (T := TX12) (N := 30) hx hb hts hin_X12 hown hK hP 0 rfl rfl 3 (by decide) fl_16 (fun _ h9 => h9) rfl dX12_error_1 ?_
  refine lv_iload_n hx hb dX12_error_4 rfl (lv_at hl 1 rfl) ?_
  refine lv_dup2_11 hx hb dX12_error_5 rfl rfl ?_
  obtain ⟨g1, hf⟩ := kg hf
  refine va_iald hx hb hK hP 1 0 rfl rfl (vin_of g1) dX12_error_6 ?_
  refine lv_iconst (v := (1 : Int32)) hx hb dX12_error_7 (by decide) ?_
  refine lv_iadd hx hb dX12_error_8 ?_
  obtain ⟨g2, hf⟩ := kg hf
  refine va_iast hx hb hK hP hD hS 1 0 rfl rfl (vin_of g2) dX12_error_9 (fun H locs hP hD hS => ?_)
  have hP : va_P (gD G) vwCl (k_X12_error G a_this a_this_s a_this_kept a_this_errors a_this_step a_this_named a_this_pile a_this_told a_this_beside1 a_this_row a_this_best a_this_worthOf a_this_trace a_this_bits a_this_sizes a_this_number a_this_aside this_images this_at this_open this_steps this_use this_bestNet this_bestMore this_leastApart this_found this_first this_leastPaid this_traced this_speaks this_isParted (upd this_errors p0.toNatClampNeg ((this_errors p0.toNatClampNeg) + (1 : Int32)))) H := hP
  have hD : va_D A (k_X12_error G a_this a_this_s a_this_kept a_this_errors a_this_step a_this_named a_this_pile a_this_told a_this_beside1 a_this_row a_this_best a_this_worthOf a_this_trace a_this_bits a_this_sizes a_this_number a_this_aside this_images this_at this_open this_steps this_use this_bestNet this_bestMore this_leastApart this_found this_first this_leastPaid this_traced this_speaks this_isParted (upd this_errors p0.toNatClampNeg ((this_errors p0.toNatClampNeg) + (1 : Int32)))) := hD
  refine lv_ldc (v := (-1000000000 : Int32)) hx hb hown kc_58 dX12_error_10 ?_
  refine lv_iload_n hx hb dX12_error_12 rfl (lv_at hl 1 rfl) ?_
  refine lv_isub hx hb dX12_error_13 ?_
  have ho := ks hf
  subst ho
  exact kiret hx hb hr hlk hP hD hS hQ dX12_error_14
abbrev k_X12_in (G : KG) : va_W := []
def f_X12_in (N : Nat) (p0 : Int32) (p1 : Int32) (p2 : Int32) : Option (Int32) := (if p0 < p1 then (some (0 : Int32)) else (if p2 < p0 then (some (0 : Int32)) else (some (1 : Int32))))
set_option maxRecDepth 100000 in
set_option maxHeartbeats 4000000 in
theorem c_X12_in (l : Launch) (G : KG) (N : Nat) (p0 : Int32) (p1 : Int32) (p2 : Int32)  (out : Int32) (hf : f_X12_in N p0 p1 p2 = some out) : KM l G yX12_in (kw yX12_in cX12_in 3 (some .boolean)) 0 0 [.int p0, .int p1, .int p2] (k_X12_in G) (k_X12_in G) (some (.int out)) := by
  refine KM.of (by decide) (Nat.le_of_ble_eq_true rfl) ?_
  intro p e s m below meth c A ls args Q Fx0 hP hK hD hA hS hAm hQ hl
  obtain ⟨hx, hb, hr, hml, hts, hown, hlk, hnm⟩ := Fx0
  have hown : s.vm.findClass RX12 = some m.cls := hown
  have hl : lv_has ls 3 [(0, .int p0), (1, .int p1), (2, .int p2)] := hl
  unfold f_X12_in at hf
  refine lv_iload_n hx hb dX12_in_0 rfl (lv_at hl 0 rfl) ?_
  refine lv_iload_n hx hb dX12_in_1 rfl (lv_at hl 1 rfl) ?_
  refine lv_icmp_lt (tgt := 14) hx hb dX12_in_2 (by decide) (fun c1 => ?_) (fun c1 => ?_)
  · replace hf := kt c1 hf
    refine lv_iconst (v := (0 : Int32)) hx hb dX12_in_14 (by decide) ?_
    have ho := ks hf
    subst ho
    exact kzret hx hb hr (Or.inl rfl) hlk hP hD hS hQ dX12_in_15
  · replace hf := kf c1 hf
    refine lv_iload_n hx hb dX12_in_5 rfl (lv_at hl 0 rfl) ?_
    refine lv_iload_n hx hb dX12_in_6 rfl (lv_at hl 2 rfl) ?_
    refine lv_icmp_gt (tgt := 14) hx hb dX12_in_7 (by decide) (fun c2 => ?_) (fun c2 => ?_)
    · replace hf := kt c2 hf
      refine lv_iconst (v := (0 : Int32)) hx hb dX12_in_14 (by decide) ?_
      have ho := ks hf
      subst ho
      exact kzret hx hb hr (Or.inl rfl) hlk hP hD hS hQ dX12_in_15
    · replace hf := kf c2 hf
      refine lv_iconst (v := (1 : Int32)) hx hb dX12_in_10 (by decide) ?_
      refine lv_goto (tgt := 15) hx hb dX12_in_11 (by decide) ?_
      have ho := ks hf
      subst ho
      exact kzret hx hb hr (Or.inr rfl) hlk hP hD hS hQ dX12_in_15
abbrev k_X12_held (G : KG) : va_W := []
def f_X12_held (N : Nat) (p0 : Int32) (p1 : Int32) (p2 : Int32) : Option (Int32) := (if p1 ≤ p0 then (if p0 ≤ p2 then (some p0) else (some p2)) else (some p1))
set_option maxRecDepth 100000 in
set_option maxHeartbeats 4000000 in
theorem c_X12_held (l : Launch) (G : KG) (N : Nat) (p0 : Int32) (p1 : Int32) (p2 : Int32)  (out : Int32) (hf : f_X12_held N p0 p1 p2 = some out) : KM l G yX12_held (kw yX12_held cX12_held 3 (some .int)) 0 0 [.int p0, .int p1, .int p2] (k_X12_held G) (k_X12_held G) (some (.int out)) := by
  refine KM.of (by decide) (Nat.le_of_ble_eq_true rfl) ?_
  intro p e s m below meth c A ls args Q Fx0 hP hK hD hA hS hAm hQ hl
  obtain ⟨hx, hb, hr, hml, hts, hown, hlk, hnm⟩ := Fx0
  have hown : s.vm.findClass RX12 = some m.cls := hown
  have hl : lv_has ls 3 [(0, .int p0), (1, .int p1), (2, .int p2)] := hl
  unfold f_X12_held at hf
  refine lv_iload_n hx hb dX12_held_0 rfl (lv_at hl 0 rfl) ?_
  refine lv_iload_n hx hb dX12_held_1 rfl (lv_at hl 1 rfl) ?_
  refine lv_icmp_ge (tgt := 9) hx hb dX12_held_2 (by decide) (fun c1 => ?_) (fun c1 => ?_)
  · replace hf := kt c1 hf
    refine lv_iload_n hx hb dX12_held_9 rfl (lv_at hl 0 rfl) ?_
    refine lv_iload_n hx hb dX12_held_10 rfl (lv_at hl 2 rfl) ?_
    refine lv_icmp_le (tgt := 18) hx hb dX12_held_11 (by decide) (fun c2 => ?_) (fun c2 => ?_)
    · replace hf := kt c2 hf
      refine lv_iload_n hx hb dX12_held_18 rfl (lv_at hl 0 rfl) ?_
      have ho := ks hf
      subst ho
      exact kiret hx hb hr hlk hP hD hS hQ dX12_held_19
    · replace hf := kf c2 hf
      refine lv_iload_n hx hb dX12_held_14 rfl (lv_at hl 2 rfl) ?_
      refine lv_goto (tgt := 19) hx hb dX12_held_15 (by decide) ?_
      have ho := ks hf
      subst ho
      exact kiret hx hb hr hlk hP hD hS hQ dX12_held_19
  · replace hf := kf c1 hf
    refine lv_iload_n hx hb dX12_held_5 rfl (lv_at hl 1 rfl) ?_
    refine lv_goto (tgt := 19) hx hb dX12_held_6 (by decide) ?_
    have ho := ks hf
    subst ho
    exact kiret hx hb hr hlk hP hD hS hQ dX12_held_19
abbrev k_X12_carry (G : KG) (a_p0 : Nat) (a_p1 : Nat) (p0 : Nat → Int32) (p1 : Nat → Int32) : va_W := [(a_p0, .inl (gI G, 374, .inl p0)), (a_p1, .inl (gI G, 374, .inl p1))]
def f_X12_carry_2 (N : Nat) (p0 : Nat → Int32) (K : Int32 → (Nat → Int32) → Option ((Nat → Int32))) : Nat → Int32 → (Nat → Int32) → Option ((Nat → Int32))
  | 0, _, _ => none
  | n + 1, y2, p1_v => (if (374 : Int32) ≤ y2 then (K y2 p1_v) else (if vin y2 374 = true then (if vin y2 374 = true then (f_X12_carry_2 N p0 K n (y2 + (1 : Int32)) (upd p1_v y2.toNatClampNeg (p0 y2.toNatClampNeg))) else none) else none))
def f_X12_carry (N : Nat) (p0 : Nat → Int32) (p1 : Nat → Int32) : Option ((Nat → Int32)) := (f_X12_carry_2 N p0 (fun v2_4 p1_4 => (some p1_4)) N (0 : Int32) p1)
set_option maxRecDepth 100000 in
set_option maxHeartbeats 4000000 in
theorem c_X12_carry (l : Launch) (G : KG) (N : Nat) (a_p0 : Nat) (a_p1 : Nat) (p0 : Nat → Int32) (p1 : Nat → Int32)  (out : (Nat → Int32)) (hf : f_X12_carry N p0 p1 = some out) : KM l G yX12_carry (kw yX12_carry cX12_carry 3 none) 0 0 [.ref a_p0, .ref a_p1] (k_X12_carry G a_p0 a_p1 p0 p1) (k_X12_carry G a_p0 a_p1 p0 out) none := by
  refine KM.of (by decide) (Nat.le_of_ble_eq_true rfl) ?_
  intro p e s m below meth c A ls args Q Fx0 hP hK hD hA hS hAm hQ hl
  obtain ⟨hx, hb, hr, hml, hts, hown, hlk, hnm⟩ := Fx0
  have hown : s.vm.findClass RX12 = some m.cls := hown
  have hl : lv_has ls 3 [(0, .ref a_p0), (1, .ref a_p1)] := hl
  unfold f_X12_carry at hf
  refine lv_iconst (v := (0 : Int32)) hx hb dX12_carry_0 (by decide) ?_
  refine lv_istore_n (lv' := [(2, .int (0 : Int32)), (0, .ref a_p0), (1, .ref a_p1)]) hx hb dX12_carry_1 rfl hl (by decide) rfl (fun ls hl => ?_)
  have L2 : ∀ (K : Int32 → (Nat → Int32) → Option ((Nat → Int32))), (∀ (v2_2 : Int32) (p1_2 : Nat → Int32) (H : Heap) (locs : List Loc), va_P (gD G) vwCl (k_X12_carry G a_p0 a_p1 p0 p1_2) H → va_D A (k_X12_carry G a_p0 a_p1 p0 p1_2) → va_S A s.heap H locs → ∀ (ls : Array Slot), lv_has ls 3 [(0, .ref a_p0), (1, .ref a_p1), (2, .int v2_2)] → K v2_2 p1_2 = some out → W p l e (kR 0 0 0 0) s m args below meth c H locs 0 0 Q (F0 m 21 ls [])) → ∀ (n : Nat), ∀ (v2_2 : Int32) (p1_2 : Nat → Int32) (H : Heap) (locs : List Loc), va_P (gD G) vwCl (k_X12_carry G a_p0 a_p1 p0 p1_2) H → va_D A (k_X12_carry G a_p0 a_p1 p0 p1_2) → va_S A s.heap H locs → ∀ (ls : Array Slot), lv_has ls 3 [(0, .ref a_p0), (1, .ref a_p1), (2, .int v2_2)] → f_X12_carry_2 N p0 K n v2_2 p1_2 = some out → W p l e (kR 0 0 0 0) s m args below meth c H locs 0 0 Q (F0 m 2 ls []) := by
    intro K hK2 n
    induction n with
    | zero =>
      intro v2_2 p1_2 H locs hP hD hS ls hl hf
      rw [f_X12_carry_2] at hf
      cases hf
    | succ n ih =>
      intro v2_2 p1_2 H locs hP hD hS ls hl hf
      rw [f_X12_carry_2] at hf
      refine lv_iload_n hx hb dX12_carry_2 rfl (lv_at hl 2 rfl) ?_
      refine lv_sipush (v := (374 : Int32)) hx hb dX12_carry_3 (by decide) ?_
      refine lv_icmp_ge (tgt := 21) hx hb dX12_carry_6 (by decide) (fun c3 => ?_) (fun c3 => ?_)
      · replace hf := kt c3 hf
        exact hK2 v2_2 p1_2 _ _ hP hD hS ls (lv_sub hl [0, 1, 2] rfl) hf
      · replace hf := kf c3 hf
        refine lv_aload_n hx hb dX12_carry_9 rfl (lv_at hl 1 rfl) ?_
        refine lv_iload_n hx hb dX12_carry_10 rfl (lv_at hl 2 rfl) ?_
        refine lv_aload_n hx hb dX12_carry_11 rfl (lv_at hl 0 rfl) ?_
        refine lv_iload_n hx hb dX12_carry_12 rfl (lv_at hl 2 rfl) ?_
        obtain ⟨g4, hf⟩ := kg hf
        refine va_iald hx hb hK hP 0 0 rfl rfl (vin_of g4) dX12_carry_13 ?_
        obtain ⟨g5, hf⟩ := kg hf
        refine va_iast hx hb hK hP hD hS 1 0 rfl rfl (vin_of g5) dX12_carry_14 (fun H locs hP hD hS => ?_)
        have hP : va_P (gD G) vwCl (k_X12_carry G a_p0 a_p1 p0 (upd p1_2 v2_2.toNatClampNeg (p0 v2_2.toNatClampNeg))) H := hP
        have hD : va_D A (k_X12_carry G a_p0 a_p1 p0 (upd p1_2 v2_2.toNatClampNeg (p0 v2_2.toNatClampNeg))) := hD
        refine lv_iinc (v := (v2_2 + (1 : Int32))) (lv' := [(2, .int (v2_2 + (1 : Int32))), (0, .ref a_p0), (1, .ref a_p1)]) hx hb dX12_carry_15 hl (k := 2) rfl rfl (by decide) rfl (fun ls hl => ?_)
        refine lv_goto (tgt := 2) hx hb dX12_carry_18 (by decide) ?_
        exact ih (v2_2 + (1 : Int32)) (upd p1_2 v2_2.toNatClampNeg (p0 v2_2.toNatClampNeg)) _ _ hP hD hS ls (lv_sub hl [1, 2, 0] rfl) hf
  refine L2 _ (fun v2_1 p1_1 H locs hP hD hS ls hl hf => ?_) N (0 : Int32) p1 _ _ hP hD hS ls (lv_sub hl [1, 2, 0] rfl) hf
  have ho := ks hf
  subst ho
  exact kvret hx hb hr hlk hP hD hS hQ dX12_carry_21
abbrev k_X12_isThing (G : KG) : va_W := []
def f_X12_isThing (N : Nat) (p0 : Int32) : Option (Int32) := ((f_X12_in N p0 (0 : Int32) (7 : Int32)).bind fun r1 => (if r1 = 0 ∨ r1 = 1 then (some r1) else none))
set_option maxRecDepth 100000 in
set_option maxHeartbeats 4000000 in
theorem c_X12_isThing (l : Launch) (G : KG) (N : Nat) (p0 : Int32)  (out : Int32) (hf : f_X12_isThing N p0 = some out) : KM l G yX12_isThing (kw yX12_isThing cX12_isThing 1 (some .boolean)) 1 22 [.int p0] (k_X12_isThing G) (k_X12_isThing G) (some (.int out)) := by
  refine KM.of (by decide) (Nat.le_of_ble_eq_true rfl) ?_
  intro p e s m below meth c A ls args Q Fx0 hP hK hD hA hS hAm hQ hl
  obtain ⟨hx, hb, hr, hml, hts, hown, hlk, hnm⟩ := Fx0
  have hown : s.vm.findClass RX12 = some m.cls := hown
  have hl : lv_has ls 1 [(0, .int p0)] := hl
  unfold f_X12_isThing at hf
  refine lv_iload_n hx hb dX12_isThing_0 rfl (lv_at hl 0 rfl) ?_
  refine lv_iconst (v := (0 : Int32)) hx hb dX12_isThing_1 (by decide) ?_
  refine lv_bipush (v := (7 : Int32)) hx hb dX12_isThing_2 (by decide) ?_
  obtain ⟨r1, hr1, hf⟩ := kb hf
  refine kS (As := [.int p0, .int (0 : Int32), .int (7 : Int32)]) (rest := []) ⟨hx, hb, hml, hown, hts⟩ (c_X12_in l G N p0 (0 : Int32) (7 : Int32) r1 hr1) (kcS 3 hts tw_1083 tw_92 tw_1081 tw_1082 hd_X12_in ⟨Nat.le_of_ble_eq_true rfl, Nat.le_of_ble_eq_true rfl⟩) dX12_isThing_4 hl.1 hK hAm hA hP hD hS [] rfl rfl rfl [] rfl rfl rfl (Nat.le_of_ble_eq_true rfl) ⟨Nat.le_refl _, Nat.le_refl _⟩ (fun H locs hP hD hS => ?_)
  have hP : va_P (gD G) vwCl (k_X12_isThing G) H := hP
  have hD : va_D A (k_X12_isThing G) := hD
  obtain ⟨g2, hf⟩ := kg hf
  have ho := ks hf
  subst ho
  exact kzret hx hb hr g2 hlk hP hD hS hQ dX12_isThing_7
abbrev k_X12_isTill (G : KG) : va_W := []
def f_X12_isTill (N : Nat) (p0 : Int32) : Option (Int32) := ((f_X12_in N p0 (0 : Int32) (3 : Int32)).bind fun r1 => (if r1 = 0 ∨ r1 = 1 then (some r1) else none))
set_option maxRecDepth 100000 in
set_option maxHeartbeats 4000000 in
theorem c_X12_isTill (l : Launch) (G : KG) (N : Nat) (p0 : Int32)  (out : Int32) (hf : f_X12_isTill N p0 = some out) : KM l G yX12_isTill (kw yX12_isTill cX12_isTill 1 (some .boolean)) 1 22 [.int p0] (k_X12_isTill G) (k_X12_isTill G) (some (.int out)) := by
  refine KM.of (by decide) (Nat.le_of_ble_eq_true rfl) ?_
  intro p e s m below meth c A ls args Q Fx0 hP hK hD hA hS hAm hQ hl
  obtain ⟨hx, hb, hr, hml, hts, hown, hlk, hnm⟩ := Fx0
  have hown : s.vm.findClass RX12 = some m.cls := hown
  have hl : lv_has ls 1 [(0, .int p0)] := hl
  unfold f_X12_isTill at hf
  refine lv_iload_n hx hb dX12_isTill_0 rfl (lv_at hl 0 rfl) ?_
  refine lv_iconst (v := (0 : Int32)) hx hb dX12_isTill_1 (by decide) ?_
  refine lv_iconst (v := (3 : Int32)) hx hb dX12_isTill_2 (by decide) ?_
  obtain ⟨r1, hr1, hf⟩ := kb hf
  refine kS (As := [.int p0, .int (0 : Int32), .int (3 : Int32)]) (rest := []) ⟨hx, hb, hml, hown, hts⟩ (c_X12_in l G N p0 (0 : Int32) (3 : Int32) r1 hr1) (kcS 3 hts tw_1083 tw_92 tw_1081 tw_1082 hd_X12_in ⟨Nat.le_of_ble_eq_true rfl, Nat.le_of_ble_eq_true rfl⟩) dX12_isTill_3 hl.1 hK hAm hA hP hD hS [] rfl rfl rfl [] rfl rfl rfl (Nat.le_of_ble_eq_true rfl) ⟨Nat.le_refl _, Nat.le_refl _⟩ (fun H locs hP hD hS => ?_)
  have hP : va_P (gD G) vwCl (k_X12_isTill G) H := hP
  have hD : va_D A (k_X12_isTill G) := hD
  obtain ⟨g2, hf⟩ := kg hf
  have ho := ks hf
  subst ho
  exact kzret hx hb hr g2 hlk hP hD hS hQ dX12_isTill_6
abbrev k_X12_kindOf (G : KG) (a_this : Nat) (a_this_s : Nat) (a_this_kept : Nat) (a_this_errors : Nat) (a_this_step : Nat) (a_this_named : Nat) (a_this_pile : Nat) (a_this_told : Nat) (a_this_beside1 : Nat) (a_this_row : Nat) (a_this_best : Nat) (a_this_worthOf : Nat) (a_this_trace : Nat) (a_this_bits : Nat) (a_this_sizes : Nat) (a_this_number : Nat) (a_this_aside : Nat) (this_images : Int32) (this_at : Int32) (this_open : Int32) (this_steps : Int32) (this_use : Int32) (this_bestNet : Int32) (this_bestMore : Int32) (this_leastApart : Int32) (this_found : Int32) (this_first : Int32) (this_leastPaid : Int32) (this_traced : Int32) (this_speaks : Int32) (this_isParted : Int32) (this_s : Nat → Int32) : va_W := [(a_this, .inr (12, [.ref a_this_s, .ref a_this_kept, .int this_images, .ref a_this_errors, .int this_at, .int this_open, .int this_steps, .int this_use, .ref a_this_step, .ref a_this_named, .ref a_this_pile, .ref a_this_told, .ref a_this_beside1, .ref a_this_row, .ref a_this_best, .int this_bestNet, .int this_bestMore, .ref a_this_worthOf, .int this_leastApart, .int this_found, .int this_first, .int this_leastPaid, .ref a_this_trace, .int this_traced, .int this_speaks, .int this_isParted, .ref a_this_bits, .ref a_this_sizes, .ref a_this_number, .ref a_this_aside])), (a_this_s, .inl (gI G, 374, .inl this_s))]
def f_X12_kindOf (N : Nat) (p0 : Int32) (this_s : Nat → Int32) : Option (Int32) := (if vin ((32 : Int32) + ((2 : Int32) * p0)) 374 = true then (some (this_s ((32 : Int32) + ((2 : Int32) * p0)).toNatClampNeg)) else none)
set_option maxRecDepth 100000 in
set_option maxHeartbeats 4000000 in
theorem c_X12_kindOf (l : Launch) (G : KG) (N : Nat) (a_this : Nat) (a_this_s : Nat) (a_this_kept : Nat) (a_this_errors : Nat) (a_this_step : Nat) (a_this_named : Nat) (a_this_pile : Nat) (a_this_told : Nat) (a_this_beside1 : Nat) (a_this_row : Nat) (a_this_best : Nat) (a_this_worthOf : Nat) (a_this_trace : Nat) (a_this_bits : Nat) (a_this_sizes : Nat) (a_this_number : Nat) (a_this_aside : Nat) (p0 : Int32) (this_images : Int32) (this_at : Int32) (this_open : Int32) (this_steps : Int32) (this_use : Int32) (this_bestNet : Int32) (this_bestMore : Int32) (this_leastApart : Int32) (this_found : Int32) (this_first : Int32) (this_leastPaid : Int32) (this_traced : Int32) (this_speaks : Int32) (this_isParted : Int32) (this_s : Nat → Int32)  (out : Int32) (hf : f_X12_kindOf N p0 this_s = some out) : KM l G yX12_kindOf (kw yX12_kindOf cX12_kindOf 2 (some .int)) 0 0 [.ref a_this, .int p0] (k_X12_kindOf G a_this a_this_s a_this_kept a_this_errors a_this_step a_this_named a_this_pile a_this_told a_this_beside1 a_this_row a_this_best a_this_worthOf a_this_trace a_this_bits a_this_sizes a_this_number a_this_aside this_images this_at this_open this_steps this_use this_bestNet this_bestMore this_leastApart this_found this_first this_leastPaid this_traced this_speaks this_isParted this_s) (k_X12_kindOf G a_this a_this_s a_this_kept a_this_errors a_this_step a_this_named a_this_pile a_this_told a_this_beside1 a_this_row a_this_best a_this_worthOf a_this_trace a_this_bits a_this_sizes a_this_number a_this_aside this_images this_at this_open this_steps this_use this_bestNet this_bestMore this_leastApart this_found this_first this_leastPaid this_traced this_speaks this_isParted this_s) (some (.int out)) := by
  refine KM.of (by decide) (Nat.le_of_ble_eq_true rfl) ?_
  intro p e s m below meth c A ls args Q Fx0 hP hK hD hA hS hAm hQ hl
  obtain ⟨hx, hb, hr, hml, hts, hown, hlk, hnm⟩ := Fx0
  have hown : s.vm.findClass RX12 = some m.cls := hown
  have hl : lv_has ls 2 [(0, .ref a_this), (1, .int p0)] := hl
  have fl_7 := hts _ tw_986
  unfold f_X12_kindOf at hf
  refine lv_aload_n hx hb dX12_kindOf_0 rfl (lv_at hl 0 rfl) ?_
  refine va_get (D := gD G) (ci := 12) (C := RX12) (T := TX12) (N := 30) hx hb hts hin_X12 hown hK hP 0 rfl rfl 0 (by decide) fl_7 (fun _ h9 => h9) rfl dX12_kindOf_1 ?_
  refine lv_bipush (v := (32 : Int32)) hx hb dX12_kindOf_4 (by decide) ?_
  refine lv_iconst (v := (2 : Int32)) hx hb dX12_kindOf_6 (by decide) ?_
  refine lv_iload_n hx hb dX12_kindOf_7 rfl (lv_at hl 1 rfl) ?_
  refine lv_imul hx hb dX12_kindOf_8 ?_
  refine lv_iadd hx hb dX12_kindOf_9 ?_
  obtain ⟨g1, hf⟩ := kg hf
  refine va_iald hx hb hK hP 1 0 rfl rfl (vin_of g1) dX12_kindOf_10 ?_
  have ho := ks hf
  subst ho
  exact kiret hx hb hr hlk hP hD hS hQ dX12_kindOf_11
abbrev k_X12_mOf (G : KG) (a_this : Nat) (a_this_s : Nat) (a_this_kept : Nat) (a_this_errors : Nat) (a_this_step : Nat) (a_this_named : Nat) (a_this_pile : Nat) (a_this_told : Nat) (a_this_beside1 : Nat) (a_this_row : Nat) (a_this_best : Nat) (a_this_worthOf : Nat) (a_this_trace : Nat) (a_this_bits : Nat) (a_this_sizes : Nat) (a_this_number : Nat) (a_this_aside : Nat) (this_images : Int32) (this_at : Int32) (this_open : Int32) (this_steps : Int32) (this_use : Int32) (this_bestNet : Int32) (this_bestMore : Int32) (this_leastApart : Int32) (this_found : Int32) (this_first : Int32) (this_leastPaid : Int32) (this_traced : Int32) (this_speaks : Int32) (this_isParted : Int32) (this_s : Nat → Int32) : va_W := [(a_this, .inr (12, [.ref a_this_s, .ref a_this_kept, .int this_images, .ref a_this_errors, .int this_at, .int this_open, .int this_steps, .int this_use, .ref a_this_step, .ref a_this_named, .ref a_this_pile, .ref a_this_told, .ref a_this_beside1, .ref a_this_row, .ref a_this_best, .int this_bestNet, .int this_bestMore, .ref a_this_worthOf, .int this_leastApart, .int this_found, .int this_first, .int this_leastPaid, .ref a_this_trace, .int this_traced, .int this_speaks, .int this_isParted, .ref a_this_bits, .ref a_this_sizes, .ref a_this_number, .ref a_this_aside])), (a_this_s, .inl (gI G, 374, .inl this_s))]
def f_X12_mOf (N : Nat) (p0 : Int32) (this_s : Nat → Int32) : Option (Int32) := (if vin (((32 : Int32) + ((2 : Int32) * p0)) + (1 : Int32)) 374 = true then (some (this_s (((32 : Int32) + ((2 : Int32) * p0)) + (1 : Int32)).toNatClampNeg)) else none)
set_option maxRecDepth 100000 in
set_option maxHeartbeats 4000000 in
theorem c_X12_mOf (l : Launch) (G : KG) (N : Nat) (a_this : Nat) (a_this_s : Nat) (a_this_kept : Nat) (a_this_errors : Nat) (a_this_step : Nat) (a_this_named : Nat) (a_this_pile : Nat) (a_this_told : Nat) (a_this_beside1 : Nat) (a_this_row : Nat) (a_this_best : Nat) (a_this_worthOf : Nat) (a_this_trace : Nat) (a_this_bits : Nat) (a_this_sizes : Nat) (a_this_number : Nat) (a_this_aside : Nat) (p0 : Int32) (this_images : Int32) (this_at : Int32) (this_open : Int32) (this_steps : Int32) (this_use : Int32) (this_bestNet : Int32) (this_bestMore : Int32) (this_leastApart : Int32) (this_found : Int32) (this_first : Int32) (this_leastPaid : Int32) (this_traced : Int32) (this_speaks : Int32) (this_isParted : Int32) (this_s : Nat → Int32)  (out : Int32) (hf : f_X12_mOf N p0 this_s = some out) : KM l G yX12_mOf (kw yX12_mOf cX12_mOf 2 (some .int)) 0 0 [.ref a_this, .int p0] (k_X12_mOf G a_this a_this_s a_this_kept a_this_errors a_this_step a_this_named a_this_pile a_this_told a_this_beside1 a_this_row a_this_best a_this_worthOf a_this_trace a_this_bits a_this_sizes a_this_number a_this_aside this_images this_at this_open this_steps this_use this_bestNet this_bestMore this_leastApart this_found this_first this_leastPaid this_traced this_speaks this_isParted this_s) (k_X12_mOf G a_this a_this_s a_this_kept a_this_errors a_this_step a_this_named a_this_pile a_this_told a_this_beside1 a_this_row a_this_best a_this_worthOf a_this_trace a_this_bits a_this_sizes a_this_number a_this_aside this_images this_at this_open this_steps this_use this_bestNet this_bestMore this_leastApart this_found this_first this_leastPaid this_traced this_speaks this_isParted this_s) (some (.int out)) := by
  refine KM.of (by decide) (Nat.le_of_ble_eq_true rfl) ?_
  intro p e s m below meth c A ls args Q Fx0 hP hK hD hA hS hAm hQ hl
  obtain ⟨hx, hb, hr, hml, hts, hown, hlk, hnm⟩ := Fx0
  have hown : s.vm.findClass RX12 = some m.cls := hown
  have hl : lv_has ls 2 [(0, .ref a_this), (1, .int p0)] := hl
  have fl_7 := hts _ tw_986
  unfold f_X12_mOf at hf
  refine lv_aload_n hx hb dX12_mOf_0 rfl (lv_at hl 0 rfl) ?_
  refine va_get (D := gD G) (ci := 12) (C := RX12) (T := TX12) (N := 30) hx hb hts hin_X12 hown hK hP 0 rfl rfl 0 (by decide) fl_7 (fun _ h9 => h9) rfl dX12_mOf_1 ?_
  refine lv_bipush (v := (32 : Int32)) hx hb dX12_mOf_4 (by decide) ?_
  refine lv_iconst (v := (2 : Int32)) hx hb dX12_mOf_6 (by decide) ?_
  refine lv_iload_n hx hb dX12_mOf_7 rfl (lv_at hl 1 rfl) ?_
  refine lv_imul hx hb dX12_mOf_8 ?_
  refine lv_iadd hx hb dX12_mOf_9 ?_
  refine lv_iconst (v := (1 : Int32)) hx hb dX12_mOf_10 (by decide) ?_
  refine lv_iadd hx hb dX12_mOf_11 ?_
  obtain ⟨g1, hf⟩ := kg hf
  refine va_iald hx hb hK hP 1 0 rfl rfl (vin_of g1) dX12_mOf_12 ?_
  have ho := ks hf
  subst ho
  exact kiret hx hb hr hlk hP hD hS hQ dX12_mOf_13
abbrev k_X12_change1 (G : KG) (a_this : Nat) (a_this_s : Nat) (a_this_kept : Nat) (a_this_errors : Nat) (a_this_step : Nat) (a_this_named : Nat) (a_this_pile : Nat) (a_this_told : Nat) (a_this_beside1 : Nat) (a_this_row : Nat) (a_this_best : Nat) (a_this_worthOf : Nat) (a_this_trace : Nat) (a_this_bits : Nat) (a_this_sizes : Nat) (a_this_number : Nat) (a_this_aside : Nat) (this_images : Int32) (this_at : Int32) (this_open : Int32) (this_steps : Int32) (this_use : Int32) (this_bestNet : Int32) (this_bestMore : Int32) (this_leastApart : Int32) (this_found : Int32) (this_first : Int32) (this_leastPaid : Int32) (this_traced : Int32) (this_speaks : Int32) (this_isParted : Int32) (this_s : Nat → Int32) : va_W := [(a_this, .inr (12, [.ref a_this_s, .ref a_this_kept, .int this_images, .ref a_this_errors, .int this_at, .int this_open, .int this_steps, .int this_use, .ref a_this_step, .ref a_this_named, .ref a_this_pile, .ref a_this_told, .ref a_this_beside1, .ref a_this_row, .ref a_this_best, .int this_bestNet, .int this_bestMore, .ref a_this_worthOf, .int this_leastApart, .int this_found, .int this_first, .int this_leastPaid, .ref a_this_trace, .int this_traced, .int this_speaks, .int this_isParted, .ref a_this_bits, .ref a_this_sizes, .ref a_this_number, .ref a_this_aside])), (a_this_s, .inl (gI G, 374, .inl this_s))]
def f_X12_change1 (N : Nat) (p0 : Int32) (p1 : Int32) (this_s : Nat → Int32) : Option (Int32 × (Nat → Int32)) := (if vin p0 374 = true then (if vin p0 374 = true then (some ((this_s p0.toNatClampNeg), (upd this_s p0.toNatClampNeg p1))) else none) else none)
set_option maxRecDepth 100000 in
set_option maxHeartbeats 4000000 in
theorem c_X12_change1 (l : Launch) (G : KG) (N : Nat) (a_this : Nat) (a_this_s : Nat) (a_this_kept : Nat) (a_this_errors : Nat) (a_this_step : Nat) (a_this_named : Nat) (a_this_pile : Nat) (a_this_told : Nat) (a_this_beside1 : Nat) (a_this_row : Nat) (a_this_best : Nat) (a_this_worthOf : Nat) (a_this_trace : Nat) (a_this_bits : Nat) (a_this_sizes : Nat) (a_this_number : Nat) (a_this_aside : Nat) (p0 : Int32) (p1 : Int32) (this_images : Int32) (this_at : Int32) (this_open : Int32) (this_steps : Int32) (this_use : Int32) (this_bestNet : Int32) (this_bestMore : Int32) (this_leastApart : Int32) (this_found : Int32) (this_first : Int32) (this_leastPaid : Int32) (this_traced : Int32) (this_speaks : Int32) (this_isParted : Int32) (this_s : Nat → Int32)  (out : Int32 × (Nat → Int32)) (hf : f_X12_change1 N p0 p1 this_s = some out) : KM l G yX12_change1 (kw yX12_change1 cX12_change1 4 (some .int)) 0 0 [.ref a_this, .int p0, .int p1] (k_X12_change1 G a_this a_this_s a_this_kept a_this_errors a_this_step a_this_named a_this_pile a_this_told a_this_beside1 a_this_row a_this_best a_this_worthOf a_this_trace a_this_bits a_this_sizes a_this_number a_this_aside this_images this_at this_open this_steps this_use this_bestNet this_bestMore this_leastApart this_found this_first this_leastPaid this_traced this_speaks this_isParted this_s) (k_X12_change1 G a_this a_this_s a_this_kept a_this_errors a_this_step a_this_named a_this_pile a_this_told a_this_beside1 a_this_row a_this_best a_this_worthOf a_this_trace a_this_bits a_this_sizes a_this_number a_this_aside this_images this_at this_open this_steps this_use this_bestNet this_bestMore this_leastApart this_found this_first this_leastPaid this_traced this_speaks this_isParted (out.2)) (some (.int (out.1))) := by
  refine KM.of (by decide) (Nat.le_of_ble_eq_true rfl) ?_
  intro p e s m below meth c A ls args Q Fx0 hP hK hD hA hS hAm hQ hl
  obtain ⟨hx, hb, hr, hml, hts, hown, hlk, hnm⟩ := Fx0
  have hown : s.vm.findClass RX12 = some m.cls := hown
  have hl : lv_has ls 4 [(0, .ref a_this), (1, .int p0), (2, .int p1)] := hl
  have fl_7 := hts _ tw_986
  unfold f_X12_change1 at hf
  refine lv_aload_n hx hb dX12_change1_0 rfl (lv_at hl 0 rfl) ?_
  refine va_get (D := gD G) (ci := 12) (C := RX12) (T := TX12) (N := 30) hx hb hts hin_X12 hown hK hP 0 rfl rfl 0 (by decide) fl_7 (fun _ h9 => h9) rfl dX12_change1_1 ?_
  refine lv_iload_n hx hb dX12_change1_4 rfl (lv_at hl 1 rfl) ?_
  obtain ⟨g1, hf⟩ := kg hf
  refine va_iald hx hb hK hP 1 0 rfl rfl (vin_of g1) dX12_change1_5 ?_
  refine lv_istore_n (lv' := [(3, .int (this_s p0.toNatClampNeg)), (0, .ref a_this), (1, .int p0), (2, .int p1)]) hx hb dX12_change1_6 rfl hl (by decide) rfl (fun ls hl => ?_)
  refine lv_aload_n hx hb dX12_change1_7 rfl (lv_at hl 1 rfl) ?_
  refine va_get (D := gD G) (ci := 12) (C := RX12) (T := TX12) (N := 30) hx hb hts hin_X12 hown hK hP 0 rfl rfl 0 (by decide) fl_7 (fun _ h9 => h9) rfl dX12_change1_8 ?_
  refine lv_iload_n hx hb dX12_change1_11 rfl (lv_at hl 2 rfl) ?_
  refine lv_iload_n hx hb dX12_change1_12 rfl (lv_at hl 3 rfl) ?_
  obtain ⟨g2, hf⟩ := kg hf
  refine va_iast hx hb hK hP hD hS 1 0 rfl rfl (vin_of g2) dX12_change1_13 (fun H locs hP hD hS => ?_)
  have hP : va_P (gD G) vwCl (k_X12_change1 G a_this a_this_s a_this_kept a_this_errors a_this_step a_this_named a_this_pile a_this_told a_this_beside1 a_this_row a_this_best a_this_worthOf a_this_trace a_this_bits a_this_sizes a_this_number a_this_aside this_images this_at this_open this_steps this_use this_bestNet this_bestMore this_leastApart this_found this_first this_leastPaid this_traced this_speaks this_isParted (upd this_s p0.toNatClampNeg p1)) H := hP
  have hD : va_D A (k_X12_change1 G a_this a_this_s a_this_kept a_this_errors a_this_step a_this_named a_this_pile a_this_told a_this_beside1 a_this_row a_this_best a_this_worthOf a_this_trace a_this_bits a_this_sizes a_this_number a_this_aside this_images this_at this_open this_steps this_use this_bestNet this_bestMore this_leastApart this_found this_first this_leastPaid this_traced this_speaks this_isParted (upd this_s p0.toNatClampNeg p1)) := hD
  refine lv_iload_n hx hb dX12_change1_14 rfl (lv_at hl 0 rfl) ?_
  have ho := ks hf
  subst ho
  exact kiret hx hb hr hlk hP hD hS hQ dX12_change1_15
abbrev k_X12_feed (G : KG) (a_this : Nat) (a_this_s : Nat) (a_this_kept : Nat) (a_this_errors : Nat) (a_this_step : Nat) (a_this_named : Nat) (a_this_pile : Nat) (a_this_told : Nat) (a_this_beside1 : Nat) (a_this_row : Nat) (a_this_best : Nat) (a_this_worthOf : Nat) (a_this_trace : Nat) (a_this_bits : Nat) (a_this_sizes : Nat) (a_this_number : Nat) (a_this_aside : Nat) (this_images : Int32) (this_at : Int32) (this_open : Int32) (this_steps : Int32) (this_use : Int32) (this_bestNet : Int32) (this_bestMore : Int32) (this_leastApart : Int32) (this_found : Int32) (this_first : Int32) (this_leastPaid : Int32) (this_traced : Int32) (this_speaks : Int32) (this_isParted : Int32) (this_errors : Nat → Int32) (this_s : Nat → Int32) : va_W := [(a_this, .inr (12, [.ref a_this_s, .ref a_this_kept, .int this_images, .ref a_this_errors, .int this_at, .int this_open, .int this_steps, .int this_use, .ref a_this_step, .ref a_this_named, .ref a_this_pile, .ref a_this_told, .ref a_this_beside1, .ref a_this_row, .ref a_this_best, .int this_bestNet, .int this_bestMore, .ref a_this_worthOf, .int this_leastApart, .int this_found, .int this_first, .int this_leastPaid, .ref a_this_trace, .int this_traced, .int this_speaks, .int this_isParted, .ref a_this_bits, .ref a_this_sizes, .ref a_this_number, .ref a_this_aside])), (a_this_errors, .inl (gI G, 7, .inl this_errors)), (a_this_s, .inl (gI G, 374, .inl this_s))]
def f_X12_feed_38 (N : Nat) (x1 : Int64) (x3 : Int32) (K : Int32 → (Nat → Int32) → Option (Int32 × (Nat → Int32) × (Nat → Int32))) : Nat → Int32 → (Nat → Int32) → Option (Int32 × (Nat → Int32) × (Nat → Int32))
  | 0, _, _ => none
  | n + 1, y4, this_s_v => (if x3 ≤ y4 then (K y4 this_s_v) else (if vin ((290 : Int32) + (this_s_v (3 : Int32).toNatClampNeg)) 374 = true then (f_X12_feed_38 N x1 x3 K n (y4 + (1 : Int32)) (upd (upd this_s_v ((290 : Int32) + (this_s_v (3 : Int32).toNatClampNeg)).toNatClampNeg (((x1 >>> (((8 : Int32) * y4).toInt64 &&& 63)) &&& (255 : Int64)).toInt32)) (3 : Int32).toNatClampNeg (((upd this_s_v ((290 : Int32) + (this_s_v (3 : Int32).toNatClampNeg)).toNatClampNeg (((x1 >>> (((8 : Int32) * y4).toInt64 &&& 63)) &&& (255 : Int64)).toInt32)) (3 : Int32).toNatClampNeg) + (1 : Int32)))) else none))
def f_X12_feed (N : Nat) (p0 : Int64) (p1 : Int32) (this_errors : Nat → Int32) (this_s : Nat → Int32) : Option (Int32 × (Nat → Int32) × (Nat → Int32)) := ((f_X12_in N p1 (1 : Int32) (8 : Int32)).bind fun r1 => (if r1 = 0 then ((f_X12_error N (1 : Int32) this_errors).bind fun r11 => (some (r11.1, r11.2, this_s))) else (if ((this_s (3 : Int32).toNatClampNeg) + p1) ≤ (60 : Int32) then (f_X12_feed_38 N p0 p1 (fun v4_6 this_s_6 => (some ((this_s_6 (3 : Int32).toNatClampNeg), this_errors, this_s_6))) N (0 : Int32) this_s) else ((f_X12_error N (4 : Int32) this_errors).bind fun r10 => (some (r10.1, r10.2, this_s))))))
set_option maxRecDepth 100000 in
set_option maxHeartbeats 4000000 in
theorem c_X12_feed (l : Launch) (G : KG) (N : Nat) (a_this : Nat) (a_this_s : Nat) (a_this_kept : Nat) (a_this_errors : Nat) (a_this_step : Nat) (a_this_named : Nat) (a_this_pile : Nat) (a_this_told : Nat) (a_this_beside1 : Nat) (a_this_row : Nat) (a_this_best : Nat) (a_this_worthOf : Nat) (a_this_trace : Nat) (a_this_bits : Nat) (a_this_sizes : Nat) (a_this_number : Nat) (a_this_aside : Nat) (p0 : Int64) (p1 : Int32) (this_images : Int32) (this_at : Int32) (this_open : Int32) (this_steps : Int32) (this_use : Int32) (this_bestNet : Int32) (this_bestMore : Int32) (this_leastApart : Int32) (this_found : Int32) (this_first : Int32) (this_leastPaid : Int32) (this_traced : Int32) (this_speaks : Int32) (this_isParted : Int32) (this_errors : Nat → Int32) (this_s : Nat → Int32)  (out : Int32 × (Nat → Int32) × (Nat → Int32)) (hf : f_X12_feed N p0 p1 this_errors this_s = some out) : KM l G yX12_feed (kw yX12_feed cX12_feed 5 (some .int)) 1 22 [.ref a_this, .long p0, .int p1] (k_X12_feed G a_this a_this_s a_this_kept a_this_errors a_this_step a_this_named a_this_pile a_this_told a_this_beside1 a_this_row a_this_best a_this_worthOf a_this_trace a_this_bits a_this_sizes a_this_number a_this_aside this_images this_at this_open this_steps this_use this_bestNet this_bestMore this_leastApart this_found this_first this_leastPaid this_traced this_speaks this_isParted this_errors this_s) (k_X12_feed G a_this a_this_s a_this_kept a_this_errors a_this_step a_this_named a_this_pile a_this_told a_this_beside1 a_this_row a_this_best a_this_worthOf a_this_trace a_this_bits a_this_sizes a_this_number a_this_aside this_images this_at this_open this_steps this_use this_bestNet this_bestMore this_leastApart this_found this_first this_leastPaid this_traced this_speaks this_isParted (out.2.1) (out.2.2)) (some (.int (out.1))) := by
  refine KM.of (by decide) (Nat.le_of_ble_eq_true rfl) ?_
  intro p e s m below meth c A ls args Q Fx0 hP hK hD hA hS hAm hQ hl
  obtain ⟨hx, hb, hr, hml, hts, hown, hlk, hnm⟩ := Fx0
  have hown : s.vm.findClass RX12 = some m.cls := hown
  have hl : lv_has ls 5 [(0, .ref a_this), (1, .long p0), (3, .int p1)] := hl
  have fl_7 := hts _ tw_986
  have kc_67 := hts _ tw_1089
  unfold f_X12_feed at hf
  refine lv_iload_n hx hb dX12_feed_0 rfl (lv_at hl 2 rfl) ?_
  refine lv_iconst (v := (1 : Int32)) hx hb dX12_feed_1 (by decide) ?_
  refine lv_bipush (v := (8 : Int32)) hx hb dX12_feed_2 (by decide) ?_
  obtain ⟨r1, hr1, hf⟩ := kb hf
  refine kS (As := [.int p1, .int (1 : Int32), .int (8 : Int32)]) (rest := []) ⟨hx, hb, hml, hown, hts⟩ (c_X12_in l G N p1 (1 : Int32) (8 : Int32) r1 hr1) (kcS 3 hts tw_1083 tw_92 tw_1081 tw_1082 hd_X12_in ⟨Nat.le_of_ble_eq_true rfl, Nat.le_of_ble_eq_true rfl⟩) dX12_feed_4 hl.1 hK hAm hA hP hD hS [] rfl rfl rfl [] rfl rfl rfl (Nat.le_of_ble_eq_true rfl) ⟨Nat.le_refl _, Nat.le_refl _⟩ (fun H locs hP hD hS => ?_)
  have hP : va_P (gD G) vwCl (k_X12_feed G a_this a_this_s a_this_kept a_this_errors a_this_step a_this_named a_this_pile a_this_told a_this_beside1 a_this_row a_this_best a_this_worthOf a_this_trace a_this_bits a_this_sizes a_this_number a_this_aside this_images this_at this_open this_steps this_use this_bestNet this_bestMore this_leastApart this_found this_first this_leastPaid this_traced this_speaks this_isParted this_errors this_s) H := hP
  have hD : va_D A (k_X12_feed G a_this a_this_s a_this_kept a_this_errors a_this_step a_this_named a_this_pile a_this_told a_this_beside1 a_this_row a_this_best a_this_worthOf a_this_trace a_this_bits a_this_sizes a_this_number a_this_aside this_images this_at this_open this_steps this_use this_bestNet this_bestMore this_leastApart this_found this_first this_leastPaid this_traced this_speaks this_isParted this_errors this_s) := hD
  refine lv_if_ne (tgt := 16) hx hb dX12_feed_7 (by decide) (fun c2 => ?_) (fun c2 => ?_)
  · replace hf := kf c2 hf
    refine lv_aload_n hx hb dX12_feed_16 rfl (lv_at hl 0 rfl) ?_
    refine va_get (D := gD G) (ci := 12) (C := RX12) (T := TX12) (N := 30) hx hb hts hin_X12 hown hK hP 0 rfl rfl 0 (by decide) fl_7 (fun _ h9 => h9) rfl dX12_feed_17 ?_
    refine lv_iconst (v := (3 : Int32)) hx hb dX12_feed_20 (by decide) ?_
    refine va_iald hx hb hK hP 2 0 rfl rfl (vin_of (by decide)) dX12_feed_21 ?_
    refine lv_iload_n hx hb dX12_feed_22 rfl (lv_at hl 2 rfl) ?_
    refine lv_iadd hx hb dX12_feed_23 ?_
    refine lv_bipush (v := (60 : Int32)) hx hb dX12_feed_24 (by decide) ?_
    refine lv_icmp_le (tgt := 35) hx hb dX12_feed_26 (by decide) (fun c3 => ?_) (fun c3 => ?_)
    · replace hf := kt c3 hf
      refine lv_iconst (v := (0 : Int32)) hx hb dX12_feed_35 (by decide) ?_
      refine lv_istore (lv' := [(4, .int (0 : Int32)), (0, .ref a_this), (1, .long p0), (3, .int p1)]) hx hb dX12_feed_36 hl (by decide) rfl (fun ls hl => ?_)
      have L5 : ∀ (K : Int32 → (Nat → Int32) → Option (Int32 × (Nat → Int32) × (Nat → Int32))), (∀ (v4_5 : Int32) (this_s_5 : Nat → Int32) (H : Heap) (locs : List Loc), va_P (gD G) vwCl (k_X12_feed G a_this a_this_s a_this_kept a_this_errors a_this_step a_this_named a_this_pile a_this_told a_this_beside1 a_this_row a_this_best a_this_worthOf a_this_trace a_this_bits a_this_sizes a_this_number a_this_aside this_images this_at this_open this_steps this_use this_bestNet this_bestMore this_leastApart this_found this_first this_leastPaid this_traced this_speaks this_isParted this_errors this_s_5) H → va_D A (k_X12_feed G a_this a_this_s a_this_kept a_this_errors a_this_step a_this_named a_this_pile a_this_told a_this_beside1 a_this_row a_this_best a_this_worthOf a_this_trace a_this_bits a_this_sizes a_this_number a_this_aside this_images this_at this_open this_steps this_use this_bestNet this_bestMore this_leastApart this_found this_first this_leastPaid this_traced this_speaks this_isParted this_errors this_s_5) → va_S A s.heap H locs → ∀ (ls : Array Slot), lv_has ls 5 [(0, .ref a_this), (1, .long p0), (3, .int p1), (4, .int v4_5)] → K v4_5 this_s_5 = some out → W p l e (kR 1 0 0 22) s m args below meth c H locs 0 0 Q (F0 m 87 ls [])) → ∀ (n : Nat), ∀ (v4_5 : Int32) (this_s_5 : Nat → Int32) (H : Heap) (locs : List Loc), va_P (gD G) vwCl (k_X12_feed G a_this a_this_s a_this_kept a_this_errors a_this_step a_this_named a_this_pile a_this_told a_this_beside1 a_this_row a_this_best a_this_worthOf a_this_trace a_this_bits a_this_sizes a_this_number a_this_aside this_images this_at this_open this_steps this_use this_bestNet this_bestMore this_leastApart this_found this_first this_leastPaid this_traced this_speaks this_isParted this_errors this_s_5) H → va_D A (k_X12_feed G a_this a_this_s a_this_kept a_this_errors a_this_step a_this_named a_this_pile a_this_told a_this_beside1 a_this_row a_this_best a_this_worthOf a_this_trace a_this_bits a_this_sizes a_this_number a_this_aside this_images this_at this_open this_steps this_use this_bestNet this_bestMore this_leastApart this_found this_first this_leastPaid this_traced this_speaks this_isParted this_errors this_s_5) → va_S A s.heap H locs → ∀ (ls : Array Slot), lv_has ls 5 [(0, .ref a_this), (1, .long p0), (3, .int p1), (4, .int v4_5)] → f_X12_feed_38 N p0 p1 K n v4_5 this_s_5 = some out → W p l e (kR 1 0 0 22) s m args below meth c H locs 0 0 Q (F0 m 38 ls []) := by
        intro K hK5 n
        induction n with
        | zero =>
          intro v4_5 this_s_5 H locs hP hD hS ls hl hf
          rw [f_X12_feed_38] at hf
          cases hf
        | succ n ih =>
          intro v4_5 this_s_5 H locs hP hD hS ls hl hf
          rw [f_X12_feed_38] at hf
          refine lv_iload hx hb dX12_feed_38 (lv_at hl 3 rfl) ?_
          refine lv_iload_n hx hb dX12_feed_40 rfl (lv_at hl 2 rfl) ?_
          refine lv_icmp_ge (tgt := 87) hx hb dX12_feed_41 (by decide) (fun c6 => ?_) (fun c6 => ?_)
          · replace hf := kt c6 hf
            exact hK5 v4_5 this_s_5 _ _ hP hD hS ls (lv_sub hl [0, 1, 2, 3] rfl) hf
          · replace hf := kf c6 hf
            refine lv_aload_n hx hb dX12_feed_44 rfl (lv_at hl 0 rfl) ?_
            refine va_get (D := gD G) (ci := 12) (C := RX12) (T := TX12) (N := 30) hx hb hts hin_X12 hown hK hP 0 rfl rfl 0 (by decide) fl_7 (fun _ h9 => h9) rfl dX12_feed_45 ?_
            refine lv_sipush (v := (290 : Int32)) hx hb dX12_feed_48 (by decide) ?_
            refine lv_aload_n hx hb dX12_feed_51 rfl (lv_at hl 0 rfl) ?_
            refine va_get (D := gD G) (ci := 12) (C := RX12) (T := TX12) (N := 30) hx hb hts hin_X12 hown hK hP 0 rfl rfl 0 (by decide) fl_7 (fun _ h9 => h9) rfl dX12_feed_52 ?_
            refine lv_iconst (v := (3 : Int32)) hx hb dX12_feed_55 (by decide) ?_
            refine va_iald hx hb hK hP 2 0 rfl rfl (vin_of (by decide)) dX12_feed_56 ?_
            refine lv_iadd hx hb dX12_feed_57 ?_
            refine lv_lload_n hx hb dX12_feed_58 rfl (lv_at hl 1 rfl) ?_
            refine lv_bipush (v := (8 : Int32)) hx hb dX12_feed_59 (by decide) ?_
            refine lv_iload hx hb dX12_feed_61 (lv_at hl 3 rfl) ?_
            refine lv_imul hx hb dX12_feed_63 ?_
            refine lv_lshr (v := (p0 >>> (((8 : Int32) * v4_5).toInt64 &&& 63))) hx hb dX12_feed_64 rfl ?_
            refine lv_ldc2 (v := (255 : Int64)) hx hb hown kc_67 dX12_feed_65 ?_
            refine lv_land hx hb dX12_feed_68 ?_
            refine lv_l2i (v := ((p0 >>> (((8 : Int32) * v4_5).toInt64 &&& 63)) &&& (255 : Int64)).toInt32) hx hb dX12_feed_69 rfl ?_
            obtain ⟨g7, hf⟩ := kg hf
            refine va_iast hx hb hK hP hD hS 2 0 rfl rfl (vin_of g7) dX12_feed_70 (fun H locs hP hD hS => ?_)
            have hP : va_P (gD G) vwCl (k_X12_feed G a_this a_this_s a_this_kept a_this_errors a_this_step a_this_named a_this_pile a_this_told a_this_beside1 a_this_row a_this_best a_this_worthOf a_this_trace a_this_bits a_this_sizes a_this_number a_this_aside this_images this_at this_open this_steps this_use this_bestNet this_bestMore this_leastApart this_found this_first this_leastPaid this_traced this_speaks this_isParted this_errors (upd this_s_5 ((290 : Int32) + (this_s_5 (3 : Int32).toNatClampNeg)).toNatClampNeg (((p0 >>> (((8 : Int32) * v4_5).toInt64 &&& 63)) &&& (255 : Int64)).toInt32))) H := hP
            have hD : va_D A (k_X12_feed G a_this a_this_s a_this_kept a_this_errors a_this_step a_this_named a_this_pile a_this_told a_this_beside1 a_this_row a_this_best a_this_worthOf a_this_trace a_this_bits a_this_sizes a_this_number a_this_aside this_images this_at this_open this_steps this_use this_bestNet this_bestMore this_leastApart this_found this_first this_leastPaid this_traced this_speaks this_isParted this_errors (upd this_s_5 ((290 : Int32) + (this_s_5 (3 : Int32).toNatClampNeg)).toNatClampNeg (((p0 >>> (((8 : Int32) * v4_5).toInt64 &&& 63)) &&& (255 : Int64)).toInt32))) := hD
            refine lv_aload_n hx hb dX12_feed_71 rfl (lv_at hl 0 rfl) ?_
            refine va_get (D := gD G) (ci := 12) (C := RX12) (T := TX12) (N := 30) hx hb hts hin_X12 hown hK hP 0 rfl rfl 0 (by decide) fl_7 (fun _ h9 => h9) rfl dX12_feed_72 ?_
            refine lv_iconst (v := (3 : Int32)) hx hb dX12_feed_75 (by decide) ?_
            refine lv_dup2_11 hx hb dX12_feed_76 rfl rfl ?_
            refine va_iald hx hb hK hP 2 0 rfl rfl (vin_of (by decide)) dX12_feed_77 ?_
            refine lv_iconst (v := (1 : Int32)) hx hb dX12_feed_78 (by decide) ?_
            refine lv_iadd hx hb dX12_feed_79 ?_
            refine va_iast hx hb hK hP hD hS 2 0 rfl rfl (vin_of (by decide)) dX12_feed_80 (fun H locs hP hD hS => ?_)
            have hP : va_P (gD G) vwCl (k_X12_feed G a_this a_this_s a_this_kept a_this_errors a_this_step a_this_named a_this_pile a_this_told a_this_beside1 a_this_row a_this_best a_this_worthOf a_this_trace a_this_bits a_this_sizes a_this_number a_this_aside this_images this_at this_open this_steps this_use this_bestNet this_bestMore this_leastApart this_found this_first this_leastPaid this_traced this_speaks this_isParted this_errors (upd (upd this_s_5 ((290 : Int32) + (this_s_5 (3 : Int32).toNatClampNeg)).toNatClampNeg (((p0 >>> (((8 : Int32) * v4_5).toInt64 &&& 63)) &&& (255 : Int64)).toInt32)) (3 : Int32).toNatClampNeg (((upd this_s_5 ((290 : Int32) + (this_s_5 (3 : Int32).toNatClampNeg)).toNatClampNeg (((p0 >>> (((8 : Int32) * v4_5).toInt64 &&& 63)) &&& (255 : Int64)).toInt32)) (3 : Int32).toNatClampNeg) + (1 : Int32)))) H := hP
            have hD : va_D A (k_X12_feed G a_this a_this_s a_this_kept a_this_errors a_this_step a_this_named a_this_pile a_this_told a_this_beside1 a_this_row a_this_best a_this_worthOf a_this_trace a_this_bits a_this_sizes a_this_number a_this_aside this_images this_at this_open this_steps this_use this_bestNet this_bestMore this_leastApart this_found this_first this_leastPaid this_traced this_speaks this_isParted this_errors (upd (upd this_s_5 ((290 : Int32) + (this_s_5 (3 : Int32).toNatClampNeg)).toNatClampNeg (((p0 >>> (((8 : Int32) * v4_5).toInt64 &&& 63)) &&& (255 : Int64)).toInt32)) (3 : Int32).toNatClampNeg (((upd this_s_5 ((290 : Int32) + (this_s_5 (3 : Int32).toNatClampNeg)).toNatClampNeg (((p0 >>> (((8 : Int32) * v4_5).toInt64 &&& 63)) &&& (255 : Int64)).toInt32)) (3 : Int32).toNatClampNeg) + (1 : Int32)))) := hD
            refine lv_iinc (v := (v4_5 + (1 : Int32))) (lv' := [(4, .int (v4_5 + (1 : Int32))), (0, .ref a_this), (1, .long p0), (3, .int p1)]) hx hb dX12_feed_81 hl (k := 3) rfl rfl (by decide) rfl (fun ls hl => ?_)
            refine lv_goto (tgt := 38) hx hb dX12_feed_84 (by decide) ?_
            exact ih (v4_5 + (1 : Int32)) (upd (upd this_s_5 ((290 : Int32) + (this_s_5 (3 : Int32).toNatClampNeg)).toNatClampNeg (((p0 >>> (((8 : Int32) * v4_5).toInt64 &&& 63)) &&& (255 : Int64)).toInt32)) (3 : Int32).toNatClampNeg (((upd this_s_5 ((290 : Int32) + (this_s_5 (3 : Int32).toNatClampNeg)).toNatClampNeg (((p0 >>> (((8 : Int32) * v4_5).toInt64 &&& 63)) &&& (255 : Int64)).toInt32)) (3 : Int32).toNatClampNeg) + (1 : Int32))) _ _ hP hD hS ls (lv_sub hl [1, 2, 3, 0] rfl) hf
      refine L5 _ (fun v4_4 this_s_4 H locs hP hD hS ls hl hf => ?_) N (0 : Int32) this_s _ _ hP hD hS ls (lv_sub hl [1, 2, 3, 0] rfl) hf
      refine lv_aload_n hx hb dX12_feed_87 rfl (lv_at hl 0 rfl) ?_
      refine va_get (D := gD G) (ci := 12) (C := RX12) (T := TX12) (N := 30) hx hb hts hin_X12 hown hK hP 0 rfl rfl 0 (by decide) fl_7 (fun _ h9 => h9) rfl dX12_feed_88 ?_
      refine lv_iconst (v := (3 : Int32)) hx hb dX12_feed_91 (by decide) ?_
      refine va_iald hx hb hK hP 2 0 rfl rfl (vin_of (by decide)) dX12_feed_92 ?_
      have ho := ks hf
      subst ho
      exact kiret hx hb hr hlk hP hD hS hQ dX12_feed_93
    · replace hf := kf c3 hf
      refine lv_aload_n hx hb dX12_feed_29 rfl (lv_at hl 0 rfl) ?_
      refine lv_iconst (v := (4 : Int32)) hx hb dX12_feed_30 (by decide) ?_
      obtain ⟨r8, hr8, hf⟩ := kb hf
      refine kV (As := [.int (4 : Int32)]) (rest := []) ⟨hx, hb, hml, hown, hts⟩ (c_X12_error l G N a_this a_this_s a_this_kept a_this_errors a_this_step a_this_named a_this_pile a_this_told a_this_beside1 a_this_row a_this_best a_this_worthOf a_this_trace a_this_bits a_this_sizes a_this_number a_this_aside (4 : Int32) this_images this_at this_open this_steps this_use this_bestNet this_bestMore this_leastApart this_found this_first this_leastPaid this_traced this_speaks this_isParted this_errors r8 hr8) (kcV 1 hts tw_1087 tw_92 tw_1084 tw_1086 tw_43 hd_X12_error ⟨Nat.le_of_ble_eq_true rfl, Nat.le_of_ble_eq_true rfl⟩) dX12_feed_31 hl.1 hK hAm hA hP hD hS 0 (ci := 12) rfl rfl rfl [0, 1] rfl rfl rfl [1] rfl rfl rfl (Nat.le_of_ble_eq_true rfl) ⟨Nat.le_refl _, Nat.le_refl _⟩ (fun H locs hP hD hS => ?_)
      have hP : va_P (gD G) vwCl (k_X12_feed G a_this a_this_s a_this_kept a_this_errors a_this_step a_this_named a_this_pile a_this_told a_this_beside1 a_this_row a_this_best a_this_worthOf a_this_trace a_this_bits a_this_sizes a_this_number a_this_aside this_images this_at this_open this_steps this_use this_bestNet this_bestMore this_leastApart this_found this_first this_leastPaid this_traced this_speaks this_isParted r8.2 this_s) H := hP
      have hD : va_D A (k_X12_feed G a_this a_this_s a_this_kept a_this_errors a_this_step a_this_named a_this_pile a_this_told a_this_beside1 a_this_row a_this_best a_this_worthOf a_this_trace a_this_bits a_this_sizes a_this_number a_this_aside this_images this_at this_open this_steps this_use this_bestNet this_bestMore this_leastApart this_found this_first this_leastPaid this_traced this_speaks this_isParted r8.2 this_s) := hD
      have ho := ks hf
      subst ho
      exact kiret hx hb hr hlk hP hD hS hQ dX12_feed_34
  · replace hf := kt c2 hf
    refine lv_aload_n hx hb dX12_feed_10 rfl (lv_at hl 0 rfl) ?_
    refine lv_iconst (v := (1 : Int32)) hx hb dX12_feed_11 (by decide) ?_
    obtain ⟨r9, hr9, hf⟩ := kb hf
    refine kV (As := [.int (1 : Int32)]) (rest := []) ⟨hx, hb, hml, hown, hts⟩ (c_X12_error l G N a_this a_this_s a_this_kept a_this_errors a_this_step a_this_named a_this_pile a_this_told a_this_beside1 a_this_row a_this_best a_this_worthOf a_this_trace a_this_bits a_this_sizes a_this_number a_this_aside (1 : Int32) this_images this_at this_open this_steps this_use this_bestNet this_bestMore this_leastApart this_found this_first this_leastPaid this_traced this_speaks this_isParted this_errors r9 hr9) (kcV 1 hts tw_1087 tw_92 tw_1084 tw_1086 tw_43 hd_X12_error ⟨Nat.le_of_ble_eq_true rfl, Nat.le_of_ble_eq_true rfl⟩) dX12_feed_12 hl.1 hK hAm hA hP hD hS 0 (ci := 12) rfl rfl rfl [0, 1] rfl rfl rfl [1] rfl rfl rfl (Nat.le_of_ble_eq_true rfl) ⟨Nat.le_refl _, Nat.le_refl _⟩ (fun H locs hP hD hS => ?_)
    have hP : va_P (gD G) vwCl (k_X12_feed G a_this a_this_s a_this_kept a_this_errors a_this_step a_this_named a_this_pile a_this_told a_this_beside1 a_this_row a_this_best a_this_worthOf a_this_trace a_this_bits a_this_sizes a_this_number a_this_aside this_images this_at this_open this_steps this_use this_bestNet this_bestMore this_leastApart this_found this_first this_leastPaid this_traced this_speaks this_isParted r9.2 this_s) H := hP
    have hD : va_D A (k_X12_feed G a_this a_this_s a_this_kept a_this_errors a_this_step a_this_named a_this_pile a_this_told a_this_beside1 a_this_row a_this_best a_this_worthOf a_this_trace a_this_bits a_this_sizes a_this_number a_this_aside this_images this_at this_open this_steps this_use this_bestNet this_bestMore this_leastApart this_found this_first this_leastPaid this_traced this_speaks this_isParted r9.2 this_s) := hD
    have ho := ks hf
    subst ho
    exact kiret hx hb hr hlk hP hD hS hQ dX12_feed_15
abbrev k_X12_look (G : KG) (a_this : Nat) (a_this_s : Nat) (a_this_kept : Nat) (a_this_errors : Nat) (a_this_step : Nat) (a_this_named : Nat) (a_this_pile : Nat) (a_this_told : Nat) (a_this_beside1 : Nat) (a_this_row : Nat) (a_this_best : Nat) (a_this_worthOf : Nat) (a_this_trace : Nat) (a_this_bits : Nat) (a_this_sizes : Nat) (a_this_number : Nat) (a_this_aside : Nat) (this_images : Int32) (this_at : Int32) (this_open : Int32) (this_steps : Int32) (this_use : Int32) (this_bestNet : Int32) (this_bestMore : Int32) (this_leastApart : Int32) (this_found : Int32) (this_first : Int32) (this_leastPaid : Int32) (this_traced : Int32) (this_speaks : Int32) (this_isParted : Int32) (this_s : Nat → Int32) : va_W := [(a_this, .inr (12, [.ref a_this_s, .ref a_this_kept, .int this_images, .ref a_this_errors, .int this_at, .int this_open, .int this_steps, .int this_use, .ref a_this_step, .ref a_this_named, .ref a_this_pile, .ref a_this_told, .ref a_this_beside1, .ref a_this_row, .ref a_this_best, .int this_bestNet, .int this_bestMore, .ref a_this_worthOf, .int this_leastApart, .int this_found, .int this_first, .int this_leastPaid, .ref a_this_trace, .int this_traced, .int this_speaks, .int this_isParted, .ref a_this_bits, .ref a_this_sizes, .ref a_this_number, .ref a_this_aside])), (a_this_s, .inl (gI G, 374, .inl this_s))]
def f_X12_look (N : Nat) (this_at : Int32) (this_s : Nat → Int32) : Option (Int32) := (if (this_s (3 : Int32).toNatClampNeg) ≤ this_at then (some (-1 : Int32)) else (if vin ((290 : Int32) + this_at) 374 = true then (some (this_s ((290 : Int32) + this_at).toNatClampNeg)) else none))
set_option maxRecDepth 100000 in
set_option maxHeartbeats 4000000 in
theorem c_X12_look (l : Launch) (G : KG) (N : Nat) (a_this : Nat) (a_this_s : Nat) (a_this_kept : Nat) (a_this_errors : Nat) (a_this_step : Nat) (a_this_named : Nat) (a_this_pile : Nat) (a_this_told : Nat) (a_this_beside1 : Nat) (a_this_row : Nat) (a_this_best : Nat) (a_this_worthOf : Nat) (a_this_trace : Nat) (a_this_bits : Nat) (a_this_sizes : Nat) (a_this_number : Nat) (a_this_aside : Nat) (this_images : Int32) (this_at : Int32) (this_open : Int32) (this_steps : Int32) (this_use : Int32) (this_bestNet : Int32) (this_bestMore : Int32) (this_leastApart : Int32) (this_found : Int32) (this_first : Int32) (this_leastPaid : Int32) (this_traced : Int32) (this_speaks : Int32) (this_isParted : Int32) (this_s : Nat → Int32)  (out : Int32) (hf : f_X12_look N this_at this_s = some out) : KM l G yX12_look (kw yX12_look cX12_look 1 (some .int)) 0 0 [.ref a_this] (k_X12_look G a_this a_this_s a_this_kept a_this_errors a_this_step a_this_named a_this_pile a_this_told a_this_beside1 a_this_row a_this_best a_this_worthOf a_this_trace a_this_bits a_this_sizes a_this_number a_this_aside this_images this_at this_open this_steps this_use this_bestNet this_bestMore this_leastApart this_found this_first this_leastPaid this_traced this_speaks this_isParted this_s) (k_X12_look G a_this a_this_s a_this_kept a_this_errors a_this_step a_this_named a_this_pile a_this_told a_this_beside1 a_this_row a_this_best a_this_worthOf a_this_trace a_this_bits a_this_sizes a_this_number a_this_aside this_images this_at this_open this_steps this_use this_bestNet this_bestMore this_leastApart this_found this_first this_leastPaid this_traced this_speaks this_isParted this_s) (some (.int out)) := by
  refine KM.of (by decide) (Nat.le_of_ble_eq_true rfl) ?_
  intro p e s m below meth c A ls args Q Fx0 hP hK hD hA hS hAm hQ hl
  obtain ⟨hx, hb, hr, hml, hts, hown, hlk, hnm⟩ := Fx0
  have hown : s.vm.findClass RX12 = some m.cls := hown
  have hl : lv_has ls 1 [(0, .ref a_this)] := hl
  have fl_69 := hts _ tw_990
  have fl_7 := hts _ tw_986
  unfold f_X12_look at hf
  refine lv_aload_n hx hb dX12_look_0 rfl (lv_at hl 0 rfl) ?_
  refine va_get (D := gD G) (ci := 12) (C := RX12) (T := TX12) (N := 30) hx hb hts hin_X12 hown hK hP 0 rfl rfl 4 (by decide) fl_69 (fun _ h9 => h9) rfl dX12_look_1 ?_
  refine lv_aload_n hx hb dX12_look_4 rfl (lv_at hl 0 rfl) ?_
  refine va_get (D := gD G) (ci := 12) (C := RX12) (T := TX12) (N := 30) hx hb hts hin_X12 hown hK hP 0 rfl rfl 0 (by decide) fl_7 (fun _ h9 => h9) rfl dX12_look_5 ?_
  refine lv_iconst (v := (3 : Int32)) hx hb dX12_look_8 (by decide) ?_
  refine va_iald hx hb hK hP 1 0 rfl rfl (vin_of (by decide)) dX12_look_9 ?_
  refine lv_icmp_ge (tgt := 29) hx hb dX12_look_10 (by decide) (fun c1 => ?_) (fun c1 => ?_)
  · replace hf := kt c1 hf
    refine lv_iconst (v := (-1 : Int32)) hx hb dX12_look_29 (by decide) ?_
    have ho := ks hf
    subst ho
    exact kiret hx hb hr hlk hP hD hS hQ dX12_look_30
  · replace hf := kf c1 hf
    refine lv_aload_n hx hb dX12_look_13 rfl (lv_at hl 0 rfl) ?_
    refine va_get (D := gD G) (ci := 12) (C := RX12) (T := TX12) (N := 30) hx hb hts hin_X12 hown hK hP 0 rfl rfl 0 (by decide) fl_7 (fun _ h9 => h9) rfl dX12_look_14 ?_
    refine lv_sipush (v := (290 : Int32)) hx hb dX12_look_17 (by decide) ?_
    refine lv_aload_n hx hb dX12_look_20 rfl (lv_at hl 0 rfl) ?_
    refine va_get (D := gD G) (ci := 12) (C := RX12) (T := TX12) (N := 30) hx hb hts hin_X12 hown hK hP 0 rfl rfl 4 (by decide) fl_69 (fun _ h9 => h9) rfl dX12_look_21 ?_
    refine lv_iadd hx hb dX12_look_24 ?_
    obtain ⟨g2, hf⟩ := kg hf
    refine va_iald hx hb hK hP 1 0 rfl rfl (vin_of g2) dX12_look_25 ?_
    refine lv_goto (tgt := 30) hx hb dX12_look_26 (by decide) ?_
    have ho := ks hf
    subst ho
    exact kiret hx hb hr hlk hP hD hS hQ dX12_look_30
abbrev k_X12_isName (G : KG) (a_this : Nat) (a_this_s : Nat) (a_this_kept : Nat) (a_this_errors : Nat) (a_this_step : Nat) (a_this_named : Nat) (a_this_pile : Nat) (a_this_told : Nat) (a_this_beside1 : Nat) (a_this_row : Nat) (a_this_best : Nat) (a_this_worthOf : Nat) (a_this_trace : Nat) (a_this_bits : Nat) (a_this_sizes : Nat) (a_this_number : Nat) (a_this_aside : Nat) (this_images : Int32) (this_at : Int32) (this_open : Int32) (this_steps : Int32) (this_use : Int32) (this_bestNet : Int32) (this_bestMore : Int32) (this_leastApart : Int32) (this_found : Int32) (this_first : Int32) (this_leastPaid : Int32) (this_traced : Int32) (this_speaks : Int32) (this_isParted : Int32) : va_W := [(a_this, .inr (12, [.ref a_this_s, .ref a_this_kept, .int this_images, .ref a_this_errors, .int this_at, .int this_open, .int this_steps, .int this_use, .ref a_this_step, .ref a_this_named, .ref a_this_pile, .ref a_this_told, .ref a_this_beside1, .ref a_this_row, .ref a_this_best, .int this_bestNet, .int this_bestMore, .ref a_this_worthOf, .int this_leastApart, .int this_found, .int this_first, .int this_leastPaid, .ref a_this_trace, .int this_traced, .int this_speaks, .int this_isParted, .ref a_this_bits, .ref a_this_sizes, .ref a_this_number, .ref a_this_aside]))]
def f_X12_isName (N : Nat) (p0 : Int32) (this_use : Int32) : Option (Int32) := (if this_use = 0 then (if p0 = (115 : Int32) then (some (1 : Int32)) else (if p0 = (107 : Int32) then (some (1 : Int32)) else (if p0 = (109 : Int32) then (some (1 : Int32)) else (some (0 : Int32))))) else (if p0 = (116 : Int32) then (some (1 : Int32)) else (if p0 = (112 : Int32) then (some (1 : Int32)) else (if p0 = (99 : Int32) then (some (1 : Int32)) else (some (0 : Int32))))))
set_option maxRecDepth 100000 in
set_option maxHeartbeats 4000000 in
theorem c_X12_isName (l : Launch) (G : KG) (N : Nat) (a_this : Nat) (a_this_s : Nat) (a_this_kept : Nat) (a_this_errors : Nat) (a_this_step : Nat) (a_this_named : Nat) (a_this_pile : Nat) (a_this_told : Nat) (a_this_beside1 : Nat) (a_this_row : Nat) (a_this_best : Nat) (a_this_worthOf : Nat) (a_this_trace : Nat) (a_this_bits : Nat) (a_this_sizes : Nat) (a_this_number : Nat) (a_this_aside : Nat) (p0 : Int32) (this_images : Int32) (this_at : Int32) (this_open : Int32) (this_steps : Int32) (this_use : Int32) (this_bestNet : Int32) (this_bestMore : Int32) (this_leastApart : Int32) (this_found : Int32) (this_first : Int32) (this_leastPaid : Int32) (this_traced : Int32) (this_speaks : Int32) (this_isParted : Int32)  (out : Int32) (hf : f_X12_isName N p0 this_use = some out) : KM l G yX12_isName (kw yX12_isName cX12_isName 2 (some .boolean)) 0 0 [.ref a_this, .int p0] (k_X12_isName G a_this a_this_s a_this_kept a_this_errors a_this_step a_this_named a_this_pile a_this_told a_this_beside1 a_this_row a_this_best a_this_worthOf a_this_trace a_this_bits a_this_sizes a_this_number a_this_aside this_images this_at this_open this_steps this_use this_bestNet this_bestMore this_leastApart this_found this_first this_leastPaid this_traced this_speaks this_isParted) (k_X12_isName G a_this a_this_s a_this_kept a_this_errors a_this_step a_this_named a_this_pile a_this_told a_this_beside1 a_this_row a_this_best a_this_worthOf a_this_trace a_this_bits a_this_sizes a_this_number a_this_aside this_images this_at this_open this_steps this_use this_bestNet this_bestMore this_leastApart this_found this_first this_leastPaid this_traced this_speaks this_isParted) (some (.int out)) := by
  refine KM.of (by decide) (Nat.le_of_ble_eq_true rfl) ?_
  intro p e s m below meth c A ls args Q Fx0 hP hK hD hA hS hAm hQ hl
  obtain ⟨hx, hb, hr, hml, hts, hown, hlk, hnm⟩ := Fx0
  have hown : s.vm.findClass RX12 = some m.cls := hown
  have hl : lv_has ls 2 [(0, .ref a_this), (1, .int p0)] := hl
  have fl_73 := hts _ tw_993
  unfold f_X12_isName at hf
  refine lv_aload_n hx hb dX12_isName_0 rfl (lv_at hl 0 rfl) ?_
  refine va_get (D := gD G) (ci := 12) (C := RX12) (T := TX12) (N := 30) hx hb hts hin_X12 hown hK hP 0 rfl rfl 7 (by decide) fl_73 (fun _ h9 => h9) rfl dX12_isName_1 ?_
  refine lv_if_ne (tgt := 31) hx hb dX12_isName_4 (by decide) (fun c1 => ?_) (fun c1 => ?_)
  · replace hf := kf c1 hf
    refine lv_iload_n hx hb dX12_isName_31 rfl (lv_at hl 1 rfl) ?_
    refine lv_bipush (v := (116 : Int32)) hx hb dX12_isName_32 (by decide) ?_
    refine lv_icmp_eq (tgt := 49) hx hb dX12_isName_34 (by decide) (fun c2 => ?_) (fun c2 => ?_)
    · replace hf := kt c2 hf
      refine lv_iconst (v := (1 : Int32)) hx hb dX12_isName_49 (by decide) ?_
      refine lv_goto (tgt := 54) hx hb dX12_isName_50 (by decide) ?_
      have ho := ks hf
      subst ho
      exact kzret hx hb hr (Or.inr rfl) hlk hP hD hS hQ dX12_isName_54
    · replace hf := kf c2 hf
      refine lv_iload_n hx hb dX12_isName_37 rfl (lv_at hl 1 rfl) ?_
      refine lv_bipush (v := (112 : Int32)) hx hb dX12_isName_38 (by decide) ?_
      refine lv_icmp_eq (tgt := 49) hx hb dX12_isName_40 (by decide) (fun c3 => ?_) (fun c3 => ?_)
      · replace hf := kt c3 hf
        refine lv_iconst (v := (1 : Int32)) hx hb dX12_isName_49 (by decide) ?_
        refine lv_goto (tgt := 54) hx hb dX12_isName_50 (by decide) ?_
        have ho := ks hf
        subst ho
        exact kzret hx hb hr (Or.inr rfl) hlk hP hD hS hQ dX12_isName_54
      · replace hf := kf c3 hf
        refine lv_iload_n hx hb dX12_isName_43 rfl (lv_at hl 1 rfl) ?_
        refine lv_bipush (v := (99 : Int32)) hx hb dX12_isName_44 (by decide) ?_
        refine lv_icmp_ne (tgt := 53) hx hb dX12_isName_46 (by decide) (fun c4 => ?_) (fun c4 => ?_)
        · replace hf := kf c4 hf
          refine lv_iconst (v := (0 : Int32)) hx hb dX12_isName_53 (by decide) ?_
          have ho := ks hf
          subst ho
          exact kzret hx hb hr (Or.inl rfl) hlk hP hD hS hQ dX12_isName_54
        · replace hf := kt c4 hf
          refine lv_iconst (v := (1 : Int32)) hx hb dX12_isName_49 (by decide) ?_
          refine lv_goto (tgt := 54) hx hb dX12_isName_50 (by decide) ?_
          have ho := ks hf
          subst ho
          exact kzret hx hb hr (Or.inr rfl) hlk hP hD hS hQ dX12_isName_54
  · replace hf := kt c1 hf
    refine lv_iload_n hx hb dX12_isName_7 rfl (lv_at hl 1 rfl) ?_
    refine lv_bipush (v := (115 : Int32)) hx hb dX12_isName_8 (by decide) ?_
    refine lv_icmp_eq (tgt := 25) hx hb dX12_isName_10 (by decide) (fun c5 => ?_) (fun c5 => ?_)
    · replace hf := kt c5 hf
      refine lv_iconst (v := (1 : Int32)) hx hb dX12_isName_25 (by decide) ?_
      refine lv_goto (tgt := 30) hx hb dX12_isName_26 (by decide) ?_
      have ho := ks hf
      subst ho
      exact kzret hx hb hr (Or.inr rfl) hlk hP hD hS hQ dX12_isName_30
    · replace hf := kf c5 hf
      refine lv_iload_n hx hb dX12_isName_13 rfl (lv_at hl 1 rfl) ?_
      refine lv_bipush (v := (107 : Int32)) hx hb dX12_isName_14 (by decide) ?_
      refine lv_icmp_eq (tgt := 25) hx hb dX12_isName_16 (by decide) (fun c6 => ?_) (fun c6 => ?_)
      · replace hf := kt c6 hf
        refine lv_iconst (v := (1 : Int32)) hx hb dX12_isName_25 (by decide) ?_
        refine lv_goto (tgt := 30) hx hb dX12_isName_26 (by decide) ?_
        have ho := ks hf
        subst ho
        exact kzret hx hb hr (Or.inr rfl) hlk hP hD hS hQ dX12_isName_30
      · replace hf := kf c6 hf
        refine lv_iload_n hx hb dX12_isName_19 rfl (lv_at hl 1 rfl) ?_
        refine lv_bipush (v := (109 : Int32)) hx hb dX12_isName_20 (by decide) ?_
        refine lv_icmp_ne (tgt := 29) hx hb dX12_isName_22 (by decide) (fun c7 => ?_) (fun c7 => ?_)
        · replace hf := kf c7 hf
          refine lv_iconst (v := (0 : Int32)) hx hb dX12_isName_29 (by decide) ?_
          have ho := ks hf
          subst ho
          exact kzret hx hb hr (Or.inl rfl) hlk hP hD hS hQ dX12_isName_30
        · replace hf := kt c7 hf
          refine lv_iconst (v := (1 : Int32)) hx hb dX12_isName_25 (by decide) ?_
          refine lv_goto (tgt := 30) hx hb dX12_isName_26 (by decide) ?_
          have ho := ks hf
          subst ho
          exact kzret hx hb hr (Or.inr rfl) hlk hP hD hS hQ dX12_isName_30
abbrev k_X12_step1 (G : KG) (a_this : Nat) (a_this_s : Nat) (a_this_kept : Nat) (a_this_errors : Nat) (a_this_step : Nat) (a_this_named : Nat) (a_this_pile : Nat) (a_this_told : Nat) (a_this_beside1 : Nat) (a_this_row : Nat) (a_this_best : Nat) (a_this_worthOf : Nat) (a_this_trace : Nat) (a_this_bits : Nat) (a_this_sizes : Nat) (a_this_number : Nat) (a_this_aside : Nat) (this_images : Int32) (this_at : Int32) (this_open : Int32) (this_steps : Int32) (this_use : Int32) (this_bestNet : Int32) (this_bestMore : Int32) (this_leastApart : Int32) (this_found : Int32) (this_first : Int32) (this_leastPaid : Int32) (this_traced : Int32) (this_speaks : Int32) (this_isParted : Int32) (this_step : Nat → Int32) : va_W := [(a_this, .inr (12, [.ref a_this_s, .ref a_this_kept, .int this_images, .ref a_this_errors, .int this_at, .int this_open, .int this_steps, .int this_use, .ref a_this_step, .ref a_this_named, .ref a_this_pile, .ref a_this_told, .ref a_this_beside1, .ref a_this_row, .ref a_this_best, .int this_bestNet, .int this_bestMore, .ref a_this_worthOf, .int this_leastApart, .int this_found, .int this_first, .int this_leastPaid, .ref a_this_trace, .int this_traced, .int this_speaks, .int this_isParted, .ref a_this_bits, .ref a_this_sizes, .ref a_this_number, .ref a_this_aside])), (a_this_step, .inl (gI G, 124, .inl this_step))]
def f_X12_step1 (N : Nat) (p0 : Int32) (p1 : Int32) (this_steps : Int32) (this_step : Nat → Int32) : Option ((Int32) × (Nat → Int32)) := (if vin ((2 : Int32) * this_steps) 124 = true then (if vin (((2 : Int32) * this_steps) + (1 : Int32)) 124 = true then (some ((this_steps + (1 : Int32)), (upd (upd this_step ((2 : Int32) * this_steps).toNatClampNeg p0) (((2 : Int32) * this_steps) + (1 : Int32)).toNatClampNeg p1))) else none) else none)
set_option maxRecDepth 100000 in
set_option maxHeartbeats 4000000 in
theorem c_X12_step1 (l : Launch) (G : KG) (N : Nat) (a_this : Nat) (a_this_s : Nat) (a_this_kept : Nat) (a_this_errors : Nat) (a_this_step : Nat) (a_this_named : Nat) (a_this_pile : Nat) (a_this_told : Nat) (a_this_beside1 : Nat) (a_this_row : Nat) (a_this_best : Nat) (a_this_worthOf : Nat) (a_this_trace : Nat) (a_this_bits : Nat) (a_this_sizes : Nat) (a_this_number : Nat) (a_this_aside : Nat) (p0 : Int32) (p1 : Int32) (this_images : Int32) (this_at : Int32) (this_open : Int32) (this_steps : Int32) (this_use : Int32) (this_bestNet : Int32) (this_bestMore : Int32) (this_leastApart : Int32) (this_found : Int32) (this_first : Int32) (this_leastPaid : Int32) (this_traced : Int32) (this_speaks : Int32) (this_isParted : Int32) (this_step : Nat → Int32)  (out : (Int32) × (Nat → Int32)) (hf : f_X12_step1 N p0 p1 this_steps this_step = some out) : KM l G yX12_step1 (kw yX12_step1 cX12_step1 3 none) 0 0 [.ref a_this, .int p0, .int p1] (k_X12_step1 G a_this a_this_s a_this_kept a_this_errors a_this_step a_this_named a_this_pile a_this_told a_this_beside1 a_this_row a_this_best a_this_worthOf a_this_trace a_this_bits a_this_sizes a_this_number a_this_aside this_images this_at this_open this_steps this_use this_bestNet this_bestMore this_leastApart this_found this_first this_leastPaid this_traced this_speaks this_isParted this_step) (k_X12_step1 G a_this a_this_s a_this_kept a_this_errors a_this_step a_this_named a_this_pile a_this_told a_this_beside1 a_this_row a_this_best a_this_worthOf a_this_trace a_this_bits a_this_sizes a_this_number a_this_aside this_images this_at this_open (out.1) this_use this_bestNet this_bestMore this_leastApart this_found this_first this_leastPaid this_traced this_speaks this_isParted (out.2)) none := by
  refine KM.of (by decide) (Nat.le_of_ble_eq_true rfl) ?_
  intro p e s m below meth c A ls args Q Fx0 hP hK hD hA hS hAm hQ hl
  obtain ⟨hx, hb, hr, hml, hts, hown, hlk, hnm⟩ := Fx0
  have hown : s.vm.findClass RX12 = some m.cls := hown
  have hl : lv_has ls 3 [(0, .ref a_this), (1, .int p0), (2, .int p1)] := hl
  have fl_19 := hts _ tw_994
  have fl_76 := hts _ tw_992
  unfold f_X12_step1 at hf
  refine lv_aload_n hx hb dX12_step1_0 rfl (lv_at hl 0 rfl) ?_
  refine va_get (D := gD G) (ci := 12) (C := RX12) (T := TX12) (N := 30) hx hb hts hin_X12 hown hK hP 0 rfl rfl 8 (by decide) fl_19 (fun _ h9 => h9) rfl dX12_step1_1 ?_
  refine lv_iconst (v := (2 : Int32)) hx hb dX12_step1_4 (by decide) ?_
  refine lv_aload_n hx hb dX12_step1_5 rfl (lv_at hl 0 rfl) ?_
  refine va_get (D := gD G) (ci := 12) (C := RX12) (T := TX12) (N := 30) hx hb hts hin_X12 hown hK hP 0 rfl rfl 6 (by decide) fl_76 (fun _ h9 => h9) rfl dX12_step1_6 ?_
  refine lv_imul hx hb dX12_step1_9 ?_
  refine lv_iload_n hx hb dX12_step1_10 rfl (lv_at hl 1 rfl) ?_
  obtain ⟨g1, hf⟩ := kg hf
  refine va_iast hx hb hK hP hD hS 1 0 rfl rfl (vin_of g1) dX12_step1_11 (fun H locs hP hD hS => ?_)
  have hP : va_P (gD G) vwCl (k_X12_step1 G a_this a_this_s a_this_kept a_this_errors a_this_step a_this_named a_this_pile a_this_told a_this_beside1 a_this_row a_this_best a_this_worthOf a_this_trace a_this_bits a_this_sizes a_this_number a_this_aside this_images this_at this_open this_steps this_use this_bestNet this_bestMore this_leastApart this_found this_first this_leastPaid this_traced this_speaks this_isParted (upd this_step ((2 : Int32) * this_steps).toNatClampNeg p0)) H := hP
  have hD : va_D A (k_X12_step1 G a_this a_this_s a_this_kept a_this_errors a_this_step a_this_named a_this_pile a_this_told a_this_beside1 a_this_row a_this_best a_this_worthOf a_this_trace a_this_bits a_this_sizes a_this_number a_this_aside this_images this_at this_open this_steps this_use this_bestNet this_bestMore this_leastApart this_found this_first this_leastPaid this_traced this_speaks this_isParted (upd this_step ((2 : Int32) * this_steps).toNatClampNeg p0)) := hD
  refine lv_aload_n hx hb dX12_step1_12 rfl (lv_at hl 0 rfl) ?_
  refine va_get (D := gD G) (ci := 12) (C := RX12) (T := TX12) (N := 30) hx hb hts hin_X12 hown hK hP 0 rfl rfl 8 (by decide) fl_19 (fun _ h9 => h9) rfl dX12_step1_13 ?_
  refine lv_iconst (v := (2 : Int32)) hx hb dX12_step1_16 (by decide) ?_
  refine lv_aload_n hx hb dX12_step1_17 rfl (lv_at hl 0 rfl) ?_
  refine va_get (D := gD G) (ci := 12) (C := RX12) (T := TX12) (N := 30) hx hb hts hin_X12 hown hK hP 0 rfl rfl 6 (by decide) fl_76 (fun _ h9 => h9) rfl dX12_step1_18 ?_
  refine lv_imul hx hb dX12_step1_21 ?_
  refine lv_iconst (v := (1 : Int32)) hx hb dX12_step1_22 (by decide) ?_
  refine lv_iadd hx hb dX12_step1_23 ?_
  refine lv_iload_n hx hb dX12_step1_24 rfl (lv_at hl 2 rfl) ?_
  obtain ⟨g2, hf⟩ := kg hf
  refine va_iast hx hb hK hP hD hS 1 0 rfl rfl (vin_of g2) dX12_step1_25 (fun H locs hP hD hS => ?_)
  have hP : va_P (gD G) vwCl (k_X12_step1 G a_this a_this_s a_this_kept a_this_errors a_this_step a_this_named a_this_pile a_this_told a_this_beside1 a_this_row a_this_best a_this_worthOf a_this_trace a_this_bits a_this_sizes a_this_number a_this_aside this_images this_at this_open this_steps this_use this_bestNet this_bestMore this_leastApart this_found this_first this_leastPaid this_traced this_speaks this_isParted (upd (upd this_step ((2 : Int32) * this_steps).toNatClampNeg p0) (((2 : Int32) * this_steps) + (1 : Int32)).toNatClampNeg p1)) H := hP
  have hD : va_D A (k_X12_step1 G a_this a_this_s a_this_kept a_this_errors a_this_step a_this_named a_this_pile a_this_told a_this_beside1 a_this_row a_this_best a_this_worthOf a_this_trace a_this_bits a_this_sizes a_this_number a_this_aside this_images this_at this_open this_steps this_use this_bestNet this_bestMore this_leastApart this_found this_first this_leastPaid this_traced this_speaks this_isParted (upd (upd this_step ((2 : Int32) * this_steps).toNatClampNeg p0) (((2 : Int32) * this_steps) + (1 : Int32)).toNatClampNeg p1)) := hD
  refine lv_aload_n hx hb dX12_step1_26 rfl (lv_at hl 0 rfl) ?_
  refine lv_dup hx hb dX12_step1_27 rfl ?_
  refine va_get (D := gD G) (ci := 12) (C := RX12) (T := TX12) (N := 30) hx hb hts hin_X12 hown hK hP 0 rfl rfl 6 (by decide) fl_76 (fun _ h9 => h9) rfl dX12_step1_28 ?_
  refine lv_iconst (v := (1 : Int32)) hx hb dX12_step1_31 (by decide) ?_
  refine lv_iadd hx hb dX12_step1_32 ?_
  refine va_put (D := gD G) (ci := 12) (v := .int (this_steps + (1 : Int32))) (ty := .int) (C := RX12) (T := TX12) (N := 30) hx hb hts hin_X12 tyX12 tyX12_ok nmX12 hown hK hP hD hS 0 rfl rfl 6 (by decide) fl_76 (fun _ h9 => h9) rfl (by decide +kernel) rfl rfl (Nat.le_of_ble_eq_true rfl) dX12_step1_33 (fun H locs hP hD hS => ?_)
  have hP : va_P (gD G) vwCl (k_X12_step1 G a_this a_this_s a_this_kept a_this_errors a_this_step a_this_named a_this_pile a_this_told a_this_beside1 a_this_row a_this_best a_this_worthOf a_this_trace a_this_bits a_this_sizes a_this_number a_this_aside this_images this_at this_open (this_steps + (1 : Int32)) this_use this_bestNet this_bestMore this_leastApart this_found this_first this_leastPaid this_traced this_speaks this_isParted (upd (upd this_step ((2 : Int32) * this_steps).toNatClampNeg p0) (((2 : Int32) * this_steps) + (1 : Int32)).toNatClampNeg p1)) H := hP
  have hD : va_D A (k_X12_step1 G a_this a_this_s a_this_kept a_this_errors a_this_step a_this_named a_this_pile a_this_told a_this_beside1 a_this_row a_this_best a_this_worthOf a_this_trace a_this_bits a_this_sizes a_this_number a_this_aside this_images this_at this_open (this_steps + (1 : Int32)) this_use this_bestNet this_bestMore this_leastApart this_found this_first this_leastPaid this_traced this_speaks this_isParted (upd (upd this_step ((2 : Int32) * this_steps).toNatClampNeg p0) (((2 : Int32) * this_steps) + (1 : Int32)).toNatClampNeg p1)) := hD
  have ho := ks hf
  subst ho
  exact kvret hx hb hr hlk hP hD hS hQ dX12_step1_36
abbrev k_X12_opens (G : KG) (a_this : Nat) (a_this_s : Nat) (a_this_kept : Nat) (a_this_errors : Nat) (a_this_step : Nat) (a_this_named : Nat) (a_this_pile : Nat) (a_this_told : Nat) (a_this_beside1 : Nat) (a_this_row : Nat) (a_this_best : Nat) (a_this_worthOf : Nat) (a_this_trace : Nat) (a_this_bits : Nat) (a_this_sizes : Nat) (a_this_number : Nat) (a_this_aside : Nat) (this_images : Int32) (this_at : Int32) (this_open : Int32) (this_steps : Int32) (this_use : Int32) (this_bestNet : Int32) (this_bestMore : Int32) (this_leastApart : Int32) (this_found : Int32) (this_first : Int32) (this_leastPaid : Int32) (this_traced : Int32) (this_speaks : Int32) (this_isParted : Int32) : va_W := [(a_this, .inr (12, [.ref a_this_s, .ref a_this_kept, .int this_images, .ref a_this_errors, .int this_at, .int this_open, .int this_steps, .int this_use, .ref a_this_step, .ref a_this_named, .ref a_this_pile, .ref a_this_told, .ref a_this_beside1, .ref a_this_row, .ref a_this_best, .int this_bestNet, .int this_bestMore, .ref a_this_worthOf, .int this_leastApart, .int this_found, .int this_first, .int this_leastPaid, .ref a_this_trace, .int this_traced, .int this_speaks, .int this_isParted, .ref a_this_bits, .ref a_this_sizes, .ref a_this_number, .ref a_this_aside]))]
def f_X12_opens (N : Nat) (this_at : Int32) (this_open : Int32) : Option (Int32 × (Int32) × (Int32)) := (if this_open = (5 : Int32) then (some ((0 : Int32), this_at, this_open)) else (some ((1 : Int32), (this_at + (1 : Int32)), (this_open + (1 : Int32)))))
set_option maxRecDepth 100000 in
set_option maxHeartbeats 4000000 in
theorem c_X12_opens (l : Launch) (G : KG) (N : Nat) (a_this : Nat) (a_this_s : Nat) (a_this_kept : Nat) (a_this_errors : Nat) (a_this_step : Nat) (a_this_named : Nat) (a_this_pile : Nat) (a_this_told : Nat) (a_this_beside1 : Nat) (a_this_row : Nat) (a_this_best : Nat) (a_this_worthOf : Nat) (a_this_trace : Nat) (a_this_bits : Nat) (a_this_sizes : Nat) (a_this_number : Nat) (a_this_aside : Nat) (this_images : Int32) (this_at : Int32) (this_open : Int32) (this_steps : Int32) (this_use : Int32) (this_bestNet : Int32) (this_bestMore : Int32) (this_leastApart : Int32) (this_found : Int32) (this_first : Int32) (this_leastPaid : Int32) (this_traced : Int32) (this_speaks : Int32) (this_isParted : Int32)  (out : Int32 × (Int32) × (Int32)) (hf : f_X12_opens N this_at this_open = some out) : KM l G yX12_opens (kw yX12_opens cX12_opens 1 (some .boolean)) 0 0 [.ref a_this] (k_X12_opens G a_this a_this_s a_this_kept a_this_errors a_this_step a_this_named a_this_pile a_this_told a_this_beside1 a_this_row a_this_best a_this_worthOf a_this_trace a_this_bits a_this_sizes a_this_number a_this_aside this_images this_at this_open this_steps this_use this_bestNet this_bestMore this_leastApart this_found this_first this_leastPaid this_traced this_speaks this_isParted) (k_X12_opens G a_this a_this_s a_this_kept a_this_errors a_this_step a_this_named a_this_pile a_this_told a_this_beside1 a_this_row a_this_best a_this_worthOf a_this_trace a_this_bits a_this_sizes a_this_number a_this_aside this_images (out.2.1) (out.2.2) this_steps this_use this_bestNet this_bestMore this_leastApart this_found this_first this_leastPaid this_traced this_speaks this_isParted) (some (.int (out.1))) := by
  refine KM.of (by decide) (Nat.le_of_ble_eq_true rfl) ?_
  intro p e s m below meth c A ls args Q Fx0 hP hK hD hA hS hAm hQ hl
  obtain ⟨hx, hb, hr, hml, hts, hown, hlk, hnm⟩ := Fx0
  have hown : s.vm.findClass RX12 = some m.cls := hown
  have hl : lv_has ls 1 [(0, .ref a_this)] := hl
  have fl_103 := hts _ tw_991
  have fl_69 := hts _ tw_990
  unfold f_X12_opens at hf
  refine lv_aload_n hx hb dX12_opens_0 rfl (lv_at hl 0 rfl) ?_
  refine va_get (D := gD G) (ci := 12) (C := RX12) (T := TX12) (N := 30) hx hb hts hin_X12 hown hK hP 0 rfl rfl 5 (by decide) fl_103 (fun _ h9 => h9) rfl dX12_opens_1 ?_
  refine lv_iconst (v := (5 : Int32)) hx hb dX12_opens_4 (by decide) ?_
  refine lv_icmp_ne (tgt := 10) hx hb dX12_opens_5 (by decide) (fun c1 => ?_) (fun c1 => ?_)
  · replace hf := kf c1 hf
    refine lv_aload_n hx hb dX12_opens_10 rfl (lv_at hl 0 rfl) ?_
    refine lv_dup hx hb dX12_opens_11 rfl ?_
    refine va_get (D := gD G) (ci := 12) (C := RX12) (T := TX12) (N := 30) hx hb hts hin_X12 hown hK hP 0 rfl rfl 5 (by decide) fl_103 (fun _ h9 => h9) rfl dX12_opens_12 ?_
    refine lv_iconst (v := (1 : Int32)) hx hb dX12_opens_15 (by decide) ?_
    refine lv_iadd hx hb dX12_opens_16 ?_
    refine va_put (D := gD G) (ci := 12) (v := .int (this_open + (1 : Int32))) (ty := .int) (C := RX12) (T := TX12) (N := 30) hx hb hts hin_X12 tyX12 tyX12_ok nmX12 hown hK hP hD hS 0 rfl rfl 5 (by decide) fl_103 (fun _ h9 => h9) rfl (by decide +kernel) rfl rfl (Nat.le_of_ble_eq_true rfl) dX12_opens_17 (fun H locs hP hD hS => ?_)
    have hP : va_P (gD G) vwCl (k_X12_opens G a_this a_this_s a_this_kept a_this_errors a_this_step a_this_named a_this_pile a_this_told a_this_beside1 a_this_row a_this_best a_this_worthOf a_this_trace a_this_bits a_this_sizes a_this_number a_this_aside this_images this_at (this_open + (1 : Int32)) this_steps this_use this_bestNet this_bestMore this_leastApart this_found this_first this_leastPaid this_traced this_speaks this_isParted) H := hP
    have hD : va_D A (k_X12_opens G a_this a_this_s a_this_kept a_this_errors a_this_step a_this_named a_this_pile a_this_told a_this_beside1 a_this_row a_this_best a_this_worthOf a_this_trace a_this_bits a_this_sizes a_this_number a_this_aside this_images this_at (this_open + (1 : Int32)) this_steps this_use this_bestNet this_bestMore this_leastApart this_found this_first this_leastPaid this_traced this_speaks this_isParted) := hD
    refine lv_aload_n hx hb dX12_opens_20 rfl (lv_at hl 0 rfl) ?_
    refine lv_dup hx hb dX12_opens_21 rfl ?_
    refine va_get (D := gD G) (ci := 12) (C := RX12) (T := TX12) (N := 30) hx hb hts hin_X12 hown hK hP 0 rfl rfl 4 (by decide) fl_69 (fun _ h9 => h9) rfl dX12_opens_22 ?_
    refine lv_iconst (v := (1 : Int32)) hx hb dX12_opens_25 (by decide) ?_
    refine lv_iadd hx hb dX12_opens_26 ?_
    refine va_put (D := gD G) (ci := 12) (v := .int (this_at + (1 : Int32))) (ty := .int) (C := RX12) (T := TX12) (N := 30) hx hb hts hin_X12 tyX12 tyX12_ok nmX12 hown hK hP hD hS 0 rfl rfl 4 (by decide) fl_69 (fun _ h9 => h9) rfl (by decide +kernel) rfl rfl (Nat.le_of_ble_eq_true rfl) dX12_opens_27 (fun H locs hP hD hS => ?_)
    have hP : va_P (gD G) vwCl (k_X12_opens G a_this a_this_s a_this_kept a_this_errors a_this_step a_this_named a_this_pile a_this_told a_this_beside1 a_this_row a_this_best a_this_worthOf a_this_trace a_this_bits a_this_sizes a_this_number a_this_aside this_images (this_at + (1 : Int32)) (this_open + (1 : Int32)) this_steps this_use this_bestNet this_bestMore this_leastApart this_found this_first this_leastPaid this_traced this_speaks this_isParted) H := hP
    have hD : va_D A (k_X12_opens G a_this a_this_s a_this_kept a_this_errors a_this_step a_this_named a_this_pile a_this_told a_this_beside1 a_this_row a_this_best a_this_worthOf a_this_trace a_this_bits a_this_sizes a_this_number a_this_aside this_images (this_at + (1 : Int32)) (this_open + (1 : Int32)) this_steps this_use this_bestNet this_bestMore this_leastApart this_found this_first this_leastPaid this_traced this_speaks this_isParted) := hD
    refine lv_iconst (v := (1 : Int32)) hx hb dX12_opens_30 (by decide) ?_
    have ho := ks hf
    subst ho
    exact kzret hx hb hr (Or.inr rfl) hlk hP hD hS hQ dX12_opens_31
  · replace hf := kt c1 hf
    refine lv_iconst (v := (0 : Int32)) hx hb dX12_opens_8 (by decide) ?_
    have ho := ks hf
    subst ho
    exact kzret hx hb hr (Or.inl rfl) hlk hP hD hS hQ dX12_opens_9
abbrev k_X12_hasText (G : KG) (a_this : Nat) (a_this_s : Nat) (a_this_kept : Nat) (a_this_errors : Nat) (a_this_step : Nat) (a_this_named : Nat) (a_this_pile : Nat) (a_this_told : Nat) (a_this_beside1 : Nat) (a_this_row : Nat) (a_this_best : Nat) (a_this_worthOf : Nat) (a_this_trace : Nat) (a_this_bits : Nat) (a_this_sizes : Nat) (a_this_number : Nat) (a_this_aside : Nat) (this_images : Int32) (this_at : Int32) (this_open : Int32) (this_steps : Int32) (this_use : Int32) (this_bestNet : Int32) (this_bestMore : Int32) (this_leastApart : Int32) (this_found : Int32) (this_first : Int32) (this_leastPaid : Int32) (this_traced : Int32) (this_speaks : Int32) (this_isParted : Int32) (this_s : Nat → Int32) : va_W := [(a_this, .inr (12, [.ref a_this_s, .ref a_this_kept, .int this_images, .ref a_this_errors, .int this_at, .int this_open, .int this_steps, .int this_use, .ref a_this_step, .ref a_this_named, .ref a_this_pile, .ref a_this_told, .ref a_this_beside1, .ref a_this_row, .ref a_this_best, .int this_bestNet, .int this_bestMore, .ref a_this_worthOf, .int this_leastApart, .int this_found, .int this_first, .int this_leastPaid, .ref a_this_trace, .int this_traced, .int this_speaks, .int this_isParted, .ref a_this_bits, .ref a_this_sizes, .ref a_this_number, .ref a_this_aside])), (a_this_s, .inl (gI G, 374, .inl this_s))]
def f_X12_hasText (N : Nat) (p0 : Int32) (this_s : Nat → Int32) : Option (Int32) := (if vin ((40 : Int32) + ((125 : Int32) * p0)) 374 = true then (if (this_s ((40 : Int32) + ((125 : Int32) * p0)).toNatClampNeg) ≤ 0 then (some (0 : Int32)) else (some (1 : Int32))) else none)
set_option maxRecDepth 100000 in
set_option maxHeartbeats 4000000 in
theorem c_X12_hasText (l : Launch) (G : KG) (N : Nat) (a_this : Nat) (a_this_s : Nat) (a_this_kept : Nat) (a_this_errors : Nat) (a_this_step : Nat) (a_this_named : Nat) (a_this_pile : Nat) (a_this_told : Nat) (a_this_beside1 : Nat) (a_this_row : Nat) (a_this_best : Nat) (a_this_worthOf : Nat) (a_this_trace : Nat) (a_this_bits : Nat) (a_this_sizes : Nat) (a_this_number : Nat) (a_this_aside : Nat) (p0 : Int32) (this_images : Int32) (this_at : Int32) (this_open : Int32) (this_steps : Int32) (this_use : Int32) (this_bestNet : Int32) (this_bestMore : Int32) (this_leastApart : Int32) (this_found : Int32) (this_first : Int32) (this_leastPaid : Int32) (this_traced : Int32) (this_speaks : Int32) (this_isParted : Int32) (this_s : Nat → Int32)  (out : Int32) (hf : f_X12_hasText N p0 this_s = some out) : KM l G yX12_hasText (kw yX12_hasText cX12_hasText 2 (some .boolean)) 0 0 [.ref a_this, .int p0] (k_X12_hasText G a_this a_this_s a_this_kept a_this_errors a_this_step a_this_named a_this_pile a_this_told a_this_beside1 a_this_row a_this_best a_this_worthOf a_this_trace a_this_bits a_this_sizes a_this_number a_this_aside this_images this_at this_open this_steps this_use this_bestNet this_bestMore this_leastApart this_found this_first this_leastPaid this_traced this_speaks this_isParted this_s) (k_X12_hasText G a_this a_this_s a_this_kept a_this_errors a_this_step a_this_named a_this_pile a_this_told a_this_beside1 a_this_row a_this_best a_this_worthOf a_this_trace a_this_bits a_this_sizes a_this_number a_this_aside this_images this_at this_open this_steps this_use this_bestNet this_bestMore this_leastApart this_found this_first this_leastPaid this_traced this_speaks this_isParted this_s) (some (.int out)) := by
  refine KM.of (by decide) (Nat.le_of_ble_eq_true rfl) ?_
  intro p e s m below meth c A ls args Q Fx0 hP hK hD hA hS hAm hQ hl
  obtain ⟨hx, hb, hr, hml, hts, hown, hlk, hnm⟩ := Fx0
  have hown : s.vm.findClass RX12 = some m.cls := hown
  have hl : lv_has ls 2 [(0, .ref a_this), (1, .int p0)] := hl
  have fl_7 := hts _ tw_986
  unfold f_X12_hasText at hf
  refine lv_aload_n hx hb dX12_hasText_0 rfl (lv_at hl 0 rfl) ?_
  refine va_get (D := gD G) (ci := 12) (C := RX12) (T := TX12) (N := 30) hx hb hts hin_X12 hown hK hP 0 rfl rfl 0 (by decide) fl_7 (fun _ h9 => h9) rfl dX12_hasText_1 ?_
  refine lv_bipush (v := (40 : Int32)) hx hb dX12_hasText_4 (by decide) ?_
  refine lv_bipush (v := (125 : Int32)) hx hb dX12_hasText_6 (by decide) ?_
  refine lv_iload_n hx hb dX12_hasText_8 rfl (lv_at hl 1 rfl) ?_
  refine lv_imul hx hb dX12_hasText_9 ?_
  refine lv_iadd hx hb dX12_hasText_10 ?_
  obtain ⟨g1, hf⟩ := kg hf
  refine va_iald hx hb hK hP 1 0 rfl rfl (vin_of g1) dX12_hasText_11 ?_
  refine lv_if_le (tgt := 19) hx hb dX12_hasText_12 (by decide) (fun c2 => ?_) (fun c2 => ?_)
  · replace hf := kt c2 hf
    refine lv_iconst (v := (0 : Int32)) hx hb dX12_hasText_19 (by decide) ?_
    have ho := ks hf
    subst ho
    exact kzret hx hb hr (Or.inl rfl) hlk hP hD hS hQ dX12_hasText_20
  · replace hf := kf c2 hf
    refine lv_iconst (v := (1 : Int32)) hx hb dX12_hasText_15 (by decide) ?_
    refine lv_goto (tgt := 20) hx hb dX12_hasText_16 (by decide) ?_
    have ho := ks hf
    subst ho
    exact kzret hx hb hr (Or.inr rfl) hlk hP hD hS hQ dX12_hasText_20
abbrev k_X12_untell (G : KG) (a_this : Nat) (a_this_s : Nat) (a_this_kept : Nat) (a_this_errors : Nat) (a_this_step : Nat) (a_this_named : Nat) (a_this_pile : Nat) (a_this_told : Nat) (a_this_beside1 : Nat) (a_this_row : Nat) (a_this_best : Nat) (a_this_worthOf : Nat) (a_this_trace : Nat) (a_this_bits : Nat) (a_this_sizes : Nat) (a_this_number : Nat) (a_this_aside : Nat) (this_images : Int32) (this_at : Int32) (this_open : Int32) (this_steps : Int32) (this_use : Int32) (this_bestNet : Int32) (this_bestMore : Int32) (this_leastApart : Int32) (this_found : Int32) (this_first : Int32) (this_leastPaid : Int32) (this_traced : Int32) (this_speaks : Int32) (this_isParted : Int32) (this_errors : Nat → Int32) (this_s : Nat → Int32) : va_W := [(a_this, .inr (12, [.ref a_this_s, .ref a_this_kept, .int this_images, .ref a_this_errors, .int this_at, .int this_open, .int this_steps, .int this_use, .ref a_this_step, .ref a_this_named, .ref a_this_pile, .ref a_this_told, .ref a_this_beside1, .ref a_this_row, .ref a_this_best, .int this_bestNet, .int this_bestMore, .ref a_this_worthOf, .int this_leastApart, .int this_found, .int this_first, .int this_leastPaid, .ref a_this_trace, .int this_traced, .int this_speaks, .int this_isParted, .ref a_this_bits, .ref a_this_sizes, .ref a_this_number, .ref a_this_aside])), (a_this_errors, .inl (gI G, 7, .inl this_errors)), (a_this_s, .inl (gI G, 374, .inl this_s))]
def f_X12_untell (N : Nat) (p0 : Int32) (this_errors : Nat → Int32) (this_s : Nat → Int32) : Option (Int32 × (Nat → Int32) × (Nat → Int32)) := ((f_X12_in N p0 (0 : Int32) (1 : Int32)).bind fun r1 => (if r1 = 0 then ((f_X12_error N (1 : Int32) this_errors).bind fun r7 => (some (r7.1, r7.2, this_s))) else ((f_X12_hasText N p0 this_s).bind fun r3 => (if r3 = 0 then (if vin ((40 : Int32) + ((125 : Int32) * p0)) 374 = true then (some ((0 : Int32), this_errors, (upd this_s ((40 : Int32) + ((125 : Int32) * p0)).toNatClampNeg (0 : Int32)))) else none) else (if vin ((40 : Int32) + ((125 : Int32) * p0)) 374 = true then (some ((1 : Int32), this_errors, (upd this_s ((40 : Int32) + ((125 : Int32) * p0)).toNatClampNeg (0 : Int32)))) else none)))))
set_option maxRecDepth 100000 in
set_option maxHeartbeats 4000000 in
theorem c_X12_untell (l : Launch) (G : KG) (N : Nat) (a_this : Nat) (a_this_s : Nat) (a_this_kept : Nat) (a_this_errors : Nat) (a_this_step : Nat) (a_this_named : Nat) (a_this_pile : Nat) (a_this_told : Nat) (a_this_beside1 : Nat) (a_this_row : Nat) (a_this_best : Nat) (a_this_worthOf : Nat) (a_this_trace : Nat) (a_this_bits : Nat) (a_this_sizes : Nat) (a_this_number : Nat) (a_this_aside : Nat) (p0 : Int32) (this_images : Int32) (this_at : Int32) (this_open : Int32) (this_steps : Int32) (this_use : Int32) (this_bestNet : Int32) (this_bestMore : Int32) (this_leastApart : Int32) (this_found : Int32) (this_first : Int32) (this_leastPaid : Int32) (this_traced : Int32) (this_speaks : Int32) (this_isParted : Int32) (this_errors : Nat → Int32) (this_s : Nat → Int32)  (out : Int32 × (Nat → Int32) × (Nat → Int32)) (hf : f_X12_untell N p0 this_errors this_s = some out) : KM l G yX12_untell (kw yX12_untell cX12_untell 3 (some .int)) 1 22 [.ref a_this, .int p0] (k_X12_untell G a_this a_this_s a_this_kept a_this_errors a_this_step a_this_named a_this_pile a_this_told a_this_beside1 a_this_row a_this_best a_this_worthOf a_this_trace a_this_bits a_this_sizes a_this_number a_this_aside this_images this_at this_open this_steps this_use this_bestNet this_bestMore this_leastApart this_found this_first this_leastPaid this_traced this_speaks this_isParted this_errors this_s) (k_X12_untell G a_this a_this_s a_this_kept a_this_errors a_this_step a_this_named a_this_pile a_this_told a_this_beside1 a_this_row a_this_best a_this_worthOf a_this_trace a_this_bits a_this_sizes a_this_number a_this_aside this_images this_at this_open this_steps this_use this_bestNet this_bestMore this_leastApart this_found this_first this_leastPaid this_traced this_speaks this_isParted (out.2.1) (out.2.2)) (some (.int (out.1))) := by
  refine KM.of (by decide) (Nat.le_of_ble_eq_true rfl) ?_
  intro p e s m below meth c A ls args Q Fx0 hP hK hD hA hS hAm hQ hl
  obtain ⟨hx, hb, hr, hml, hts, hown, hlk, hnm⟩ := Fx0
  have hown : s.vm.findClass RX12 = some m.cls := hown
  have hl : lv_has ls 3 [(0, .ref a_this), (1, .int p0)] := hl
  have fl_7 := hts _ tw_986
  unfold f_X12_untell at hf
  refine lv_iload_n hx hb dX12_untell_0 rfl (lv_at hl 1 rfl) ?_
  refine lv_iconst (v := (0 : Int32)) hx hb dX12_untell_1 (by decide) ?_
  refine lv_iconst (v := (1 : Int32)) hx hb dX12_untell_2 (by decide) ?_
  obtain ⟨r1, hr1, hf⟩ := kb hf
  refine kS (As := [.int p0, .int (0 : Int32), .int (1 : Int32)]) (rest := []) ⟨hx, hb, hml, hown, hts⟩ (c_X12_in l G N p0 (0 : Int32) (1 : Int32) r1 hr1) (kcS 3 hts tw_1083 tw_92 tw_1081 tw_1082 hd_X12_in ⟨Nat.le_of_ble_eq_true rfl, Nat.le_of_ble_eq_true rfl⟩) dX12_untell_3 hl.1 hK hAm hA hP hD hS [] rfl rfl rfl [] rfl rfl rfl (Nat.le_of_ble_eq_true rfl) ⟨Nat.le_refl _, Nat.le_refl _⟩ (fun H locs hP hD hS => ?_)
  have hP : va_P (gD G) vwCl (k_X12_untell G a_this a_this_s a_this_kept a_this_errors a_this_step a_this_named a_this_pile a_this_told a_this_beside1 a_this_row a_this_best a_this_worthOf a_this_trace a_this_bits a_this_sizes a_this_number a_this_aside this_images this_at this_open this_steps this_use this_bestNet this_bestMore this_leastApart this_found this_first this_leastPaid this_traced this_speaks this_isParted this_errors this_s) H := hP
  have hD : va_D A (k_X12_untell G a_this a_this_s a_this_kept a_this_errors a_this_step a_this_named a_this_pile a_this_told a_this_beside1 a_this_row a_this_best a_this_worthOf a_this_trace a_this_bits a_this_sizes a_this_number a_this_aside this_images this_at this_open this_steps this_use this_bestNet this_bestMore this_leastApart this_found this_first this_leastPaid this_traced this_speaks this_isParted this_errors this_s) := hD
  refine lv_if_ne (tgt := 15) hx hb dX12_untell_6 (by decide) (fun c2 => ?_) (fun c2 => ?_)
  · replace hf := kf c2 hf
    refine lv_aload_n hx hb dX12_untell_15 rfl (lv_at hl 0 rfl) ?_
    refine lv_iload_n hx hb dX12_untell_16 rfl (lv_at hl 1 rfl) ?_
    obtain ⟨r3, hr3, hf⟩ := kb hf
    refine kV (As := [.int p0]) (rest := []) ⟨hx, hb, hml, hown, hts⟩ (c_X12_hasText l G N a_this a_this_s a_this_kept a_this_errors a_this_step a_this_named a_this_pile a_this_told a_this_beside1 a_this_row a_this_best a_this_worthOf a_this_trace a_this_bits a_this_sizes a_this_number a_this_aside p0 this_images this_at this_open this_steps this_use this_bestNet this_bestMore this_leastApart this_found this_first this_leastPaid this_traced this_speaks this_isParted this_s r3 hr3) (kcV 1 hts tw_1141 tw_92 tw_1138 tw_1140 tw_54 hd_X12_hasText ⟨Nat.le_of_ble_eq_true rfl, Nat.le_of_ble_eq_true rfl⟩) dX12_untell_17 hl.1 hK hAm hA hP hD hS 0 (ci := 12) rfl rfl rfl [0, 2] rfl rfl rfl [] rfl rfl rfl (Nat.le_of_ble_eq_true rfl) ⟨Nat.le_refl _, Nat.le_refl _⟩ (fun H locs hP hD hS => ?_)
    have hP : va_P (gD G) vwCl (k_X12_untell G a_this a_this_s a_this_kept a_this_errors a_this_step a_this_named a_this_pile a_this_told a_this_beside1 a_this_row a_this_best a_this_worthOf a_this_trace a_this_bits a_this_sizes a_this_number a_this_aside this_images this_at this_open this_steps this_use this_bestNet this_bestMore this_leastApart this_found this_first this_leastPaid this_traced this_speaks this_isParted this_errors this_s) H := hP
    have hD : va_D A (k_X12_untell G a_this a_this_s a_this_kept a_this_errors a_this_step a_this_named a_this_pile a_this_told a_this_beside1 a_this_row a_this_best a_this_worthOf a_this_trace a_this_bits a_this_sizes a_this_number a_this_aside this_images this_at this_open this_steps this_use this_bestNet this_bestMore this_leastApart this_found this_first this_leastPaid this_traced this_speaks this_isParted this_errors this_s) := hD
    refine lv_if_eq (tgt := 27) hx hb dX12_untell_20 (by decide) (fun c4 => ?_) (fun c4 => ?_)
    · replace hf := kt c4 hf
      refine lv_iconst (v := (0 : Int32)) hx hb dX12_untell_27 (by decide) ?_
      refine lv_istore_n (lv' := [(2, .int (0 : Int32)), (0, .ref a_this), (1, .int p0)]) hx hb dX12_untell_28 rfl hl (by decide) rfl (fun ls hl => ?_)
      refine lv_aload_n hx hb dX12_untell_29 rfl (lv_at hl 1 rfl) ?_
      refine va_get (D := gD G) (ci := 12) (C := RX12) (T := TX12) (N := 30) hx hb hts hin_X12 hown hK hP 0 rfl rfl 0 (by decide) fl_7 (fun _ h9 => h9) rfl dX12_untell_30 ?_
      refine lv_bipush (v := (40 : Int32)) hx hb dX12_untell_33 (by decide) ?_
      refine lv_bipush (v := (125 : Int32)) hx hb dX12_untell_35 (by decide) ?_
      refine lv_iload_n hx hb dX12_untell_37 rfl (lv_at hl 2 rfl) ?_
      refine lv_imul hx hb dX12_untell_38 ?_
      refine lv_iadd hx hb dX12_untell_39 ?_
      refine lv_iconst (v := (0 : Int32)) hx hb dX12_untell_40 (by decide) ?_
      obtain ⟨g5, hf⟩ := kg hf
      refine va_iast hx hb hK hP hD hS 2 0 rfl rfl (vin_of g5) dX12_untell_41 (fun H locs hP hD hS => ?_)
      have hP : va_P (gD G) vwCl (k_X12_untell G a_this a_this_s a_this_kept a_this_errors a_this_step a_this_named a_this_pile a_this_told a_this_beside1 a_this_row a_this_best a_this_worthOf a_this_trace a_this_bits a_this_sizes a_this_number a_this_aside this_images this_at this_open this_steps this_use this_bestNet this_bestMore this_leastApart this_found this_first this_leastPaid this_traced this_speaks this_isParted this_errors (upd this_s ((40 : Int32) + ((125 : Int32) * p0)).toNatClampNeg (0 : Int32))) H := hP
      have hD : va_D A (k_X12_untell G a_this a_this_s a_this_kept a_this_errors a_this_step a_this_named a_this_pile a_this_told a_this_beside1 a_this_row a_this_best a_this_worthOf a_this_trace a_this_bits a_this_sizes a_this_number a_this_aside this_images this_at this_open this_steps this_use this_bestNet this_bestMore this_leastApart this_found this_first this_leastPaid this_traced this_speaks this_isParted this_errors (upd this_s ((40 : Int32) + ((125 : Int32) * p0)).toNatClampNeg (0 : Int32))) := hD
      refine lv_iload_n hx hb dX12_untell_42 rfl (lv_at hl 0 rfl) ?_
      have ho := ks hf
      subst ho
      exact kiret hx hb hr hlk hP hD hS hQ dX12_untell_43
    · replace hf := kf c4 hf
      refine lv_iconst (v := (1 : Int32)) hx hb dX12_untell_23 (by decide) ?_
      refine lv_goto (tgt := 28) hx hb dX12_untell_24 (by decide) ?_
      refine lv_istore_n (lv' := [(2, .int (1 : Int32)), (0, .ref a_this), (1, .int p0)]) hx hb dX12_untell_28 rfl hl (by decide) rfl (fun ls hl => ?_)
      refine lv_aload_n hx hb dX12_untell_29 rfl (lv_at hl 1 rfl) ?_
      refine va_get (D := gD G) (ci := 12) (C := RX12) (T := TX12) (N := 30) hx hb hts hin_X12 hown hK hP 0 rfl rfl 0 (by decide) fl_7 (fun _ h9 => h9) rfl dX12_untell_30 ?_
      refine lv_bipush (v := (40 : Int32)) hx hb dX12_untell_33 (by decide) ?_
      refine lv_bipush (v := (125 : Int32)) hx hb dX12_untell_35 (by decide) ?_
      refine lv_iload_n hx hb dX12_untell_37 rfl (lv_at hl 2 rfl) ?_
      refine lv_imul hx hb dX12_untell_38 ?_
      refine lv_iadd hx hb dX12_untell_39 ?_
      refine lv_iconst (v := (0 : Int32)) hx hb dX12_untell_40 (by decide) ?_
      obtain ⟨g6, hf⟩ := kg hf
      refine va_iast hx hb hK hP hD hS 2 0 rfl rfl (vin_of g6) dX12_untell_41 (fun H locs hP hD hS => ?_)
      have hP : va_P (gD G) vwCl (k_X12_untell G a_this a_this_s a_this_kept a_this_errors a_this_step a_this_named a_this_pile a_this_told a_this_beside1 a_this_row a_this_best a_this_worthOf a_this_trace a_this_bits a_this_sizes a_this_number a_this_aside this_images this_at this_open this_steps this_use this_bestNet this_bestMore this_leastApart this_found this_first this_leastPaid this_traced this_speaks this_isParted this_errors (upd this_s ((40 : Int32) + ((125 : Int32) * p0)).toNatClampNeg (0 : Int32))) H := hP
      have hD : va_D A (k_X12_untell G a_this a_this_s a_this_kept a_this_errors a_this_step a_this_named a_this_pile a_this_told a_this_beside1 a_this_row a_this_best a_this_worthOf a_this_trace a_this_bits a_this_sizes a_this_number a_this_aside this_images this_at this_open this_steps this_use this_bestNet this_bestMore this_leastApart this_found this_first this_leastPaid this_traced this_speaks this_isParted this_errors (upd this_s ((40 : Int32) + ((125 : Int32) * p0)).toNatClampNeg (0 : Int32))) := hD
      refine lv_iload_n hx hb dX12_untell_42 rfl (lv_at hl 0 rfl) ?_
      have ho := ks hf
      subst ho
      exact kiret hx hb hr hlk hP hD hS hQ dX12_untell_43
  · replace hf := kt c2 hf
    refine lv_aload_n hx hb dX12_untell_9 rfl (lv_at hl 0 rfl) ?_
    refine lv_iconst (v := (1 : Int32)) hx hb dX12_untell_10 (by decide) ?_
    obtain ⟨r7, hr7, hf⟩ := kb hf
    refine kV (As := [.int (1 : Int32)]) (rest := []) ⟨hx, hb, hml, hown, hts⟩ (c_X12_error l G N a_this a_this_s a_this_kept a_this_errors a_this_step a_this_named a_this_pile a_this_told a_this_beside1 a_this_row a_this_best a_this_worthOf a_this_trace a_this_bits a_this_sizes a_this_number a_this_aside (1 : Int32) this_images this_at this_open this_steps this_use this_bestNet this_bestMore this_leastApart this_found this_first this_leastPaid this_traced this_speaks this_isParted this_errors r7 hr7) (kcV 1 hts tw_1087 tw_92 tw_1084 tw_1086 tw_43 hd_X12_error ⟨Nat.le_of_ble_eq_true rfl, Nat.le_of_ble_eq_true rfl⟩) dX12_untell_11 hl.1 hK hAm hA hP hD hS 0 (ci := 12) rfl rfl rfl [0, 1] rfl rfl rfl [1] rfl rfl rfl (Nat.le_of_ble_eq_true rfl) ⟨Nat.le_refl _, Nat.le_refl _⟩ (fun H locs hP hD hS => ?_)
    have hP : va_P (gD G) vwCl (k_X12_untell G a_this a_this_s a_this_kept a_this_errors a_this_step a_this_named a_this_pile a_this_told a_this_beside1 a_this_row a_this_best a_this_worthOf a_this_trace a_this_bits a_this_sizes a_this_number a_this_aside this_images this_at this_open this_steps this_use this_bestNet this_bestMore this_leastApart this_found this_first this_leastPaid this_traced this_speaks this_isParted r7.2 this_s) H := hP
    have hD : va_D A (k_X12_untell G a_this a_this_s a_this_kept a_this_errors a_this_step a_this_named a_this_pile a_this_told a_this_beside1 a_this_row a_this_best a_this_worthOf a_this_trace a_this_bits a_this_sizes a_this_number a_this_aside this_images this_at this_open this_steps this_use this_bestNet this_bestMore this_leastApart this_found this_first this_leastPaid this_traced this_speaks this_isParted r7.2 this_s) := hD
    have ho := ks hf
    subst ho
    exact kiret hx hb hr hlk hP hD hS hQ dX12_untell_14
abbrev k_X12_joined (G : KG) : va_W := []
def f_X12_joined_j226 (N : Nat) : Option (Int32) := (some (1 : Int32))
def f_X12_joined (N : Nat) (p0 : Int32) (p1 : Int32) (p2 : Int32) : Option (Int32) := (if p0 = (37 : Int32) then (if p2 = 0 then (some (0 : Int32)) else (if p2 = (-1 : Int32) then (some (0 : Int32)) else (if ¬ p2 = 0 then (some (p1 - p1 / p2 * p2)) else none))) else (if p0 = (38 : Int32) then (if p1 = 0 then (some (0 : Int32)) else (if p2 = 0 then (some (0 : Int32)) else (some (1 : Int32)))) else (if p0 = (42 : Int32) then (some (p1 * p2)) else (if p0 = (43 : Int32) then (some (p1 + p2)) else (if p0 = (45 : Int32) then (some (p1 - p2)) else (if p0 = (47 : Int32) then (if p2 = 0 then (some (0 : Int32)) else (if p2 = (-1 : Int32) then (some (-p1)) else (if ¬ p2 = 0 then (some (p1 / p2)) else none))) else (if p0 = (60 : Int32) then (if p2 ≤ p1 then (some (0 : Int32)) else (some (1 : Int32))) else (if p0 = (61 : Int32) then (if p1 = p2 then (some (1 : Int32)) else (some (0 : Int32))) else (if p0 = (62 : Int32) then (if p1 ≤ p2 then (some (0 : Int32)) else (some (1 : Int32))) else (if p1 = 0 then (if p2 = 0 then (some (0 : Int32)) else (f_X12_joined_j226 N)) else (f_X12_joined_j226 N)))))))))))
set_option maxRecDepth 100000 in
set_option maxHeartbeats 4000000 in
theorem c_X12_joined (l : Launch) (G : KG) (N : Nat) (p0 : Int32) (p1 : Int32) (p2 : Int32)  (out : Int32) (hf : f_X12_joined N p0 p1 p2 = some out) : KM l G yX12_joined (kw yX12_joined cX12_joined 3 (some .int)) 0 0 [.int p0, .int p1, .int p2] (k_X12_joined G) (k_X12_joined G) (some (.int out)) := by
  refine KM.of (by decide) (Nat.le_of_ble_eq_true rfl) ?_
  intro p e s m below meth c A ls args Q Fx0 hP hK hD hA hS hAm hQ hl
  obtain ⟨hx, hb, hr, hml, hts, hown, hlk, hnm⟩ := Fx0
  have hown : s.vm.findClass RX12 = some m.cls := hown
  have hl : lv_has ls 3 [(0, .int p0), (1, .int p1), (2, .int p2)] := hl
  unfold f_X12_joined at hf
  have J226 : ∀ (x0_1 : Int32) (x1_1 : Int32) (x2_1 : Int32) (H : Heap) (locs : List Loc), va_P (gD G) vwCl (k_X12_joined G) H → va_D A (k_X12_joined G) → va_S A s.heap H locs → ∀ (ls : Array Slot), lv_has ls 3 [(0, .int x0_1), (1, .int x1_1), (2, .int x2_1)] → f_X12_joined_j226 N = some out → W p l e (kR 0 0 0 0) s m args below meth c H locs 0 0 Q (F0 m 226 ls []) := by
    intro x0_1 x1_1 x2_1 H locs hP hD hS ls hl hf
    rw [f_X12_joined_j226] at hf
    refine lv_iconst (v := (1 : Int32)) hx hb dX12_joined_226 (by decide) ?_
    refine lv_goto (tgt := 231) hx hb dX12_joined_227 (by decide) ?_
    have ho := ks hf
    subst ho
    exact kiret hx hb hr hlk hP hD hS hQ dX12_joined_231
  refine lv_iload_n hx hb dX12_joined_0 rfl (lv_at hl 0 rfl) ?_
  by_cases q2 : p0 = (37 : Int32)
  · replace hf := kt q2 hf
    refine lv_tableIn (off := 153) (tgt := 154) hx hb dX12_joined_1 (by rw [q2]; decide) (by rw [q2]; decide) (by rw [q2]; rfl) (by decide) ?_
    refine lv_iload_n hx hb dX12_joined_154 rfl (lv_at hl 2 rfl) ?_
    refine lv_if_eq (tgt := 163) hx hb dX12_joined_155 (by decide) (fun c3 => ?_) (fun c3 => ?_)
    · replace hf := kt c3 hf
      refine lv_iconst (v := (0 : Int32)) hx hb dX12_joined_163 (by decide) ?_
      refine lv_goto (tgt := 170) hx hb dX12_joined_164 (by decide) ?_
      have ho := ks hf
      subst ho
      exact kiret hx hb hr hlk hP hD hS hQ dX12_joined_170
    · replace hf := kf c3 hf
      refine lv_iload_n hx hb dX12_joined_158 rfl (lv_at hl 2 rfl) ?_
      refine lv_iconst (v := (-1 : Int32)) hx hb dX12_joined_159 (by decide) ?_
      refine lv_icmp_ne (tgt := 167) hx hb dX12_joined_160 (by decide) (fun c4 => ?_) (fun c4 => ?_)
      · replace hf := kf c4 hf
        refine lv_iload_n hx hb dX12_joined_167 rfl (lv_at hl 1 rfl) ?_
        refine lv_iload_n hx hb dX12_joined_168 rfl (lv_at hl 2 rfl) ?_
        obtain ⟨g5, hf⟩ := kg hf
        refine lv_irem hx hb dX12_joined_169 g5 ?_
        have ho := ks hf
        subst ho
        exact kiret hx hb hr hlk hP hD hS hQ dX12_joined_170
      · replace hf := kt c4 hf
        refine lv_iconst (v := (0 : Int32)) hx hb dX12_joined_163 (by decide) ?_
        refine lv_goto (tgt := 170) hx hb dX12_joined_164 (by decide) ?_
        have ho := ks hf
        subst ho
        exact kiret hx hb hr hlk hP hD hS hQ dX12_joined_170
  · replace hf := kf q2 hf
    by_cases q6 : p0 = (38 : Int32)
    · replace hf := kt q6 hf
      refine lv_tableIn (off := 203) (tgt := 204) hx hb dX12_joined_1 (by rw [q6]; decide) (by rw [q6]; decide) (by rw [q6]; rfl) (by decide) ?_
      refine lv_iload_n hx hb dX12_joined_204 rfl (lv_at hl 1 rfl) ?_
      refine lv_if_eq (tgt := 216) hx hb dX12_joined_205 (by decide) (fun c7 => ?_) (fun c7 => ?_)
      · replace hf := kt c7 hf
        refine lv_iconst (v := (0 : Int32)) hx hb dX12_joined_216 (by decide) ?_
        have ho := ks hf
        subst ho
        exact kiret hx hb hr hlk hP hD hS hQ dX12_joined_217
      · replace hf := kf c7 hf
        refine lv_iload_n hx hb dX12_joined_208 rfl (lv_at hl 2 rfl) ?_
        refine lv_if_eq (tgt := 216) hx hb dX12_joined_209 (by decide) (fun c8 => ?_) (fun c8 => ?_)
        · replace hf := kt c8 hf
          refine lv_iconst (v := (0 : Int32)) hx hb dX12_joined_216 (by decide) ?_
          have ho := ks hf
          subst ho
          exact kiret hx hb hr hlk hP hD hS hQ dX12_joined_217
        · replace hf := kf c8 hf
          refine lv_iconst (v := (1 : Int32)) hx hb dX12_joined_212 (by decide) ?_
          refine lv_goto (tgt := 217) hx hb dX12_joined_213 (by decide) ?_
          have ho := ks hf
          subst ho
          exact kiret hx hb hr hlk hP hD hS hQ dX12_joined_217
    · replace hf := kf q6 hf
      by_cases q9 : p0 = (42 : Int32)
      · replace hf := kt q9 hf
        refine lv_tableIn (off := 127) (tgt := 128) hx hb dX12_joined_1 (by rw [q9]; decide) (by rw [q9]; decide) (by rw [q9]; rfl) (by decide) ?_
        refine lv_iload_n hx hb dX12_joined_128 rfl (lv_at hl 1 rfl) ?_
        refine lv_iload_n hx hb dX12_joined_129 rfl (lv_at hl 2 rfl) ?_
        refine lv_imul hx hb dX12_joined_130 ?_
        have ho := ks hf
        subst ho
        exact kiret hx hb hr hlk hP hD hS hQ dX12_joined_131
      · replace hf := kf q9 hf
        by_cases q10 : p0 = (43 : Int32)
        · replace hf := kt q10 hf
          refine lv_tableIn (off := 119) (tgt := 120) hx hb dX12_joined_1 (by rw [q10]; decide) (by rw [q10]; decide) (by rw [q10]; rfl) (by decide) ?_
          refine lv_iload_n hx hb dX12_joined_120 rfl (lv_at hl 1 rfl) ?_
          refine lv_iload_n hx hb dX12_joined_121 rfl (lv_at hl 2 rfl) ?_
          refine lv_iadd hx hb dX12_joined_122 ?_
          have ho := ks hf
          subst ho
          exact kiret hx hb hr hlk hP hD hS hQ dX12_joined_123
        · replace hf := kf q10 hf
          by_cases q11 : p0 = (45 : Int32)
          · replace hf := kt q11 hf
            refine lv_tableIn (off := 123) (tgt := 124) hx hb dX12_joined_1 (by rw [q11]; decide) (by rw [q11]; decide) (by rw [q11]; rfl) (by decide) ?_
            refine lv_iload_n hx hb dX12_joined_124 rfl (lv_at hl 1 rfl) ?_
            refine lv_iload_n hx hb dX12_joined_125 rfl (lv_at hl 2 rfl) ?_
            refine lv_isub hx hb dX12_joined_126 ?_
            have ho := ks hf
            subst ho
            exact kiret hx hb hr hlk hP hD hS hQ dX12_joined_127
          · replace hf := kf q11 hf
            by_cases q12 : p0 = (47 : Int32)
            · replace hf := kt q12 hf
              refine lv_tableIn (off := 131) (tgt := 132) hx hb dX12_joined_1 (by rw [q12]; decide) (by rw [q12]; decide) (by rw [q12]; rfl) (by decide) ?_
              refine lv_iload_n hx hb dX12_joined_132 rfl (lv_at hl 2 rfl) ?_
              refine lv_if_ne (tgt := 140) hx hb dX12_joined_133 (by decide) (fun c13 => ?_) (fun c13 => ?_)
              · replace hf := kf c13 hf
                refine lv_iload_n hx hb dX12_joined_140 rfl (lv_at hl 2 rfl) ?_
                refine lv_iconst (v := (-1 : Int32)) hx hb dX12_joined_141 (by decide) ?_
                refine lv_icmp_ne (tgt := 150) hx hb dX12_joined_142 (by decide) (fun c14 => ?_) (fun c14 => ?_)
                · replace hf := kf c14 hf
                  refine lv_iload_n hx hb dX12_joined_150 rfl (lv_at hl 1 rfl) ?_
                  refine lv_iload_n hx hb dX12_joined_151 rfl (lv_at hl 2 rfl) ?_
                  obtain ⟨g15, hf⟩ := kg hf
                  refine lv_idiv hx hb dX12_joined_152 g15 ?_
                  have ho := ks hf
                  subst ho
                  exact kiret hx hb hr hlk hP hD hS hQ dX12_joined_153
                · replace hf := kt c14 hf
                  refine lv_iload_n hx hb dX12_joined_145 rfl (lv_at hl 1 rfl) ?_
                  refine lv_ineg hx hb dX12_joined_146 ?_
                  refine lv_goto (tgt := 153) hx hb dX12_joined_147 (by decide) ?_
                  have ho := ks hf
                  subst ho
                  exact kiret hx hb hr hlk hP hD hS hQ dX12_joined_153
              · replace hf := kt c13 hf
                refine lv_iconst (v := (0 : Int32)) hx hb dX12_joined_136 (by decide) ?_
                refine lv_goto (tgt := 153) hx hb dX12_joined_137 (by decide) ?_
                have ho := ks hf
                subst ho
                exact kiret hx hb hr hlk hP hD hS hQ dX12_joined_153
            · replace hf := kf q12 hf
              by_cases q16 : p0 = (60 : Int32)
              · replace hf := kt q16 hf
                refine lv_tableIn (off := 170) (tgt := 171) hx hb dX12_joined_1 (by rw [q16]; decide) (by rw [q16]; decide) (by rw [q16]; rfl) (by decide) ?_
                refine lv_iload_n hx hb dX12_joined_171 rfl (lv_at hl 1 rfl) ?_
                refine lv_iload_n hx hb dX12_joined_172 rfl (lv_at hl 2 rfl) ?_
                refine lv_icmp_ge (tgt := 180) hx hb dX12_joined_173 (by decide) (fun c17 => ?_) (fun c17 => ?_)
                · replace hf := kt c17 hf
                  refine lv_iconst (v := (0 : Int32)) hx hb dX12_joined_180 (by decide) ?_
                  have ho := ks hf
                  subst ho
                  exact kiret hx hb hr hlk hP hD hS hQ dX12_joined_181
                · replace hf := kf c17 hf
                  refine lv_iconst (v := (1 : Int32)) hx hb dX12_joined_176 (by decide) ?_
                  refine lv_goto (tgt := 181) hx hb dX12_joined_177 (by decide) ?_
                  have ho := ks hf
                  subst ho
                  exact kiret hx hb hr hlk hP hD hS hQ dX12_joined_181
              · replace hf := kf q16 hf
                by_cases q18 : p0 = (61 : Int32)
                · replace hf := kt q18 hf
                  refine lv_tableIn (off := 192) (tgt := 193) hx hb dX12_joined_1 (by rw [q18]; decide) (by rw [q18]; decide) (by rw [q18]; rfl) (by decide) ?_
                  refine lv_iload_n hx hb dX12_joined_193 rfl (lv_at hl 1 rfl) ?_
                  refine lv_iload_n hx hb dX12_joined_194 rfl (lv_at hl 2 rfl) ?_
                  refine lv_icmp_ne (tgt := 202) hx hb dX12_joined_195 (by decide) (fun c19 => ?_) (fun c19 => ?_)
                  · replace hf := kf c19 hf
                    refine lv_iconst (v := (0 : Int32)) hx hb dX12_joined_202 (by decide) ?_
                    have ho := ks hf
                    subst ho
                    exact kiret hx hb hr hlk hP hD hS hQ dX12_joined_203
                  · replace hf := kt c19 hf
                    refine lv_iconst (v := (1 : Int32)) hx hb dX12_joined_198 (by decide) ?_
                    refine lv_goto (tgt := 203) hx hb dX12_joined_199 (by decide) ?_
                    have ho := ks hf
                    subst ho
                    exact kiret hx hb hr hlk hP hD hS hQ dX12_joined_203
                · replace hf := kf q18 hf
                  by_cases q20 : p0 = (62 : Int32)
                  · replace hf := kt q20 hf
                    refine lv_tableIn (off := 181) (tgt := 182) hx hb dX12_joined_1 (by rw [q20]; decide) (by rw [q20]; decide) (by rw [q20]; rfl) (by decide) ?_
                    refine lv_iload_n hx hb dX12_joined_182 rfl (lv_at hl 1 rfl) ?_
                    refine lv_iload_n hx hb dX12_joined_183 rfl (lv_at hl 2 rfl) ?_
                    refine lv_icmp_le (tgt := 191) hx hb dX12_joined_184 (by decide) (fun c21 => ?_) (fun c21 => ?_)
                    · replace hf := kt c21 hf
                      refine lv_iconst (v := (0 : Int32)) hx hb dX12_joined_191 (by decide) ?_
                      have ho := ks hf
                      subst ho
                      exact kiret hx hb hr hlk hP hD hS hQ dX12_joined_192
                    · replace hf := kf c21 hf
                      refine lv_iconst (v := (1 : Int32)) hx hb dX12_joined_187 (by decide) ?_
                      refine lv_goto (tgt := 192) hx hb dX12_joined_188 (by decide) ?_
                      have ho := ks hf
                      subst ho
                      exact kiret hx hb hr hlk hP hD hS hQ dX12_joined_192
                  · replace hf := kf q20 hf
                    have nq2 : (p0).toInt ≠ 37 := fun z => q2 (Int32.toInt_inj.mp (z.trans (by decide)))
                    have nq6 : (p0).toInt ≠ 38 := fun z => q6 (Int32.toInt_inj.mp (z.trans (by decide)))
                    have nq9 : (p0).toInt ≠ 42 := fun z => q9 (Int32.toInt_inj.mp (z.trans (by decide)))
                    have nq10 : (p0).toInt ≠ 43 := fun z => q10 (Int32.toInt_inj.mp (z.trans (by decide)))
                    have nq11 : (p0).toInt ≠ 45 := fun z => q11 (Int32.toInt_inj.mp (z.trans (by decide)))
                    have nq12 : (p0).toInt ≠ 47 := fun z => q12 (Int32.toInt_inj.mp (z.trans (by decide)))
                    have nq16 : (p0).toInt ≠ 60 := fun z => q16 (Int32.toInt_inj.mp (z.trans (by decide)))
                    have nq18 : (p0).toInt ≠ 61 := fun z => q18 (Int32.toInt_inj.mp (z.trans (by decide)))
                    have nq20 : (p0).toInt ≠ 62 := fun z => q20 (Int32.toInt_inj.mp (z.trans (by decide)))
                    by_cases z24 : (p0).toInt < 37 ∨ 62 < (p0).toInt
                    · refine lv_tableOut (tgt := 218) hx hb dX12_joined_1 z24 (by decide) ?_
                      refine lv_iload_n hx hb dX12_joined_218 rfl (lv_at hl 1 rfl) ?_
                      refine lv_if_ne (tgt := 226) hx hb dX12_joined_219 (by decide) (fun c22 => ?_) (fun c22 => ?_)
                      · replace hf := kf c22 hf
                        exact J226 p0 p1 p2 _ _ hP hD hS ls (lv_sub hl [0, 1, 2] rfl) hf
                      · replace hf := kt c22 hf
                        refine lv_iload_n hx hb dX12_joined_222 rfl (lv_at hl 2 rfl) ?_
                        refine lv_if_eq (tgt := 230) hx hb dX12_joined_223 (by decide) (fun c23 => ?_) (fun c23 => ?_)
                        · replace hf := kt c23 hf
                          refine lv_iconst (v := (0 : Int32)) hx hb dX12_joined_230 (by decide) ?_
                          have ho := ks hf
                          subst ho
                          exact kiret hx hb hr hlk hP hD hS hQ dX12_joined_231
                        · replace hf := kf c23 hf
                          exact J226 p0 p1 p2 _ _ hP hD hS ls (lv_sub hl [0, 1, 2] rfl) hf
                    · refine lv_tableIn (off := 217) (tgt := 218) hx hb dX12_joined_1 (by omega) (by omega) (by have z9 : (p0).toInt = 39 ∨ (p0).toInt = 40 ∨ (p0).toInt = 41 ∨ (p0).toInt = 44 ∨ (p0).toInt = 46 ∨ (p0).toInt = 48 ∨ (p0).toInt = 49 ∨ (p0).toInt = 50 ∨ (p0).toInt = 51 ∨ (p0).toInt = 52 ∨ (p0).toInt = 53 ∨ (p0).toInt = 54 ∨ (p0).toInt = 55 ∨ (p0).toInt = 56 ∨ (p0).toInt = 57 ∨ (p0).toInt = 58 ∨ (p0).toInt = 59 := (by omega); rcases z9 with z8 | z8 | z8 | z8 | z8 | z8 | z8 | z8 | z8 | z8 | z8 | z8 | z8 | z8 | z8 | z8 | z8 <;> (rw [z8]; rfl)) (by decide) ?_
                      refine lv_iload_n hx hb dX12_joined_218 rfl (lv_at hl 1 rfl) ?_
                      refine lv_if_ne (tgt := 226) hx hb dX12_joined_219 (by decide) (fun c22 => ?_) (fun c22 => ?_)
                      · replace hf := kf c22 hf
                        exact J226 p0 p1 p2 _ _ hP hD hS ls (lv_sub hl [0, 1, 2] rfl) hf
                      · replace hf := kt c22 hf
                        refine lv_iload_n hx hb dX12_joined_222 rfl (lv_at hl 2 rfl) ?_
                        refine lv_if_eq (tgt := 230) hx hb dX12_joined_223 (by decide) (fun c23 => ?_) (fun c23 => ?_)
                        · replace hf := kt c23 hf
                          refine lv_iconst (v := (0 : Int32)) hx hb dX12_joined_230 (by decide) ?_
                          have ho := ks hf
                          subst ho
                          exact kiret hx hb hr hlk hP hD hS hQ dX12_joined_231
                        · replace hf := kf c23 hf
                          exact J226 p0 p1 p2 _ _ hP hD hS ls (lv_sub hl [0, 1, 2] rfl) hf
abbrev k_X12_worked (G : KG) (a_this : Nat) (a_this_s : Nat) (a_this_kept : Nat) (a_this_errors : Nat) (a_this_step : Nat) (a_this_named : Nat) (a_this_pile : Nat) (a_this_told : Nat) (a_this_beside1 : Nat) (a_this_row : Nat) (a_this_best : Nat) (a_this_worthOf : Nat) (a_this_trace : Nat) (a_this_bits : Nat) (a_this_sizes : Nat) (a_this_number : Nat) (a_this_aside : Nat) (this_images : Int32) (this_at : Int32) (this_open : Int32) (this_steps : Int32) (this_use : Int32) (this_bestNet : Int32) (this_bestMore : Int32) (this_leastApart : Int32) (this_found : Int32) (this_first : Int32) (this_leastPaid : Int32) (this_traced : Int32) (this_speaks : Int32) (this_isParted : Int32) (this_named : Nat → Int32) (this_pile : Nat → Int32) (this_s : Nat → Int32) : va_W := [(a_this, .inr (12, [.ref a_this_s, .ref a_this_kept, .int this_images, .ref a_this_errors, .int this_at, .int this_open, .int this_steps, .int this_use, .ref a_this_step, .ref a_this_named, .ref a_this_pile, .ref a_this_told, .ref a_this_beside1, .ref a_this_row, .ref a_this_best, .int this_bestNet, .int this_bestMore, .ref a_this_worthOf, .int this_leastApart, .int this_found, .int this_first, .int this_leastPaid, .ref a_this_trace, .int this_traced, .int this_speaks, .int this_isParted, .ref a_this_bits, .ref a_this_sizes, .ref a_this_number, .ref a_this_aside])), (a_this_named, .inl (gI G, 128, .inl this_named)), (a_this_pile, .inl (gI G, 64, .inl this_pile)), (a_this_s, .inl (gI G, 374, .inl this_s))]
def f_X12_worked_13 (N : Nat) (x2 : Int32) (this_named : Nat → Int32) (this_s : Nat → Int32) (K : Int32 → Int32 → (Nat → Int32) → Option (Int32 × (Nat → Int32))) : Nat → Int32 → Int32 → (Nat → Int32) → Option (Int32 × (Nat → Int32))
  | 0, _, _, _ => none
  | n + 1, y3, y4, this_pile_v => (if vin x2 374 = true then (if (this_s x2.toNatClampNeg) ≤ y4 then (K y3 y4 this_pile_v) else (if vin ((x2 + (1 : Int32)) + ((2 : Int32) * y4)) 374 = true then (if vin ((x2 + (2 : Int32)) + ((2 : Int32) * y4)) 374 = true then (if (this_s ((x2 + (1 : Int32)) + ((2 : Int32) * y4)).toNatClampNeg) = 0 then (if (this_s ((x2 + (1 : Int32)) + ((2 : Int32) * y4)).toNatClampNeg) = 0 then (if vin y3 64 = true then (f_X12_worked_13 N x2 this_named this_s K n (y3 + (1 : Int32)) (y4 + (1 : Int32)) (upd this_pile_v y3.toNatClampNeg (this_s ((x2 + (2 : Int32)) + ((2 : Int32) * y4)).toNatClampNeg))) else none) else (if vin (this_s ((x2 + (2 : Int32)) + ((2 : Int32) * y4)).toNatClampNeg) 128 = true then (if vin y3 64 = true then (f_X12_worked_13 N x2 this_named this_s K n (y3 + (1 : Int32)) (y4 + (1 : Int32)) (upd this_pile_v y3.toNatClampNeg (this_named (this_s ((x2 + (2 : Int32)) + ((2 : Int32) * y4)).toNatClampNeg).toNatClampNeg))) else none) else none)) else (if (this_s ((x2 + (1 : Int32)) + ((2 : Int32) * y4)).toNatClampNeg) = (1 : Int32) then (if (this_s ((x2 + (1 : Int32)) + ((2 : Int32) * y4)).toNatClampNeg) = 0 then (if vin y3 64 = true then (f_X12_worked_13 N x2 this_named this_s K n (y3 + (1 : Int32)) (y4 + (1 : Int32)) (upd this_pile_v y3.toNatClampNeg (this_s ((x2 + (2 : Int32)) + ((2 : Int32) * y4)).toNatClampNeg))) else none) else (if vin (this_s ((x2 + (2 : Int32)) + ((2 : Int32) * y4)).toNatClampNeg) 128 = true then (if vin y3 64 = true then (f_X12_worked_13 N x2 this_named this_s K n (y3 + (1 : Int32)) (y4 + (1 : Int32)) (upd this_pile_v y3.toNatClampNeg (this_named (this_s ((x2 + (2 : Int32)) + ((2 : Int32) * y4)).toNatClampNeg).toNatClampNeg))) else none) else none)) else (if (this_s ((x2 + (1 : Int32)) + ((2 : Int32) * y4)).toNatClampNeg) = (2 : Int32) then (if vin (y3 - (1 : Int32)) 64 = true then (if (this_pile_v (y3 - (1 : Int32)).toNatClampNeg) = 0 then (if vin (y3 - (1 : Int32)) 64 = true then (f_X12_worked_13 N x2 this_named this_s K n y3 (y4 + (1 : Int32)) (upd this_pile_v (y3 - (1 : Int32)).toNatClampNeg (1 : Int32))) else none) else (if vin (y3 - (1 : Int32)) 64 = true then (f_X12_worked_13 N x2 this_named this_s K n y3 (y4 + (1 : Int32)) (upd this_pile_v (y3 - (1 : Int32)).toNatClampNeg (0 : Int32))) else none)) else none) else (if vin ((y3 + (-1 : Int32)) - (1 : Int32)) 64 = true then (if vin (y3 + (-1 : Int32)) 64 = true then ((f_X12_joined N (this_s ((x2 + (2 : Int32)) + ((2 : Int32) * y4)).toNatClampNeg) (this_pile_v ((y3 + (-1 : Int32)) - (1 : Int32)).toNatClampNeg) (this_pile_v (y3 + (-1 : Int32)).toNatClampNeg)).bind fun r14 => (if vin ((y3 + (-1 : Int32)) - (1 : Int32)) 64 = true then (f_X12_worked_13 N x2 this_named this_s K n (y3 + (-1 : Int32)) (y4 + (1 : Int32)) (upd this_pile_v ((y3 + (-1 : Int32)) - (1 : Int32)).toNatClampNeg r14)) else none)) else none) else none)))) else none) else none)) else none)
def f_X12_worked (N : Nat) (p0 : Int32) (this_named : Nat → Int32) (this_pile : Nat → Int32) (this_s : Nat → Int32) : Option (Int32 × (Nat → Int32)) := (f_X12_worked_13 N ((40 : Int32) + ((125 : Int32) * p0)) this_named this_s (fun v3_24 v4_24 this_pile_24 => (some ((this_pile_24 (0 : Int32).toNatClampNeg), this_pile_24))) N (0 : Int32) (0 : Int32) this_pile)
set_option maxRecDepth 100000 in
set_option maxHeartbeats 4000000 in
theorem c_X12_worked (l : Launch) (G : KG) (N : Nat) (a_this : Nat) (a_this_s : Nat) (a_this_kept : Nat) (a_this_errors : Nat) (a_this_step : Nat) (a_this_named : Nat) (a_this_pile : Nat) (a_this_told : Nat) (a_this_beside1 : Nat) (a_this_row : Nat) (a_this_best : Nat) (a_this_worthOf : Nat) (a_this_trace : Nat) (a_this_bits : Nat) (a_this_sizes : Nat) (a_this_number : Nat) (a_this_aside : Nat) (p0 : Int32) (this_images : Int32) (this_at : Int32) (this_open : Int32) (this_steps : Int32) (this_use : Int32) (this_bestNet : Int32) (this_bestMore : Int32) (this_leastApart : Int32) (this_found : Int32) (this_first : Int32) (this_leastPaid : Int32) (this_traced : Int32) (this_speaks : Int32) (this_isParted : Int32) (this_named : Nat → Int32) (this_pile : Nat → Int32) (this_s : Nat → Int32)  (out : Int32 × (Nat → Int32)) (hf : f_X12_worked N p0 this_named this_pile this_s = some out) : KM l G yX12_worked (kw yX12_worked cX12_worked 7 (some .int)) 1 22 [.ref a_this, .int p0] (k_X12_worked G a_this a_this_s a_this_kept a_this_errors a_this_step a_this_named a_this_pile a_this_told a_this_beside1 a_this_row a_this_best a_this_worthOf a_this_trace a_this_bits a_this_sizes a_this_number a_this_aside this_images this_at this_open this_steps this_use this_bestNet this_bestMore this_leastApart this_found this_first this_leastPaid this_traced this_speaks this_isParted this_named this_pile this_s) (k_X12_worked G a_this a_this_s a_this_kept a_this_errors a_this_step a_this_named a_this_pile a_this_told a_this_beside1 a_this_row a_this_best a_this_worthOf a_this_trace a_this_bits a_this_sizes a_this_number a_this_aside this_images this_at this_open this_steps this_use this_bestNet this_bestMore this_leastApart this_found this_first this_leastPaid this_traced this_speaks this_isParted this_named (out.2) this_s) (some (.int (out.1))) := by
  refine KM.of (by decide) (Nat.le_of_ble_eq_true rfl) ?_
  intro p e s m below meth c A ls args Q Fx0 hP hK hD hA hS hAm hQ hl
  obtain ⟨hx, hb, hr, hml, hts, hown, hlk, hnm⟩ := Fx0
  have hown : s.vm.findClass RX12 = some m.cls := hown
  have hl : lv_has ls 7 [(0, .ref a_this), (1, .int p0)] := hl
  have fl_25 := hts _ tw_996
  have fl_7 := hts _ tw_986
  have fl_22 := hts _ tw_995
  unfold f_X12_worked at hf
  refine lv_bipush (v := (40 : Int32)) hx hb dX12_worked_0 (by decide) ?_
  refine lv_bipush (v := (125 : Int32)) hx hb dX12_worked_2 (by decide) ?_
  refine lv_iload_n hx hb dX12_worked_4 rfl (lv_at hl 1 rfl) ?_
  refine lv_imul hx hb dX12_worked_5 ?_
  refine lv_iadd hx hb dX12_worked_6 ?_
  refine lv_istore_n (lv' := [(2, .int ((40 : Int32) + ((125 : Int32) * p0))), (0, .ref a_this), (1, .int p0)]) hx hb dX12_worked_7 rfl hl (by decide) rfl (fun ls hl => ?_)
  refine lv_iconst (v := (0 : Int32)) hx hb dX12_worked_8 (by decide) ?_
  refine lv_istore_n (lv' := [(3, .int (0 : Int32)), (2, .int ((40 : Int32) + ((125 : Int32) * p0))), (0, .ref a_this), (1, .int p0)]) hx hb dX12_worked_9 rfl hl (by decide) rfl (fun ls hl => ?_)
  refine lv_iconst (v := (0 : Int32)) hx hb dX12_worked_10 (by decide) ?_
  refine lv_istore (lv' := [(4, .int (0 : Int32)), (3, .int (0 : Int32)), (2, .int ((40 : Int32) + ((125 : Int32) * p0))), (0, .ref a_this), (1, .int p0)]) hx hb dX12_worked_11 hl (by decide) rfl (fun ls hl => ?_)
  have L2 : ∀ (K : Int32 → Int32 → (Nat → Int32) → Option (Int32 × (Nat → Int32))), (∀ (v3_2 : Int32) (v4_2 : Int32) (this_pile_2 : Nat → Int32) (H : Heap) (locs : List Loc), va_P (gD G) vwCl (k_X12_worked G a_this a_this_s a_this_kept a_this_errors a_this_step a_this_named a_this_pile a_this_told a_this_beside1 a_this_row a_this_best a_this_worthOf a_this_trace a_this_bits a_this_sizes a_this_number a_this_aside this_images this_at this_open this_steps this_use this_bestNet this_bestMore this_leastApart this_found this_first this_leastPaid this_traced this_speaks this_isParted this_named this_pile_2 this_s) H → va_D A (k_X12_worked G a_this a_this_s a_this_kept a_this_errors a_this_step a_this_named a_this_pile a_this_told a_this_beside1 a_this_row a_this_best a_this_worthOf a_this_trace a_this_bits a_this_sizes a_this_number a_this_aside this_images this_at this_open this_steps this_use this_bestNet this_bestMore this_leastApart this_found this_first this_leastPaid this_traced this_speaks this_isParted this_named this_pile_2 this_s) → va_S A s.heap H locs → ∀ (ls : Array Slot), lv_has ls 7 [(0, .ref a_this), (1, .int p0), (2, .int ((40 : Int32) + ((125 : Int32) * p0))), (3, .int v3_2), (4, .int v4_2)] → K v3_2 v4_2 this_pile_2 = some out → W p l e (kR 1 0 0 22) s m args below meth c H locs 0 0 Q (F0 m 163 ls [])) → ∀ (n : Nat), ∀ (v3_2 : Int32) (v4_2 : Int32) (this_pile_2 : Nat → Int32) (H : Heap) (locs : List Loc), va_P (gD G) vwCl (k_X12_worked G a_this a_this_s a_this_kept a_this_errors a_this_step a_this_named a_this_pile a_this_told a_this_beside1 a_this_row a_this_best a_this_worthOf a_this_trace a_this_bits a_this_sizes a_this_number a_this_aside this_images this_at this_open this_steps this_use this_bestNet this_bestMore this_leastApart this_found this_first this_leastPaid this_traced this_speaks this_isParted this_named this_pile_2 this_s) H → va_D A (k_X12_worked G a_this a_this_s a_this_kept a_this_errors a_this_step a_this_named a_this_pile a_this_told a_this_beside1 a_this_row a_this_best a_this_worthOf a_this_trace a_this_bits a_this_sizes a_this_number a_this_aside this_images this_at this_open this_steps this_use this_bestNet this_bestMore this_leastApart this_found this_first this_leastPaid this_traced this_speaks this_isParted this_named this_pile_2 this_s) → va_S A s.heap H locs → ∀ (ls : Array Slot), lv_has ls 7 [(0, .ref a_this), (1, .int p0), (2, .int ((40 : Int32) + ((125 : Int32) * p0))), (3, .int v3_2), (4, .int v4_2)] → f_X12_worked_13 N ((40 : Int32) + ((125 : Int32) * p0)) this_named this_s K n v3_2 v4_2 this_pile_2 = some out → W p l e (kR 1 0 0 22) s m args below meth c H locs 0 0 Q (F0 m 13 ls []) := by
    intro K hK2 n
    induction n with
    | zero =>
      intro v3_2 v4_2 this_pile_2 H locs hP hD hS ls hl hf
      rw [f_X12_worked_13] at hf
      cases hf
    | succ n ih =>
      intro v3_2 v4_2 this_pile_2 H locs hP hD hS ls hl hf
      rw [f_X12_worked_13] at hf
      refine lv_iload hx hb dX12_worked_13 (lv_at hl 4 rfl) ?_
      refine lv_aload_n hx hb dX12_worked_15 rfl (lv_at hl 0 rfl) ?_
      refine va_get (D := gD G) (ci := 12) (C := RX12) (T := TX12) (N := 30) hx hb hts hin_X12 hown hK hP 0 rfl rfl 0 (by decide) fl_7 (fun _ h9 => h9) rfl dX12_worked_16 ?_
      refine lv_iload_n hx hb dX12_worked_19 rfl (lv_at hl 2 rfl) ?_
      obtain ⟨g3, hf⟩ := kg hf
      refine va_iald hx hb hK hP 3 0 rfl rfl (vin_of g3) dX12_worked_20 ?_
      refine lv_icmp_ge (tgt := 163) hx hb dX12_worked_21 (by decide) (fun c4 => ?_) (fun c4 => ?_)
      · replace hf := kt c4 hf
        exact hK2 v3_2 v4_2 this_pile_2 _ _ hP hD hS ls (lv_sub hl [0, 1, 2, 3, 4] rfl) hf
      · replace hf := kf c4 hf
        refine lv_aload_n hx hb dX12_worked_24 rfl (lv_at hl 0 rfl) ?_
        refine va_get (D := gD G) (ci := 12) (C := RX12) (T := TX12) (N := 30) hx hb hts hin_X12 hown hK hP 0 rfl rfl 0 (by decide) fl_7 (fun _ h9 => h9) rfl dX12_worked_25 ?_
        refine lv_iload_n hx hb dX12_worked_28 rfl (lv_at hl 2 rfl) ?_
        refine lv_iconst (v := (1 : Int32)) hx hb dX12_worked_29 (by decide) ?_
        refine lv_iadd hx hb dX12_worked_30 ?_
        refine lv_iconst (v := (2 : Int32)) hx hb dX12_worked_31 (by decide) ?_
        refine lv_iload hx hb dX12_worked_32 (lv_at hl 4 rfl) ?_
        refine lv_imul hx hb dX12_worked_34 ?_
        refine lv_iadd hx hb dX12_worked_35 ?_
        obtain ⟨g5, hf⟩ := kg hf
        refine va_iald hx hb hK hP 3 0 rfl rfl (vin_of g5) dX12_worked_36 ?_
        refine lv_istore (lv' := [(5, .int (this_s ((((40 : Int32) + ((125 : Int32) * p0)) + (1 : Int32)) + ((2 : Int32) * v4_2)).toNatClampNeg)), (0, .ref a_this), (1, .int p0), (2, .int ((40 : Int32) + ((125 : Int32) * p0))), (3, .int v3_2), (4, .int v4_2)]) hx hb dX12_worked_37 hl (by decide) rfl (fun ls hl => ?_)
        refine lv_aload_n hx hb dX12_worked_39 rfl (lv_at hl 1 rfl) ?_
        refine va_get (D := gD G) (ci := 12) (C := RX12) (T := TX12) (N := 30) hx hb hts hin_X12 hown hK hP 0 rfl rfl 0 (by decide) fl_7 (fun _ h9 => h9) rfl dX12_worked_40 ?_
        refine lv_iload_n hx hb dX12_worked_43 rfl (lv_at hl 3 rfl) ?_
        refine lv_iconst (v := (2 : Int32)) hx hb dX12_worked_44 (by decide) ?_
        refine lv_iadd hx hb dX12_worked_45 ?_
        refine lv_iconst (v := (2 : Int32)) hx hb dX12_worked_46 (by decide) ?_
        refine lv_iload hx hb dX12_worked_47 (lv_at hl 5 rfl) ?_
        refine lv_imul hx hb dX12_worked_49 ?_
        refine lv_iadd hx hb dX12_worked_50 ?_
        obtain ⟨g6, hf⟩ := kg hf
        refine va_iald hx hb hK hP 3 0 rfl rfl (vin_of g6) dX12_worked_51 ?_
        refine lv_istore (lv' := [(6, .int (this_s ((((40 : Int32) + ((125 : Int32) * p0)) + (2 : Int32)) + ((2 : Int32) * v4_2)).toNatClampNeg)), (5, .int (this_s ((((40 : Int32) + ((125 : Int32) * p0)) + (1 : Int32)) + ((2 : Int32) * v4_2)).toNatClampNeg)), (0, .ref a_this), (1, .int p0), (2, .int ((40 : Int32) + ((125 : Int32) * p0))), (3, .int v3_2), (4, .int v4_2)]) hx hb dX12_worked_52 hl (by decide) rfl (fun ls hl => ?_)
        refine lv_iload hx hb dX12_worked_54 (lv_at hl 1 rfl) ?_
        refine lv_if_eq (tgt := 65) hx hb dX12_worked_56 (by decide) (fun c7 => ?_) (fun c7 => ?_)
        · replace hf := kt c7 hf
          refine lv_aload_n hx hb dX12_worked_65 rfl (lv_at hl 2 rfl) ?_
          refine va_get (D := gD G) (ci := 12) (C := RX12) (T := TX12) (N := 30) hx hb hts hin_X12 hown hK hP 0 rfl rfl 10 (by decide) fl_25 (fun _ h9 => h9) rfl dX12_worked_66 ?_
          refine lv_iload_n hx hb dX12_worked_69 rfl (lv_at hl 5 rfl) ?_
          refine lv_iload hx hb dX12_worked_70 (lv_at hl 1 rfl) ?_
          refine lv_if_ne (tgt := 80) hx hb dX12_worked_72 (by decide) (fun c8 => ?_) (fun c8 => ?_)
          · replace hf := kf c8 hf
            refine lv_aload_n hx hb dX12_worked_80 rfl (lv_at hl 2 rfl) ?_
            refine va_get (D := gD G) (ci := 12) (C := RX12) (T := TX12) (N := 30) hx hb hts hin_X12 hown hK hP 0 rfl rfl 9 (by decide) fl_22 (fun _ h9 => h9) rfl dX12_worked_81 ?_
            refine lv_iload hx hb dX12_worked_84 (lv_at hl 0 rfl) ?_
            obtain ⟨g9, hf⟩ := kg hf
            refine va_iald hx hb hK hP 1 0 rfl rfl (vin_of g9) dX12_worked_86 ?_
            obtain ⟨g10, hf⟩ := kg hf
            refine va_iast hx hb hK hP hD hS 2 0 rfl rfl (vin_of g10) dX12_worked_87 (fun H locs hP hD hS => ?_)
            have hP : va_P (gD G) vwCl (k_X12_worked G a_this a_this_s a_this_kept a_this_errors a_this_step a_this_named a_this_pile a_this_told a_this_beside1 a_this_row a_this_best a_this_worthOf a_this_trace a_this_bits a_this_sizes a_this_number a_this_aside this_images this_at this_open this_steps this_use this_bestNet this_bestMore this_leastApart this_found this_first this_leastPaid this_traced this_speaks this_isParted this_named (upd this_pile_2 v3_2.toNatClampNeg (this_named (this_s ((((40 : Int32) + ((125 : Int32) * p0)) + (2 : Int32)) + ((2 : Int32) * v4_2)).toNatClampNeg).toNatClampNeg)) this_s) H := hP
            have hD : va_D A (k_X12_worked G a_this a_this_s a_this_kept a_this_errors a_this_step a_this_named a_this_pile a_this_told a_this_beside1 a_this_row a_this_best a_this_worthOf a_this_trace a_this_bits a_this_sizes a_this_number a_this_aside this_images this_at this_open this_steps this_use this_bestNet this_bestMore this_leastApart this_found this_first this_leastPaid this_traced this_speaks this_isParted this_named (upd this_pile_2 v3_2.toNatClampNeg (this_named (this_s ((((40 : Int32) + ((125 : Int32) * p0)) + (2 : Int32)) + ((2 : Int32) * v4_2)).toNatClampNeg).toNatClampNeg)) this_s) := hD
            refine lv_iinc (v := (v3_2 + (1 : Int32))) (lv' := [(3, .int (v3_2 + (1 : Int32))), (6, .int (this_s ((((40 : Int32) + ((125 : Int32) * p0)) + (2 : Int32)) + ((2 : Int32) * v4_2)).toNatClampNeg)), (5, .int (this_s ((((40 : Int32) + ((125 : Int32) * p0)) + (1 : Int32)) + ((2 : Int32) * v4_2)).toNatClampNeg)), (0, .ref a_this), (1, .int p0), (2, .int ((40 : Int32) + ((125 : Int32) * p0))), (4, .int v4_2)]) hx hb dX12_worked_88 hl (k := 5) rfl rfl (by decide) rfl (fun ls hl => ?_)
            refine lv_goto (tgt := 157) hx hb dX12_worked_91 (by decide) ?_
            refine lv_iinc (v := (v4_2 + (1 : Int32))) (lv' := [(4, .int (v4_2 + (1 : Int32))), (3, .int (v3_2 + (1 : Int32))), (6, .int (this_s ((((40 : Int32) + ((125 : Int32) * p0)) + (2 : Int32)) + ((2 : Int32) * v4_2)).toNatClampNeg)), (5, .int (this_s ((((40 : Int32) + ((125 : Int32) * p0)) + (1 : Int32)) + ((2 : Int32) * v4_2)).toNatClampNeg)), (0, .ref a_this), (1, .int p0), (2, .int ((40 : Int32) + ((125 : Int32) * p0)))]) hx hb dX12_worked_157 hl (k := 6) rfl rfl (by decide) rfl (fun ls hl => ?_)
            refine lv_goto (tgt := 13) hx hb dX12_worked_160 (by decide) ?_
            exact ih (v3_2 + (1 : Int32)) (v4_2 + (1 : Int32)) (upd this_pile_2 v3_2.toNatClampNeg (this_named (this_s ((((40 : Int32) + ((125 : Int32) * p0)) + (2 : Int32)) + ((2 : Int32) * v4_2)).toNatClampNeg).toNatClampNeg)) _ _ hP hD hS ls (lv_sub hl [4, 5, 6, 1, 0] rfl) hf
          · replace hf := kt c8 hf
            refine lv_iload hx hb dX12_worked_75 (lv_at hl 0 rfl) ?_
            refine lv_goto (tgt := 87) hx hb dX12_worked_77 (by decide) ?_
            obtain ⟨g11, hf⟩ := kg hf
            refine va_iast hx hb hK hP hD hS 2 0 rfl rfl (vin_of g11) dX12_worked_87 (fun H locs hP hD hS => ?_)
            have hP : va_P (gD G) vwCl (k_X12_worked G a_this a_this_s a_this_kept a_this_errors a_this_step a_this_named a_this_pile a_this_told a_this_beside1 a_this_row a_this_best a_this_worthOf a_this_trace a_this_bits a_this_sizes a_this_number a_this_aside this_images this_at this_open this_steps this_use this_bestNet this_bestMore this_leastApart this_found this_first this_leastPaid this_traced this_speaks this_isParted this_named (upd this_pile_2 v3_2.toNatClampNeg (this_s ((((40 : Int32) + ((125 : Int32) * p0)) + (2 : Int32)) + ((2 : Int32) * v4_2)).toNatClampNeg)) this_s) H := hP
            have hD : va_D A (k_X12_worked G a_this a_this_s a_this_kept a_this_errors a_this_step a_this_named a_this_pile a_this_told a_this_beside1 a_this_row a_this_best a_this_worthOf a_this_trace a_this_bits a_this_sizes a_this_number a_this_aside this_images this_at this_open this_steps this_use this_bestNet this_bestMore this_leastApart this_found this_first this_leastPaid this_traced this_speaks this_isParted this_named (upd this_pile_2 v3_2.toNatClampNeg (this_s ((((40 : Int32) + ((125 : Int32) * p0)) + (2 : Int32)) + ((2 : Int32) * v4_2)).toNatClampNeg)) this_s) := hD
            refine lv_iinc (v := (v3_2 + (1 : Int32))) (lv' := [(3, .int (v3_2 + (1 : Int32))), (6, .int (this_s ((((40 : Int32) + ((125 : Int32) * p0)) + (2 : Int32)) + ((2 : Int32) * v4_2)).toNatClampNeg)), (5, .int (this_s ((((40 : Int32) + ((125 : Int32) * p0)) + (1 : Int32)) + ((2 : Int32) * v4_2)).toNatClampNeg)), (0, .ref a_this), (1, .int p0), (2, .int ((40 : Int32) + ((125 : Int32) * p0))), (4, .int v4_2)]) hx hb dX12_worked_88 hl (k := 5) rfl rfl (by decide) rfl (fun ls hl => ?_)
            refine lv_goto (tgt := 157) hx hb dX12_worked_91 (by decide) ?_
            refine lv_iinc (v := (v4_2 + (1 : Int32))) (lv' := [(4, .int (v4_2 + (1 : Int32))), (3, .int (v3_2 + (1 : Int32))), (6, .int (this_s ((((40 : Int32) + ((125 : Int32) * p0)) + (2 : Int32)) + ((2 : Int32) * v4_2)).toNatClampNeg)), (5, .int (this_s ((((40 : Int32) + ((125 : Int32) * p0)) + (1 : Int32)) + ((2 : Int32) * v4_2)).toNatClampNeg)), (0, .ref a_this), (1, .int p0), (2, .int ((40 : Int32) + ((125 : Int32) * p0)))]) hx hb dX12_worked_157 hl (k := 6) rfl rfl (by decide) rfl (fun ls hl => ?_)
            refine lv_goto (tgt := 13) hx hb dX12_worked_160 (by decide) ?_
            exact ih (v3_2 + (1 : Int32)) (v4_2 + (1 : Int32)) (upd this_pile_2 v3_2.toNatClampNeg (this_s ((((40 : Int32) + ((125 : Int32) * p0)) + (2 : Int32)) + ((2 : Int32) * v4_2)).toNatClampNeg)) _ _ hP hD hS ls (lv_sub hl [4, 5, 6, 1, 0] rfl) hf
        · replace hf := kf c7 hf
          refine lv_iload hx hb dX12_worked_59 (lv_at hl 1 rfl) ?_
          refine lv_iconst (v := (1 : Int32)) hx hb dX12_worked_61 (by decide) ?_
          refine lv_icmp_ne (tgt := 94) hx hb dX12_worked_62 (by decide) (fun c12 => ?_) (fun c12 => ?_)
          · replace hf := kf c12 hf
            refine lv_iload hx hb dX12_worked_94 (lv_at hl 1 rfl) ?_
            refine lv_iconst (v := (2 : Int32)) hx hb dX12_worked_96 (by decide) ?_
            refine lv_icmp_ne (tgt := 127) hx hb dX12_worked_97 (by decide) (fun c13 => ?_) (fun c13 => ?_)
            · replace hf := kf c13 hf
              refine lv_iinc (v := (v3_2 + (-1 : Int32))) (lv' := [(3, .int (v3_2 + (-1 : Int32))), (6, .int (this_s ((((40 : Int32) + ((125 : Int32) * p0)) + (2 : Int32)) + ((2 : Int32) * v4_2)).toNatClampNeg)), (5, .int (this_s ((((40 : Int32) + ((125 : Int32) * p0)) + (1 : Int32)) + ((2 : Int32) * v4_2)).toNatClampNeg)), (0, .ref a_this), (1, .int p0), (2, .int ((40 : Int32) + ((125 : Int32) * p0))), (4, .int v4_2)]) hx hb dX12_worked_127 hl (k := 5) rfl rfl (by decide) rfl (fun ls hl => ?_)
              refine lv_aload_n hx hb dX12_worked_130 rfl (lv_at hl 3 rfl) ?_
              refine va_get (D := gD G) (ci := 12) (C := RX12) (T := TX12) (N := 30) hx hb hts hin_X12 hown hK hP 0 rfl rfl 10 (by decide) fl_25 (fun _ h9 => h9) rfl dX12_worked_131 ?_
              refine lv_iload_n hx hb dX12_worked_134 rfl (lv_at hl 0 rfl) ?_
              refine lv_iconst (v := (1 : Int32)) hx hb dX12_worked_135 (by decide) ?_
              refine lv_isub hx hb dX12_worked_136 ?_
              refine lv_iload hx hb dX12_worked_137 (lv_at hl 1 rfl) ?_
              refine lv_aload_n hx hb dX12_worked_139 rfl (lv_at hl 3 rfl) ?_
              refine va_get (D := gD G) (ci := 12) (C := RX12) (T := TX12) (N := 30) hx hb hts hin_X12 hown hK hP 0 rfl rfl 10 (by decide) fl_25 (fun _ h9 => h9) rfl dX12_worked_140 ?_
              refine lv_iload_n hx hb dX12_worked_143 rfl (lv_at hl 0 rfl) ?_
              refine lv_iconst (v := (1 : Int32)) hx hb dX12_worked_144 (by decide) ?_
              refine lv_isub hx hb dX12_worked_145 ?_
              obtain ⟨g14, hf⟩ := kg hf
              refine va_iald hx hb hK hP 2 0 rfl rfl (vin_of g14) dX12_worked_146 ?_
              refine lv_aload_n hx hb dX12_worked_147 rfl (lv_at hl 3 rfl) ?_
              refine va_get (D := gD G) (ci := 12) (C := RX12) (T := TX12) (N := 30) hx hb hts hin_X12 hown hK hP 0 rfl rfl 10 (by decide) fl_25 (fun _ h9 => h9) rfl dX12_worked_148 ?_
              refine lv_iload_n hx hb dX12_worked_151 rfl (lv_at hl 0 rfl) ?_
              obtain ⟨g15, hf⟩ := kg hf
              refine va_iald hx hb hK hP 2 0 rfl rfl (vin_of g15) dX12_worked_152 ?_
              obtain ⟨r16, hr16, hf⟩ := kb hf
              refine kS (As := [.int (this_s ((((40 : Int32) + ((125 : Int32) * p0)) + (2 : Int32)) + ((2 : Int32) * v4_2)).toNatClampNeg), .int (this_pile_2 ((v3_2 + (-1 : Int32)) - (1 : Int32)).toNatClampNeg), .int (this_pile_2 (v3_2 + (-1 : Int32)).toNatClampNeg)]) (rest := [.int ((v3_2 + (-1 : Int32)) - (1 : Int32)), .ref a_this_pile]) ⟨hx, hb, hml, hown, hts⟩ (c_X12_joined l G N (this_s ((((40 : Int32) + ((125 : Int32) * p0)) + (2 : Int32)) + ((2 : Int32) * v4_2)).toNatClampNeg) (this_pile_2 ((v3_2 + (-1 : Int32)) - (1 : Int32)).toNatClampNeg) (this_pile_2 (v3_2 + (-1 : Int32)).toNatClampNeg) r16 hr16) (kcS 3 hts tw_1167 tw_92 tw_1165 tw_1166 hd_X12_joined ⟨Nat.le_of_ble_eq_true rfl, Nat.le_of_ble_eq_true rfl⟩) dX12_worked_153 hl.1 hK hAm hA hP hD hS [] rfl rfl rfl [] rfl rfl rfl (Nat.le_of_ble_eq_true rfl) ⟨Nat.le_refl _, Nat.le_refl _⟩ (fun H locs hP hD hS => ?_)
              have hP : va_P (gD G) vwCl (k_X12_worked G a_this a_this_s a_this_kept a_this_errors a_this_step a_this_named a_this_pile a_this_told a_this_beside1 a_this_row a_this_best a_this_worthOf a_this_trace a_this_bits a_this_sizes a_this_number a_this_aside this_images this_at this_open this_steps this_use this_bestNet this_bestMore this_leastApart this_found this_first this_leastPaid this_traced this_speaks this_isParted this_named this_pile_2 this_s) H := hP
              have hD : va_D A (k_X12_worked G a_this a_this_s a_this_kept a_this_errors a_this_step a_this_named a_this_pile a_this_told a_this_beside1 a_this_row a_this_best a_this_worthOf a_this_trace a_this_bits a_this_sizes a_this_number a_this_aside this_images this_at this_open this_steps this_use this_bestNet this_bestMore this_leastApart this_found this_first this_leastPaid this_traced this_speaks this_isParted this_named this_pile_2 this_s) := hD
              obtain ⟨g17, hf⟩ := kg hf
              refine va_iast hx hb hK hP hD hS 2 0 rfl rfl (vin_of g17) dX12_worked_156 (fun H locs hP hD hS => ?_)
              have hP : va_P (gD G) vwCl (k_X12_worked G a_this a_this_s a_this_kept a_this_errors a_this_step a_this_named a_this_pile a_this_told a_this_beside1 a_this_row a_this_best a_this_worthOf a_this_trace a_this_bits a_this_sizes a_this_number a_this_aside this_images this_at this_open this_steps this_use this_bestNet this_bestMore this_leastApart this_found this_first this_leastPaid this_traced this_speaks this_isParted this_named (upd this_pile_2 ((v3_2 + (-1 : Int32)) - (1 : Int32)).toNatClampNeg r16) this_s) H := hP
              have hD : va_D A (k_X12_worked G a_this a_this_s a_this_kept a_this_errors a_this_step a_this_named a_this_pile a_this_told a_this_beside1 a_this_row a_this_best a_this_worthOf a_this_trace a_this_bits a_this_sizes a_this_number a_this_aside this_images this_at this_open this_steps this_use this_bestNet this_bestMore this_leastApart this_found this_first this_leastPaid this_traced this_speaks this_isParted this_named (upd this_pile_2 ((v3_2 + (-1 : Int32)) - (1 : Int32)).toNatClampNeg r16) this_s) := hD
              refine lv_iinc (v := (v4_2 + (1 : Int32))) (lv' := [(4, .int (v4_2 + (1 : Int32))), (3, .int (v3_2 + (-1 : Int32))), (6, .int (this_s ((((40 : Int32) + ((125 : Int32) * p0)) + (2 : Int32)) + ((2 : Int32) * v4_2)).toNatClampNeg)), (5, .int (this_s ((((40 : Int32) + ((125 : Int32) * p0)) + (1 : Int32)) + ((2 : Int32) * v4_2)).toNatClampNeg)), (0, .ref a_this), (1, .int p0), (2, .int ((40 : Int32) + ((125 : Int32) * p0)))]) hx hb dX12_worked_157 hl (k := 6) rfl rfl (by decide) rfl (fun ls hl => ?_)
              refine lv_goto (tgt := 13) hx hb dX12_worked_160 (by decide) ?_
              exact ih (v3_2 + (-1 : Int32)) (v4_2 + (1 : Int32)) (upd this_pile_2 ((v3_2 + (-1 : Int32)) - (1 : Int32)).toNatClampNeg r16) _ _ hP hD hS ls (lv_sub hl [4, 5, 6, 1, 0] rfl) hf
            · replace hf := kt c13 hf
              refine lv_aload_n hx hb dX12_worked_100 rfl (lv_at hl 2 rfl) ?_
              refine va_get (D := gD G) (ci := 12) (C := RX12) (T := TX12) (N := 30) hx hb hts hin_X12 hown hK hP 0 rfl rfl 10 (by decide) fl_25 (fun _ h9 => h9) rfl dX12_worked_101 ?_
              refine lv_iload_n hx hb dX12_worked_104 rfl (lv_at hl 5 rfl) ?_
              refine lv_iconst (v := (1 : Int32)) hx hb dX12_worked_105 (by decide) ?_
              refine lv_isub hx hb dX12_worked_106 ?_
              refine lv_aload_n hx hb dX12_worked_107 rfl (lv_at hl 2 rfl) ?_
              refine va_get (D := gD G) (ci := 12) (C := RX12) (T := TX12) (N := 30) hx hb hts hin_X12 hown hK hP 0 rfl rfl 10 (by decide) fl_25 (fun _ h9 => h9) rfl dX12_worked_108 ?_
              refine lv_iload_n hx hb dX12_worked_111 rfl (lv_at hl 5 rfl) ?_
              refine lv_iconst (v := (1 : Int32)) hx hb dX12_worked_112 (by decide) ?_
              refine lv_isub hx hb dX12_worked_113 ?_
              obtain ⟨g18, hf⟩ := kg hf
              refine va_iald hx hb hK hP 2 0 rfl rfl (vin_of g18) dX12_worked_114 ?_
              refine lv_if_ne (tgt := 122) hx hb dX12_worked_115 (by decide) (fun c19 => ?_) (fun c19 => ?_)
              · replace hf := kf c19 hf
                refine lv_iconst (v := (0 : Int32)) hx hb dX12_worked_122 (by decide) ?_
                obtain ⟨g20, hf⟩ := kg hf
                refine va_iast hx hb hK hP hD hS 2 0 rfl rfl (vin_of g20) dX12_worked_123 (fun H locs hP hD hS => ?_)
                have hP : va_P (gD G) vwCl (k_X12_worked G a_this a_this_s a_this_kept a_this_errors a_this_step a_this_named a_this_pile a_this_told a_this_beside1 a_this_row a_this_best a_this_worthOf a_this_trace a_this_bits a_this_sizes a_this_number a_this_aside this_images this_at this_open this_steps this_use this_bestNet this_bestMore this_leastApart this_found this_first this_leastPaid this_traced this_speaks this_isParted this_named (upd this_pile_2 (v3_2 - (1 : Int32)).toNatClampNeg (0 : Int32)) this_s) H := hP
                have hD : va_D A (k_X12_worked G a_this a_this_s a_this_kept a_this_errors a_this_step a_this_named a_this_pile a_this_told a_this_beside1 a_this_row a_this_best a_this_worthOf a_this_trace a_this_bits a_this_sizes a_this_number a_this_aside this_images this_at this_open this_steps this_use this_bestNet this_bestMore this_leastApart this_found this_first this_leastPaid this_traced this_speaks this_isParted this_named (upd this_pile_2 (v3_2 - (1 : Int32)).toNatClampNeg (0 : Int32)) this_s) := hD
                refine lv_goto (tgt := 157) hx hb dX12_worked_124 (by decide) ?_
                refine lv_iinc (v := (v4_2 + (1 : Int32))) (lv' := [(4, .int (v4_2 + (1 : Int32))), (6, .int (this_s ((((40 : Int32) + ((125 : Int32) * p0)) + (2 : Int32)) + ((2 : Int32) * v4_2)).toNatClampNeg)), (5, .int (this_s ((((40 : Int32) + ((125 : Int32) * p0)) + (1 : Int32)) + ((2 : Int32) * v4_2)).toNatClampNeg)), (0, .ref a_this), (1, .int p0), (2, .int ((40 : Int32) + ((125 : Int32) * p0))), (3, .int v3_2)]) hx hb dX12_worked_157 hl (k := 6) rfl rfl (by decide) rfl (fun ls hl => ?_)
                refine lv_goto (tgt := 13) hx hb dX12_worked_160 (by decide) ?_
                exact ih v3_2 (v4_2 + (1 : Int32)) (upd this_pile_2 (v3_2 - (1 : Int32)).toNatClampNeg (0 : Int32)) _ _ hP hD hS ls (lv_sub hl [3, 4, 5, 6, 0] rfl) hf
              · replace hf := kt c19 hf
                refine lv_iconst (v := (1 : Int32)) hx hb dX12_worked_118 (by decide) ?_
                refine lv_goto (tgt := 123) hx hb dX12_worked_119 (by decide) ?_
                obtain ⟨g21, hf⟩ := kg hf
                refine va_iast hx hb hK hP hD hS 2 0 rfl rfl (vin_of g21) dX12_worked_123 (fun H locs hP hD hS => ?_)
                have hP : va_P (gD G) vwCl (k_X12_worked G a_this a_this_s a_this_kept a_this_errors a_this_step a_this_named a_this_pile a_this_told a_this_beside1 a_this_row a_this_best a_this_worthOf a_this_trace a_this_bits a_this_sizes a_this_number a_this_aside this_images this_at this_open this_steps this_use this_bestNet this_bestMore this_leastApart this_found this_first this_leastPaid this_traced this_speaks this_isParted this_named (upd this_pile_2 (v3_2 - (1 : Int32)).toNatClampNeg (1 : Int32)) this_s) H := hP
                have hD : va_D A (k_X12_worked G a_this a_this_s a_this_kept a_this_errors a_this_step a_this_named a_this_pile a_this_told a_this_beside1 a_this_row a_this_best a_this_worthOf a_this_trace a_this_bits a_this_sizes a_this_number a_this_aside this_images this_at this_open this_steps this_use this_bestNet this_bestMore this_leastApart this_found this_first this_leastPaid this_traced this_speaks this_isParted this_named (upd this_pile_2 (v3_2 - (1 : Int32)).toNatClampNeg (1 : Int32)) this_s) := hD
                refine lv_goto (tgt := 157) hx hb dX12_worked_124 (by decide) ?_
                refine lv_iinc (v := (v4_2 + (1 : Int32))) (lv' := [(4, .int (v4_2 + (1 : Int32))), (6, .int (this_s ((((40 : Int32) + ((125 : Int32) * p0)) + (2 : Int32)) + ((2 : Int32) * v4_2)).toNatClampNeg)), (5, .int (this_s ((((40 : Int32) + ((125 : Int32) * p0)) + (1 : Int32)) + ((2 : Int32) * v4_2)).toNatClampNeg)), (0, .ref a_this), (1, .int p0), (2, .int ((40 : Int32) + ((125 : Int32) * p0))), (3, .int v3_2)]) hx hb dX12_worked_157 hl (k := 6) rfl rfl (by decide) rfl (fun ls hl => ?_)
                refine lv_goto (tgt := 13) hx hb dX12_worked_160 (by decide) ?_
                exact ih v3_2 (v4_2 + (1 : Int32)) (upd this_pile_2 (v3_2 - (1 : Int32)).toNatClampNeg (1 : Int32)) _ _ hP hD hS ls (lv_sub hl [3, 4, 5, 6, 0] rfl) hf
          · replace hf := kt c12 hf
            refine lv_aload_n hx hb dX12_worked_65 rfl (lv_at hl 2 rfl) ?_
            refine va_get (D := gD G) (ci := 12) (C := RX12) (T := TX12) (N := 30) hx hb hts hin_X12 hown hK hP 0 rfl rfl 10 (by decide) fl_25 (fun _ h9 => h9) rfl dX12_worked_66 ?_
            refine lv_iload_n hx hb dX12_worked_69 rfl (lv_at hl 5 rfl) ?_
            refine lv_iload hx hb dX12_worked_70 (lv_at hl 1 rfl) ?_
            refine lv_if_ne (tgt := 80) hx hb dX12_worked_72 (by decide) (fun c22 => ?_) (fun c22 => ?_)
            · replace hf := kf c22 hf
              refine lv_aload_n hx hb dX12_worked_80 rfl (lv_at hl 2 rfl) ?_
              refine va_get (D := gD G) (ci := 12) (C := RX12) (T := TX12) (N := 30) hx hb hts hin_X12 hown hK hP 0 rfl rfl 9 (by decide) fl_22 (fun _ h9 => h9) rfl dX12_worked_81 ?_
              refine lv_iload hx hb dX12_worked_84 (lv_at hl 0 rfl) ?_
              obtain ⟨g23, hf⟩ := kg hf
              refine va_iald hx hb hK hP 1 0 rfl rfl (vin_of g23) dX12_worked_86 ?_
              obtain ⟨g24, hf⟩ := kg hf
              refine va_iast hx hb hK hP hD hS 2 0 rfl rfl (vin_of g24) dX12_worked_87 (fun H locs hP hD hS => ?_)
              have hP : va_P (gD G) vwCl (k_X12_worked G a_this a_this_s a_this_kept a_this_errors a_this_step a_this_named a_this_pile a_this_told a_this_beside1 a_this_row a_this_best a_this_worthOf a_this_trace a_this_bits a_this_sizes a_this_number a_this_aside this_images this_at this_open this_steps this_use this_bestNet this_bestMore this_leastApart this_found this_first this_leastPaid this_traced this_speaks this_isParted this_named (upd this_pile_2 v3_2.toNatClampNeg (this_named (this_s ((((40 : Int32) + ((125 : Int32) * p0)) + (2 : Int32)) + ((2 : Int32) * v4_2)).toNatClampNeg).toNatClampNeg)) this_s) H := hP
              have hD : va_D A (k_X12_worked G a_this a_this_s a_this_kept a_this_errors a_this_step a_this_named a_this_pile a_this_told a_this_beside1 a_this_row a_this_best a_this_worthOf a_this_trace a_this_bits a_this_sizes a_this_number a_this_aside this_images this_at this_open this_steps this_use this_bestNet this_bestMore this_leastApart this_found this_first this_leastPaid this_traced this_speaks this_isParted this_named (upd this_pile_2 v3_2.toNatClampNeg (this_named (this_s ((((40 : Int32) + ((125 : Int32) * p0)) + (2 : Int32)) + ((2 : Int32) * v4_2)).toNatClampNeg).toNatClampNeg)) this_s) := hD
              refine lv_iinc (v := (v3_2 + (1 : Int32))) (lv' := [(3, .int (v3_2 + (1 : Int32))), (6, .int (this_s ((((40 : Int32) + ((125 : Int32) * p0)) + (2 : Int32)) + ((2 : Int32) * v4_2)).toNatClampNeg)), (5, .int (this_s ((((40 : Int32) + ((125 : Int32) * p0)) + (1 : Int32)) + ((2 : Int32) * v4_2)).toNatClampNeg)), (0, .ref a_this), (1, .int p0), (2, .int ((40 : Int32) + ((125 : Int32) * p0))), (4, .int v4_2)]) hx hb dX12_worked_88 hl (k := 5) rfl rfl (by decide) rfl (fun ls hl => ?_)
              refine lv_goto (tgt := 157) hx hb dX12_worked_91 (by decide) ?_
              refine lv_iinc (v := (v4_2 + (1 : Int32))) (lv' := [(4, .int (v4_2 + (1 : Int32))), (3, .int (v3_2 + (1 : Int32))), (6, .int (this_s ((((40 : Int32) + ((125 : Int32) * p0)) + (2 : Int32)) + ((2 : Int32) * v4_2)).toNatClampNeg)), (5, .int (this_s ((((40 : Int32) + ((125 : Int32) * p0)) + (1 : Int32)) + ((2 : Int32) * v4_2)).toNatClampNeg)), (0, .ref a_this), (1, .int p0), (2, .int ((40 : Int32) + ((125 : Int32) * p0)))]) hx hb dX12_worked_157 hl (k := 6) rfl rfl (by decide) rfl (fun ls hl => ?_)
              refine lv_goto (tgt := 13) hx hb dX12_worked_160 (by decide) ?_
              exact ih (v3_2 + (1 : Int32)) (v4_2 + (1 : Int32)) (upd this_pile_2 v3_2.toNatClampNeg (this_named (this_s ((((40 : Int32) + ((125 : Int32) * p0)) + (2 : Int32)) + ((2 : Int32) * v4_2)).toNatClampNeg).toNatClampNeg)) _ _ hP hD hS ls (lv_sub hl [4, 5, 6, 1, 0] rfl) hf
            · replace hf := kt c22 hf
              refine lv_iload hx hb dX12_worked_75 (lv_at hl 0 rfl) ?_
              refine lv_goto (tgt := 87) hx hb dX12_worked_77 (by decide) ?_
              obtain ⟨g25, hf⟩ := kg hf
              refine va_iast hx hb hK hP hD hS 2 0 rfl rfl (vin_of g25) dX12_worked_87 (fun H locs hP hD hS => ?_)
              have hP : va_P (gD G) vwCl (k_X12_worked G a_this a_this_s a_this_kept a_this_errors a_this_step a_this_named a_this_pile a_this_told a_this_beside1 a_this_row a_this_best a_this_worthOf a_this_trace a_this_bits a_this_sizes a_this_number a_this_aside this_images this_at this_open this_steps this_use this_bestNet this_bestMore this_leastApart this_found this_first this_leastPaid this_traced this_speaks this_isParted this_named (upd this_pile_2 v3_2.toNatClampNeg (this_s ((((40 : Int32) + ((125 : Int32) * p0)) + (2 : Int32)) + ((2 : Int32) * v4_2)).toNatClampNeg)) this_s) H := hP
              have hD : va_D A (k_X12_worked G a_this a_this_s a_this_kept a_this_errors a_this_step a_this_named a_this_pile a_this_told a_this_beside1 a_this_row a_this_best a_this_worthOf a_this_trace a_this_bits a_this_sizes a_this_number a_this_aside this_images this_at this_open this_steps this_use this_bestNet this_bestMore this_leastApart this_found this_first this_leastPaid this_traced this_speaks this_isParted this_named (upd this_pile_2 v3_2.toNatClampNeg (this_s ((((40 : Int32) + ((125 : Int32) * p0)) + (2 : Int32)) + ((2 : Int32) * v4_2)).toNatClampNeg)) this_s) := hD
              refine lv_iinc (v := (v3_2 + (1 : Int32))) (lv' := [(3, .int (v3_2 + (1 : Int32))), (6, .int (this_s ((((40 : Int32) + ((125 : Int32) * p0)) + (2 : Int32)) + ((2 : Int32) * v4_2)).toNatClampNeg)), (5, .int (this_s ((((40 : Int32) + ((125 : Int32) * p0)) + (1 : Int32)) + ((2 : Int32) * v4_2)).toNatClampNeg)), (0, .ref a_this), (1, .int p0), (2, .int ((40 : Int32) + ((125 : Int32) * p0))), (4, .int v4_2)]) hx hb dX12_worked_88 hl (k := 5) rfl rfl (by decide) rfl (fun ls hl => ?_)
              refine lv_goto (tgt := 157) hx hb dX12_worked_91 (by decide) ?_
              refine lv_iinc (v := (v4_2 + (1 : Int32))) (lv' := [(4, .int (v4_2 + (1 : Int32))), (3, .int (v3_2 + (1 : Int32))), (6, .int (this_s ((((40 : Int32) + ((125 : Int32) * p0)) + (2 : Int32)) + ((2 : Int32) * v4_2)).toNatClampNeg)), (5, .int (this_s ((((40 : Int32) + ((125 : Int32) * p0)) + (1 : Int32)) + ((2 : Int32) * v4_2)).toNatClampNeg)), (0, .ref a_this), (1, .int p0), (2, .int ((40 : Int32) + ((125 : Int32) * p0)))]) hx hb dX12_worked_157 hl (k := 6) rfl rfl (by decide) rfl (fun ls hl => ?_)
              refine lv_goto (tgt := 13) hx hb dX12_worked_160 (by decide) ?_
              exact ih (v3_2 + (1 : Int32)) (v4_2 + (1 : Int32)) (upd this_pile_2 v3_2.toNatClampNeg (this_s ((((40 : Int32) + ((125 : Int32) * p0)) + (2 : Int32)) + ((2 : Int32) * v4_2)).toNatClampNeg)) _ _ hP hD hS ls (lv_sub hl [4, 5, 6, 1, 0] rfl) hf
  refine L2 _ (fun v3_1 v4_1 this_pile_1 H locs hP hD hS ls hl hf => ?_) N (0 : Int32) (0 : Int32) this_pile _ _ hP hD hS ls (lv_sub hl [3, 4, 2, 1, 0] rfl) hf
  refine lv_aload_n hx hb dX12_worked_163 rfl (lv_at hl 0 rfl) ?_
  refine va_get (D := gD G) (ci := 12) (C := RX12) (T := TX12) (N := 30) hx hb hts hin_X12 hown hK hP 0 rfl rfl 10 (by decide) fl_25 (fun _ h9 => h9) rfl dX12_worked_164 ?_
  refine lv_iconst (v := (0 : Int32)) hx hb dX12_worked_167 (by decide) ?_
  refine va_iald hx hb hK hP 2 0 rfl rfl (vin_of (by decide)) dX12_worked_168 ?_
  have ho := ks hf
  subst ho
  exact kiret hx hb hr hlk hP hD hS hQ dX12_worked_169
abbrev k_X12_added (G : KG) : va_W := []
def f_X12_added_4 (N : Nat) (x1 : Int32) (K : Int32 → Int32 → Option (Int32)) : Nat → Int32 → Int32 → Option (Int32)
  | 0, _, _ => none
  | n + 1, y2, y3 => (if y3 ≤ 0 then (K y2 y3) else (if ¬ x1 = 0 then (if ¬ x1 = 0 then (f_X12_added_4 N x1 K n (y2 + (y3 - y3 / x1 * x1)) (y3 / x1)) else none) else none))
def f_X12_added (N : Nat) (p0 : Int32) (p1 : Int32) : Option (Int32) := (f_X12_added_4 N p1 (fun v2_4 v3_4 => (some v2_4)) N (0 : Int32) p0)
set_option maxRecDepth 100000 in
set_option maxHeartbeats 4000000 in
theorem c_X12_added (l : Launch) (G : KG) (N : Nat) (p0 : Int32) (p1 : Int32)  (out : Int32) (hf : f_X12_added N p0 p1 = some out) : KM l G yX12_added (kw yX12_added cX12_added 4 (some .int)) 0 0 [.int p0, .int p1] (k_X12_added G) (k_X12_added G) (some (.int out)) := by
  refine KM.of (by decide) (Nat.le_of_ble_eq_true rfl) ?_
  intro p e s m below meth c A ls args Q Fx0 hP hK hD hA hS hAm hQ hl
  obtain ⟨hx, hb, hr, hml, hts, hown, hlk, hnm⟩ := Fx0
  have hown : s.vm.findClass RX12 = some m.cls := hown
  have hl : lv_has ls 4 [(0, .int p0), (1, .int p1)] := hl
  unfold f_X12_added at hf
  refine lv_iconst (v := (0 : Int32)) hx hb dX12_added_0 (by decide) ?_
  refine lv_istore_n (lv' := [(2, .int (0 : Int32)), (0, .int p0), (1, .int p1)]) hx hb dX12_added_1 rfl hl (by decide) rfl (fun ls hl => ?_)
  refine lv_iload_n hx hb dX12_added_2 rfl (lv_at hl 1 rfl) ?_
  refine lv_istore_n (lv' := [(3, .int p0), (2, .int (0 : Int32)), (0, .int p0), (1, .int p1)]) hx hb dX12_added_3 rfl hl (by decide) rfl (fun ls hl => ?_)
  have L2 : ∀ (K : Int32 → Int32 → Option (Int32)), (∀ (v2_2 : Int32) (v3_2 : Int32) (H : Heap) (locs : List Loc), va_P (gD G) vwCl (k_X12_added G) H → va_D A (k_X12_added G) → va_S A s.heap H locs → ∀ (ls : Array Slot), lv_has ls 4 [(0, .int p0), (1, .int p1), (2, .int v2_2), (3, .int v3_2)] → K v2_2 v3_2 = some out → W p l e (kR 0 0 0 0) s m args below meth c H locs 0 0 Q (F0 m 21 ls [])) → ∀ (n : Nat), ∀ (v2_2 : Int32) (v3_2 : Int32) (H : Heap) (locs : List Loc), va_P (gD G) vwCl (k_X12_added G) H → va_D A (k_X12_added G) → va_S A s.heap H locs → ∀ (ls : Array Slot), lv_has ls 4 [(0, .int p0), (1, .int p1), (2, .int v2_2), (3, .int v3_2)] → f_X12_added_4 N p1 K n v2_2 v3_2 = some out → W p l e (kR 0 0 0 0) s m args below meth c H locs 0 0 Q (F0 m 4 ls []) := by
    intro K hK2 n
    induction n with
    | zero =>
      intro v2_2 v3_2 H locs hP hD hS ls hl hf
      rw [f_X12_added_4] at hf
      cases hf
    | succ n ih =>
      intro v2_2 v3_2 H locs hP hD hS ls hl hf
      rw [f_X12_added_4] at hf
      refine lv_iload_n hx hb dX12_added_4 rfl (lv_at hl 3 rfl) ?_
      refine lv_if_le (tgt := 21) hx hb dX12_added_5 (by decide) (fun c3 => ?_) (fun c3 => ?_)
      · replace hf := kt c3 hf
        exact hK2 v2_2 v3_2 _ _ hP hD hS ls (lv_sub hl [0, 1, 2, 3] rfl) hf
      · replace hf := kf c3 hf
        refine lv_iload_n hx hb dX12_added_8 rfl (lv_at hl 2 rfl) ?_
        refine lv_iload_n hx hb dX12_added_9 rfl (lv_at hl 3 rfl) ?_
        refine lv_iload_n hx hb dX12_added_10 rfl (lv_at hl 1 rfl) ?_
        obtain ⟨g4, hf⟩ := kg hf
        refine lv_irem hx hb dX12_added_11 g4 ?_
        refine lv_iadd hx hb dX12_added_12 ?_
        refine lv_istore_n (lv' := [(2, .int (v2_2 + (v3_2 - v3_2 / p1 * p1))), (0, .int p0), (1, .int p1), (3, .int v3_2)]) hx hb dX12_added_13 rfl hl (by decide) rfl (fun ls hl => ?_)
        refine lv_iload_n hx hb dX12_added_14 rfl (lv_at hl 3 rfl) ?_
        refine lv_iload_n hx hb dX12_added_15 rfl (lv_at hl 2 rfl) ?_
        obtain ⟨g5, hf⟩ := kg hf
        refine lv_idiv hx hb dX12_added_16 g5 ?_
        refine lv_istore_n (lv' := [(3, .int (v3_2 / p1)), (2, .int (v2_2 + (v3_2 - v3_2 / p1 * p1))), (0, .int p0), (1, .int p1)]) hx hb dX12_added_17 rfl hl (by decide) rfl (fun ls hl => ?_)
        refine lv_goto (tgt := 4) hx hb dX12_added_18 (by decide) ?_
        exact ih (v2_2 + (v3_2 - v3_2 / p1 * p1)) (v3_2 / p1) _ _ hP hD hS ls (lv_sub hl [2, 3, 1, 0] rfl) hf
  refine L2 _ (fun v2_1 v3_1 H locs hP hD hS ls hl hf => ?_) N (0 : Int32) p0 _ _ hP hD hS ls (lv_sub hl [2, 3, 1, 0] rfl) hf
  refine lv_iload_n hx hb dX12_added_21 rfl (lv_at hl 2 rfl) ?_
  have ho := ks hf
  subst ho
  exact kiret hx hb hr hlk hP hD hS hQ dX12_added_22
abbrev k_X12_rooted (G : KG) : va_W := []
def f_X12_rooted_6 (N : Nat) (x1 : Int32) (K : Int32 → Option (Int32)) : Nat → Int32 → Option (Int32)
  | 0, _ => none
  | n + 1, y2 => (if y2 < x1 then (K y2) else ((f_X12_added N y2 x1).bind fun r3 => (f_X12_rooted_6 N x1 K n r3)))
def f_X12_rooted (N : Nat) (p0 : Int32) (p1 : Int32) : Option (Int32) := ((f_X12_added N p0 p1).bind fun r1 => (f_X12_rooted_6 N p1 (fun v2_4 => (some v2_4)) N r1))
set_option maxRecDepth 100000 in
set_option maxHeartbeats 4000000 in
theorem c_X12_rooted (l : Launch) (G : KG) (N : Nat) (p0 : Int32) (p1 : Int32)  (out : Int32) (hf : f_X12_rooted N p0 p1 = some out) : KM l G yX12_rooted (kw yX12_rooted cX12_rooted 3 (some .int)) 1 23 [.int p0, .int p1] (k_X12_rooted G) (k_X12_rooted G) (some (.int out)) := by
  refine KM.of (by decide) (Nat.le_of_ble_eq_true rfl) ?_
  intro p e s m below meth c A ls args Q Fx0 hP hK hD hA hS hAm hQ hl
  obtain ⟨hx, hb, hr, hml, hts, hown, hlk, hnm⟩ := Fx0
  have hown : s.vm.findClass RX12 = some m.cls := hown
  have hl : lv_has ls 3 [(0, .int p0), (1, .int p1)] := hl
  unfold f_X12_rooted at hf
  refine lv_iload_n hx hb dX12_rooted_0 rfl (lv_at hl 0 rfl) ?_
  refine lv_iload_n hx hb dX12_rooted_1 rfl (lv_at hl 1 rfl) ?_
  obtain ⟨r1, hr1, hf⟩ := kb hf
  refine kS (As := [.int p0, .int p1]) (rest := []) ⟨hx, hb, hml, hown, hts⟩ (c_X12_added l G N p0 p1 r1 hr1) (kcS 2 hts tw_1203 tw_92 tw_1201 tw_1202 hd_X12_added ⟨Nat.le_of_ble_eq_true rfl, Nat.le_of_ble_eq_true rfl⟩) dX12_rooted_2 hl.1 hK hAm hA hP hD hS [] rfl rfl rfl [] rfl rfl rfl (Nat.le_of_ble_eq_true rfl) ⟨Nat.le_refl _, Nat.le_refl _⟩ (fun H locs hP hD hS => ?_)
  have hP : va_P (gD G) vwCl (k_X12_rooted G) H := hP
  have hD : va_D A (k_X12_rooted G) := hD
  refine lv_istore_n (lv' := [(2, .int r1), (0, .int p0), (1, .int p1)]) hx hb dX12_rooted_5 rfl hl (by decide) rfl (fun ls hl => ?_)
  have L3 : ∀ (K : Int32 → Option (Int32)), (∀ (v2_3 : Int32) (H : Heap) (locs : List Loc), va_P (gD G) vwCl (k_X12_rooted G) H → va_D A (k_X12_rooted G) → va_S A s.heap H locs → ∀ (ls : Array Slot), lv_has ls 3 [(0, .int p0), (1, .int p1), (2, .int v2_3)] → K v2_3 = some out → W p l e (kR 1 0 0 23) s m args below meth c H locs 0 0 Q (F0 m 20 ls [])) → ∀ (n : Nat), ∀ (v2_3 : Int32) (H : Heap) (locs : List Loc), va_P (gD G) vwCl (k_X12_rooted G) H → va_D A (k_X12_rooted G) → va_S A s.heap H locs → ∀ (ls : Array Slot), lv_has ls 3 [(0, .int p0), (1, .int p1), (2, .int v2_3)] → f_X12_rooted_6 N p1 K n v2_3 = some out → W p l e (kR 1 0 0 23) s m args below meth c H locs 0 0 Q (F0 m 6 ls []) := by
    intro K hK3 n
    induction n with
    | zero =>
      intro v2_3 H locs hP hD hS ls hl hf
      rw [f_X12_rooted_6] at hf
      cases hf
    | succ n ih =>
      intro v2_3 H locs hP hD hS ls hl hf
      rw [f_X12_rooted_6] at hf
      refine lv_iload_n hx hb dX12_rooted_6 rfl (lv_at hl 2 rfl) ?_
      refine lv_iload_n hx hb dX12_rooted_7 rfl (lv_at hl 1 rfl) ?_
      refine lv_icmp_lt (tgt := 20) hx hb dX12_rooted_8 (by decide) (fun c4 => ?_) (fun c4 => ?_)
      · replace hf := kt c4 hf
        exact hK3 v2_3 _ _ hP hD hS ls (lv_sub hl [0, 1, 2] rfl) hf
      · replace hf := kf c4 hf
        refine lv_iload_n hx hb dX12_rooted_11 rfl (lv_at hl 2 rfl) ?_
        refine lv_iload_n hx hb dX12_rooted_12 rfl (lv_at hl 1 rfl) ?_
        obtain ⟨r5, hr5, hf⟩ := kb hf
        refine kS (As := [.int v2_3, .int p1]) (rest := []) ⟨hx, hb, hml, hown, hts⟩ (c_X12_added l G N v2_3 p1 r5 hr5) (kcS 2 hts tw_1203 tw_92 tw_1201 tw_1202 hd_X12_added ⟨Nat.le_of_ble_eq_true rfl, Nat.le_of_ble_eq_true rfl⟩) dX12_rooted_13 hl.1 hK hAm hA hP hD hS [] rfl rfl rfl [] rfl rfl rfl (Nat.le_of_ble_eq_true rfl) ⟨Nat.le_refl _, Nat.le_refl _⟩ (fun H locs hP hD hS => ?_)
        have hP : va_P (gD G) vwCl (k_X12_rooted G) H := hP
        have hD : va_D A (k_X12_rooted G) := hD
        refine lv_istore_n (lv' := [(2, .int r5), (0, .int p0), (1, .int p1)]) hx hb dX12_rooted_16 rfl hl (by decide) rfl (fun ls hl => ?_)
        refine lv_goto (tgt := 6) hx hb dX12_rooted_17 (by decide) ?_
        exact ih r5 _ _ hP hD hS ls (lv_sub hl [1, 2, 0] rfl) hf
  refine L3 _ (fun v2_2 H locs hP hD hS ls hl hf => ?_) N r1 _ _ hP hD hS ls (lv_sub hl [1, 2, 0] rfl) hf
  refine lv_iload_n hx hb dX12_rooted_20 rfl (lv_at hl 2 rfl) ?_
  have ho := ks hf
  subst ho
  exact kiret hx hb hr hlk hP hD hS hQ dX12_rooted_21
abbrev k_X12_asked (G : KG) (a_this : Nat) (a_this_s : Nat) (a_this_kept : Nat) (a_this_errors : Nat) (a_this_step : Nat) (a_this_named : Nat) (a_this_pile : Nat) (a_this_told : Nat) (a_this_beside1 : Nat) (a_this_row : Nat) (a_this_best : Nat) (a_this_worthOf : Nat) (a_this_trace : Nat) (a_this_bits : Nat) (a_this_sizes : Nat) (a_this_number : Nat) (a_this_aside : Nat) (this_images : Int32) (this_at : Int32) (this_open : Int32) (this_steps : Int32) (this_use : Int32) (this_bestNet : Int32) (this_bestMore : Int32) (this_leastApart : Int32) (this_found : Int32) (this_first : Int32) (this_leastPaid : Int32) (this_traced : Int32) (this_speaks : Int32) (this_isParted : Int32) (this_named : Nat → Int32) (this_pile : Nat → Int32) (this_s : Nat → Int32) : va_W := [(a_this, .inr (12, [.ref a_this_s, .ref a_this_kept, .int this_images, .ref a_this_errors, .int this_at, .int this_open, .int this_steps, .int this_use, .ref a_this_step, .ref a_this_named, .ref a_this_pile, .ref a_this_told, .ref a_this_beside1, .ref a_this_row, .ref a_this_best, .int this_bestNet, .int this_bestMore, .ref a_this_worthOf, .int this_leastApart, .int this_found, .int this_first, .int this_leastPaid, .ref a_this_trace, .int this_traced, .int this_speaks, .int this_isParted, .ref a_this_bits, .ref a_this_sizes, .ref a_this_number, .ref a_this_aside])), (a_this_named, .inl (gI G, 128, .inl this_named)), (a_this_pile, .inl (gI G, 64, .inl this_pile)), (a_this_s, .inl (gI G, 374, .inl this_s))]
def f_X12_asked (N : Nat) (p0 : Int32) (p1 : Int32) (p2 : Int32) (this_named : Nat → Int32) (this_pile : Nat → Int32) (this_s : Nat → Int32) : Option (Int32 × (Nat → Int32) × (Nat → Int32)) := (if p2 = 0 then (some ((0 : Int32), this_named, this_pile)) else ((f_X12_mOf N p0 this_s).bind fun r2 => ((f_X12_added N p1 (10 : Int32)).bind fun r3 => ((f_X12_kindOf N p0 this_s).bind fun r4 => (if r4 = (1 : Int32) then ((f_X12_held N (p1 - p1 / (10 : Int32) * (10 : Int32)) (0 : Int32) (9999 : Int32)).bind fun r6 => (some (r6, this_named, this_pile))) else (if r4 = (2 : Int32) then ((f_X12_rooted N p1 (10 : Int32)).bind fun r8 => ((f_X12_held N r8 (0 : Int32) (9999 : Int32)).bind fun r9 => (some (r9, this_named, this_pile)))) else (if r4 = (3 : Int32) then ((f_X12_added N (p1 + r2) (10 : Int32)).bind fun r11 => ((f_X12_held N r11 (0 : Int32) (9999 : Int32)).bind fun r12 => (some (r12, this_named, this_pile)))) else (if r4 = (4 : Int32) then ((f_X12_rooted N p1 (r2 + (2 : Int32))).bind fun r14 => ((f_X12_held N r14 (0 : Int32) (9999 : Int32)).bind fun r15 => (some (r15, this_named, this_pile)))) else (if r4 = (5 : Int32) then (if r2 ≤ (p1 - p1 / (10 : Int32) * (10 : Int32)) then ((f_X12_held N (p1 - p1 / (10 : Int32) * (10 : Int32)) (0 : Int32) (9999 : Int32)).bind fun r18 => (some (r18, this_named, this_pile))) else ((f_X12_held N r2 (0 : Int32) (9999 : Int32)).bind fun r19 => (some (r19, this_named, this_pile)))) else (if r4 = (6 : Int32) then ((f_X12_hasText N (0 : Int32) this_s).bind fun r21 => (if r21 = 0 then ((f_X12_held N r3 (0 : Int32) (9999 : Int32)).bind fun r23 => (some (r23, this_named, this_pile))) else ((f_X12_worked N (0 : Int32) (upd (upd (upd this_named (115 : Int32).toNatClampNeg p1) (107 : Int32).toNatClampNeg p2) (109 : Int32).toNatClampNeg r2) this_pile this_s).bind fun r24 => ((f_X12_held N r24.1 (0 : Int32) (9999 : Int32)).bind fun r25 => (some (r25, (upd (upd (upd this_named (115 : Int32).toNatClampNeg p1) (107 : Int32).toNatClampNeg p2) (109 : Int32).toNatClampNeg r2), r24.2)))))) else ((f_X12_held N r3 (0 : Int32) (9999 : Int32)).bind fun r26 => (some (r26, this_named, this_pile)))))))))))))
set_option maxRecDepth 100000 in
set_option maxHeartbeats 4000000 in
theorem c_X12_asked (l : Launch) (G : KG) (N : Nat) (a_this : Nat) (a_this_s : Nat) (a_this_kept : Nat) (a_this_errors : Nat) (a_this_step : Nat) (a_this_named : Nat) (a_this_pile : Nat) (a_this_told : Nat) (a_this_beside1 : Nat) (a_this_row : Nat) (a_this_best : Nat) (a_this_worthOf : Nat) (a_this_trace : Nat) (a_this_bits : Nat) (a_this_sizes : Nat) (a_this_number : Nat) (a_this_aside : Nat) (p0 : Int32) (p1 : Int32) (p2 : Int32) (this_images : Int32) (this_at : Int32) (this_open : Int32) (this_steps : Int32) (this_use : Int32) (this_bestNet : Int32) (this_bestMore : Int32) (this_leastApart : Int32) (this_found : Int32) (this_first : Int32) (this_leastPaid : Int32) (this_traced : Int32) (this_speaks : Int32) (this_isParted : Int32) (this_named : Nat → Int32) (this_pile : Nat → Int32) (this_s : Nat → Int32)  (out : Int32 × (Nat → Int32) × (Nat → Int32)) (hf : f_X12_asked N p0 p1 p2 this_named this_pile this_s = some out) : KM l G yX12_asked (kw yX12_asked cX12_asked 6 (some .int)) 2 48 [.ref a_this, .int p0, .int p1, .int p2] (k_X12_asked G a_this a_this_s a_this_kept a_this_errors a_this_step a_this_named a_this_pile a_this_told a_this_beside1 a_this_row a_this_best a_this_worthOf a_this_trace a_this_bits a_this_sizes a_this_number a_this_aside this_images this_at this_open this_steps this_use this_bestNet this_bestMore this_leastApart this_found this_first this_leastPaid this_traced this_speaks this_isParted this_named this_pile this_s) (k_X12_asked G a_this a_this_s a_this_kept a_this_errors a_this_step a_this_named a_this_pile a_this_told a_this_beside1 a_this_row a_this_best a_this_worthOf a_this_trace a_this_bits a_this_sizes a_this_number a_this_aside this_images this_at this_open this_steps this_use this_bestNet this_bestMore this_leastApart this_found this_first this_leastPaid this_traced this_speaks this_isParted (out.2.1) (out.2.2) this_s) (some (.int (out.1))) := by
  refine KM.of (by decide) (Nat.le_of_ble_eq_true rfl) ?_
  intro p e s m below meth c A ls args Q Fx0 hP hK hD hA hS hAm hQ hl
  obtain ⟨hx, hb, hr, hml, hts, hown, hlk, hnm⟩ := Fx0
  have hown : s.vm.findClass RX12 = some m.cls := hown
  have hl : lv_has ls 6 [(0, .ref a_this), (1, .int p0), (2, .int p1), (3, .int p2)] := hl
  have fl_22 := hts _ tw_995
  unfold f_X12_asked at hf
  refine lv_iload_n hx hb dX12_asked_0 rfl (lv_at hl 3 rfl) ?_
  refine lv_if_ne (tgt := 6) hx hb dX12_asked_1 (by decide) (fun c1 => ?_) (fun c1 => ?_)
  · replace hf := kf c1 hf
    refine lv_aload_n hx hb dX12_asked_6 rfl (lv_at hl 0 rfl) ?_
    refine lv_iload_n hx hb dX12_asked_7 rfl (lv_at hl 1 rfl) ?_
    obtain ⟨r2, hr2, hf⟩ := kb hf
    refine kV (As := [.int p0]) (rest := []) ⟨hx, hb, hml, hown, hts⟩ (c_X12_mOf l G N a_this a_this_s a_this_kept a_this_errors a_this_step a_this_named a_this_pile a_this_told a_this_beside1 a_this_row a_this_best a_this_worthOf a_this_trace a_this_bits a_this_sizes a_this_number a_this_aside p0 this_images this_at this_open this_steps this_use this_bestNet this_bestMore this_leastApart this_found this_first this_leastPaid this_traced this_speaks this_isParted this_s r2 hr2) (kcV 1 hts tw_1185 tw_92 tw_1182 tw_1184 tw_59 hd_X12_mOf ⟨Nat.le_of_ble_eq_true rfl, Nat.le_of_ble_eq_true rfl⟩) dX12_asked_8 hl.1 hK hAm hA hP hD hS 0 (ci := 12) rfl rfl rfl [0, 3] rfl rfl rfl [] rfl rfl rfl (Nat.le_of_ble_eq_true rfl) ⟨Nat.le_refl _, Nat.le_refl _⟩ (fun H locs hP hD hS => ?_)
    have hP : va_P (gD G) vwCl (k_X12_asked G a_this a_this_s a_this_kept a_this_errors a_this_step a_this_named a_this_pile a_this_told a_this_beside1 a_this_row a_this_best a_this_worthOf a_this_trace a_this_bits a_this_sizes a_this_number a_this_aside this_images this_at this_open this_steps this_use this_bestNet this_bestMore this_leastApart this_found this_first this_leastPaid this_traced this_speaks this_isParted this_named this_pile this_s) H := hP
    have hD : va_D A (k_X12_asked G a_this a_this_s a_this_kept a_this_errors a_this_step a_this_named a_this_pile a_this_told a_this_beside1 a_this_row a_this_best a_this_worthOf a_this_trace a_this_bits a_this_sizes a_this_number a_this_aside this_images this_at this_open this_steps this_use this_bestNet this_bestMore this_leastApart this_found this_first this_leastPaid this_traced this_speaks this_isParted this_named this_pile this_s) := hD
    refine lv_istore (lv' := [(4, .int r2), (0, .ref a_this), (1, .int p0), (2, .int p1), (3, .int p2)]) hx hb dX12_asked_11 hl (by decide) rfl (fun ls hl => ?_)
    refine lv_iload_n hx hb dX12_asked_13 rfl (lv_at hl 3 rfl) ?_
    refine lv_bipush (v := (10 : Int32)) hx hb dX12_asked_14 (by decide) ?_
    obtain ⟨r3, hr3, hf⟩ := kb hf
    refine kS (As := [.int p1, .int (10 : Int32)]) (rest := []) ⟨hx, hb, hml, hown, hts⟩ (c_X12_added l G N p1 (10 : Int32) r3 hr3) (kcS 2 hts tw_1203 tw_92 tw_1201 tw_1202 hd_X12_added ⟨Nat.le_of_ble_eq_true rfl, Nat.le_of_ble_eq_true rfl⟩) dX12_asked_16 hl.1 hK hAm hA hP hD hS [] rfl rfl rfl [] rfl rfl rfl (Nat.le_of_ble_eq_true rfl) ⟨Nat.le_refl _, Nat.le_refl _⟩ (fun H locs hP hD hS => ?_)
    have hP : va_P (gD G) vwCl (k_X12_asked G a_this a_this_s a_this_kept a_this_errors a_this_step a_this_named a_this_pile a_this_told a_this_beside1 a_this_row a_this_best a_this_worthOf a_this_trace a_this_bits a_this_sizes a_this_number a_this_aside this_images this_at this_open this_steps this_use this_bestNet this_bestMore this_leastApart this_found this_first this_leastPaid this_traced this_speaks this_isParted this_named this_pile this_s) H := hP
    have hD : va_D A (k_X12_asked G a_this a_this_s a_this_kept a_this_errors a_this_step a_this_named a_this_pile a_this_told a_this_beside1 a_this_row a_this_best a_this_worthOf a_this_trace a_this_bits a_this_sizes a_this_number a_this_aside this_images this_at this_open this_steps this_use this_bestNet this_bestMore this_leastApart this_found this_first this_leastPaid this_traced this_speaks this_isParted this_named this_pile this_s) := hD
    refine lv_istore (lv' := [(5, .int r3), (4, .int r2), (0, .ref a_this), (1, .int p0), (2, .int p1), (3, .int p2)]) hx hb dX12_asked_19 hl (by decide) rfl (fun ls hl => ?_)
    refine lv_aload_n hx hb dX12_asked_21 rfl (lv_at hl 2 rfl) ?_
    refine lv_iload_n hx hb dX12_asked_22 rfl (lv_at hl 3 rfl) ?_
    obtain ⟨r4, hr4, hf⟩ := kb hf
    refine kV (As := [.int p0]) (rest := []) ⟨hx, hb, hml, hown, hts⟩ (c_X12_kindOf l G N a_this a_this_s a_this_kept a_this_errors a_this_step a_this_named a_this_pile a_this_told a_this_beside1 a_this_row a_this_best a_this_worthOf a_this_trace a_this_bits a_this_sizes a_this_number a_this_aside p0 this_images this_at this_open this_steps this_use this_bestNet this_bestMore this_leastApart this_found this_first this_leastPaid this_traced this_speaks this_isParted this_s r4 hr4) (kcV 1 hts tw_1181 tw_92 tw_1178 tw_1180 tw_58 hd_X12_kindOf ⟨Nat.le_of_ble_eq_true rfl, Nat.le_of_ble_eq_true rfl⟩) dX12_asked_23 hl.1 hK hAm hA hP hD hS 0 (ci := 12) rfl rfl rfl [0, 3] rfl rfl rfl [] rfl rfl rfl (Nat.le_of_ble_eq_true rfl) ⟨Nat.le_refl _, Nat.le_refl _⟩ (fun H locs hP hD hS => ?_)
    have hP : va_P (gD G) vwCl (k_X12_asked G a_this a_this_s a_this_kept a_this_errors a_this_step a_this_named a_this_pile a_this_told a_this_beside1 a_this_row a_this_best a_this_worthOf a_this_trace a_this_bits a_this_sizes a_this_number a_this_aside this_images this_at this_open this_steps this_use this_bestNet this_bestMore this_leastApart this_found this_first this_leastPaid this_traced this_speaks this_isParted this_named this_pile this_s) H := hP
    have hD : va_D A (k_X12_asked G a_this a_this_s a_this_kept a_this_errors a_this_step a_this_named a_this_pile a_this_told a_this_beside1 a_this_row a_this_best a_this_worthOf a_this_trace a_this_bits a_this_sizes a_this_number a_this_aside this_images this_at this_open this_steps this_use this_bestNet this_bestMore this_leastApart this_found this_first this_leastPaid this_traced this_speaks this_isParted this_named this_pile this_s) := hD
    by_cases q5 : r4 = (1 : Int32)
    · replace hf := kt q5 hf
      refine lv_tableIn (off := 38) (tgt := 64) hx hb dX12_asked_26 (by rw [q5]; decide) (by rw [q5]; decide) (by rw [q5]; rfl) (by decide) ?_
      refine lv_iload_n hx hb dX12_asked_64 rfl (lv_at hl 4 rfl) ?_
      refine lv_bipush (v := (10 : Int32)) hx hb dX12_asked_65 (by decide) ?_
      refine lv_irem hx hb dX12_asked_67 (by decide) ?_
      refine lv_istore (lv' := [(5, .int (p1 - p1 / (10 : Int32) * (10 : Int32))), (4, .int r2), (0, .ref a_this), (1, .int p0), (2, .int p1), (3, .int p2)]) hx hb dX12_asked_68 hl (by decide) rfl (fun ls hl => ?_)
      refine lv_goto (tgt := 177) hx hb dX12_asked_70 (by decide) ?_
      refine lv_iload hx hb dX12_asked_177 (lv_at hl 0 rfl) ?_
      refine lv_iconst (v := (0 : Int32)) hx hb dX12_asked_179 (by decide) ?_
      refine lv_sipush (v := (9999 : Int32)) hx hb dX12_asked_180 (by decide) ?_
      obtain ⟨r6, hr6, hf⟩ := kb hf
      refine kS (As := [.int (p1 - p1 / (10 : Int32) * (10 : Int32)), .int (0 : Int32), .int (9999 : Int32)]) (rest := []) ⟨hx, hb, hml, hown, hts⟩ (c_X12_held l G N (p1 - p1 / (10 : Int32) * (10 : Int32)) (0 : Int32) (9999 : Int32) r6 hr6) (kcS 3 hts tw_1170 tw_92 tw_1168 tw_1169 hd_X12_held ⟨Nat.le_of_ble_eq_true rfl, Nat.le_of_ble_eq_true rfl⟩) dX12_asked_183 hl.1 hK hAm hA hP hD hS [] rfl rfl rfl [] rfl rfl rfl (Nat.le_of_ble_eq_true rfl) ⟨Nat.le_refl _, Nat.le_refl _⟩ (fun H locs hP hD hS => ?_)
      have hP : va_P (gD G) vwCl (k_X12_asked G a_this a_this_s a_this_kept a_this_errors a_this_step a_this_named a_this_pile a_this_told a_this_beside1 a_this_row a_this_best a_this_worthOf a_this_trace a_this_bits a_this_sizes a_this_number a_this_aside this_images this_at this_open this_steps this_use this_bestNet this_bestMore this_leastApart this_found this_first this_leastPaid this_traced this_speaks this_isParted this_named this_pile this_s) H := hP
      have hD : va_D A (k_X12_asked G a_this a_this_s a_this_kept a_this_errors a_this_step a_this_named a_this_pile a_this_told a_this_beside1 a_this_row a_this_best a_this_worthOf a_this_trace a_this_bits a_this_sizes a_this_number a_this_aside this_images this_at this_open this_steps this_use this_bestNet this_bestMore this_leastApart this_found this_first this_leastPaid this_traced this_speaks this_isParted this_named this_pile this_s) := hD
      have ho := ks hf
      subst ho
      exact kiret hx hb hr hlk hP hD hS hQ dX12_asked_186
    · replace hf := kf q5 hf
      by_cases q7 : r4 = (2 : Int32)
      · replace hf := kt q7 hf
        refine lv_tableIn (off := 47) (tgt := 73) hx hb dX12_asked_26 (by rw [q7]; decide) (by rw [q7]; decide) (by rw [q7]; rfl) (by decide) ?_
        refine lv_iload_n hx hb dX12_asked_73 rfl (lv_at hl 4 rfl) ?_
        refine lv_bipush (v := (10 : Int32)) hx hb dX12_asked_74 (by decide) ?_
        obtain ⟨r8, hr8, hf⟩ := kb hf
        refine kS (As := [.int p1, .int (10 : Int32)]) (rest := []) ⟨hx, hb, hml, hown, hts⟩ (c_X12_rooted l G N p1 (10 : Int32) r8 hr8) (kcS 2 hts tw_1215 tw_92 tw_1213 tw_1214 hd_X12_rooted ⟨Nat.le_of_ble_eq_true rfl, Nat.le_of_ble_eq_true rfl⟩) dX12_asked_76 hl.1 hK hAm hA hP hD hS [] rfl rfl rfl [] rfl rfl rfl (Nat.le_of_ble_eq_true rfl) ⟨Nat.le_refl _, Nat.le_refl _⟩ (fun H locs hP hD hS => ?_)
        have hP : va_P (gD G) vwCl (k_X12_asked G a_this a_this_s a_this_kept a_this_errors a_this_step a_this_named a_this_pile a_this_told a_this_beside1 a_this_row a_this_best a_this_worthOf a_this_trace a_this_bits a_this_sizes a_this_number a_this_aside this_images this_at this_open this_steps this_use this_bestNet this_bestMore this_leastApart this_found this_first this_leastPaid this_traced this_speaks this_isParted this_named this_pile this_s) H := hP
        have hD : va_D A (k_X12_asked G a_this a_this_s a_this_kept a_this_errors a_this_step a_this_named a_this_pile a_this_told a_this_beside1 a_this_row a_this_best a_this_worthOf a_this_trace a_this_bits a_this_sizes a_this_number a_this_aside this_images this_at this_open this_steps this_use this_bestNet this_bestMore this_leastApart this_found this_first this_leastPaid this_traced this_speaks this_isParted this_named this_pile this_s) := hD
        refine lv_istore (lv' := [(5, .int r8), (4, .int r2), (0, .ref a_this), (1, .int p0), (2, .int p1), (3, .int p2)]) hx hb dX12_asked_79 hl (by decide) rfl (fun ls hl => ?_)
        refine lv_goto (tgt := 177) hx hb dX12_asked_81 (by decide) ?_
        refine lv_iload hx hb dX12_asked_177 (lv_at hl 0 rfl) ?_
        refine lv_iconst (v := (0 : Int32)) hx hb dX12_asked_179 (by decide) ?_
        refine lv_sipush (v := (9999 : Int32)) hx hb dX12_asked_180 (by decide) ?_
        obtain ⟨r9, hr9, hf⟩ := kb hf
        refine kS (As := [.int r8, .int (0 : Int32), .int (9999 : Int32)]) (rest := []) ⟨hx, hb, hml, hown, hts⟩ (c_X12_held l G N r8 (0 : Int32) (9999 : Int32) r9 hr9) (kcS 3 hts tw_1170 tw_92 tw_1168 tw_1169 hd_X12_held ⟨Nat.le_of_ble_eq_true rfl, Nat.le_of_ble_eq_true rfl⟩) dX12_asked_183 hl.1 hK hAm hA hP hD hS [] rfl rfl rfl [] rfl rfl rfl (Nat.le_of_ble_eq_true rfl) ⟨Nat.le_refl _, Nat.le_refl _⟩ (fun H locs hP hD hS => ?_)
        have hP : va_P (gD G) vwCl (k_X12_asked G a_this a_this_s a_this_kept a_this_errors a_this_step a_this_named a_this_pile a_this_told a_this_beside1 a_this_row a_this_best a_this_worthOf a_this_trace a_this_bits a_this_sizes a_this_number a_this_aside this_images this_at this_open this_steps this_use this_bestNet this_bestMore this_leastApart this_found this_first this_leastPaid this_traced this_speaks this_isParted this_named this_pile this_s) H := hP
        have hD : va_D A (k_X12_asked G a_this a_this_s a_this_kept a_this_errors a_this_step a_this_named a_this_pile a_this_told a_this_beside1 a_this_row a_this_best a_this_worthOf a_this_trace a_this_bits a_this_sizes a_this_number a_this_aside this_images this_at this_open this_steps this_use this_bestNet this_bestMore this_leastApart this_found this_first this_leastPaid this_traced this_speaks this_isParted this_named this_pile this_s) := hD
        have ho := ks hf
        subst ho
        exact kiret hx hb hr hlk hP hD hS hQ dX12_asked_186
      · replace hf := kf q7 hf
        by_cases q10 : r4 = (3 : Int32)
        · replace hf := kt q10 hf
          refine lv_tableIn (off := 58) (tgt := 84) hx hb dX12_asked_26 (by rw [q10]; decide) (by rw [q10]; decide) (by rw [q10]; rfl) (by decide) ?_
          refine lv_iload_n hx hb dX12_asked_84 rfl (lv_at hl 4 rfl) ?_
          refine lv_iload hx hb dX12_asked_85 (lv_at hl 1 rfl) ?_
          refine lv_iadd hx hb dX12_asked_87 ?_
          refine lv_bipush (v := (10 : Int32)) hx hb dX12_asked_88 (by decide) ?_
          obtain ⟨r11, hr11, hf⟩ := kb hf
          refine kS (As := [.int (p1 + r2), .int (10 : Int32)]) (rest := []) ⟨hx, hb, hml, hown, hts⟩ (c_X12_added l G N (p1 + r2) (10 : Int32) r11 hr11) (kcS 2 hts tw_1203 tw_92 tw_1201 tw_1202 hd_X12_added ⟨Nat.le_of_ble_eq_true rfl, Nat.le_of_ble_eq_true rfl⟩) dX12_asked_90 hl.1 hK hAm hA hP hD hS [] rfl rfl rfl [] rfl rfl rfl (Nat.le_of_ble_eq_true rfl) ⟨Nat.le_refl _, Nat.le_refl _⟩ (fun H locs hP hD hS => ?_)
          have hP : va_P (gD G) vwCl (k_X12_asked G a_this a_this_s a_this_kept a_this_errors a_this_step a_this_named a_this_pile a_this_told a_this_beside1 a_this_row a_this_best a_this_worthOf a_this_trace a_this_bits a_this_sizes a_this_number a_this_aside this_images this_at this_open this_steps this_use this_bestNet this_bestMore this_leastApart this_found this_first this_leastPaid this_traced this_speaks this_isParted this_named this_pile this_s) H := hP
          have hD : va_D A (k_X12_asked G a_this a_this_s a_this_kept a_this_errors a_this_step a_this_named a_this_pile a_this_told a_this_beside1 a_this_row a_this_best a_this_worthOf a_this_trace a_this_bits a_this_sizes a_this_number a_this_aside this_images this_at this_open this_steps this_use this_bestNet this_bestMore this_leastApart this_found this_first this_leastPaid this_traced this_speaks this_isParted this_named this_pile this_s) := hD
          refine lv_istore (lv' := [(5, .int r11), (4, .int r2), (0, .ref a_this), (1, .int p0), (2, .int p1), (3, .int p2)]) hx hb dX12_asked_93 hl (by decide) rfl (fun ls hl => ?_)
          refine lv_goto (tgt := 177) hx hb dX12_asked_95 (by decide) ?_
          refine lv_iload hx hb dX12_asked_177 (lv_at hl 0 rfl) ?_
          refine lv_iconst (v := (0 : Int32)) hx hb dX12_asked_179 (by decide) ?_
          refine lv_sipush (v := (9999 : Int32)) hx hb dX12_asked_180 (by decide) ?_
          obtain ⟨r12, hr12, hf⟩ := kb hf
          refine kS (As := [.int r11, .int (0 : Int32), .int (9999 : Int32)]) (rest := []) ⟨hx, hb, hml, hown, hts⟩ (c_X12_held l G N r11 (0 : Int32) (9999 : Int32) r12 hr12) (kcS 3 hts tw_1170 tw_92 tw_1168 tw_1169 hd_X12_held ⟨Nat.le_of_ble_eq_true rfl, Nat.le_of_ble_eq_true rfl⟩) dX12_asked_183 hl.1 hK hAm hA hP hD hS [] rfl rfl rfl [] rfl rfl rfl (Nat.le_of_ble_eq_true rfl) ⟨Nat.le_refl _, Nat.le_refl _⟩ (fun H locs hP hD hS => ?_)
          have hP : va_P (gD G) vwCl (k_X12_asked G a_this a_this_s a_this_kept a_this_errors a_this_step a_this_named a_this_pile a_this_told a_this_beside1 a_this_row a_this_best a_this_worthOf a_this_trace a_this_bits a_this_sizes a_this_number a_this_aside this_images this_at this_open this_steps this_use this_bestNet this_bestMore this_leastApart this_found this_first this_leastPaid this_traced this_speaks this_isParted this_named this_pile this_s) H := hP
          have hD : va_D A (k_X12_asked G a_this a_this_s a_this_kept a_this_errors a_this_step a_this_named a_this_pile a_this_told a_this_beside1 a_this_row a_this_best a_this_worthOf a_this_trace a_this_bits a_this_sizes a_this_number a_this_aside this_images this_at this_open this_steps this_use this_bestNet this_bestMore this_leastApart this_found this_first this_leastPaid this_traced this_speaks this_isParted this_named this_pile this_s) := hD
          have ho := ks hf
          subst ho
          exact kiret hx hb hr hlk hP hD hS hQ dX12_asked_186
        · replace hf := kf q10 hf
          by_cases q13 : r4 = (4 : Int32)
          · replace hf := kt q13 hf
            refine lv_tableIn (off := 72) (tgt := 98) hx hb dX12_asked_26 (by rw [q13]; decide) (by rw [q13]; decide) (by rw [q13]; rfl) (by decide) ?_
            refine lv_iload_n hx hb dX12_asked_98 rfl (lv_at hl 4 rfl) ?_
            refine lv_iload hx hb dX12_asked_99 (lv_at hl 1 rfl) ?_
            refine lv_iconst (v := (2 : Int32)) hx hb dX12_asked_101 (by decide) ?_
            refine lv_iadd hx hb dX12_asked_102 ?_
            obtain ⟨r14, hr14, hf⟩ := kb hf
            refine kS (As := [.int p1, .int (r2 + (2 : Int32))]) (rest := []) ⟨hx, hb, hml, hown, hts⟩ (c_X12_rooted l G N p1 (r2 + (2 : Int32)) r14 hr14) (kcS 2 hts tw_1215 tw_92 tw_1213 tw_1214 hd_X12_rooted ⟨Nat.le_of_ble_eq_true rfl, Nat.le_of_ble_eq_true rfl⟩) dX12_asked_103 hl.1 hK hAm hA hP hD hS [] rfl rfl rfl [] rfl rfl rfl (Nat.le_of_ble_eq_true rfl) ⟨Nat.le_refl _, Nat.le_refl _⟩ (fun H locs hP hD hS => ?_)
            have hP : va_P (gD G) vwCl (k_X12_asked G a_this a_this_s a_this_kept a_this_errors a_this_step a_this_named a_this_pile a_this_told a_this_beside1 a_this_row a_this_best a_this_worthOf a_this_trace a_this_bits a_this_sizes a_this_number a_this_aside this_images this_at this_open this_steps this_use this_bestNet this_bestMore this_leastApart this_found this_first this_leastPaid this_traced this_speaks this_isParted this_named this_pile this_s) H := hP
            have hD : va_D A (k_X12_asked G a_this a_this_s a_this_kept a_this_errors a_this_step a_this_named a_this_pile a_this_told a_this_beside1 a_this_row a_this_best a_this_worthOf a_this_trace a_this_bits a_this_sizes a_this_number a_this_aside this_images this_at this_open this_steps this_use this_bestNet this_bestMore this_leastApart this_found this_first this_leastPaid this_traced this_speaks this_isParted this_named this_pile this_s) := hD
            refine lv_istore (lv' := [(5, .int r14), (4, .int r2), (0, .ref a_this), (1, .int p0), (2, .int p1), (3, .int p2)]) hx hb dX12_asked_106 hl (by decide) rfl (fun ls hl => ?_)
            refine lv_goto (tgt := 177) hx hb dX12_asked_108 (by decide) ?_
            refine lv_iload hx hb dX12_asked_177 (lv_at hl 0 rfl) ?_
            refine lv_iconst (v := (0 : Int32)) hx hb dX12_asked_179 (by decide) ?_
            refine lv_sipush (v := (9999 : Int32)) hx hb dX12_asked_180 (by decide) ?_
            obtain ⟨r15, hr15, hf⟩ := kb hf
            refine kS (As := [.int r14, .int (0 : Int32), .int (9999 : Int32)]) (rest := []) ⟨hx, hb, hml, hown, hts⟩ (c_X12_held l G N r14 (0 : Int32) (9999 : Int32) r15 hr15) (kcS 3 hts tw_1170 tw_92 tw_1168 tw_1169 hd_X12_held ⟨Nat.le_of_ble_eq_true rfl, Nat.le_of_ble_eq_true rfl⟩) dX12_asked_183 hl.1 hK hAm hA hP hD hS [] rfl rfl rfl [] rfl rfl rfl (Nat.le_of_ble_eq_true rfl) ⟨Nat.le_refl _, Nat.le_refl _⟩ (fun H locs hP hD hS => ?_)
            have hP : va_P (gD G) vwCl (k_X12_asked G a_this a_this_s a_this_kept a_this_errors a_this_step a_this_named a_this_pile a_this_told a_this_beside1 a_this_row a_this_best a_this_worthOf a_this_trace a_this_bits a_this_sizes a_this_number a_this_aside this_images this_at this_open this_steps this_use this_bestNet this_bestMore this_leastApart this_found this_first this_leastPaid this_traced this_speaks this_isParted this_named this_pile this_s) H := hP
            have hD : va_D A (k_X12_asked G a_this a_this_s a_this_kept a_this_errors a_this_step a_this_named a_this_pile a_this_told a_this_beside1 a_this_row a_this_best a_this_worthOf a_this_trace a_this_bits a_this_sizes a_this_number a_this_aside this_images this_at this_open this_steps this_use this_bestNet this_bestMore this_leastApart this_found this_first this_leastPaid this_traced this_speaks this_isParted this_named this_pile this_s) := hD
            have ho := ks hf
            subst ho
            exact kiret hx hb hr hlk hP hD hS hQ dX12_asked_186
          · replace hf := kf q13 hf
            by_cases q16 : r4 = (5 : Int32)
            · replace hf := kt q16 hf
              refine lv_tableIn (off := 85) (tgt := 111) hx hb dX12_asked_26 (by rw [q16]; decide) (by rw [q16]; decide) (by rw [q16]; rfl) (by decide) ?_
              refine lv_iload_n hx hb dX12_asked_111 rfl (lv_at hl 4 rfl) ?_
              refine lv_bipush (v := (10 : Int32)) hx hb dX12_asked_112 (by decide) ?_
              refine lv_irem hx hb dX12_asked_114 (by decide) ?_
              refine lv_iload hx hb dX12_asked_115 (lv_at hl 1 rfl) ?_
              refine lv_icmp_ge (tgt := 125) hx hb dX12_asked_117 (by decide) (fun c17 => ?_) (fun c17 => ?_)
              · replace hf := kt c17 hf
                refine lv_iload_n hx hb dX12_asked_125 rfl (lv_at hl 4 rfl) ?_
                refine lv_bipush (v := (10 : Int32)) hx hb dX12_asked_126 (by decide) ?_
                refine lv_irem hx hb dX12_asked_128 (by decide) ?_
                refine lv_istore (lv' := [(5, .int (p1 - p1 / (10 : Int32) * (10 : Int32))), (4, .int r2), (0, .ref a_this), (1, .int p0), (2, .int p1), (3, .int p2)]) hx hb dX12_asked_129 hl (by decide) rfl (fun ls hl => ?_)
                refine lv_goto (tgt := 177) hx hb dX12_asked_131 (by decide) ?_
                refine lv_iload hx hb dX12_asked_177 (lv_at hl 0 rfl) ?_
                refine lv_iconst (v := (0 : Int32)) hx hb dX12_asked_179 (by decide) ?_
                refine lv_sipush (v := (9999 : Int32)) hx hb dX12_asked_180 (by decide) ?_
                obtain ⟨r18, hr18, hf⟩ := kb hf
                refine kS (As := [.int (p1 - p1 / (10 : Int32) * (10 : Int32)), .int (0 : Int32), .int (9999 : Int32)]) (rest := []) ⟨hx, hb, hml, hown, hts⟩ (c_X12_held l G N (p1 - p1 / (10 : Int32) * (10 : Int32)) (0 : Int32) (9999 : Int32) r18 hr18) (kcS 3 hts tw_1170 tw_92 tw_1168 tw_1169 hd_X12_held ⟨Nat.le_of_ble_eq_true rfl, Nat.le_of_ble_eq_true rfl⟩) dX12_asked_183 hl.1 hK hAm hA hP hD hS [] rfl rfl rfl [] rfl rfl rfl (Nat.le_of_ble_eq_true rfl) ⟨Nat.le_refl _, Nat.le_refl _⟩ (fun H locs hP hD hS => ?_)
                have hP : va_P (gD G) vwCl (k_X12_asked G a_this a_this_s a_this_kept a_this_errors a_this_step a_this_named a_this_pile a_this_told a_this_beside1 a_this_row a_this_best a_this_worthOf a_this_trace a_this_bits a_this_sizes a_this_number a_this_aside this_images this_at this_open this_steps this_use this_bestNet this_bestMore this_leastApart this_found this_first this_leastPaid this_traced this_speaks this_isParted this_named this_pile this_s) H := hP
                have hD : va_D A (k_X12_asked G a_this a_this_s a_this_kept a_this_errors a_this_step a_this_named a_this_pile a_this_told a_this_beside1 a_this_row a_this_best a_this_worthOf a_this_trace a_this_bits a_this_sizes a_this_number a_this_aside this_images this_at this_open this_steps this_use this_bestNet this_bestMore this_leastApart this_found this_first this_leastPaid this_traced this_speaks this_isParted this_named this_pile this_s) := hD
                have ho := ks hf
                subst ho
                exact kiret hx hb hr hlk hP hD hS hQ dX12_asked_186
              · replace hf := kf c17 hf
                refine lv_iload hx hb dX12_asked_120 (lv_at hl 1 rfl) ?_
                refine lv_goto (tgt := 129) hx hb dX12_asked_122 (by decide) ?_
                refine lv_istore (lv' := [(5, .int r2), (4, .int r2), (0, .ref a_this), (1, .int p0), (2, .int p1), (3, .int p2)]) hx hb dX12_asked_129 hl (by decide) rfl (fun ls hl => ?_)
                refine lv_goto (tgt := 177) hx hb dX12_asked_131 (by decide) ?_
                refine lv_iload hx hb dX12_asked_177 (lv_at hl 0 rfl) ?_
                refine lv_iconst (v := (0 : Int32)) hx hb dX12_asked_179 (by decide) ?_
                refine lv_sipush (v := (9999 : Int32)) hx hb dX12_asked_180 (by decide) ?_
                obtain ⟨r19, hr19, hf⟩ := kb hf
                refine kS (As := [.int r2, .int (0 : Int32), .int (9999 : Int32)]) (rest := []) ⟨hx, hb, hml, hown, hts⟩ (c_X12_held l G N r2 (0 : Int32) (9999 : Int32) r19 hr19) (kcS 3 hts tw_1170 tw_92 tw_1168 tw_1169 hd_X12_held ⟨Nat.le_of_ble_eq_true rfl, Nat.le_of_ble_eq_true rfl⟩) dX12_asked_183 hl.1 hK hAm hA hP hD hS [] rfl rfl rfl [] rfl rfl rfl (Nat.le_of_ble_eq_true rfl) ⟨Nat.le_refl _, Nat.le_refl _⟩ (fun H locs hP hD hS => ?_)
                have hP : va_P (gD G) vwCl (k_X12_asked G a_this a_this_s a_this_kept a_this_errors a_this_step a_this_named a_this_pile a_this_told a_this_beside1 a_this_row a_this_best a_this_worthOf a_this_trace a_this_bits a_this_sizes a_this_number a_this_aside this_images this_at this_open this_steps this_use this_bestNet this_bestMore this_leastApart this_found this_first this_leastPaid this_traced this_speaks this_isParted this_named this_pile this_s) H := hP
                have hD : va_D A (k_X12_asked G a_this a_this_s a_this_kept a_this_errors a_this_step a_this_named a_this_pile a_this_told a_this_beside1 a_this_row a_this_best a_this_worthOf a_this_trace a_this_bits a_this_sizes a_this_number a_this_aside this_images this_at this_open this_steps this_use this_bestNet this_bestMore this_leastApart this_found this_first this_leastPaid this_traced this_speaks this_isParted this_named this_pile this_s) := hD
                have ho := ks hf
                subst ho
                exact kiret hx hb hr hlk hP hD hS hQ dX12_asked_186
            · replace hf := kf q16 hf
              by_cases q20 : r4 = (6 : Int32)
              · replace hf := kt q20 hf
                refine lv_tableIn (off := 108) (tgt := 134) hx hb dX12_asked_26 (by rw [q20]; decide) (by rw [q20]; decide) (by rw [q20]; rfl) (by decide) ?_
                refine lv_aload_n hx hb dX12_asked_134 rfl (lv_at hl 2 rfl) ?_
                refine lv_iconst (v := (0 : Int32)) hx hb dX12_asked_135 (by decide) ?_
                obtain ⟨r21, hr21, hf⟩ := kb hf
                refine kV (As := [.int (0 : Int32)]) (rest := []) ⟨hx, hb, hml, hown, hts⟩ (c_X12_hasText l G N a_this a_this_s a_this_kept a_this_errors a_this_step a_this_named a_this_pile a_this_told a_this_beside1 a_this_row a_this_best a_this_worthOf a_this_trace a_this_bits a_this_sizes a_this_number a_this_aside (0 : Int32) this_images this_at this_open this_steps this_use this_bestNet this_bestMore this_leastApart this_found this_first this_leastPaid this_traced this_speaks this_isParted this_s r21 hr21) (kcV 1 hts tw_1141 tw_92 tw_1138 tw_1140 tw_54 hd_X12_hasText ⟨Nat.le_of_ble_eq_true rfl, Nat.le_of_ble_eq_true rfl⟩) dX12_asked_136 hl.1 hK hAm hA hP hD hS 0 (ci := 12) rfl rfl rfl [0, 3] rfl rfl rfl [] rfl rfl rfl (Nat.le_of_ble_eq_true rfl) ⟨Nat.le_refl _, Nat.le_refl _⟩ (fun H locs hP hD hS => ?_)
                have hP : va_P (gD G) vwCl (k_X12_asked G a_this a_this_s a_this_kept a_this_errors a_this_step a_this_named a_this_pile a_this_told a_this_beside1 a_this_row a_this_best a_this_worthOf a_this_trace a_this_bits a_this_sizes a_this_number a_this_aside this_images this_at this_open this_steps this_use this_bestNet this_bestMore this_leastApart this_found this_first this_leastPaid this_traced this_speaks this_isParted this_named this_pile this_s) H := hP
                have hD : va_D A (k_X12_asked G a_this a_this_s a_this_kept a_this_errors a_this_step a_this_named a_this_pile a_this_told a_this_beside1 a_this_row a_this_best a_this_worthOf a_this_trace a_this_bits a_this_sizes a_this_number a_this_aside this_images this_at this_open this_steps this_use this_bestNet this_bestMore this_leastApart this_found this_first this_leastPaid this_traced this_speaks this_isParted this_named this_pile this_s) := hD
                refine lv_if_eq (tgt := 177) hx hb dX12_asked_139 (by decide) (fun c22 => ?_) (fun c22 => ?_)
                · replace hf := kt c22 hf
                  refine lv_iload hx hb dX12_asked_177 (lv_at hl 0 rfl) ?_
                  refine lv_iconst (v := (0 : Int32)) hx hb dX12_asked_179 (by decide) ?_
                  refine lv_sipush (v := (9999 : Int32)) hx hb dX12_asked_180 (by decide) ?_
                  obtain ⟨r23, hr23, hf⟩ := kb hf
                  refine kS (As := [.int r3, .int (0 : Int32), .int (9999 : Int32)]) (rest := []) ⟨hx, hb, hml, hown, hts⟩ (c_X12_held l G N r3 (0 : Int32) (9999 : Int32) r23 hr23) (kcS 3 hts tw_1170 tw_92 tw_1168 tw_1169 hd_X12_held ⟨Nat.le_of_ble_eq_true rfl, Nat.le_of_ble_eq_true rfl⟩) dX12_asked_183 hl.1 hK hAm hA hP hD hS [] rfl rfl rfl [] rfl rfl rfl (Nat.le_of_ble_eq_true rfl) ⟨Nat.le_refl _, Nat.le_refl _⟩ (fun H locs hP hD hS => ?_)
                  have hP : va_P (gD G) vwCl (k_X12_asked G a_this a_this_s a_this_kept a_this_errors a_this_step a_this_named a_this_pile a_this_told a_this_beside1 a_this_row a_this_best a_this_worthOf a_this_trace a_this_bits a_this_sizes a_this_number a_this_aside this_images this_at this_open this_steps this_use this_bestNet this_bestMore this_leastApart this_found this_first this_leastPaid this_traced this_speaks this_isParted this_named this_pile this_s) H := hP
                  have hD : va_D A (k_X12_asked G a_this a_this_s a_this_kept a_this_errors a_this_step a_this_named a_this_pile a_this_told a_this_beside1 a_this_row a_this_best a_this_worthOf a_this_trace a_this_bits a_this_sizes a_this_number a_this_aside this_images this_at this_open this_steps this_use this_bestNet this_bestMore this_leastApart this_found this_first this_leastPaid this_traced this_speaks this_isParted this_named this_pile this_s) := hD
                  have ho := ks hf
                  subst ho
                  exact kiret hx hb hr hlk hP hD hS hQ dX12_asked_186
                · replace hf := kf c22 hf
                  refine lv_aload_n hx hb dX12_asked_142 rfl (lv_at hl 2 rfl) ?_
                  refine va_get (D := gD G) (ci := 12) (C := RX12) (T := TX12) (N := 30) hx hb hts hin_X12 hown hK hP 0 rfl rfl 9 (by decide) fl_22 (fun _ h9 => h9) rfl dX12_asked_143 ?_
                  refine lv_bipush (v := (115 : Int32)) hx hb dX12_asked_146 (by decide) ?_
                  refine lv_iload_n hx hb dX12_asked_148 rfl (lv_at hl 4 rfl) ?_
                  refine va_iast hx hb hK hP hD hS 1 0 rfl rfl (vin_of (by decide)) dX12_asked_149 (fun H locs hP hD hS => ?_)
                  have hP : va_P (gD G) vwCl (k_X12_asked G a_this a_this_s a_this_kept a_this_errors a_this_step a_this_named a_this_pile a_this_told a_this_beside1 a_this_row a_this_best a_this_worthOf a_this_trace a_this_bits a_this_sizes a_this_number a_this_aside this_images this_at this_open this_steps this_use this_bestNet this_bestMore this_leastApart this_found this_first this_leastPaid this_traced this_speaks this_isParted (upd this_named (115 : Int32).toNatClampNeg p1) this_pile this_s) H := hP
                  have hD : va_D A (k_X12_asked G a_this a_this_s a_this_kept a_this_errors a_this_step a_this_named a_this_pile a_this_told a_this_beside1 a_this_row a_this_best a_this_worthOf a_this_trace a_this_bits a_this_sizes a_this_number a_this_aside this_images this_at this_open this_steps this_use this_bestNet this_bestMore this_leastApart this_found this_first this_leastPaid this_traced this_speaks this_isParted (upd this_named (115 : Int32).toNatClampNeg p1) this_pile this_s) := hD
                  refine lv_aload_n hx hb dX12_asked_150 rfl (lv_at hl 2 rfl) ?_
                  refine va_get (D := gD G) (ci := 12) (C := RX12) (T := TX12) (N := 30) hx hb hts hin_X12 hown hK hP 0 rfl rfl 9 (by decide) fl_22 (fun _ h9 => h9) rfl dX12_asked_151 ?_
                  refine lv_bipush (v := (107 : Int32)) hx hb dX12_asked_154 (by decide) ?_
                  refine lv_iload_n hx hb dX12_asked_156 rfl (lv_at hl 5 rfl) ?_
                  refine va_iast hx hb hK hP hD hS 1 0 rfl rfl (vin_of (by decide)) dX12_asked_157 (fun H locs hP hD hS => ?_)
                  have hP : va_P (gD G) vwCl (k_X12_asked G a_this a_this_s a_this_kept a_this_errors a_this_step a_this_named a_this_pile a_this_told a_this_beside1 a_this_row a_this_best a_this_worthOf a_this_trace a_this_bits a_this_sizes a_this_number a_this_aside this_images this_at this_open this_steps this_use this_bestNet this_bestMore this_leastApart this_found this_first this_leastPaid this_traced this_speaks this_isParted (upd (upd this_named (115 : Int32).toNatClampNeg p1) (107 : Int32).toNatClampNeg p2) this_pile this_s) H := hP
                  have hD : va_D A (k_X12_asked G a_this a_this_s a_this_kept a_this_errors a_this_step a_this_named a_this_pile a_this_told a_this_beside1 a_this_row a_this_best a_this_worthOf a_this_trace a_this_bits a_this_sizes a_this_number a_this_aside this_images this_at this_open this_steps this_use this_bestNet this_bestMore this_leastApart this_found this_first this_leastPaid this_traced this_speaks this_isParted (upd (upd this_named (115 : Int32).toNatClampNeg p1) (107 : Int32).toNatClampNeg p2) this_pile this_s) := hD
                  refine lv_aload_n hx hb dX12_asked_158 rfl (lv_at hl 2 rfl) ?_
                  refine va_get (D := gD G) (ci := 12) (C := RX12) (T := TX12) (N := 30) hx hb hts hin_X12 hown hK hP 0 rfl rfl 9 (by decide) fl_22 (fun _ h9 => h9) rfl dX12_asked_159 ?_
                  refine lv_bipush (v := (109 : Int32)) hx hb dX12_asked_162 (by decide) ?_
                  refine lv_iload hx hb dX12_asked_164 (lv_at hl 1 rfl) ?_
                  refine va_iast hx hb hK hP hD hS 1 0 rfl rfl (vin_of (by decide)) dX12_asked_166 (fun H locs hP hD hS => ?_)
                  have hP : va_P (gD G) vwCl (k_X12_asked G a_this a_this_s a_this_kept a_this_errors a_this_step a_this_named a_this_pile a_this_told a_this_beside1 a_this_row a_this_best a_this_worthOf a_this_trace a_this_bits a_this_sizes a_this_number a_this_aside this_images this_at this_open this_steps this_use this_bestNet this_bestMore this_leastApart this_found this_first this_leastPaid this_traced this_speaks this_isParted (upd (upd (upd this_named (115 : Int32).toNatClampNeg p1) (107 : Int32).toNatClampNeg p2) (109 : Int32).toNatClampNeg r2) this_pile this_s) H := hP
                  have hD : va_D A (k_X12_asked G a_this a_this_s a_this_kept a_this_errors a_this_step a_this_named a_this_pile a_this_told a_this_beside1 a_this_row a_this_best a_this_worthOf a_this_trace a_this_bits a_this_sizes a_this_number a_this_aside this_images this_at this_open this_steps this_use this_bestNet this_bestMore this_leastApart this_found this_first this_leastPaid this_traced this_speaks this_isParted (upd (upd (upd this_named (115 : Int32).toNatClampNeg p1) (107 : Int32).toNatClampNeg p2) (109 : Int32).toNatClampNeg r2) this_pile this_s) := hD
                  refine lv_aload_n hx hb dX12_asked_167 rfl (lv_at hl 2 rfl) ?_
                  refine lv_iconst (v := (0 : Int32)) hx hb dX12_asked_168 (by decide) ?_
                  obtain ⟨r24, hr24, hf⟩ := kb hf
                  refine kV (As := [.int (0 : Int32)]) (rest := []) ⟨hx, hb, hml, hown, hts⟩ (c_X12_worked l G N a_this a_this_s a_this_kept a_this_errors a_this_step a_this_named a_this_pile a_this_told a_this_beside1 a_this_row a_this_best a_this_worthOf a_this_trace a_this_bits a_this_sizes a_this_number a_this_aside (0 : Int32) this_images this_at this_open this_steps this_use this_bestNet this_bestMore this_leastApart this_found this_first this_leastPaid this_traced this_speaks this_isParted (upd (upd (upd this_named (115 : Int32).toNatClampNeg p1) (107 : Int32).toNatClampNeg p2) (109 : Int32).toNatClampNeg r2) this_pile this_s r24 hr24) (kcV 1 hts tw_1164 tw_92 tw_1161 tw_1163 tw_57 hd_X12_worked ⟨Nat.le_of_ble_eq_true rfl, Nat.le_of_ble_eq_true rfl⟩) dX12_asked_169 hl.1 hK hAm hA hP hD hS 0 (ci := 12) rfl rfl rfl [0, 1, 2, 3] rfl rfl rfl [2] rfl rfl rfl (Nat.le_of_ble_eq_true rfl) ⟨Nat.le_refl _, Nat.le_refl _⟩ (fun H locs hP hD hS => ?_)
                  have hP : va_P (gD G) vwCl (k_X12_asked G a_this a_this_s a_this_kept a_this_errors a_this_step a_this_named a_this_pile a_this_told a_this_beside1 a_this_row a_this_best a_this_worthOf a_this_trace a_this_bits a_this_sizes a_this_number a_this_aside this_images this_at this_open this_steps this_use this_bestNet this_bestMore this_leastApart this_found this_first this_leastPaid this_traced this_speaks this_isParted (upd (upd (upd this_named (115 : Int32).toNatClampNeg p1) (107 : Int32).toNatClampNeg p2) (109 : Int32).toNatClampNeg r2) r24.2 this_s) H := hP
                  have hD : va_D A (k_X12_asked G a_this a_this_s a_this_kept a_this_errors a_this_step a_this_named a_this_pile a_this_told a_this_beside1 a_this_row a_this_best a_this_worthOf a_this_trace a_this_bits a_this_sizes a_this_number a_this_aside this_images this_at this_open this_steps this_use this_bestNet this_bestMore this_leastApart this_found this_first this_leastPaid this_traced this_speaks this_isParted (upd (upd (upd this_named (115 : Int32).toNatClampNeg p1) (107 : Int32).toNatClampNeg p2) (109 : Int32).toNatClampNeg r2) r24.2 this_s) := hD
                  refine lv_istore (lv' := [(5, .int r24.1), (4, .int r2), (0, .ref a_this), (1, .int p0), (2, .int p1), (3, .int p2)]) hx hb dX12_asked_172 hl (by decide) rfl (fun ls hl => ?_)
                  refine lv_goto (tgt := 177) hx hb dX12_asked_174 (by decide) ?_
                  refine lv_iload hx hb dX12_asked_177 (lv_at hl 0 rfl) ?_
                  refine lv_iconst (v := (0 : Int32)) hx hb dX12_asked_179 (by decide) ?_
                  refine lv_sipush (v := (9999 : Int32)) hx hb dX12_asked_180 (by decide) ?_
                  obtain ⟨r25, hr25, hf⟩ := kb hf
                  refine kS (As := [.int r24.1, .int (0 : Int32), .int (9999 : Int32)]) (rest := []) ⟨hx, hb, hml, hown, hts⟩ (c_X12_held l G N r24.1 (0 : Int32) (9999 : Int32) r25 hr25) (kcS 3 hts tw_1170 tw_92 tw_1168 tw_1169 hd_X12_held ⟨Nat.le_of_ble_eq_true rfl, Nat.le_of_ble_eq_true rfl⟩) dX12_asked_183 hl.1 hK hAm hA hP hD hS [] rfl rfl rfl [] rfl rfl rfl (Nat.le_of_ble_eq_true rfl) ⟨Nat.le_refl _, Nat.le_refl _⟩ (fun H locs hP hD hS => ?_)
                  have hP : va_P (gD G) vwCl (k_X12_asked G a_this a_this_s a_this_kept a_this_errors a_this_step a_this_named a_this_pile a_this_told a_this_beside1 a_this_row a_this_best a_this_worthOf a_this_trace a_this_bits a_this_sizes a_this_number a_this_aside this_images this_at this_open this_steps this_use this_bestNet this_bestMore this_leastApart this_found this_first this_leastPaid this_traced this_speaks this_isParted (upd (upd (upd this_named (115 : Int32).toNatClampNeg p1) (107 : Int32).toNatClampNeg p2) (109 : Int32).toNatClampNeg r2) r24.2 this_s) H := hP
                  have hD : va_D A (k_X12_asked G a_this a_this_s a_this_kept a_this_errors a_this_step a_this_named a_this_pile a_this_told a_this_beside1 a_this_row a_this_best a_this_worthOf a_this_trace a_this_bits a_this_sizes a_this_number a_this_aside this_images this_at this_open this_steps this_use this_bestNet this_bestMore this_leastApart this_found this_first this_leastPaid this_traced this_speaks this_isParted (upd (upd (upd this_named (115 : Int32).toNatClampNeg p1) (107 : Int32).toNatClampNeg p2) (109 : Int32).toNatClampNeg r2) r24.2 this_s) := hD
                  have ho := ks hf
                  subst ho
                  exact kiret hx hb hr hlk hP hD hS hQ dX12_asked_186
              · replace hf := kf q20 hf
                have nq5 : (r4).toInt ≠ 1 := fun z => q5 (Int32.toInt_inj.mp (z.trans (by decide)))
                have nq7 : (r4).toInt ≠ 2 := fun z => q7 (Int32.toInt_inj.mp (z.trans (by decide)))
                have nq10 : (r4).toInt ≠ 3 := fun z => q10 (Int32.toInt_inj.mp (z.trans (by decide)))
                have nq13 : (r4).toInt ≠ 4 := fun z => q13 (Int32.toInt_inj.mp (z.trans (by decide)))
                have nq16 : (r4).toInt ≠ 5 := fun z => q16 (Int32.toInt_inj.mp (z.trans (by decide)))
                have nq20 : (r4).toInt ≠ 6 := fun z => q20 (Int32.toInt_inj.mp (z.trans (by decide)))
                have z27 : (r4).toInt < 1 ∨ 6 < (r4).toInt := by omega
                refine lv_tableOut (tgt := 177) hx hb dX12_asked_26 z27 (by decide) ?_
                refine lv_iload hx hb dX12_asked_177 (lv_at hl 0 rfl) ?_
                refine lv_iconst (v := (0 : Int32)) hx hb dX12_asked_179 (by decide) ?_
                refine lv_sipush (v := (9999 : Int32)) hx hb dX12_asked_180 (by decide) ?_
                obtain ⟨r26, hr26, hf⟩ := kb hf
                refine kS (As := [.int r3, .int (0 : Int32), .int (9999 : Int32)]) (rest := []) ⟨hx, hb, hml, hown, hts⟩ (c_X12_held l G N r3 (0 : Int32) (9999 : Int32) r26 hr26) (kcS 3 hts tw_1170 tw_92 tw_1168 tw_1169 hd_X12_held ⟨Nat.le_of_ble_eq_true rfl, Nat.le_of_ble_eq_true rfl⟩) dX12_asked_183 hl.1 hK hAm hA hP hD hS [] rfl rfl rfl [] rfl rfl rfl (Nat.le_of_ble_eq_true rfl) ⟨Nat.le_refl _, Nat.le_refl _⟩ (fun H locs hP hD hS => ?_)
                have hP : va_P (gD G) vwCl (k_X12_asked G a_this a_this_s a_this_kept a_this_errors a_this_step a_this_named a_this_pile a_this_told a_this_beside1 a_this_row a_this_best a_this_worthOf a_this_trace a_this_bits a_this_sizes a_this_number a_this_aside this_images this_at this_open this_steps this_use this_bestNet this_bestMore this_leastApart this_found this_first this_leastPaid this_traced this_speaks this_isParted this_named this_pile this_s) H := hP
                have hD : va_D A (k_X12_asked G a_this a_this_s a_this_kept a_this_errors a_this_step a_this_named a_this_pile a_this_told a_this_beside1 a_this_row a_this_best a_this_worthOf a_this_trace a_this_bits a_this_sizes a_this_number a_this_aside this_images this_at this_open this_steps this_use this_bestNet this_bestMore this_leastApart this_found this_first this_leastPaid this_traced this_speaks this_isParted this_named this_pile this_s) := hD
                have ho := ks hf
                subst ho
                exact kiret hx hb hr hlk hP hD hS hQ dX12_asked_186
  · replace hf := kt c1 hf
    refine lv_iconst (v := (0 : Int32)) hx hb dX12_asked_4 (by decide) ?_
    have ho := ks hf
    subst ho
    exact kiret hx hb hr hlk hP hD hS hQ dX12_asked_5
abbrev k_X12_values (G : KG) (a_this : Nat) (a_this_s : Nat) (a_this_kept : Nat) (a_this_errors : Nat) (a_this_step : Nat) (a_this_named : Nat) (a_this_pile : Nat) (a_this_told : Nat) (a_this_beside1 : Nat) (a_this_row : Nat) (a_this_best : Nat) (a_this_worthOf : Nat) (a_this_trace : Nat) (a_this_bits : Nat) (a_this_sizes : Nat) (a_this_number : Nat) (a_this_aside : Nat) (this_images : Int32) (this_at : Int32) (this_open : Int32) (this_steps : Int32) (this_use : Int32) (this_bestNet : Int32) (this_bestMore : Int32) (this_leastApart : Int32) (this_found : Int32) (this_first : Int32) (this_leastPaid : Int32) (this_traced : Int32) (this_speaks : Int32) (this_isParted : Int32) (this_named : Nat → Int32) (this_pile : Nat → Int32) (this_s : Nat → Int32) : va_W := [(a_this, .inr (12, [.ref a_this_s, .ref a_this_kept, .int this_images, .ref a_this_errors, .int this_at, .int this_open, .int this_steps, .int this_use, .ref a_this_step, .ref a_this_named, .ref a_this_pile, .ref a_this_told, .ref a_this_beside1, .ref a_this_row, .ref a_this_best, .int this_bestNet, .int this_bestMore, .ref a_this_worthOf, .int this_leastApart, .int this_found, .int this_first, .int this_leastPaid, .ref a_this_trace, .int this_traced, .int this_speaks, .int this_isParted, .ref a_this_bits, .ref a_this_sizes, .ref a_this_number, .ref a_this_aside])), (a_this_named, .inl (gI G, 128, .inl this_named)), (a_this_pile, .inl (gI G, 64, .inl this_pile)), (a_this_s, .inl (gI G, 374, .inl this_s))]
def f_X12_values (N : Nat) (p0 : Int32) (this_named : Nat → Int32) (this_pile : Nat → Int32) (this_s : Nat → Int32) : Option (Int32 × (Nat → Int32) × (Nat → Int32)) := ((f_X12_hasText N (1 : Int32) this_s).bind fun r1 => (if r1 = 0 then (some ((0 : Int32), this_named, this_pile)) else (if vin ((8 : Int32) + p0) 374 = true then (if vin ((16 : Int32) + p0) 374 = true then ((f_X12_worked N (1 : Int32) (upd (upd (upd this_named (116 : Int32).toNatClampNeg p0) (112 : Int32).toNatClampNeg (this_s ((8 : Int32) + p0).toNatClampNeg)) (99 : Int32).toNatClampNeg (this_s ((16 : Int32) + p0).toNatClampNeg)) this_pile this_s).bind fun r5 => ((f_X12_held N r5.1 (0 : Int32) (99 : Int32)).bind fun r6 => (some (r6, (upd (upd (upd this_named (116 : Int32).toNatClampNeg p0) (112 : Int32).toNatClampNeg (this_s ((8 : Int32) + p0).toNatClampNeg)) (99 : Int32).toNatClampNeg (this_s ((16 : Int32) + p0).toNatClampNeg)), r5.2)))) else none) else none)))
set_option maxRecDepth 100000 in
set_option maxHeartbeats 4000000 in
theorem c_X12_values (l : Launch) (G : KG) (N : Nat) (a_this : Nat) (a_this_s : Nat) (a_this_kept : Nat) (a_this_errors : Nat) (a_this_step : Nat) (a_this_named : Nat) (a_this_pile : Nat) (a_this_told : Nat) (a_this_beside1 : Nat) (a_this_row : Nat) (a_this_best : Nat) (a_this_worthOf : Nat) (a_this_trace : Nat) (a_this_bits : Nat) (a_this_sizes : Nat) (a_this_number : Nat) (a_this_aside : Nat) (p0 : Int32) (this_images : Int32) (this_at : Int32) (this_open : Int32) (this_steps : Int32) (this_use : Int32) (this_bestNet : Int32) (this_bestMore : Int32) (this_leastApart : Int32) (this_found : Int32) (this_first : Int32) (this_leastPaid : Int32) (this_traced : Int32) (this_speaks : Int32) (this_isParted : Int32) (this_named : Nat → Int32) (this_pile : Nat → Int32) (this_s : Nat → Int32)  (out : Int32 × (Nat → Int32) × (Nat → Int32)) (hf : f_X12_values N p0 this_named this_pile this_s = some out) : KM l G yX12_values (kw yX12_values cX12_values 2 (some .int)) 2 48 [.ref a_this, .int p0] (k_X12_values G a_this a_this_s a_this_kept a_this_errors a_this_step a_this_named a_this_pile a_this_told a_this_beside1 a_this_row a_this_best a_this_worthOf a_this_trace a_this_bits a_this_sizes a_this_number a_this_aside this_images this_at this_open this_steps this_use this_bestNet this_bestMore this_leastApart this_found this_first this_leastPaid this_traced this_speaks this_isParted this_named this_pile this_s) (k_X12_values G a_this a_this_s a_this_kept a_this_errors a_this_step a_this_named a_this_pile a_this_told a_this_beside1 a_this_row a_this_best a_this_worthOf a_this_trace a_this_bits a_this_sizes a_this_number a_this_aside this_images this_at this_open this_steps this_use this_bestNet this_bestMore this_leastApart this_found this_first this_leastPaid this_traced this_speaks this_isParted (out.2.1) (out.2.2) this_s) (some (.int (out.1))) := by
  refine KM.of (by decide) (Nat.le_of_ble_eq_true rfl) ?_
  intro p e s m below meth c A ls args Q Fx0 hP hK hD hA hS hAm hQ hl
  obtain ⟨hx, hb, hr, hml, hts, hown, hlk, hnm⟩ := Fx0
  have hown : s.vm.findClass RX12 = some m.cls := hown
  have hl : lv_has ls 2 [(0, .ref a_this), (1, .int p0)] := hl
  have fl_22 := hts _ tw_995
  have fl_7 := hts _ tw_986
  unfold f_X12_values at hf
  refine lv_aload_n hx hb dX12_values_0 rfl (lv_at hl 0 rfl) ?_
  refine lv_iconst (v := (1 : Int32)) hx hb dX12_values_1 (by decide) ?_
  obtain ⟨r1, hr1, hf⟩ := kb hf
  refine kV (As := [.int (1 : Int32)]) (rest := []) ⟨hx, hb, hml, hown, hts⟩ (c_X12_hasText l G N a_this a_this_s a_this_kept a_this_errors a_this_step a_this_named a_this_pile a_this_told a_this_beside1 a_this_row a_this_best a_this_worthOf a_this_trace a_this_bits a_this_sizes a_this_number a_this_aside (1 : Int32) this_images this_at this_open this_steps this_use this_bestNet this_bestMore this_leastApart this_found this_first this_leastPaid this_traced this_speaks this_isParted this_s r1 hr1) (kcV 1 hts tw_1141 tw_92 tw_1138 tw_1140 tw_54 hd_X12_hasText ⟨Nat.le_of_ble_eq_true rfl, Nat.le_of_ble_eq_true rfl⟩) dX12_values_2 hl.1 hK hAm hA hP hD hS 0 (ci := 12) rfl rfl rfl [0, 3] rfl rfl rfl [] rfl rfl rfl (Nat.le_of_ble_eq_true rfl) ⟨Nat.le_refl _, Nat.le_refl _⟩ (fun H locs hP hD hS => ?_)
  have hP : va_P (gD G) vwCl (k_X12_values G a_this a_this_s a_this_kept a_this_errors a_this_step a_this_named a_this_pile a_this_told a_this_beside1 a_this_row a_this_best a_this_worthOf a_this_trace a_this_bits a_this_sizes a_this_number a_this_aside this_images this_at this_open this_steps this_use this_bestNet this_bestMore this_leastApart this_found this_first this_leastPaid this_traced this_speaks this_isParted this_named this_pile this_s) H := hP
  have hD : va_D A (k_X12_values G a_this a_this_s a_this_kept a_this_errors a_this_step a_this_named a_this_pile a_this_told a_this_beside1 a_this_row a_this_best a_this_worthOf a_this_trace a_this_bits a_this_sizes a_this_number a_this_aside this_images this_at this_open this_steps this_use this_bestNet this_bestMore this_leastApart this_found this_first this_leastPaid this_traced this_speaks this_isParted this_named this_pile this_s) := hD
  refine lv_if_ne (tgt := 10) hx hb dX12_values_5 (by decide) (fun c2 => ?_) (fun c2 => ?_)
  · replace hf := kf c2 hf
    refine lv_aload_n hx hb dX12_values_10 rfl (lv_at hl 0 rfl) ?_
    refine va_get (D := gD G) (ci := 12) (C := RX12) (T := TX12) (N := 30) hx hb hts hin_X12 hown hK hP 0 rfl rfl 9 (by decide) fl_22 (fun _ h9 => h9) rfl dX12_values_11 ?_
    refine lv_bipush (v := (116 : Int32)) hx hb dX12_values_14 (by decide) ?_
    refine lv_iload_n hx hb dX12_values_16 rfl (lv_at hl 1 rfl) ?_
    refine va_iast hx hb hK hP hD hS 1 0 rfl rfl (vin_of (by decide)) dX12_values_17 (fun H locs hP hD hS => ?_)
    have hP : va_P (gD G) vwCl (k_X12_values G a_this a_this_s a_this_kept a_this_errors a_this_step a_this_named a_this_pile a_this_told a_this_beside1 a_this_row a_this_best a_this_worthOf a_this_trace a_this_bits a_this_sizes a_this_number a_this_aside this_images this_at this_open this_steps this_use this_bestNet this_bestMore this_leastApart this_found this_first this_leastPaid this_traced this_speaks this_isParted (upd this_named (116 : Int32).toNatClampNeg p0) this_pile this_s) H := hP
    have hD : va_D A (k_X12_values G a_this a_this_s a_this_kept a_this_errors a_this_step a_this_named a_this_pile a_this_told a_this_beside1 a_this_row a_this_best a_this_worthOf a_this_trace a_this_bits a_this_sizes a_this_number a_this_aside this_images this_at this_open this_steps this_use this_bestNet this_bestMore this_leastApart this_found this_first this_leastPaid this_traced this_speaks this_isParted (upd this_named (116 : Int32).toNatClampNeg p0) this_pile this_s) := hD
    refine lv_aload_n hx hb dX12_values_18 rfl (lv_at hl 0 rfl) ?_
    refine va_get (D := gD G) (ci := 12) (C := RX12) (T := TX12) (N := 30) hx hb hts hin_X12 hown hK hP 0 rfl rfl 9 (by decide) fl_22 (fun _ h9 => h9) rfl dX12_values_19 ?_
    refine lv_bipush (v := (112 : Int32)) hx hb dX12_values_22 (by decide) ?_
    refine lv_aload_n hx hb dX12_values_24 rfl (lv_at hl 0 rfl) ?_
    refine va_get (D := gD G) (ci := 12) (C := RX12) (T := TX12) (N := 30) hx hb hts hin_X12 hown hK hP 0 rfl rfl 0 (by decide) fl_7 (fun _ h9 => h9) rfl dX12_values_25 ?_
    refine lv_bipush (v := (8 : Int32)) hx hb dX12_values_28 (by decide) ?_
    refine lv_iload_n hx hb dX12_values_30 rfl (lv_at hl 1 rfl) ?_
    refine lv_iadd hx hb dX12_values_31 ?_
    obtain ⟨g3, hf⟩ := kg hf
    refine va_iald hx hb hK hP 3 0 rfl rfl (vin_of g3) dX12_values_32 ?_
    refine va_iast hx hb hK hP hD hS 1 0 rfl rfl (vin_of (by decide)) dX12_values_33 (fun H locs hP hD hS => ?_)
    have hP : va_P (gD G) vwCl (k_X12_values G a_this a_this_s a_this_kept a_this_errors a_this_step a_this_named a_this_pile a_this_told a_this_beside1 a_this_row a_this_best a_this_worthOf a_this_trace a_this_bits a_this_sizes a_this_number a_this_aside this_images this_at this_open this_steps this_use this_bestNet this_bestMore this_leastApart this_found this_first this_leastPaid this_traced this_speaks this_isParted (upd (upd this_named (116 : Int32).toNatClampNeg p0) (112 : Int32).toNatClampNeg (this_s ((8 : Int32) + p0).toNatClampNeg)) this_pile this_s) H := hP
    have hD : va_D A (k_X12_values G a_this a_this_s a_this_kept a_this_errors a_this_step a_this_named a_this_pile a_this_told a_this_beside1 a_this_row a_this_best a_this_worthOf a_this_trace a_this_bits a_this_sizes a_this_number a_this_aside this_images this_at this_open this_steps this_use this_bestNet this_bestMore this_leastApart this_found this_first this_leastPaid this_traced this_speaks this_isParted (upd (upd this_named (116 : Int32).toNatClampNeg p0) (112 : Int32).toNatClampNeg (this_s ((8 : Int32) + p0).toNatClampNeg)) this_pile this_s) := hD
    refine lv_aload_n hx hb dX12_values_34 rfl (lv_at hl 0 rfl) ?_
    refine va_get (D := gD G) (ci := 12) (C := RX12) (T := TX12) (N := 30) hx hb hts hin_X12 hown hK hP 0 rfl rfl 9 (by decide) fl_22 (fun _ h9 => h9) rfl dX12_values_35 ?_
    refine lv_bipush (v := (99 : Int32)) hx hb dX12_values_38 (by decide) ?_
    refine lv_aload_n hx hb dX12_values_40 rfl (lv_at hl 0 rfl) ?_
    refine va_get (D := gD G) (ci := 12) (C := RX12) (T := TX12) (N := 30) hx hb hts hin_X12 hown hK hP 0 rfl rfl 0 (by decide) fl_7 (fun _ h9 => h9) rfl dX12_values_41 ?_
    refine lv_bipush (v := (16 : Int32)) hx hb dX12_values_44 (by decide) ?_
    refine lv_iload_n hx hb dX12_values_46 rfl (lv_at hl 1 rfl) ?_
    refine lv_iadd hx hb dX12_values_47 ?_
    obtain ⟨g4, hf⟩ := kg hf
    refine va_iald hx hb hK hP 3 0 rfl rfl (vin_of g4) dX12_values_48 ?_
    refine va_iast hx hb hK hP hD hS 1 0 rfl rfl (vin_of (by decide)) dX12_values_49 (fun H locs hP hD hS => ?_)
    have hP : va_P (gD G) vwCl (k_X12_values G a_this a_this_s a_this_kept a_this_errors a_this_step a_this_named a_this_pile a_this_told a_this_beside1 a_this_row a_this_best a_this_worthOf a_this_trace a_this_bits a_this_sizes a_this_number a_this_aside this_images this_at this_open this_steps this_use this_bestNet this_bestMore this_leastApart this_found this_first this_leastPaid this_traced this_speaks this_isParted (upd (upd (upd this_named (116 : Int32).toNatClampNeg p0) (112 : Int32).toNatClampNeg (this_s ((8 : Int32) + p0).toNatClampNeg)) (99 : Int32).toNatClampNeg (this_s ((16 : Int32) + p0).toNatClampNeg)) this_pile this_s) H := hP
    have hD : va_D A (k_X12_values G a_this a_this_s a_this_kept a_this_errors a_this_step a_this_named a_this_pile a_this_told a_this_beside1 a_this_row a_this_best a_this_worthOf a_this_trace a_this_bits a_this_sizes a_this_number a_this_aside this_images this_at this_open this_steps this_use this_bestNet this_bestMore this_leastApart this_found this_first this_leastPaid this_traced this_speaks this_isParted (upd (upd (upd this_named (116 : Int32).toNatClampNeg p0) (112 : Int32).toNatClampNeg (this_s ((8 : Int32) + p0).toNatClampNeg)) (99 : Int32).toNatClampNeg (this_s ((16 : Int32) + p0).toNatClampNeg)) this_pile this_s) := hD
    refine lv_aload_n hx hb dX12_values_50 rfl (lv_at hl 0 rfl) ?_
    refine lv_iconst (v := (1 : Int32)) hx hb dX12_values_51 (by decide) ?_
    obtain ⟨r5, hr5, hf⟩ := kb hf
    refine kV (As := [.int (1 : Int32)]) (rest := []) ⟨hx, hb, hml, hown, hts⟩ (c_X12_worked l G N a_this a_this_s a_this_kept a_this_errors a_this_step a_this_named a_this_pile a_this_told a_this_beside1 a_this_row a_this_best a_this_worthOf a_this_trace a_this_bits a_this_sizes a_this_number a_this_aside (1 : Int32) this_images this_at this_open this_steps this_use this_bestNet this_bestMore this_leastApart this_found this_first this_leastPaid this_traced this_speaks this_isParted (upd (upd (upd this_named (116 : Int32).toNatClampNeg p0) (112 : Int32).toNatClampNeg (this_s ((8 : Int32) + p0).toNatClampNeg)) (99 : Int32).toNatClampNeg (this_s ((16 : Int32) + p0).toNatClampNeg)) this_pile this_s r5 hr5) (kcV 1 hts tw_1164 tw_92 tw_1161 tw_1163 tw_57 hd_X12_worked ⟨Nat.le_of_ble_eq_true rfl, Nat.le_of_ble_eq_true rfl⟩) dX12_values_52 hl.1 hK hAm hA hP hD hS 0 (ci := 12) rfl rfl rfl [0, 1, 2, 3] rfl rfl rfl [2] rfl rfl rfl (Nat.le_of_ble_eq_true rfl) ⟨Nat.le_refl _, Nat.le_refl _⟩ (fun H locs hP hD hS => ?_)
    have hP : va_P (gD G) vwCl (k_X12_values G a_this a_this_s a_this_kept a_this_errors a_this_step a_this_named a_this_pile a_this_told a_this_beside1 a_this_row a_this_best a_this_worthOf a_this_trace a_this_bits a_this_sizes a_this_number a_this_aside this_images this_at this_open this_steps this_use this_bestNet this_bestMore this_leastApart this_found this_first this_leastPaid this_traced this_speaks this_isParted (upd (upd (upd this_named (116 : Int32).toNatClampNeg p0) (112 : Int32).toNatClampNeg (this_s ((8 : Int32) + p0).toNatClampNeg)) (99 : Int32).toNatClampNeg (this_s ((16 : Int32) + p0).toNatClampNeg)) r5.2 this_s) H := hP
    have hD : va_D A (k_X12_values G a_this a_this_s a_this_kept a_this_errors a_this_step a_this_named a_this_pile a_this_told a_this_beside1 a_this_row a_this_best a_this_worthOf a_this_trace a_this_bits a_this_sizes a_this_number a_this_aside this_images this_at this_open this_steps this_use this_bestNet this_bestMore this_leastApart this_found this_first this_leastPaid this_traced this_speaks this_isParted (upd (upd (upd this_named (116 : Int32).toNatClampNeg p0) (112 : Int32).toNatClampNeg (this_s ((8 : Int32) + p0).toNatClampNeg)) (99 : Int32).toNatClampNeg (this_s ((16 : Int32) + p0).toNatClampNeg)) r5.2 this_s) := hD
    refine lv_iconst (v := (0 : Int32)) hx hb dX12_values_55 (by decide) ?_
    refine lv_bipush (v := (99 : Int32)) hx hb dX12_values_56 (by decide) ?_
    obtain ⟨r6, hr6, hf⟩ := kb hf
    refine kS (As := [.int r5.1, .int (0 : Int32), .int (99 : Int32)]) (rest := []) ⟨hx, hb, hml, hown, hts⟩ (c_X12_held l G N r5.1 (0 : Int32) (99 : Int32) r6 hr6) (kcS 3 hts tw_1170 tw_92 tw_1168 tw_1169 hd_X12_held ⟨Nat.le_of_ble_eq_true rfl, Nat.le_of_ble_eq_true rfl⟩) dX12_values_58 hl.1 hK hAm hA hP hD hS [] rfl rfl rfl [] rfl rfl rfl (Nat.le_of_ble_eq_true rfl) ⟨Nat.le_refl _, Nat.le_refl _⟩ (fun H locs hP hD hS => ?_)
    have hP : va_P (gD G) vwCl (k_X12_values G a_this a_this_s a_this_kept a_this_errors a_this_step a_this_named a_this_pile a_this_told a_this_beside1 a_this_row a_this_best a_this_worthOf a_this_trace a_this_bits a_this_sizes a_this_number a_this_aside this_images this_at this_open this_steps this_use this_bestNet this_bestMore this_leastApart this_found this_first this_leastPaid this_traced this_speaks this_isParted (upd (upd (upd this_named (116 : Int32).toNatClampNeg p0) (112 : Int32).toNatClampNeg (this_s ((8 : Int32) + p0).toNatClampNeg)) (99 : Int32).toNatClampNeg (this_s ((16 : Int32) + p0).toNatClampNeg)) r5.2 this_s) H := hP
    have hD : va_D A (k_X12_values G a_this a_this_s a_this_kept a_this_errors a_this_step a_this_named a_this_pile a_this_told a_this_beside1 a_this_row a_this_best a_this_worthOf a_this_trace a_this_bits a_this_sizes a_this_number a_this_aside this_images this_at this_open this_steps this_use this_bestNet this_bestMore this_leastApart this_found this_first this_leastPaid this_traced this_speaks this_isParted (upd (upd (upd this_named (116 : Int32).toNatClampNeg p0) (112 : Int32).toNatClampNeg (this_s ((8 : Int32) + p0).toNatClampNeg)) (99 : Int32).toNatClampNeg (this_s ((16 : Int32) + p0).toNatClampNeg)) r5.2 this_s) := hD
    have ho := ks hf
    subst ho
    exact kiret hx hb hr hlk hP hD hS hQ dX12_values_61
  · replace hf := kt c2 hf
    refine lv_iconst (v := (0 : Int32)) hx hb dX12_values_8 (by decide) ?_
    have ho := ks hf
    subst ho
    exact kiret hx hb hr hlk hP hD hS hQ dX12_values_9
abbrev k_X12_many (G : KG) (a_p0 : Nat) (p0 : Nat → Int32) : va_W := [(a_p0, .inl (gI G, 8, .inl p0))]
def f_X12_many_4 (N : Nat) (p0 : Nat → Int32) (K : Int32 → Int32 → Option (Int32)) : Nat → Int32 → Int32 → Option (Int32)
  | 0, _, _ => none
  | n + 1, y1, y2 => (if (8 : Int32) ≤ y2 then (K y1 y2) else (if vin y2 8 = true then (f_X12_many_4 N p0 K n (y1 + (p0 y2.toNatClampNeg)) (y2 + (1 : Int32))) else none))
def f_X12_many (N : Nat) (p0 : Nat → Int32) : Option (Int32) := (f_X12_many_4 N p0 (fun v1_3 v2_3 => (some v1_3)) N (0 : Int32) (0 : Int32))
set_option maxRecDepth 100000 in
set_option maxHeartbeats 4000000 in
theorem c_X12_many (l : Launch) (G : KG) (N : Nat) (a_p0 : Nat) (p0 : Nat → Int32)  (out : Int32) (hf : f_X12_many N p0 = some out) : KM l G yX12_many (kw yX12_many cX12_many 3 (some .int)) 0 0 [.ref a_p0] (k_X12_many G a_p0 p0) (k_X12_many G a_p0 p0) (some (.int out)) := by
  refine KM.of (by decide) (Nat.le_of_ble_eq_true rfl) ?_
  intro p e s m below meth c A ls args Q Fx0 hP hK hD hA hS hAm hQ hl
  obtain ⟨hx, hb, hr, hml, hts, hown, hlk, hnm⟩ := Fx0
  have hown : s.vm.findClass RX12 = some m.cls := hown
  have hl : lv_has ls 3 [(0, .ref a_p0)] := hl
  unfold f_X12_many at hf
  refine lv_iconst (v := (0 : Int32)) hx hb dX12_many_0 (by decide) ?_
  refine lv_istore_n (lv' := [(1, .int (0 : Int32)), (0, .ref a_p0)]) hx hb dX12_many_1 rfl hl (by decide) rfl (fun ls hl => ?_)
  refine lv_iconst (v := (0 : Int32)) hx hb dX12_many_2 (by decide) ?_
  refine lv_istore_n (lv' := [(2, .int (0 : Int32)), (1, .int (0 : Int32)), (0, .ref a_p0)]) hx hb dX12_many_3 rfl hl (by decide) rfl (fun ls hl => ?_)
  have L2 : ∀ (K : Int32 → Int32 → Option (Int32)), (∀ (v1_2 : Int32) (v2_2 : Int32) (H : Heap) (locs : List Loc), va_P (gD G) vwCl (k_X12_many G a_p0 p0) H → va_D A (k_X12_many G a_p0 p0) → va_S A s.heap H locs → ∀ (ls : Array Slot), lv_has ls 3 [(0, .ref a_p0), (1, .int v1_2), (2, .int v2_2)] → K v1_2 v2_2 = some out → W p l e (kR 0 0 0 0) s m args below meth c H locs 0 0 Q (F0 m 22 ls [])) → ∀ (n : Nat), ∀ (v1_2 : Int32) (v2_2 : Int32) (H : Heap) (locs : List Loc), va_P (gD G) vwCl (k_X12_many G a_p0 p0) H → va_D A (k_X12_many G a_p0 p0) → va_S A s.heap H locs → ∀ (ls : Array Slot), lv_has ls 3 [(0, .ref a_p0), (1, .int v1_2), (2, .int v2_2)] → f_X12_many_4 N p0 K n v1_2 v2_2 = some out → W p l e (kR 0 0 0 0) s m args below meth c H locs 0 0 Q (F0 m 4 ls []) := by
    intro K hK2 n
    induction n with
    | zero =>
      intro v1_2 v2_2 H locs hP hD hS ls hl hf
      rw [f_X12_many_4] at hf
      cases hf
    | succ n ih =>
      intro v1_2 v2_2 H locs hP hD hS ls hl hf
      rw [f_X12_many_4] at hf
      refine lv_iload_n hx hb dX12_many_4 rfl (lv_at hl 2 rfl) ?_
      refine lv_bipush (v := (8 : Int32)) hx hb dX12_many_5 (by decide) ?_
      refine lv_icmp_ge (tgt := 22) hx hb dX12_many_7 (by decide) (fun c3 => ?_) (fun c3 => ?_)
      · replace hf := kt c3 hf
        exact hK2 v1_2 v2_2 _ _ hP hD hS ls (lv_sub hl [0, 1, 2] rfl) hf
      · replace hf := kf c3 hf
        refine lv_iload_n hx hb dX12_many_10 rfl (lv_at hl 1 rfl) ?_
        refine lv_aload_n hx hb dX12_many_11 rfl (lv_at hl 0 rfl) ?_
        refine lv_iload_n hx hb dX12_many_12 rfl (lv_at hl 2 rfl) ?_
        obtain ⟨g4, hf⟩ := kg hf
        refine va_iald hx hb hK hP 0 0 rfl rfl (vin_of g4) dX12_many_13 ?_
        refine lv_iadd hx hb dX12_many_14 ?_
        refine lv_istore_n (lv' := [(1, .int (v1_2 + (p0 v2_2.toNatClampNeg))), (0, .ref a_p0), (2, .int v2_2)]) hx hb dX12_many_15 rfl hl (by decide) rfl (fun ls hl => ?_)
        refine lv_iinc (v := (v2_2 + (1 : Int32))) (lv' := [(2, .int (v2_2 + (1 : Int32))), (1, .int (v1_2 + (p0 v2_2.toNatClampNeg))), (0, .ref a_p0)]) hx hb dX12_many_16 hl (k := 2) rfl rfl (by decide) rfl (fun ls hl => ?_)
        refine lv_goto (tgt := 4) hx hb dX12_many_19 (by decide) ?_
        exact ih (v1_2 + (p0 v2_2.toNatClampNeg)) (v2_2 + (1 : Int32)) _ _ hP hD hS ls (lv_sub hl [2, 1, 0] rfl) hf
  refine L2 _ (fun v1_1 v2_1 H locs hP hD hS ls hl hf => ?_) N (0 : Int32) (0 : Int32) _ _ hP hD hS ls (lv_sub hl [2, 1, 0] rfl) hf
  refine lv_iload_n hx hb dX12_many_22 rfl (lv_at hl 1 rfl) ?_
  have ho := ks hf
  subst ho
  exact kiret hx hb hr hlk hP hD hS hQ dX12_many_23
abbrev k_X12_sumOf (G : KG) (a_p0 : Nat) (a_this : Nat) (a_this_s : Nat) (a_this_kept : Nat) (a_this_errors : Nat) (a_this_step : Nat) (a_this_named : Nat) (a_this_pile : Nat) (a_this_told : Nat) (a_this_beside1 : Nat) (a_this_row : Nat) (a_this_best : Nat) (a_this_worthOf : Nat) (a_this_trace : Nat) (a_this_bits : Nat) (a_this_sizes : Nat) (a_this_number : Nat) (a_this_aside : Nat) (p0 : Nat → Int32) (this_images : Int32) (this_at : Int32) (this_open : Int32) (this_steps : Int32) (this_use : Int32) (this_bestNet : Int32) (this_bestMore : Int32) (this_leastApart : Int32) (this_found : Int32) (this_first : Int32) (this_leastPaid : Int32) (this_traced : Int32) (this_speaks : Int32) (this_isParted : Int32) (this_s : Nat → Int32) : va_W := [(a_p0, .inl (gI G, 8, .inl p0)), (a_this, .inr (12, [.ref a_this_s, .ref a_this_kept, .int this_images, .ref a_this_errors, .int this_at, .int this_open, .int this_steps, .int this_use, .ref a_this_step, .ref a_this_named, .ref a_this_pile, .ref a_this_told, .ref a_this_beside1, .ref a_this_row, .ref a_this_best, .int this_bestNet, .int this_bestMore, .ref a_this_worthOf, .int this_leastApart, .int this_found, .int this_first, .int this_leastPaid, .ref a_this_trace, .int this_traced, .int this_speaks, .int this_isParted, .ref a_this_bits, .ref a_this_sizes, .ref a_this_number, .ref a_this_aside])), (a_this_s, .inl (gI G, 374, .inl this_s))]
def f_X12_sumOf_4 (N : Nat) (p0 : Nat → Int32) (this_s : Nat → Int32) (K : Int32 → Int32 → Option (Int32)) : Nat → Int32 → Int32 → Option (Int32)
  | 0, _, _ => none
  | n + 1, y2, y3 => (if (8 : Int32) ≤ y3 then (K y2 y3) else (if vin y3 8 = true then (if vin ((8 : Int32) + y3) 374 = true then (f_X12_sumOf_4 N p0 this_s K n (y2 + ((p0 y3.toNatClampNeg) * (this_s ((8 : Int32) + y3).toNatClampNeg))) (y3 + (1 : Int32))) else none) else none))
def f_X12_sumOf (N : Nat) (p0 : Nat → Int32) (this_s : Nat → Int32) : Option (Int32) := (f_X12_sumOf_4 N p0 this_s (fun v2_4 v3_4 => (some v2_4)) N (0 : Int32) (0 : Int32))
set_option maxRecDepth 100000 in
set_option maxHeartbeats 4000000 in
theorem c_X12_sumOf (l : Launch) (G : KG) (N : Nat) (a_p0 : Nat) (a_this : Nat) (a_this_s : Nat) (a_this_kept : Nat) (a_this_errors : Nat) (a_this_step : Nat) (a_this_named : Nat) (a_this_pile : Nat) (a_this_told : Nat) (a_this_beside1 : Nat) (a_this_row : Nat) (a_this_best : Nat) (a_this_worthOf : Nat) (a_this_trace : Nat) (a_this_bits : Nat) (a_this_sizes : Nat) (a_this_number : Nat) (a_this_aside : Nat) (p0 : Nat → Int32) (this_images : Int32) (this_at : Int32) (this_open : Int32) (this_steps : Int32) (this_use : Int32) (this_bestNet : Int32) (this_bestMore : Int32) (this_leastApart : Int32) (this_found : Int32) (this_first : Int32) (this_leastPaid : Int32) (this_traced : Int32) (this_speaks : Int32) (this_isParted : Int32) (this_s : Nat → Int32)  (out : Int32) (hf : f_X12_sumOf N p0 this_s = some out) : KM l G yX12_sumOf (kw yX12_sumOf cX12_sumOf 4 (some .int)) 0 0 [.ref a_this, .ref a_p0] (k_X12_sumOf G a_p0 a_this a_this_s a_this_kept a_this_errors a_this_step a_this_named a_this_pile a_this_told a_this_beside1 a_this_row a_this_best a_this_worthOf a_this_trace a_this_bits a_this_sizes a_this_number a_this_aside p0 this_images this_at this_open this_steps this_use this_bestNet this_bestMore this_leastApart this_found this_first this_leastPaid this_traced this_speaks this_isParted this_s) (k_X12_sumOf G a_p0 a_this a_this_s a_this_kept a_this_errors a_this_step a_this_named a_this_pile a_this_told a_this_beside1 a_this_row a_this_best a_this_worthOf a_this_trace a_this_bits a_this_sizes a_this_number a_this_aside p0 this_images this_at this_open this_steps this_use this_bestNet this_bestMore this_leastApart this_found this_first this_leastPaid this_traced this_speaks this_isParted this_s) (some (.int out)) := by
  refine KM.of (by decide) (Nat.le_of_ble_eq_true rfl) ?_
  intro p e s m below meth c A ls args Q Fx0 hP hK hD hA hS hAm hQ hl
  obtain ⟨hx, hb, hr, hml, hts, hown, hlk, hnm⟩ := Fx0
  have hown : s.vm.findClass RX12 = some m.cls := hown
  have hl : lv_has ls 4 [(0, .ref a_this), (1, .ref a_p0)] := hl
  have fl_7 := hts _ tw_986
  unfold f_X12_sumOf at hf
  refine lv_iconst (v := (0 : Int32)) hx hb dX12_sumOf_0 (by decide) ?_
  refine lv_istore_n (lv' := [(2, .int (0 : Int32)), (0, .ref a_this), (1, .ref a_p0)]) hx hb dX12_sumOf_1 rfl hl (by decide) rfl (fun ls hl => ?_)
  refine lv_iconst (v := (0 : Int32)) hx hb dX12_sumOf_2 (by decide) ?_
  refine lv_istore_n (lv' := [(3, .int (0 : Int32)), (2, .int (0 : Int32)), (0, .ref a_this), (1, .ref a_p0)]) hx hb dX12_sumOf_3 rfl hl (by decide) rfl (fun ls hl => ?_)
  have L2 : ∀ (K : Int32 → Int32 → Option (Int32)), (∀ (v2_2 : Int32) (v3_2 : Int32) (H : Heap) (locs : List Loc), va_P (gD G) vwCl (k_X12_sumOf G a_p0 a_this a_this_s a_this_kept a_this_errors a_this_step a_this_named a_this_pile a_this_told a_this_beside1 a_this_row a_this_best a_this_worthOf a_this_trace a_this_bits a_this_sizes a_this_number a_this_aside p0 this_images this_at this_open this_steps this_use this_bestNet this_bestMore this_leastApart this_found this_first this_leastPaid this_traced this_speaks this_isParted this_s) H → va_D A (k_X12_sumOf G a_p0 a_this a_this_s a_this_kept a_this_errors a_this_step a_this_named a_this_pile a_this_told a_this_beside1 a_this_row a_this_best a_this_worthOf a_this_trace a_this_bits a_this_sizes a_this_number a_this_aside p0 this_images this_at this_open this_steps this_use this_bestNet this_bestMore this_leastApart this_found this_first this_leastPaid this_traced this_speaks this_isParted this_s) → va_S A s.heap H locs → ∀ (ls : Array Slot), lv_has ls 4 [(0, .ref a_this), (1, .ref a_p0), (2, .int v2_2), (3, .int v3_2)] → K v2_2 v3_2 = some out → W p l e (kR 0 0 0 0) s m args below meth c H locs 0 0 Q (F0 m 32 ls [])) → ∀ (n : Nat), ∀ (v2_2 : Int32) (v3_2 : Int32) (H : Heap) (locs : List Loc), va_P (gD G) vwCl (k_X12_sumOf G a_p0 a_this a_this_s a_this_kept a_this_errors a_this_step a_this_named a_this_pile a_this_told a_this_beside1 a_this_row a_this_best a_this_worthOf a_this_trace a_this_bits a_this_sizes a_this_number a_this_aside p0 this_images this_at this_open this_steps this_use this_bestNet this_bestMore this_leastApart this_found this_first this_leastPaid this_traced this_speaks this_isParted this_s) H → va_D A (k_X12_sumOf G a_p0 a_this a_this_s a_this_kept a_this_errors a_this_step a_this_named a_this_pile a_this_told a_this_beside1 a_this_row a_this_best a_this_worthOf a_this_trace a_this_bits a_this_sizes a_this_number a_this_aside p0 this_images this_at this_open this_steps this_use this_bestNet this_bestMore this_leastApart this_found this_first this_leastPaid this_traced this_speaks this_isParted this_s) → va_S A s.heap H locs → ∀ (ls : Array Slot), lv_has ls 4 [(0, .ref a_this), (1, .ref a_p0), (2, .int v2_2), (3, .int v3_2)] → f_X12_sumOf_4 N p0 this_s K n v2_2 v3_2 = some out → W p l e (kR 0 0 0 0) s m args below meth c H locs 0 0 Q (F0 m 4 ls []) := by
    intro K hK2 n
    induction n with
    | zero =>
      intro v2_2 v3_2 H locs hP hD hS ls hl hf
      rw [f_X12_sumOf_4] at hf
      cases hf
    | succ n ih =>
      intro v2_2 v3_2 H locs hP hD hS ls hl hf
      rw [f_X12_sumOf_4] at hf
      refine lv_iload_n hx hb dX12_sumOf_4 rfl (lv_at hl 3 rfl) ?_
      refine lv_bipush (v := (8 : Int32)) hx hb dX12_sumOf_5 (by decide) ?_
      refine lv_icmp_ge (tgt := 32) hx hb dX12_sumOf_7 (by decide) (fun c3 => ?_) (fun c3 => ?_)
      · replace hf := kt c3 hf
        exact hK2 v2_2 v3_2 _ _ hP hD hS ls (lv_sub hl [0, 1, 2, 3] rfl) hf
      · replace hf := kf c3 hf
        refine lv_iload_n hx hb dX12_sumOf_10 rfl (lv_at hl 2 rfl) ?_
        refine lv_aload_n hx hb dX12_sumOf_11 rfl (lv_at hl 1 rfl) ?_
        refine lv_iload_n hx hb dX12_sumOf_12 rfl (lv_at hl 3 rfl) ?_
        obtain ⟨g4, hf⟩ := kg hf
        refine va_iald hx hb hK hP 0 0 rfl rfl (vin_of g4) dX12_sumOf_13 ?_
        refine lv_aload_n hx hb dX12_sumOf_14 rfl (lv_at hl 0 rfl) ?_
        refine va_get (D := gD G) (ci := 12) (C := RX12) (T := TX12) (N := 30) hx hb hts hin_X12 hown hK hP 1 rfl rfl 0 (by decide) fl_7 (fun _ h9 => h9) rfl dX12_sumOf_15 ?_
        refine lv_bipush (v := (8 : Int32)) hx hb dX12_sumOf_18 (by decide) ?_
        refine lv_iload_n hx hb dX12_sumOf_20 rfl (lv_at hl 3 rfl) ?_
        refine lv_iadd hx hb dX12_sumOf_21 ?_
        obtain ⟨g5, hf⟩ := kg hf
        refine va_iald hx hb hK hP 2 0 rfl rfl (vin_of g5) dX12_sumOf_22 ?_
        refine lv_imul hx hb dX12_sumOf_23 ?_
        refine lv_iadd hx hb dX12_sumOf_24 ?_
        refine lv_istore_n (lv' := [(2, .int (v2_2 + ((p0 v3_2.toNatClampNeg) * (this_s ((8 : Int32) + v3_2).toNatClampNeg)))), (0, .ref a_this), (1, .ref a_p0), (3, .int v3_2)]) hx hb dX12_sumOf_25 rfl hl (by decide) rfl (fun ls hl => ?_)
        refine lv_iinc (v := (v3_2 + (1 : Int32))) (lv' := [(3, .int (v3_2 + (1 : Int32))), (2, .int (v2_2 + ((p0 v3_2.toNatClampNeg) * (this_s ((8 : Int32) + v3_2).toNatClampNeg)))), (0, .ref a_this), (1, .ref a_p0)]) hx hb dX12_sumOf_26 hl (k := 3) rfl rfl (by decide) rfl (fun ls hl => ?_)
        refine lv_goto (tgt := 4) hx hb dX12_sumOf_29 (by decide) ?_
        exact ih (v2_2 + ((p0 v3_2.toNatClampNeg) * (this_s ((8 : Int32) + v3_2).toNatClampNeg))) (v3_2 + (1 : Int32)) _ _ hP hD hS ls (lv_sub hl [2, 3, 1, 0] rfl) hf
  refine L2 _ (fun v2_1 v3_1 H locs hP hD hS ls hl hf => ?_) N (0 : Int32) (0 : Int32) _ _ hP hD hS ls (lv_sub hl [2, 3, 1, 0] rfl) hf
  refine lv_iload_n hx hb dX12_sumOf_32 rfl (lv_at hl 2 rfl) ?_
  have ho := ks hf
  subst ho
  exact kiret hx hb hr hlk hP hD hS hQ dX12_sumOf_33
abbrev k_X12_costOf (G : KG) (a_p0 : Nat) (a_this : Nat) (a_this_s : Nat) (a_this_kept : Nat) (a_this_errors : Nat) (a_this_step : Nat) (a_this_named : Nat) (a_this_pile : Nat) (a_this_told : Nat) (a_this_beside1 : Nat) (a_this_row : Nat) (a_this_best : Nat) (a_this_worthOf : Nat) (a_this_trace : Nat) (a_this_bits : Nat) (a_this_sizes : Nat) (a_this_number : Nat) (a_this_aside : Nat) (p0 : Nat → Int32) (this_images : Int32) (this_at : Int32) (this_open : Int32) (this_steps : Int32) (this_use : Int32) (this_bestNet : Int32) (this_bestMore : Int32) (this_leastApart : Int32) (this_found : Int32) (this_first : Int32) (this_leastPaid : Int32) (this_traced : Int32) (this_speaks : Int32) (this_isParted : Int32) (this_s : Nat → Int32) : va_W := [(a_p0, .inl (gI G, 8, .inl p0)), (a_this, .inr (12, [.ref a_this_s, .ref a_this_kept, .int this_images, .ref a_this_errors, .int this_at, .int this_open, .int this_steps, .int this_use, .ref a_this_step, .ref a_this_named, .ref a_this_pile, .ref a_this_told, .ref a_this_beside1, .ref a_this_row, .ref a_this_best, .int this_bestNet, .int this_bestMore, .ref a_this_worthOf, .int this_leastApart, .int this_found, .int this_first, .int this_leastPaid, .ref a_this_trace, .int this_traced, .int this_speaks, .int this_isParted, .ref a_this_bits, .ref a_this_sizes, .ref a_this_number, .ref a_this_aside])), (a_this_s, .inl (gI G, 374, .inl this_s))]
def f_X12_costOf_4 (N : Nat) (p0 : Nat → Int32) (this_s : Nat → Int32) (K : Int32 → Int32 → Option (Int32)) : Nat → Int32 → Int32 → Option (Int32)
  | 0, _, _ => none
  | n + 1, y2, y3 => (if (8 : Int32) ≤ y3 then (K y2 y3) else (if vin y3 8 = true then (if vin ((16 : Int32) + y3) 374 = true then (f_X12_costOf_4 N p0 this_s K n (y2 + ((p0 y3.toNatClampNeg) * (this_s ((16 : Int32) + y3).toNatClampNeg))) (y3 + (1 : Int32))) else none) else none))
def f_X12_costOf (N : Nat) (p0 : Nat → Int32) (this_s : Nat → Int32) : Option (Int32) := (f_X12_costOf_4 N p0 this_s (fun v2_4 v3_4 => (some v2_4)) N (0 : Int32) (0 : Int32))
set_option maxRecDepth 100000 in
set_option maxHeartbeats 4000000 in
theorem c_X12_costOf (l : Launch) (G : KG) (N : Nat) (a_p0 : Nat) (a_this : Nat) (a_this_s : Nat) (a_this_kept : Nat) (a_this_errors : Nat) (a_this_step : Nat) (a_this_named : Nat) (a_this_pile : Nat) (a_this_told : Nat) (a_this_beside1 : Nat) (a_this_row : Nat) (a_this_best : Nat) (a_this_worthOf : Nat) (a_this_trace : Nat) (a_this_bits : Nat) (a_this_sizes : Nat) (a_this_number : Nat) (a_this_aside : Nat) (p0 : Nat → Int32) (this_images : Int32) (this_at : Int32) (this_open : Int32) (this_steps : Int32) (this_use : Int32) (this_bestNet : Int32) (this_bestMore : Int32) (this_leastApart : Int32) (this_found : Int32) (this_first : Int32) (this_leastPaid : Int32) (this_traced : Int32) (this_speaks : Int32) (this_isParted : Int32) (this_s : Nat → Int32)  (out : Int32) (hf : f_X12_costOf N p0 this_s = some out) : KM l G yX12_costOf (kw yX12_costOf cX12_costOf 4 (some .int)) 0 0 [.ref a_this, .ref a_p0] (k_X12_costOf G a_p0 a_this a_this_s a_this_kept a_this_errors a_this_step a_this_named a_this_pile a_this_told a_this_beside1 a_this_row a_this_best a_this_worthOf a_this_trace a_this_bits a_this_sizes a_this_number a_this_aside p0 this_images this_at this_open this_steps this_use this_bestNet this_bestMore this_leastApart this_found this_first this_leastPaid this_traced this_speaks this_isParted this_s) (k_X12_costOf G a_p0 a_this a_this_s a_this_kept a_this_errors a_this_step a_this_named a_this_pile a_this_told a_this_beside1 a_this_row a_this_best a_this_worthOf a_this_trace a_this_bits a_this_sizes a_this_number a_this_aside p0 this_images this_at this_open this_steps this_use this_bestNet this_bestMore this_leastApart this_found this_first this_leastPaid this_traced this_speaks this_isParted this_s) (some (.int out)) := by
  refine KM.of (by decide) (Nat.le_of_ble_eq_true rfl) ?_
  intro p e s m below meth c A ls args Q Fx0 hP hK hD hA hS hAm hQ hl
  obtain ⟨hx, hb, hr, hml, hts, hown, hlk, hnm⟩ := Fx0
  have hown : s.vm.findClass RX12 = some m.cls := hown
  have hl : lv_has ls 4 [(0, .ref a_this), (1, .ref a_p0)] := hl
  have fl_7 := hts _ tw_986
  unfold f_X12_costOf at hf
  refine lv_iconst (v := (0 : Int32)) hx hb dX12_costOf_0 (by decide) ?_
  refine lv_istore_n (lv' := [(2, .int (0 : Int32)), (0, .ref a_this), (1, .ref a_p0)]) hx hb dX12_costOf_1 rfl hl (by decide) rfl (fun ls hl => ?_)
  refine lv_iconst (v := (0 : Int32)) hx hb dX12_costOf_2 (by decide) ?_
  refine lv_istore_n (lv' := [(3, .int (0 : Int32)), (2, .int (0 : Int32)), (0, .ref a_this), (1, .ref a_p0)]) hx hb dX12_costOf_3 rfl hl (by decide) rfl (fun ls hl => ?_)
  have L2 : ∀ (K : Int32 → Int32 → Option (Int32)), (∀ (v2_2 : Int32) (v3_2 : Int32) (H : Heap) (locs : List Loc), va_P (gD G) vwCl (k_X12_costOf G a_p0 a_this a_this_s a_this_kept a_this_errors a_this_step a_this_named a_this_pile a_this_told a_this_beside1 a_this_row a_this_best a_this_worthOf a_this_trace a_this_bits a_this_sizes a_this_number a_this_aside p0 this_images this_at this_open this_steps this_use this_bestNet this_bestMore this_leastApart this_found this_first this_leastPaid this_traced this_speaks this_isParted this_s) H → va_D A (k_X12_costOf G a_p0 a_this a_this_s a_this_kept a_this_errors a_this_step a_this_named a_this_pile a_this_told a_this_beside1 a_this_row a_this_best a_this_worthOf a_this_trace a_this_bits a_this_sizes a_this_number a_this_aside p0 this_images this_at this_open this_steps this_use this_bestNet this_bestMore this_leastApart this_found this_first this_leastPaid this_traced this_speaks this_isParted this_s) → va_S A s.heap H locs → ∀ (ls : Array Slot), lv_has ls 4 [(0, .ref a_this), (1, .ref a_p0), (2, .int v2_2), (3, .int v3_2)] → K v2_2 v3_2 = some out → W p l e (kR 0 0 0 0) s m args below meth c H locs 0 0 Q (F0 m 32 ls [])) → ∀ (n : Nat), ∀ (v2_2 : Int32) (v3_2 : Int32) (H : Heap) (locs : List Loc), va_P (gD G) vwCl (k_X12_costOf G a_p0 a_this a_this_s a_this_kept a_this_errors a_this_step a_this_named a_this_pile a_this_told a_this_beside1 a_this_row a_this_best a_this_worthOf a_this_trace a_this_bits a_this_sizes a_this_number a_this_aside p0 this_images this_at this_open this_steps this_use this_bestNet this_bestMore this_leastApart this_found this_first this_leastPaid this_traced this_speaks this_isParted this_s) H → va_D A (k_X12_costOf G a_p0 a_this a_this_s a_this_kept a_this_errors a_this_step a_this_named a_this_pile a_this_told a_this_beside1 a_this_row a_this_best a_this_worthOf a_this_trace a_this_bits a_this_sizes a_this_number a_this_aside p0 this_images this_at this_open this_steps this_use this_bestNet this_bestMore this_leastApart this_found this_first this_leastPaid this_traced this_speaks this_isParted this_s) → va_S A s.heap H locs → ∀ (ls : Array Slot), lv_has ls 4 [(0, .ref a_this), (1, .ref a_p0), (2, .int v2_2), (3, .int v3_2)] → f_X12_costOf_4 N p0 this_s K n v2_2 v3_2 = some out → W p l e (kR 0 0 0 0) s m args below meth c H locs 0 0 Q (F0 m 4 ls []) := by
    intro K hK2 n
    induction n with
    | zero =>
      intro v2_2 v3_2 H locs hP hD hS ls hl hf
      rw [f_X12_costOf_4] at hf
      cases hf
    | succ n ih =>
      intro v2_2 v3_2 H locs hP hD hS ls hl hf
      rw [f_X12_costOf_4] at hf
      refine lv_iload_n hx hb dX12_costOf_4 rfl (lv_at hl 3 rfl) ?_
      refine lv_bipush (v := (8 : Int32)) hx hb dX12_costOf_5 (by decide) ?_
      refine lv_icmp_ge (tgt := 32) hx hb dX12_costOf_7 (by decide) (fun c3 => ?_) (fun c3 => ?_)
      · replace hf := kt c3 hf
        exact hK2 v2_2 v3_2 _ _ hP hD hS ls (lv_sub hl [0, 1, 2, 3] rfl) hf
      · replace hf := kf c3 hf
        refine lv_iload_n hx hb dX12_costOf_10 rfl (lv_at hl 2 rfl) ?_
        refine lv_aload_n hx hb dX12_costOf_11 rfl (lv_at hl 1 rfl) ?_
        refine lv_iload_n hx hb dX12_costOf_12 rfl (lv_at hl 3 rfl) ?_
        obtain ⟨g4, hf⟩ := kg hf
        refine va_iald hx hb hK hP 0 0 rfl rfl (vin_of g4) dX12_costOf_13 ?_
        refine lv_aload_n hx hb dX12_costOf_14 rfl (lv_at hl 0 rfl) ?_
        refine va_get (D := gD G) (ci := 12) (C := RX12) (T := TX12) (N := 30) hx hb hts hin_X12 hown hK hP 1 rfl rfl 0 (by decide) fl_7 (fun _ h9 => h9) rfl dX12_costOf_15 ?_
        refine lv_bipush (v := (16 : Int32)) hx hb dX12_costOf_18 (by decide) ?_
        refine lv_iload_n hx hb dX12_costOf_20 rfl (lv_at hl 3 rfl) ?_
        refine lv_iadd hx hb dX12_costOf_21 ?_
        obtain ⟨g5, hf⟩ := kg hf
        refine va_iald hx hb hK hP 2 0 rfl rfl (vin_of g5) dX12_costOf_22 ?_
        refine lv_imul hx hb dX12_costOf_23 ?_
        refine lv_iadd hx hb dX12_costOf_24 ?_
        refine lv_istore_n (lv' := [(2, .int (v2_2 + ((p0 v3_2.toNatClampNeg) * (this_s ((16 : Int32) + v3_2).toNatClampNeg)))), (0, .ref a_this), (1, .ref a_p0), (3, .int v3_2)]) hx hb dX12_costOf_25 rfl hl (by decide) rfl (fun ls hl => ?_)
        refine lv_iinc (v := (v3_2 + (1 : Int32))) (lv' := [(3, .int (v3_2 + (1 : Int32))), (2, .int (v2_2 + ((p0 v3_2.toNatClampNeg) * (this_s ((16 : Int32) + v3_2).toNatClampNeg)))), (0, .ref a_this), (1, .ref a_p0)]) hx hb dX12_costOf_26 hl (k := 3) rfl rfl (by decide) rfl (fun ls hl => ?_)
        refine lv_goto (tgt := 4) hx hb dX12_costOf_29 (by decide) ?_
        exact ih (v2_2 + ((p0 v3_2.toNatClampNeg) * (this_s ((16 : Int32) + v3_2).toNatClampNeg))) (v3_2 + (1 : Int32)) _ _ hP hD hS ls (lv_sub hl [2, 3, 1, 0] rfl) hf
  refine L2 _ (fun v2_1 v3_1 H locs hP hD hS ls hl hf => ?_) N (0 : Int32) (0 : Int32) _ _ hP hD hS ls (lv_sub hl [2, 3, 1, 0] rfl) hf
  refine lv_iload_n hx hb dX12_costOf_32 rfl (lv_at hl 2 rfl) ?_
  have ho := ks hf
  subst ho
  exact kiret hx hb hr hlk hP hD hS hQ dX12_costOf_33
abbrev k_X12_paid (G : KG) (a_p1 : Nat) (a_this : Nat) (a_this_s : Nat) (a_this_kept : Nat) (a_this_errors : Nat) (a_this_step : Nat) (a_this_named : Nat) (a_this_pile : Nat) (a_this_told : Nat) (a_this_beside1 : Nat) (a_this_row : Nat) (a_this_best : Nat) (a_this_worthOf : Nat) (a_this_trace : Nat) (a_this_bits : Nat) (a_this_sizes : Nat) (a_this_number : Nat) (a_this_aside : Nat) (p1 : Nat → Int32) (this_images : Int32) (this_at : Int32) (this_open : Int32) (this_steps : Int32) (this_use : Int32) (this_bestNet : Int32) (this_bestMore : Int32) (this_leastApart : Int32) (this_found : Int32) (this_first : Int32) (this_leastPaid : Int32) (this_traced : Int32) (this_speaks : Int32) (this_isParted : Int32) (this_named : Nat → Int32) (this_pile : Nat → Int32) (this_s : Nat → Int32) : va_W := [(a_p1, .inl (gI G, 8, .inl p1)), (a_this, .inr (12, [.ref a_this_s, .ref a_this_kept, .int this_images, .ref a_this_errors, .int this_at, .int this_open, .int this_steps, .int this_use, .ref a_this_step, .ref a_this_named, .ref a_this_pile, .ref a_this_told, .ref a_this_beside1, .ref a_this_row, .ref a_this_best, .int this_bestNet, .int this_bestMore, .ref a_this_worthOf, .int this_leastApart, .int this_found, .int this_first, .int this_leastPaid, .ref a_this_trace, .int this_traced, .int this_speaks, .int this_isParted, .ref a_this_bits, .ref a_this_sizes, .ref a_this_number, .ref a_this_aside])), (a_this_named, .inl (gI G, 128, .inl this_named)), (a_this_pile, .inl (gI G, 64, .inl this_pile)), (a_this_s, .inl (gI G, 374, .inl this_s))]
def f_X12_paid (N : Nat) (p0 : Int32) (p1 : Nat → Int32) (this_named : Nat → Int32) (this_pile : Nat → Int32) (this_s : Nat → Int32) : Option (Int32 × (Nat → Int32) × (Nat → Int32)) := ((f_X12_sumOf N p1 this_s).bind fun r1 => ((f_X12_many N p1).bind fun r2 => ((f_X12_asked N p0 r1 r2 this_named this_pile this_s).bind fun r3 => (some (r3.1, r3.2.1, r3.2.2)))))
set_option maxRecDepth 100000 in
set_option maxHeartbeats 4000000 in
theorem c_X12_paid (l : Launch) (G : KG) (N : Nat) (a_p1 : Nat) (a_this : Nat) (a_this_s : Nat) (a_this_kept : Nat) (a_this_errors : Nat) (a_this_step : Nat) (a_this_named : Nat) (a_this_pile : Nat) (a_this_told : Nat) (a_this_beside1 : Nat) (a_this_row : Nat) (a_this_best : Nat) (a_this_worthOf : Nat) (a_this_trace : Nat) (a_this_bits : Nat) (a_this_sizes : Nat) (a_this_number : Nat) (a_this_aside : Nat) (p0 : Int32) (p1 : Nat → Int32) (this_images : Int32) (this_at : Int32) (this_open : Int32) (this_steps : Int32) (this_use : Int32) (this_bestNet : Int32) (this_bestMore : Int32) (this_leastApart : Int32) (this_found : Int32) (this_first : Int32) (this_leastPaid : Int32) (this_traced : Int32) (this_speaks : Int32) (this_isParted : Int32) (this_named : Nat → Int32) (this_pile : Nat → Int32) (this_s : Nat → Int32)  (out : Int32 × (Nat → Int32) × (Nat → Int32)) (hf : f_X12_paid N p0 p1 this_named this_pile this_s = some out) : KM l G yX12_paid (kw yX12_paid cX12_paid 3 (some .int)) 3 73 [.ref a_this, .int p0, .ref a_p1] (k_X12_paid G a_p1 a_this a_this_s a_this_kept a_this_errors a_this_step a_this_named a_this_pile a_this_told a_this_beside1 a_this_row a_this_best a_this_worthOf a_this_trace a_this_bits a_this_sizes a_this_number a_this_aside p1 this_images this_at this_open this_steps this_use this_bestNet this_bestMore this_leastApart this_found this_first this_leastPaid this_traced this_speaks this_isParted this_named this_pile this_s) (k_X12_paid G a_p1 a_this a_this_s a_this_kept a_this_errors a_this_step a_this_named a_this_pile a_this_told a_this_beside1 a_this_row a_this_best a_this_worthOf a_this_trace a_this_bits a_this_sizes a_this_number a_this_aside p1 this_images this_at this_open this_steps this_use this_bestNet this_bestMore this_leastApart this_found this_first this_leastPaid this_traced this_speaks this_isParted (out.2.1) (out.2.2) this_s) (some (.int (out.1))) := by
  refine KM.of (by decide) (Nat.le_of_ble_eq_true rfl) ?_
  intro p e s m below meth c A ls args Q Fx0 hP hK hD hA hS hAm hQ hl
  obtain ⟨hx, hb, hr, hml, hts, hown, hlk, hnm⟩ := Fx0
  have hown : s.vm.findClass RX12 = some m.cls := hown
  have hl : lv_has ls 3 [(0, .ref a_this), (1, .int p0), (2, .ref a_p1)] := hl
  unfold f_X12_paid at hf
  refine lv_aload_n hx hb dX12_paid_0 rfl (lv_at hl 0 rfl) ?_
  refine lv_iload_n hx hb dX12_paid_1 rfl (lv_at hl 1 rfl) ?_
  refine lv_aload_n hx hb dX12_paid_2 rfl (lv_at hl 0 rfl) ?_
  refine lv_aload_n hx hb dX12_paid_3 rfl (lv_at hl 2 rfl) ?_
  obtain ⟨r1, hr1, hf⟩ := kb hf
  refine kV (As := [.ref a_p1]) (rest := [.int p0, .ref a_this]) ⟨hx, hb, hml, hown, hts⟩ (c_X12_sumOf l G N a_p1 a_this a_this_s a_this_kept a_this_errors a_this_step a_this_named a_this_pile a_this_told a_this_beside1 a_this_row a_this_best a_this_worthOf a_this_trace a_this_bits a_this_sizes a_this_number a_this_aside p1 this_images this_at this_open this_steps this_use this_bestNet this_bestMore this_leastApart this_found this_first this_leastPaid this_traced this_speaks this_isParted this_s r1 hr1) (kcV 1 hts tw_1237 tw_92 tw_1234 tw_1236 tw_63 hd_X12_sumOf ⟨Nat.le_of_ble_eq_true rfl, Nat.le_of_ble_eq_true rfl⟩) dX12_paid_4 hl.1 hK hAm hA hP hD hS 1 (ci := 12) rfl rfl rfl [0, 1, 4] rfl rfl rfl [] rfl rfl rfl (Nat.le_of_ble_eq_true rfl) ⟨Nat.le_refl _, Nat.le_refl _⟩ (fun H locs hP hD hS => ?_)
  have hP : va_P (gD G) vwCl (k_X12_paid G a_p1 a_this a_this_s a_this_kept a_this_errors a_this_step a_this_named a_this_pile a_this_told a_this_beside1 a_this_row a_this_best a_this_worthOf a_this_trace a_this_bits a_this_sizes a_this_number a_this_aside p1 this_images this_at this_open this_steps this_use this_bestNet this_bestMore this_leastApart this_found this_first this_leastPaid this_traced this_speaks this_isParted this_named this_pile this_s) H := hP
  have hD : va_D A (k_X12_paid G a_p1 a_this a_this_s a_this_kept a_this_errors a_this_step a_this_named a_this_pile a_this_told a_this_beside1 a_this_row a_this_best a_this_worthOf a_this_trace a_this_bits a_this_sizes a_this_number a_this_aside p1 this_images this_at this_open this_steps this_use this_bestNet this_bestMore this_leastApart this_found this_first this_leastPaid this_traced this_speaks this_isParted this_named this_pile this_s) := hD
  refine lv_aload_n hx hb dX12_paid_7 rfl (lv_at hl 2 rfl) ?_
  obtain ⟨r2, hr2, hf⟩ := kb hf
  refine kS (As := [.ref a_p1]) (rest := [.int r1, .int p0, .ref a_this]) ⟨hx, hb, hml, hown, hts⟩ (c_X12_many l G N a_p1 p1 r2 hr2) (kcS 1 hts tw_1233 tw_92 tw_1231 tw_1232 hd_X12_many ⟨Nat.le_of_ble_eq_true rfl, Nat.le_of_ble_eq_true rfl⟩) dX12_paid_8 hl.1 hK hAm hA hP hD hS [0] rfl rfl rfl [] rfl rfl rfl (Nat.le_of_ble_eq_true rfl) ⟨Nat.le_refl _, Nat.le_refl _⟩ (fun H locs hP hD hS => ?_)
  have hP : va_P (gD G) vwCl (k_X12_paid G a_p1 a_this a_this_s a_this_kept a_this_errors a_this_step a_this_named a_this_pile a_this_told a_this_beside1 a_this_row a_this_best a_this_worthOf a_this_trace a_this_bits a_this_sizes a_this_number a_this_aside p1 this_images this_at this_open this_steps this_use this_bestNet this_bestMore this_leastApart this_found this_first this_leastPaid this_traced this_speaks this_isParted this_named this_pile this_s) H := hP
  have hD : va_D A (k_X12_paid G a_p1 a_this a_this_s a_this_kept a_this_errors a_this_step a_this_named a_this_pile a_this_told a_this_beside1 a_this_row a_this_best a_this_worthOf a_this_trace a_this_bits a_this_sizes a_this_number a_this_aside p1 this_images this_at this_open this_steps this_use this_bestNet this_bestMore this_leastApart this_found this_first this_leastPaid this_traced this_speaks this_isParted this_named this_pile this_s) := hD
  obtain ⟨r3, hr3, hf⟩ := kb hf
  refine kV (As := [.int p0, .int r1, .int r2]) (rest := []) ⟨hx, hb, hml, hown, hts⟩ (c_X12_asked l G N a_this a_this_s a_this_kept a_this_errors a_this_step a_this_named a_this_pile a_this_told a_this_beside1 a_this_row a_this_best a_this_worthOf a_this_trace a_this_bits a_this_sizes a_this_number a_this_aside p0 r1 r2 this_images this_at this_open this_steps this_use this_bestNet this_bestMore this_leastApart this_found this_first this_leastPaid this_traced this_speaks this_isParted this_named this_pile this_s r3 hr3) (kcV 3 hts tw_1212 tw_92 tw_1209 tw_1211 tw_60 hd_X12_asked ⟨Nat.le_of_ble_eq_true rfl, Nat.le_of_ble_eq_true rfl⟩) dX12_paid_11 hl.1 hK hAm hA hP hD hS 1 (ci := 12) rfl rfl rfl [1, 2, 3, 4] rfl rfl rfl [1, 2] rfl rfl rfl (Nat.le_of_ble_eq_true rfl) ⟨Nat.le_refl _, Nat.le_refl _⟩ (fun H locs hP hD hS => ?_)
  have hP : va_P (gD G) vwCl (k_X12_paid G a_p1 a_this a_this_s a_this_kept a_this_errors a_this_step a_this_named a_this_pile a_this_told a_this_beside1 a_this_row a_this_best a_this_worthOf a_this_trace a_this_bits a_this_sizes a_this_number a_this_aside p1 this_images this_at this_open this_steps this_use this_bestNet this_bestMore this_leastApart this_found this_first this_leastPaid this_traced this_speaks this_isParted r3.2.1 r3.2.2 this_s) H := hP
  have hD : va_D A (k_X12_paid G a_p1 a_this a_this_s a_this_kept a_this_errors a_this_step a_this_named a_this_pile a_this_told a_this_beside1 a_this_row a_this_best a_this_worthOf a_this_trace a_this_bits a_this_sizes a_this_number a_this_aside p1 this_images this_at this_open this_steps this_use this_bestNet this_bestMore this_leastApart this_found this_first this_leastPaid this_traced this_speaks this_isParted r3.2.1 r3.2.2 this_s) := hD
  have ho := ks hf
  subst ho
  exact kiret hx hb hr hlk hP hD hS hQ dX12_paid_14
abbrev k_X12_thing (G : KG) (a_this : Nat) (a_this_s : Nat) (a_this_kept : Nat) (a_this_errors : Nat) (a_this_step : Nat) (a_this_named : Nat) (a_this_pile : Nat) (a_this_told : Nat) (a_this_beside1 : Nat) (a_this_row : Nat) (a_this_best : Nat) (a_this_worthOf : Nat) (a_this_trace : Nat) (a_this_bits : Nat) (a_this_sizes : Nat) (a_this_number : Nat) (a_this_aside : Nat) (this_images : Int32) (this_at : Int32) (this_open : Int32) (this_steps : Int32) (this_use : Int32) (this_bestNet : Int32) (this_bestMore : Int32) (this_leastApart : Int32) (this_found : Int32) (this_first : Int32) (this_leastPaid : Int32) (this_traced : Int32) (this_speaks : Int32) (this_isParted : Int32) (this_errors : Nat → Int32) (this_s : Nat → Int32) : va_W := [(a_this, .inr (12, [.ref a_this_s, .ref a_this_kept, .int this_images, .ref a_this_errors, .int this_at, .int this_open, .int this_steps, .int this_use, .ref a_this_step, .ref a_this_named, .ref a_this_pile, .ref a_this_told, .ref a_this_beside1, .ref a_this_row, .ref a_this_best, .int this_bestNet, .int this_bestMore, .ref a_this_worthOf, .int this_leastApart, .int this_found, .int this_first, .int this_leastPaid, .ref a_this_trace, .int this_traced, .int this_speaks, .int this_isParted, .ref a_this_bits, .ref a_this_sizes, .ref a_this_number, .ref a_this_aside])), (a_this_errors, .inl (gI G, 7, .inl this_errors)), (a_this_s, .inl (gI G, 374, .inl this_s))]
def f_X12_thing_j39 (N : Nat) (x1 : Int32) (x2 : Int32) (x3 : Int32) (t0 : Int32) (t1 : Int32) (t2 : Int32) (this_errors : Nat → Int32) (this_s : Nat → Int32) : Option (Int32 × (Nat → Int32) × (Nat → Int32)) := ((f_X12_in N t0 t1 t2).bind fun r1 => (if r1 = 0 then ((f_X12_error N (1 : Int32) this_errors).bind fun r4 => (some (r4.1, r4.2, this_s))) else ((f_X12_change1 N (((8 : Int32) + ((8 : Int32) * x2)) + x1) x3 this_s).bind fun r3 => (some (r3.1, this_errors, r3.2)))))
def f_X12_thing (N : Nat) (p0 : Int32) (p1 : Int32) (p2 : Int32) (this_errors : Nat → Int32) (this_s : Nat → Int32) : Option (Int32 × (Nat → Int32) × (Nat → Int32)) := ((f_X12_isThing N p0).bind fun r5 => (if r5 = 0 then ((f_X12_error N (1 : Int32) this_errors).bind fun r7 => (some (r7.1, r7.2, this_s))) else ((f_X12_in N p1 (0 : Int32) (2 : Int32)).bind fun r8 => (if r8 = 0 then ((f_X12_error N (1 : Int32) this_errors).bind fun r10 => (some (r10.1, r10.2, this_s))) else (if p1 = 0 then (if p1 = (2 : Int32) then (f_X12_thing_j39 N p0 p1 p2 p2 (1 : Int32) (99 : Int32) this_errors this_s) else (f_X12_thing_j39 N p0 p1 p2 p2 (1 : Int32) (9999 : Int32) this_errors this_s)) else (if p1 = (2 : Int32) then (f_X12_thing_j39 N p0 p1 p2 p2 (0 : Int32) (99 : Int32) this_errors this_s) else (f_X12_thing_j39 N p0 p1 p2 p2 (0 : Int32) (9999 : Int32) this_errors this_s)))))))
set_option maxRecDepth 100000 in
set_option maxHeartbeats 4000000 in
theorem c_X12_thing (l : Launch) (G : KG) (N : Nat) (a_this : Nat) (a_this_s : Nat) (a_this_kept : Nat) (a_this_errors : Nat) (a_this_step : Nat) (a_this_named : Nat) (a_this_pile : Nat) (a_this_told : Nat) (a_this_beside1 : Nat) (a_this_row : Nat) (a_this_best : Nat) (a_this_worthOf : Nat) (a_this_trace : Nat) (a_this_bits : Nat) (a_this_sizes : Nat) (a_this_number : Nat) (a_this_aside : Nat) (p0 : Int32) (p1 : Int32) (p2 : Int32) (this_images : Int32) (this_at : Int32) (this_open : Int32) (this_steps : Int32) (this_use : Int32) (this_bestNet : Int32) (this_bestMore : Int32) (this_leastApart : Int32) (this_found : Int32) (this_first : Int32) (this_leastPaid : Int32) (this_traced : Int32) (this_speaks : Int32) (this_isParted : Int32) (this_errors : Nat → Int32) (this_s : Nat → Int32)  (out : Int32 × (Nat → Int32) × (Nat → Int32)) (hf : f_X12_thing N p0 p1 p2 this_errors this_s = some out) : KM l G yX12_thing (kw yX12_thing cX12_thing 4 (some .int)) 2 42 [.ref a_this, .int p0, .int p1, .int p2] (k_X12_thing G a_this a_this_s a_this_kept a_this_errors a_this_step a_this_named a_this_pile a_this_told a_this_beside1 a_this_row a_this_best a_this_worthOf a_this_trace a_this_bits a_this_sizes a_this_number a_this_aside this_images this_at this_open this_steps this_use this_bestNet this_bestMore this_leastApart this_found this_first this_leastPaid this_traced this_speaks this_isParted this_errors this_s) (k_X12_thing G a_this a_this_s a_this_kept a_this_errors a_this_step a_this_named a_this_pile a_this_told a_this_beside1 a_this_row a_this_best a_this_worthOf a_this_trace a_this_bits a_this_sizes a_this_number a_this_aside this_images this_at this_open this_steps this_use this_bestNet this_bestMore this_leastApart this_found this_first this_leastPaid this_traced this_speaks this_isParted (out.2.1) (out.2.2)) (some (.int (out.1))) := by
  refine KM.of (by decide) (Nat.le_of_ble_eq_true rfl) ?_
  intro p e s m below meth c A ls args Q Fx0 hP hK hD hA hS hAm hQ hl
  obtain ⟨hx, hb, hr, hml, hts, hown, hlk, hnm⟩ := Fx0
  have hown : s.vm.findClass RX12 = some m.cls := hown
  have hl : lv_has ls 4 [(0, .ref a_this), (1, .int p0), (2, .int p1), (3, .int p2)] := hl
  unfold f_X12_thing at hf
  have J39 : ∀ (x1_1 : Int32) (x2_1 : Int32) (x3_1 : Int32) (t0_1 : Int32) (t1_1 : Int32) (t2_1 : Int32) (this_errors_1 : Nat → Int32) (this_s_1 : Nat → Int32) (H : Heap) (locs : List Loc), va_P (gD G) vwCl (k_X12_thing G a_this a_this_s a_this_kept a_this_errors a_this_step a_this_named a_this_pile a_this_told a_this_beside1 a_this_row a_this_best a_this_worthOf a_this_trace a_this_bits a_this_sizes a_this_number a_this_aside this_images this_at this_open this_steps this_use this_bestNet this_bestMore this_leastApart this_found this_first this_leastPaid this_traced this_speaks this_isParted this_errors_1 this_s_1) H → va_D A (k_X12_thing G a_this a_this_s a_this_kept a_this_errors a_this_step a_this_named a_this_pile a_this_told a_this_beside1 a_this_row a_this_best a_this_worthOf a_this_trace a_this_bits a_this_sizes a_this_number a_this_aside this_images this_at this_open this_steps this_use this_bestNet this_bestMore this_leastApart this_found this_first this_leastPaid this_traced this_speaks this_isParted this_errors_1 this_s_1) → va_S A s.heap H locs → ∀ (ls : Array Slot), lv_has ls 4 [(0, .ref a_this), (1, .int x1_1), (2, .int x2_1), (3, .int x3_1)] → f_X12_thing_j39 N x1_1 x2_1 x3_1 t0_1 t1_1 t2_1 this_errors_1 this_s_1 = some out → W p l e (kR 2 0 0 42) s m args below meth c H locs 0 0 Q (F0 m 39 ls [.int t2_1, .int t1_1, .int t0_1]) := by
    intro x1_1 x2_1 x3_1 t0_1 t1_1 t2_1 this_errors_1 this_s_1 H locs hP hD hS ls hl hf
    rw [f_X12_thing_j39] at hf
    obtain ⟨r2, hr2, hf⟩ := kb hf
    refine kS (As := [.int t0_1, .int t1_1, .int t2_1]) (rest := []) ⟨hx, hb, hml, hown, hts⟩ (c_X12_in l G N t0_1 t1_1 t2_1 r2 hr2) (kcS 3 hts tw_1083 tw_92 tw_1081 tw_1082 hd_X12_in ⟨Nat.le_of_ble_eq_true rfl, Nat.le_of_ble_eq_true rfl⟩) dX12_thing_39 hl.1 hK hAm hA hP hD hS [] rfl rfl rfl [] rfl rfl rfl (Nat.le_of_ble_eq_true rfl) ⟨Nat.le_refl _, Nat.le_refl _⟩ (fun H locs hP hD hS => ?_)
    have hP : va_P (gD G) vwCl (k_X12_thing G a_this a_this_s a_this_kept a_this_errors a_this_step a_this_named a_this_pile a_this_told a_this_beside1 a_this_row a_this_best a_this_worthOf a_this_trace a_this_bits a_this_sizes a_this_number a_this_aside this_images this_at this_open this_steps this_use this_bestNet this_bestMore this_leastApart this_found this_first this_leastPaid this_traced this_speaks this_isParted this_errors_1 this_s_1) H := hP
    have hD : va_D A (k_X12_thing G a_this a_this_s a_this_kept a_this_errors a_this_step a_this_named a_this_pile a_this_told a_this_beside1 a_this_row a_this_best a_this_worthOf a_this_trace a_this_bits a_this_sizes a_this_number a_this_aside this_images this_at this_open this_steps this_use this_bestNet this_bestMore this_leastApart this_found this_first this_leastPaid this_traced this_speaks this_isParted this_errors_1 this_s_1) := hD
    refine lv_if_ne (tgt := 51) hx hb dX12_thing_42 (by decide) (fun c3 => ?_) (fun c3 => ?_)
    · replace hf := kf c3 hf
      refine lv_aload_n hx hb dX12_thing_51 rfl (lv_at hl 0 rfl) ?_
      refine lv_bipush (v := (8 : Int32)) hx hb dX12_thing_52 (by decide) ?_
      refine lv_bipush (v := (8 : Int32)) hx hb dX12_thing_54 (by decide) ?_
      refine lv_iload_n hx hb dX12_thing_56 rfl (lv_at hl 2 rfl) ?_
      refine lv_imul hx hb dX12_thing_57 ?_
      refine lv_iadd hx hb dX12_thing_58 ?_
      refine lv_iload_n hx hb dX12_thing_59 rfl (lv_at hl 1 rfl) ?_
      refine lv_iadd hx hb dX12_thing_60 ?_
      refine lv_iload_n hx hb dX12_thing_61 rfl (lv_at hl 3 rfl) ?_
      obtain ⟨r4, hr4, hf⟩ := kb hf
      refine kV (As := [.int (((8 : Int32) + ((8 : Int32) * x2_1)) + x1_1), .int x3_1]) (rest := []) ⟨hx, hb, hml, hown, hts⟩ (c_X12_change1 l G N a_this a_this_s a_this_kept a_this_errors a_this_step a_this_named a_this_pile a_this_told a_this_beside1 a_this_row a_this_best a_this_worthOf a_this_trace a_this_bits a_this_sizes a_this_number a_this_aside (((8 : Int32) + ((8 : Int32) * x2_1)) + x1_1) x3_1 this_images this_at this_open this_steps this_use this_bestNet this_bestMore this_leastApart this_found this_first this_leastPaid this_traced this_speaks this_isParted this_s_1 r4 hr4) (kcV 2 hts tw_1152 tw_92 tw_1149 tw_1151 tw_55 hd_X12_change1 ⟨Nat.le_of_ble_eq_true rfl, Nat.le_of_ble_eq_true rfl⟩) dX12_thing_62 hl.1 hK hAm hA hP hD hS 0 (ci := 12) rfl rfl rfl [0, 2] rfl rfl rfl [1] rfl rfl rfl (Nat.le_of_ble_eq_true rfl) ⟨Nat.le_refl _, Nat.le_refl _⟩ (fun H locs hP hD hS => ?_)
      have hP : va_P (gD G) vwCl (k_X12_thing G a_this a_this_s a_this_kept a_this_errors a_this_step a_this_named a_this_pile a_this_told a_this_beside1 a_this_row a_this_best a_this_worthOf a_this_trace a_this_bits a_this_sizes a_this_number a_this_aside this_images this_at this_open this_steps this_use this_bestNet this_bestMore this_leastApart this_found this_first this_leastPaid this_traced this_speaks this_isParted this_errors_1 r4.2) H := hP
      have hD : va_D A (k_X12_thing G a_this a_this_s a_this_kept a_this_errors a_this_step a_this_named a_this_pile a_this_told a_this_beside1 a_this_row a_this_best a_this_worthOf a_this_trace a_this_bits a_this_sizes a_this_number a_this_aside this_images this_at this_open this_steps this_use this_bestNet this_bestMore this_leastApart this_found this_first this_leastPaid this_traced this_speaks this_isParted this_errors_1 r4.2) := hD
      have ho := ks hf
      subst ho
      exact kiret hx hb hr hlk hP hD hS hQ dX12_thing_65
    · replace hf := kt c3 hf
      refine lv_aload_n hx hb dX12_thing_45 rfl (lv_at hl 0 rfl) ?_
      refine lv_iconst (v := (1 : Int32)) hx hb dX12_thing_46 (by decide) ?_
      obtain ⟨r5, hr5, hf⟩ := kb hf
      refine kV (As := [.int (1 : Int32)]) (rest := []) ⟨hx, hb, hml, hown, hts⟩ (c_X12_error l G N a_this a_this_s a_this_kept a_this_errors a_this_step a_this_named a_this_pile a_this_told a_this_beside1 a_this_row a_this_best a_this_worthOf a_this_trace a_this_bits a_this_sizes a_this_number a_this_aside (1 : Int32) this_images this_at this_open this_steps this_use this_bestNet this_bestMore this_leastApart this_found this_first this_leastPaid this_traced this_speaks this_isParted this_errors_1 r5 hr5) (kcV 1 hts tw_1087 tw_92 tw_1084 tw_1086 tw_43 hd_X12_error ⟨Nat.le_of_ble_eq_true rfl, Nat.le_of_ble_eq_true rfl⟩) dX12_thing_47 hl.1 hK hAm hA hP hD hS 0 (ci := 12) rfl rfl rfl [0, 1] rfl rfl rfl [1] rfl rfl rfl (Nat.le_of_ble_eq_true rfl) ⟨Nat.le_refl _, Nat.le_refl _⟩ (fun H locs hP hD hS => ?_)
      have hP : va_P (gD G) vwCl (k_X12_thing G a_this a_this_s a_this_kept a_this_errors a_this_step a_this_named a_this_pile a_this_told a_this_beside1 a_this_row a_this_best a_this_worthOf a_this_trace a_this_bits a_this_sizes a_this_number a_this_aside this_images this_at this_open this_steps this_use this_bestNet this_bestMore this_leastApart this_found this_first this_leastPaid this_traced this_speaks this_isParted r5.2 this_s_1) H := hP
      have hD : va_D A (k_X12_thing G a_this a_this_s a_this_kept a_this_errors a_this_step a_this_named a_this_pile a_this_told a_this_beside1 a_this_row a_this_best a_this_worthOf a_this_trace a_this_bits a_this_sizes a_this_number a_this_aside this_images this_at this_open this_steps this_use this_bestNet this_bestMore this_leastApart this_found this_first this_leastPaid this_traced this_speaks this_isParted r5.2 this_s_1) := hD
      have ho := ks hf
      subst ho
      exact kiret hx hb hr hlk hP hD hS hQ dX12_thing_50
  refine lv_iload_n hx hb dX12_thing_0 rfl (lv_at hl 1 rfl) ?_
  obtain ⟨r6, hr6, hf⟩ := kb hf
  refine kS (As := [.int p0]) (rest := []) ⟨hx, hb, hml, hown, hts⟩ (c_X12_isThing l G N p0 r6 hr6) (kcS 1 hts tw_1148 tw_92 tw_1146 tw_1147 hd_X12_isThing ⟨Nat.le_of_ble_eq_true rfl, Nat.le_of_ble_eq_true rfl⟩) dX12_thing_1 hl.1 hK hAm hA hP hD hS [] rfl rfl rfl [] rfl rfl rfl (Nat.le_of_ble_eq_true rfl) ⟨Nat.le_refl _, Nat.le_refl _⟩ (fun H locs hP hD hS => ?_)
  have hP : va_P (gD G) vwCl (k_X12_thing G a_this a_this_s a_this_kept a_this_errors a_this_step a_this_named a_this_pile a_this_told a_this_beside1 a_this_row a_this_best a_this_worthOf a_this_trace a_this_bits a_this_sizes a_this_number a_this_aside this_images this_at this_open this_steps this_use this_bestNet this_bestMore this_leastApart this_found this_first this_leastPaid this_traced this_speaks this_isParted this_errors this_s) H := hP
  have hD : va_D A (k_X12_thing G a_this a_this_s a_this_kept a_this_errors a_this_step a_this_named a_this_pile a_this_told a_this_beside1 a_this_row a_this_best a_this_worthOf a_this_trace a_this_bits a_this_sizes a_this_number a_this_aside this_images this_at this_open this_steps this_use this_bestNet this_bestMore this_leastApart this_found this_first this_leastPaid this_traced this_speaks this_isParted this_errors this_s) := hD
  refine lv_if_eq (tgt := 45) hx hb dX12_thing_4 (by decide) (fun c7 => ?_) (fun c7 => ?_)
  · replace hf := kt c7 hf
    refine lv_aload_n hx hb dX12_thing_45 rfl (lv_at hl 0 rfl) ?_
    refine lv_iconst (v := (1 : Int32)) hx hb dX12_thing_46 (by decide) ?_
    obtain ⟨r8, hr8, hf⟩ := kb hf
    refine kV (As := [.int (1 : Int32)]) (rest := []) ⟨hx, hb, hml, hown, hts⟩ (c_X12_error l G N a_this a_this_s a_this_kept a_this_errors a_this_step a_this_named a_this_pile a_this_told a_this_beside1 a_this_row a_this_best a_this_worthOf a_this_trace a_this_bits a_this_sizes a_this_number a_this_aside (1 : Int32) this_images this_at this_open this_steps this_use this_bestNet this_bestMore this_leastApart this_found this_first this_leastPaid this_traced this_speaks this_isParted this_errors r8 hr8) (kcV 1 hts tw_1087 tw_92 tw_1084 tw_1086 tw_43 hd_X12_error ⟨Nat.le_of_ble_eq_true rfl, Nat.le_of_ble_eq_true rfl⟩) dX12_thing_47 hl.1 hK hAm hA hP hD hS 0 (ci := 12) rfl rfl rfl [0, 1] rfl rfl rfl [1] rfl rfl rfl (Nat.le_of_ble_eq_true rfl) ⟨Nat.le_refl _, Nat.le_refl _⟩ (fun H locs hP hD hS => ?_)
    have hP : va_P (gD G) vwCl (k_X12_thing G a_this a_this_s a_this_kept a_this_errors a_this_step a_this_named a_this_pile a_this_told a_this_beside1 a_this_row a_this_best a_this_worthOf a_this_trace a_this_bits a_this_sizes a_this_number a_this_aside this_images this_at this_open this_steps this_use this_bestNet this_bestMore this_leastApart this_found this_first this_leastPaid this_traced this_speaks this_isParted r8.2 this_s) H := hP
    have hD : va_D A (k_X12_thing G a_this a_this_s a_this_kept a_this_errors a_this_step a_this_named a_this_pile a_this_told a_this_beside1 a_this_row a_this_best a_this_worthOf a_this_trace a_this_bits a_this_sizes a_this_number a_this_aside this_images this_at this_open this_steps this_use this_bestNet this_bestMore this_leastApart this_found this_first this_leastPaid this_traced this_speaks this_isParted r8.2 this_s) := hD
    have ho := ks hf
    subst ho
    exact kiret hx hb hr hlk hP hD hS hQ dX12_thing_50
  · replace hf := kf c7 hf
    refine lv_iload_n hx hb dX12_thing_7 rfl (lv_at hl 2 rfl) ?_
    refine lv_iconst (v := (0 : Int32)) hx hb dX12_thing_8 (by decide) ?_
    refine lv_iconst (v := (2 : Int32)) hx hb dX12_thing_9 (by decide) ?_
    obtain ⟨r9, hr9, hf⟩ := kb hf
    refine kS (As := [.int p1, .int (0 : Int32), .int (2 : Int32)]) (rest := []) ⟨hx, hb, hml, hown, hts⟩ (c_X12_in l G N p1 (0 : Int32) (2 : Int32) r9 hr9) (kcS 3 hts tw_1083 tw_92 tw_1081 tw_1082 hd_X12_in ⟨Nat.le_of_ble_eq_true rfl, Nat.le_of_ble_eq_true rfl⟩) dX12_thing_10 hl.1 hK hAm hA hP hD hS [] rfl rfl rfl [] rfl rfl rfl (Nat.le_of_ble_eq_true rfl) ⟨Nat.le_refl _, Nat.le_refl _⟩ (fun H locs hP hD hS => ?_)
    have hP : va_P (gD G) vwCl (k_X12_thing G a_this a_this_s a_this_kept a_this_errors a_this_step a_this_named a_this_pile a_this_told a_this_beside1 a_this_row a_this_best a_this_worthOf a_this_trace a_this_bits a_this_sizes a_this_number a_this_aside this_images this_at this_open this_steps this_use this_bestNet this_bestMore this_leastApart this_found this_first this_leastPaid this_traced this_speaks this_isParted this_errors this_s) H := hP
    have hD : va_D A (k_X12_thing G a_this a_this_s a_this_kept a_this_errors a_this_step a_this_named a_this_pile a_this_told a_this_beside1 a_this_row a_this_best a_this_worthOf a_this_trace a_this_bits a_this_sizes a_this_number a_this_aside this_images this_at this_open this_steps this_use this_bestNet this_bestMore this_leastApart this_found this_first this_leastPaid this_traced this_speaks this_isParted this_errors this_s) := hD
    refine lv_if_eq (tgt := 45) hx hb dX12_thing_13 (by decide) (fun c10 => ?_) (fun c10 => ?_)
    · replace hf := kt c10 hf
      refine lv_aload_n hx hb dX12_thing_45 rfl (lv_at hl 0 rfl) ?_
      refine lv_iconst (v := (1 : Int32)) hx hb dX12_thing_46 (by decide) ?_
      obtain ⟨r11, hr11, hf⟩ := kb hf
      refine kV (As := [.int (1 : Int32)]) (rest := []) ⟨hx, hb, hml, hown, hts⟩ (c_X12_error l G N a_this a_this_s a_this_kept a_this_errors a_this_step a_this_named a_this_pile a_this_told a_this_beside1 a_this_row a_this_best a_this_worthOf a_this_trace a_this_bits a_this_sizes a_this_number a_this_aside (1 : Int32) this_images this_at this_open this_steps this_use this_bestNet this_bestMore this_leastApart this_found this_first this_leastPaid this_traced this_speaks this_isParted this_errors r11 hr11) (kcV 1 hts tw_1087 tw_92 tw_1084 tw_1086 tw_43 hd_X12_error ⟨Nat.le_of_ble_eq_true rfl, Nat.le_of_ble_eq_true rfl⟩) dX12_thing_47 hl.1 hK hAm hA hP hD hS 0 (ci := 12) rfl rfl rfl [0, 1] rfl rfl rfl [1] rfl rfl rfl (Nat.le_of_ble_eq_true rfl) ⟨Nat.le_refl _, Nat.le_refl _⟩ (fun H locs hP hD hS => ?_)
      have hP : va_P (gD G) vwCl (k_X12_thing G a_this a_this_s a_this_kept a_this_errors a_this_step a_this_named a_this_pile a_this_told a_this_beside1 a_this_row a_this_best a_this_worthOf a_this_trace a_this_bits a_this_sizes a_this_number a_this_aside this_images this_at this_open this_steps this_use this_bestNet this_bestMore this_leastApart this_found this_first this_leastPaid this_traced this_speaks this_isParted r11.2 this_s) H := hP
      have hD : va_D A (k_X12_thing G a_this a_this_s a_this_kept a_this_errors a_this_step a_this_named a_this_pile a_this_told a_this_beside1 a_this_row a_this_best a_this_worthOf a_this_trace a_this_bits a_this_sizes a_this_number a_this_aside this_images this_at this_open this_steps this_use this_bestNet this_bestMore this_leastApart this_found this_first this_leastPaid this_traced this_speaks this_isParted r11.2 this_s) := hD
      have ho := ks hf
      subst ho
      exact kiret hx hb hr hlk hP hD hS hQ dX12_thing_50
    · replace hf := kf c10 hf
      refine lv_iload_n hx hb dX12_thing_16 rfl (lv_at hl 3 rfl) ?_
      refine lv_iload_n hx hb dX12_thing_17 rfl (lv_at hl 2 rfl) ?_
      refine lv_if_ne (tgt := 25) hx hb dX12_thing_18 (by decide) (fun c12 => ?_) (fun c12 => ?_)
      · replace hf := kf c12 hf
        refine lv_iconst (v := (0 : Int32)) hx hb dX12_thing_25 (by decide) ?_
        refine lv_iload_n hx hb dX12_thing_26 rfl (lv_at hl 2 rfl) ?_
        refine lv_iconst (v := (2 : Int32)) hx hb dX12_thing_27 (by decide) ?_
        refine lv_icmp_ne (tgt := 36) hx hb dX12_thing_28 (by decide) (fun c13 => ?_) (fun c13 => ?_)
        · replace hf := kf c13 hf
          refine lv_sipush (v := (9999 : Int32)) hx hb dX12_thing_36 (by decide) ?_
          exact J39 p0 p1 p2 p2 (0 : Int32) (9999 : Int32) this_errors this_s _ _ hP hD hS ls (lv_sub hl [0, 1, 2, 3] rfl) hf
        · replace hf := kt c13 hf
          refine lv_bipush (v := (99 : Int32)) hx hb dX12_thing_31 (by decide) ?_
          refine lv_goto (tgt := 39) hx hb dX12_thing_33 (by decide) ?_
          exact J39 p0 p1 p2 p2 (0 : Int32) (99 : Int32) this_errors this_s _ _ hP hD hS ls (lv_sub hl [0, 1, 2, 3] rfl) hf
      · replace hf := kt c12 hf
        refine lv_iconst (v := (1 : Int32)) hx hb dX12_thing_21 (by decide) ?_
        refine lv_goto (tgt := 26) hx hb dX12_thing_22 (by decide) ?_
        refine lv_iload_n hx hb dX12_thing_26 rfl (lv_at hl 2 rfl) ?_
        refine lv_iconst (v := (2 : Int32)) hx hb dX12_thing_27 (by decide) ?_
        refine lv_icmp_ne (tgt := 36) hx hb dX12_thing_28 (by decide) (fun c14 => ?_) (fun c14 => ?_)
        · replace hf := kf c14 hf
          refine lv_sipush (v := (9999 : Int32)) hx hb dX12_thing_36 (by decide) ?_
          exact J39 p0 p1 p2 p2 (1 : Int32) (9999 : Int32) this_errors this_s _ _ hP hD hS ls (lv_sub hl [0, 1, 2, 3] rfl) hf
        · replace hf := kt c14 hf
          refine lv_bipush (v := (99 : Int32)) hx hb dX12_thing_31 (by decide) ?_
          refine lv_goto (tgt := 39) hx hb dX12_thing_33 (by decide) ?_
          exact J39 p0 p1 p2 p2 (1 : Int32) (99 : Int32) this_errors this_s _ _ hP hD hS ls (lv_sub hl [0, 1, 2, 3] rfl) hf
abbrev k_X12_thingIs (G : KG) (a_this : Nat) (a_this_s : Nat) (a_this_kept : Nat) (a_this_errors : Nat) (a_this_step : Nat) (a_this_named : Nat) (a_this_pile : Nat) (a_this_told : Nat) (a_this_beside1 : Nat) (a_this_row : Nat) (a_this_best : Nat) (a_this_worthOf : Nat) (a_this_trace : Nat) (a_this_bits : Nat) (a_this_sizes : Nat) (a_this_number : Nat) (a_this_aside : Nat) (this_images : Int32) (this_at : Int32) (this_open : Int32) (this_steps : Int32) (this_use : Int32) (this_bestNet : Int32) (this_bestMore : Int32) (this_leastApart : Int32) (this_found : Int32) (this_first : Int32) (this_leastPaid : Int32) (this_traced : Int32) (this_speaks : Int32) (this_isParted : Int32) (this_errors : Nat → Int32) (this_named : Nat → Int32) (this_pile : Nat → Int32) (this_s : Nat → Int32) : va_W := [(a_this, .inr (12, [.ref a_this_s, .ref a_this_kept, .int this_images, .ref a_this_errors, .int this_at, .int this_open, .int this_steps, .int this_use, .ref a_this_step, .ref a_this_named, .ref a_this_pile, .ref a_this_told, .ref a_this_beside1, .ref a_this_row, .ref a_this_best, .int this_bestNet, .int this_bestMore, .ref a_this_worthOf, .int this_leastApart, .int this_found, .int this_first, .int this_leastPaid, .ref a_this_trace, .int this_traced, .int this_speaks, .int this_isParted, .ref a_this_bits, .ref a_this_sizes, .ref a_this_number, .ref a_this_aside])), (a_this_errors, .inl (gI G, 7, .inl this_errors)), (a_this_named, .inl (gI G, 128, .inl this_named)), (a_this_pile, .inl (gI G, 64, .inl this_pile)), (a_this_s, .inl (gI G, 374, .inl this_s))]
def f_X12_thingIs (N : Nat) (p0 : Int32) (p1 : Int32) (this_errors : Nat → Int32) (this_named : Nat → Int32) (this_pile : Nat → Int32) (this_s : Nat → Int32) : Option (Int32 × (Nat → Int32) × (Nat → Int32) × (Nat → Int32)) := ((f_X12_isThing N p0).bind fun r1 => (if r1 = 0 then ((f_X12_error N (1 : Int32) this_errors).bind fun r3 => (some (r3.1, r3.2, this_named, this_pile))) else ((f_X12_in N p1 (0 : Int32) (3 : Int32)).bind fun r4 => (if r4 = 0 then ((f_X12_error N (1 : Int32) this_errors).bind fun r9 => (some (r9.1, r9.2, this_named, this_pile))) else (if p1 = (3 : Int32) then ((f_X12_values N p0 this_named this_pile this_s).bind fun r8 => (some (r8.1, this_errors, r8.2.1, r8.2.2))) else (if vin (((8 : Int32) + ((8 : Int32) * p1)) + p0) 374 = true then (some ((this_s (((8 : Int32) + ((8 : Int32) * p1)) + p0).toNatClampNeg), this_errors, this_named, this_pile)) else none))))))
set_option maxRecDepth 100000 in
set_option maxHeartbeats 4000000 in
theorem c_X12_thingIs (l : Launch) (G : KG) (N : Nat) (a_this : Nat) (a_this_s : Nat) (a_this_kept : Nat) (a_this_errors : Nat) (a_this_step : Nat) (a_this_named : Nat) (a_this_pile : Nat) (a_this_told : Nat) (a_this_beside1 : Nat) (a_this_row : Nat) (a_this_best : Nat) (a_this_worthOf : Nat) (a_this_trace : Nat) (a_this_bits : Nat) (a_this_sizes : Nat) (a_this_number : Nat) (a_this_aside : Nat) (p0 : Int32) (p1 : Int32) (this_images : Int32) (this_at : Int32) (this_open : Int32) (this_steps : Int32) (this_use : Int32) (this_bestNet : Int32) (this_bestMore : Int32) (this_leastApart : Int32) (this_found : Int32) (this_first : Int32) (this_leastPaid : Int32) (this_traced : Int32) (this_speaks : Int32) (this_isParted : Int32) (this_errors : Nat → Int32) (this_named : Nat → Int32) (this_pile : Nat → Int32) (this_s : Nat → Int32)  (out : Int32 × (Nat → Int32) × (Nat → Int32) × (Nat → Int32)) (hf : f_X12_thingIs N p0 p1 this_errors this_named this_pile this_s = some out) : KM l G yX12_thingIs (kw yX12_thingIs cX12_thingIs 3 (some .int)) 3 69 [.ref a_this, .int p0, .int p1] (k_X12_thingIs G a_this a_this_s a_this_kept a_this_errors a_this_step a_this_named a_this_pile a_this_told a_this_beside1 a_this_row a_this_best a_this_worthOf a_this_trace a_this_bits a_this_sizes a_this_number a_this_aside this_images this_at this_open this_steps this_use this_bestNet this_bestMore this_leastApart this_found this_first this_leastPaid this_traced this_speaks this_isParted this_errors this_named this_pile this_s) (k_X12_thingIs G a_this a_this_s a_this_kept a_this_errors a_this_step a_this_named a_this_pile a_this_told a_this_beside1 a_this_row a_this_best a_this_worthOf a_this_trace a_this_bits a_this_sizes a_this_number a_this_aside this_images this_at this_open this_steps this_use this_bestNet this_bestMore this_leastApart this_found this_first this_leastPaid this_traced this_speaks this_isParted (out.2.1) (out.2.2.1) (out.2.2.2) this_s) (some (.int (out.1))) := by
  refine KM.of (by decide) (Nat.le_of_ble_eq_true rfl) ?_
  intro p e s m below meth c A ls args Q Fx0 hP hK hD hA hS hAm hQ hl
  obtain ⟨hx, hb, hr, hml, hts, hown, hlk, hnm⟩ := Fx0
  have hown : s.vm.findClass RX12 = some m.cls := hown
  have hl : lv_has ls 3 [(0, .ref a_this), (1, .int p0), (2, .int p1)] := hl
  have fl_7 := hts _ tw_986
  unfold f_X12_thingIs at hf
  refine lv_iload_n hx hb dX12_thingIs_0 rfl (lv_at hl 1 rfl) ?_
  obtain ⟨r1, hr1, hf⟩ := kb hf
  refine kS (As := [.int p0]) (rest := []) ⟨hx, hb, hml, hown, hts⟩ (c_X12_isThing l G N p0 r1 hr1) (kcS 1 hts tw_1148 tw_92 tw_1146 tw_1147 hd_X12_isThing ⟨Nat.le_of_ble_eq_true rfl, Nat.le_of_ble_eq_true rfl⟩) dX12_thingIs_1 hl.1 hK hAm hA hP hD hS [] rfl rfl rfl [] rfl rfl rfl (Nat.le_of_ble_eq_true rfl) ⟨Nat.le_refl _, Nat.le_refl _⟩ (fun H locs hP hD hS => ?_)
  have hP : va_P (gD G) vwCl (k_X12_thingIs G a_this a_this_s a_this_kept a_this_errors a_this_step a_this_named a_this_pile a_this_told a_this_beside1 a_this_row a_this_best a_this_worthOf a_this_trace a_this_bits a_this_sizes a_this_number a_this_aside this_images this_at this_open this_steps this_use this_bestNet this_bestMore this_leastApart this_found this_first this_leastPaid this_traced this_speaks this_isParted this_errors this_named this_pile this_s) H := hP
  have hD : va_D A (k_X12_thingIs G a_this a_this_s a_this_kept a_this_errors a_this_step a_this_named a_this_pile a_this_told a_this_beside1 a_this_row a_this_best a_this_worthOf a_this_trace a_this_bits a_this_sizes a_this_number a_this_aside this_images this_at this_open this_steps this_use this_bestNet this_bestMore this_leastApart this_found this_first this_leastPaid this_traced this_speaks this_isParted this_errors this_named this_pile this_s) := hD
  refine lv_if_eq (tgt := 16) hx hb dX12_thingIs_4 (by decide) (fun c2 => ?_) (fun c2 => ?_)
  · replace hf := kt c2 hf
    refine lv_aload_n hx hb dX12_thingIs_16 rfl (lv_at hl 0 rfl) ?_
    refine lv_iconst (v := (1 : Int32)) hx hb dX12_thingIs_17 (by decide) ?_
    obtain ⟨r3, hr3, hf⟩ := kb hf
    refine kV (As := [.int (1 : Int32)]) (rest := []) ⟨hx, hb, hml, hown, hts⟩ (c_X12_error l G N a_this a_this_s a_this_kept a_this_errors a_this_step a_this_named a_this_pile a_this_told a_this_beside1 a_this_row a_this_best a_this_worthOf a_this_trace a_this_bits a_this_sizes a_this_number a_this_aside (1 : Int32) this_images this_at this_open this_steps this_use this_bestNet this_bestMore this_leastApart this_found this_first this_leastPaid this_traced this_speaks this_isParted this_errors r3 hr3) (kcV 1 hts tw_1087 tw_92 tw_1084 tw_1086 tw_43 hd_X12_error ⟨Nat.le_of_ble_eq_true rfl, Nat.le_of_ble_eq_true rfl⟩) dX12_thingIs_18 hl.1 hK hAm hA hP hD hS 0 (ci := 12) rfl rfl rfl [0, 1] rfl rfl rfl [1] rfl rfl rfl (Nat.le_of_ble_eq_true rfl) ⟨Nat.le_refl _, Nat.le_refl _⟩ (fun H locs hP hD hS => ?_)
    have hP : va_P (gD G) vwCl (k_X12_thingIs G a_this a_this_s a_this_kept a_this_errors a_this_step a_this_named a_this_pile a_this_told a_this_beside1 a_this_row a_this_best a_this_worthOf a_this_trace a_this_bits a_this_sizes a_this_number a_this_aside this_images this_at this_open this_steps this_use this_bestNet this_bestMore this_leastApart this_found this_first this_leastPaid this_traced this_speaks this_isParted r3.2 this_named this_pile this_s) H := hP
    have hD : va_D A (k_X12_thingIs G a_this a_this_s a_this_kept a_this_errors a_this_step a_this_named a_this_pile a_this_told a_this_beside1 a_this_row a_this_best a_this_worthOf a_this_trace a_this_bits a_this_sizes a_this_number a_this_aside this_images this_at this_open this_steps this_use this_bestNet this_bestMore this_leastApart this_found this_first this_leastPaid this_traced this_speaks this_isParted r3.2 this_named this_pile this_s) := hD
    have ho := ks hf
    subst ho
    exact kiret hx hb hr hlk hP hD hS hQ dX12_thingIs_21
  · replace hf := kf c2 hf
    refine lv_iload_n hx hb dX12_thingIs_7 rfl (lv_at hl 2 rfl) ?_
    refine lv_iconst (v := (0 : Int32)) hx hb dX12_thingIs_8 (by decide) ?_
    refine lv_iconst (v := (3 : Int32)) hx hb dX12_thingIs_9 (by decide) ?_
    obtain ⟨r4, hr4, hf⟩ := kb hf
    refine kS (As := [.int p1, .int (0 : Int32), .int (3 : Int32)]) (rest := []) ⟨hx, hb, hml, hown, hts⟩ (c_X12_in l G N p1 (0 : Int32) (3 : Int32) r4 hr4) (kcS 3 hts tw_1083 tw_92 tw_1081 tw_1082 hd_X12_in ⟨Nat.le_of_ble_eq_true rfl, Nat.le_of_ble_eq_true rfl⟩) dX12_thingIs_10 hl.1 hK hAm hA hP hD hS [] rfl rfl rfl [] rfl rfl rfl (Nat.le_of_ble_eq_true rfl) ⟨Nat.le_refl _, Nat.le_refl _⟩ (fun H locs hP hD hS => ?_)
    have hP : va_P (gD G) vwCl (k_X12_thingIs G a_this a_this_s a_this_kept a_this_errors a_this_step a_this_named a_this_pile a_this_told a_this_beside1 a_this_row a_this_best a_this_worthOf a_this_trace a_this_bits a_this_sizes a_this_number a_this_aside this_images this_at this_open this_steps this_use this_bestNet this_bestMore this_leastApart this_found this_first this_leastPaid this_traced this_speaks this_isParted this_errors this_named this_pile this_s) H := hP
    have hD : va_D A (k_X12_thingIs G a_this a_this_s a_this_kept a_this_errors a_this_step a_this_named a_this_pile a_this_told a_this_beside1 a_this_row a_this_best a_this_worthOf a_this_trace a_this_bits a_this_sizes a_this_number a_this_aside this_images this_at this_open this_steps this_use this_bestNet this_bestMore this_leastApart this_found this_first this_leastPaid this_traced this_speaks this_isParted this_errors this_named this_pile this_s) := hD
    refine lv_if_ne (tgt := 22) hx hb dX12_thingIs_13 (by decide) (fun c5 => ?_) (fun c5 => ?_)
    · replace hf := kf c5 hf
      refine lv_iload_n hx hb dX12_thingIs_22 rfl (lv_at hl 2 rfl) ?_
      refine lv_iconst (v := (3 : Int32)) hx hb dX12_thingIs_23 (by decide) ?_
      refine lv_icmp_ne (tgt := 35) hx hb dX12_thingIs_24 (by decide) (fun c6 => ?_) (fun c6 => ?_)
      · replace hf := kf c6 hf
        refine lv_aload_n hx hb dX12_thingIs_35 rfl (lv_at hl 0 rfl) ?_
        refine va_get (D := gD G) (ci := 12) (C := RX12) (T := TX12) (N := 30) hx hb hts hin_X12 hown hK hP 0 rfl rfl 0 (by decide) fl_7 (fun _ h9 => h9) rfl dX12_thingIs_36 ?_
        refine lv_bipush (v := (8 : Int32)) hx hb dX12_thingIs_39 (by decide) ?_
        refine lv_bipush (v := (8 : Int32)) hx hb dX12_thingIs_41 (by decide) ?_
        refine lv_iload_n hx hb dX12_thingIs_43 rfl (lv_at hl 2 rfl) ?_
        refine lv_imul hx hb dX12_thingIs_44 ?_
        refine lv_iadd hx hb dX12_thingIs_45 ?_
        refine lv_iload_n hx hb dX12_thingIs_46 rfl (lv_at hl 1 rfl) ?_
        refine lv_iadd hx hb dX12_thingIs_47 ?_
        obtain ⟨g7, hf⟩ := kg hf
        refine va_iald hx hb hK hP 4 0 rfl rfl (vin_of g7) dX12_thingIs_48 ?_
        have ho := ks hf
        subst ho
        exact kiret hx hb hr hlk hP hD hS hQ dX12_thingIs_49
      · replace hf := kt c6 hf
        refine lv_aload_n hx hb dX12_thingIs_27 rfl (lv_at hl 0 rfl) ?_
        refine lv_iload_n hx hb dX12_thingIs_28 rfl (lv_at hl 1 rfl) ?_
        obtain ⟨r8, hr8, hf⟩ := kb hf
        refine kV (As := [.int p0]) (rest := []) ⟨hx, hb, hml, hown, hts⟩ (c_X12_values l G N a_this a_this_s a_this_kept a_this_errors a_this_step a_this_named a_this_pile a_this_told a_this_beside1 a_this_row a_this_best a_this_worthOf a_this_trace a_this_bits a_this_sizes a_this_number a_this_aside p0 this_images this_at this_open this_steps this_use this_bestNet this_bestMore this_leastApart this_found this_first this_leastPaid this_traced this_speaks this_isParted this_named this_pile this_s r8 hr8) (kcV 1 hts tw_1160 tw_92 tw_1157 tw_1159 tw_56 hd_X12_values ⟨Nat.le_of_ble_eq_true rfl, Nat.le_of_ble_eq_true rfl⟩) dX12_thingIs_29 hl.1 hK hAm hA hP hD hS 0 (ci := 12) rfl rfl rfl [0, 2, 3, 4] rfl rfl rfl [1, 2] rfl rfl rfl (Nat.le_of_ble_eq_true rfl) ⟨Nat.le_refl _, Nat.le_refl _⟩ (fun H locs hP hD hS => ?_)
        have hP : va_P (gD G) vwCl (k_X12_thingIs G a_this a_this_s a_this_kept a_this_errors a_this_step a_this_named a_this_pile a_this_told a_this_beside1 a_this_row a_this_best a_this_worthOf a_this_trace a_this_bits a_this_sizes a_this_number a_this_aside this_images this_at this_open this_steps this_use this_bestNet this_bestMore this_leastApart this_found this_first this_leastPaid this_traced this_speaks this_isParted this_errors r8.2.1 r8.2.2 this_s) H := hP
        have hD : va_D A (k_X12_thingIs G a_this a_this_s a_this_kept a_this_errors a_this_step a_this_named a_this_pile a_this_told a_this_beside1 a_this_row a_this_best a_this_worthOf a_this_trace a_this_bits a_this_sizes a_this_number a_this_aside this_images this_at this_open this_steps this_use this_bestNet this_bestMore this_leastApart this_found this_first this_leastPaid this_traced this_speaks this_isParted this_errors r8.2.1 r8.2.2 this_s) := hD
        refine lv_goto (tgt := 49) hx hb dX12_thingIs_32 (by decide) ?_
        have ho := ks hf
        subst ho
        exact kiret hx hb hr hlk hP hD hS hQ dX12_thingIs_49
    · replace hf := kt c5 hf
      refine lv_aload_n hx hb dX12_thingIs_16 rfl (lv_at hl 0 rfl) ?_
      refine lv_iconst (v := (1 : Int32)) hx hb dX12_thingIs_17 (by decide) ?_
      obtain ⟨r9, hr9, hf⟩ := kb hf
      refine kV (As := [.int (1 : Int32)]) (rest := []) ⟨hx, hb, hml, hown, hts⟩ (c_X12_error l G N a_this a_this_s a_this_kept a_this_errors a_this_step a_this_named a_this_pile a_this_told a_this_beside1 a_this_row a_this_best a_this_worthOf a_this_trace a_this_bits a_this_sizes a_this_number a_this_aside (1 : Int32) this_images this_at this_open this_steps this_use this_bestNet this_bestMore this_leastApart this_found this_first this_leastPaid this_traced this_speaks this_isParted this_errors r9 hr9) (kcV 1 hts tw_1087 tw_92 tw_1084 tw_1086 tw_43 hd_X12_error ⟨Nat.le_of_ble_eq_true rfl, Nat.le_of_ble_eq_true rfl⟩) dX12_thingIs_18 hl.1 hK hAm hA hP hD hS 0 (ci := 12) rfl rfl rfl [0, 1] rfl rfl rfl [1] rfl rfl rfl (Nat.le_of_ble_eq_true rfl) ⟨Nat.le_refl _, Nat.le_refl _⟩ (fun H locs hP hD hS => ?_)
      have hP : va_P (gD G) vwCl (k_X12_thingIs G a_this a_this_s a_this_kept a_this_errors a_this_step a_this_named a_this_pile a_this_told a_this_beside1 a_this_row a_this_best a_this_worthOf a_this_trace a_this_bits a_this_sizes a_this_number a_this_aside this_images this_at this_open this_steps this_use this_bestNet this_bestMore this_leastApart this_found this_first this_leastPaid this_traced this_speaks this_isParted r9.2 this_named this_pile this_s) H := hP
      have hD : va_D A (k_X12_thingIs G a_this a_this_s a_this_kept a_this_errors a_this_step a_this_named a_this_pile a_this_told a_this_beside1 a_this_row a_this_best a_this_worthOf a_this_trace a_this_bits a_this_sizes a_this_number a_this_aside this_images this_at this_open this_steps this_use this_bestNet this_bestMore this_leastApart this_found this_first this_leastPaid this_traced this_speaks this_isParted r9.2 this_named this_pile this_s) := hD
      have ho := ks hf
      subst ho
      exact kiret hx hb hr hlk hP hD hS hQ dX12_thingIs_21
abbrev k_X12_till (G : KG) (a_this : Nat) (a_this_s : Nat) (a_this_kept : Nat) (a_this_errors : Nat) (a_this_step : Nat) (a_this_named : Nat) (a_this_pile : Nat) (a_this_told : Nat) (a_this_beside1 : Nat) (a_this_row : Nat) (a_this_best : Nat) (a_this_worthOf : Nat) (a_this_trace : Nat) (a_this_bits : Nat) (a_this_sizes : Nat) (a_this_number : Nat) (a_this_aside : Nat) (this_images : Int32) (this_at : Int32) (this_open : Int32) (this_steps : Int32) (this_use : Int32) (this_bestNet : Int32) (this_bestMore : Int32) (this_leastApart : Int32) (this_found : Int32) (this_first : Int32) (this_leastPaid : Int32) (this_traced : Int32) (this_speaks : Int32) (this_isParted : Int32) (this_errors : Nat → Int32) (this_s : Nat → Int32) : va_W := [(a_this, .inr (12, [.ref a_this_s, .ref a_this_kept, .int this_images, .ref a_this_errors, .int this_at, .int this_open, .int this_steps, .int this_use, .ref a_this_step, .ref a_this_named, .ref a_this_pile, .ref a_this_told, .ref a_this_beside1, .ref a_this_row, .ref a_this_best, .int this_bestNet, .int this_bestMore, .ref a_this_worthOf, .int this_leastApart, .int this_found, .int this_first, .int this_leastPaid, .ref a_this_trace, .int this_traced, .int this_speaks, .int this_isParted, .ref a_this_bits, .ref a_this_sizes, .ref a_this_number, .ref a_this_aside])), (a_this_errors, .inl (gI G, 7, .inl this_errors)), (a_this_s, .inl (gI G, 374, .inl this_s))]
def f_X12_till (N : Nat) (p0 : Int32) (p1 : Int32) (this_errors : Nat → Int32) (this_s : Nat → Int32) : Option (Int32 × (Nat → Int32) × (Nat → Int32)) := ((f_X12_isTill N p0).bind fun r1 => (if r1 = 0 then ((f_X12_error N (1 : Int32) this_errors).bind fun r3 => (some (r3.1, r3.2, this_s))) else ((f_X12_in N p1 (0 : Int32) (69 : Int32)).bind fun r4 => (if r4 = 0 then ((f_X12_error N (1 : Int32) this_errors).bind fun r10 => (some (r10.1, r10.2, this_s))) else ((f_X12_kindOf N p0 this_s).bind fun r6 => ((f_X12_mOf N p0 this_s).bind fun r7 => (if vin ((32 : Int32) + ((2 : Int32) * p0)) 374 = true then (if vin (((32 : Int32) + ((2 : Int32) * p0)) + (1 : Int32)) 374 = true then (some ((((10 : Int32) * r6) + r7), this_errors, (upd (upd this_s ((32 : Int32) + ((2 : Int32) * p0)).toNatClampNeg (p1 / (10 : Int32))) (((32 : Int32) + ((2 : Int32) * p0)) + (1 : Int32)).toNatClampNeg (p1 - p1 / (10 : Int32) * (10 : Int32))))) else none) else none)))))))
set_option maxRecDepth 100000 in
set_option maxHeartbeats 4000000 in
theorem c_X12_till (l : Launch) (G : KG) (N : Nat) (a_this : Nat) (a_this_s : Nat) (a_this_kept : Nat) (a_this_errors : Nat) (a_this_step : Nat) (a_this_named : Nat) (a_this_pile : Nat) (a_this_told : Nat) (a_this_beside1 : Nat) (a_this_row : Nat) (a_this_best : Nat) (a_this_worthOf : Nat) (a_this_trace : Nat) (a_this_bits : Nat) (a_this_sizes : Nat) (a_this_number : Nat) (a_this_aside : Nat) (p0 : Int32) (p1 : Int32) (this_images : Int32) (this_at : Int32) (this_open : Int32) (this_steps : Int32) (this_use : Int32) (this_bestNet : Int32) (this_bestMore : Int32) (this_leastApart : Int32) (this_found : Int32) (this_first : Int32) (this_leastPaid : Int32) (this_traced : Int32) (this_speaks : Int32) (this_isParted : Int32) (this_errors : Nat → Int32) (this_s : Nat → Int32)  (out : Int32 × (Nat → Int32) × (Nat → Int32)) (hf : f_X12_till N p0 p1 this_errors this_s = some out) : KM l G yX12_till (kw yX12_till cX12_till 4 (some .int)) 2 42 [.ref a_this, .int p0, .int p1] (k_X12_till G a_this a_this_s a_this_kept a_this_errors a_this_step a_this_named a_this_pile a_this_told a_this_beside1 a_this_row a_this_best a_this_worthOf a_this_trace a_this_bits a_this_sizes a_this_number a_this_aside this_images this_at this_open this_steps this_use this_bestNet this_bestMore this_leastApart this_found this_first this_leastPaid this_traced this_speaks this_isParted this_errors this_s) (k_X12_till G a_this a_this_s a_this_kept a_this_errors a_this_step a_this_named a_this_pile a_this_told a_this_beside1 a_this_row a_this_best a_this_worthOf a_this_trace a_this_bits a_this_sizes a_this_number a_this_aside this_images this_at this_open this_steps this_use this_bestNet this_bestMore this_leastApart this_found this_first this_leastPaid this_traced this_speaks this_isParted (out.2.1) (out.2.2)) (some (.int (out.1))) := by
  refine KM.of (by decide) (Nat.le_of_ble_eq_true rfl) ?_
  intro p e s m below meth c A ls args Q Fx0 hP hK hD hA hS hAm hQ hl
  obtain ⟨hx, hb, hr, hml, hts, hown, hlk, hnm⟩ := Fx0
  have hown : s.vm.findClass RX12 = some m.cls := hown
  have hl : lv_has ls 4 [(0, .ref a_this), (1, .int p0), (2, .int p1)] := hl
  have fl_7 := hts _ tw_986
  unfold f_X12_till at hf
  refine lv_iload_n hx hb dX12_till_0 rfl (lv_at hl 1 rfl) ?_
  obtain ⟨r1, hr1, hf⟩ := kb hf
  refine kS (As := [.int p0]) (rest := []) ⟨hx, hb, hml, hown, hts⟩ (c_X12_isTill l G N p0 r1 hr1) (kcS 1 hts tw_1177 tw_92 tw_1175 tw_1176 hd_X12_isTill ⟨Nat.le_of_ble_eq_true rfl, Nat.le_of_ble_eq_true rfl⟩) dX12_till_1 hl.1 hK hAm hA hP hD hS [] rfl rfl rfl [] rfl rfl rfl (Nat.le_of_ble_eq_true rfl) ⟨Nat.le_refl _, Nat.le_refl _⟩ (fun H locs hP hD hS => ?_)
  have hP : va_P (gD G) vwCl (k_X12_till G a_this a_this_s a_this_kept a_this_errors a_this_step a_this_named a_this_pile a_this_told a_this_beside1 a_this_row a_this_best a_this_worthOf a_this_trace a_this_bits a_this_sizes a_this_number a_this_aside this_images this_at this_open this_steps this_use this_bestNet this_bestMore this_leastApart this_found this_first this_leastPaid this_traced this_speaks this_isParted this_errors this_s) H := hP
  have hD : va_D A (k_X12_till G a_this a_this_s a_this_kept a_this_errors a_this_step a_this_named a_this_pile a_this_told a_this_beside1 a_this_row a_this_best a_this_worthOf a_this_trace a_this_bits a_this_sizes a_this_number a_this_aside this_images this_at this_open this_steps this_use this_bestNet this_bestMore this_leastApart this_found this_first this_leastPaid this_traced this_speaks this_isParted this_errors this_s) := hD
  refine lv_if_eq (tgt := 17) hx hb dX12_till_4 (by decide) (fun c2 => ?_) (fun c2 => ?_)
  · replace hf := kt c2 hf
    refine lv_aload_n hx hb dX12_till_17 rfl (lv_at hl 0 rfl) ?_
    refine lv_iconst (v := (1 : Int32)) hx hb dX12_till_18 (by decide) ?_
    obtain ⟨r3, hr3, hf⟩ := kb hf
    refine kV (As := [.int (1 : Int32)]) (rest := []) ⟨hx, hb, hml, hown, hts⟩ (c_X12_error l G N a_this a_this_s a_this_kept a_this_errors a_this_step a_this_named a_this_pile a_this_told a_this_beside1 a_this_row a_this_best a_this_worthOf a_this_trace a_this_bits a_this_sizes a_this_number a_this_aside (1 : Int32) this_images this_at this_open this_steps this_use this_bestNet this_bestMore this_leastApart this_found this_first this_leastPaid this_traced this_speaks this_isParted this_errors r3 hr3) (kcV 1 hts tw_1087 tw_92 tw_1084 tw_1086 tw_43 hd_X12_error ⟨Nat.le_of_ble_eq_true rfl, Nat.le_of_ble_eq_true rfl⟩) dX12_till_19 hl.1 hK hAm hA hP hD hS 0 (ci := 12) rfl rfl rfl [0, 1] rfl rfl rfl [1] rfl rfl rfl (Nat.le_of_ble_eq_true rfl) ⟨Nat.le_refl _, Nat.le_refl _⟩ (fun H locs hP hD hS => ?_)
    have hP : va_P (gD G) vwCl (k_X12_till G a_this a_this_s a_this_kept a_this_errors a_this_step a_this_named a_this_pile a_this_told a_this_beside1 a_this_row a_this_best a_this_worthOf a_this_trace a_this_bits a_this_sizes a_this_number a_this_aside this_images this_at this_open this_steps this_use this_bestNet this_bestMore this_leastApart this_found this_first this_leastPaid this_traced this_speaks this_isParted r3.2 this_s) H := hP
    have hD : va_D A (k_X12_till G a_this a_this_s a_this_kept a_this_errors a_this_step a_this_named a_this_pile a_this_told a_this_beside1 a_this_row a_this_best a_this_worthOf a_this_trace a_this_bits a_this_sizes a_this_number a_this_aside this_images this_at this_open this_steps this_use this_bestNet this_bestMore this_leastApart this_found this_first this_leastPaid this_traced this_speaks this_isParted r3.2 this_s) := hD
    have ho := ks hf
    subst ho
    exact kiret hx hb hr hlk hP hD hS hQ dX12_till_22
  · replace hf := kf c2 hf
    refine lv_iload_n hx hb dX12_till_7 rfl (lv_at hl 2 rfl) ?_
    refine lv_iconst (v := (0 : Int32)) hx hb dX12_till_8 (by decide) ?_
    refine lv_bipush (v := (69 : Int32)) hx hb dX12_till_9 (by decide) ?_
    obtain ⟨r4, hr4, hf⟩ := kb hf
    refine kS (As := [.int p1, .int (0 : Int32), .int (69 : Int32)]) (rest := []) ⟨hx, hb, hml, hown, hts⟩ (c_X12_in l G N p1 (0 : Int32) (69 : Int32) r4 hr4) (kcS 3 hts tw_1083 tw_92 tw_1081 tw_1082 hd_X12_in ⟨Nat.le_of_ble_eq_true rfl, Nat.le_of_ble_eq_true rfl⟩) dX12_till_11 hl.1 hK hAm hA hP hD hS [] rfl rfl rfl [] rfl rfl rfl (Nat.le_of_ble_eq_true rfl) ⟨Nat.le_refl _, Nat.le_refl _⟩ (fun H locs hP hD hS => ?_)
    have hP : va_P (gD G) vwCl (k_X12_till G a_this a_this_s a_this_kept a_this_errors a_this_step a_this_named a_this_pile a_this_told a_this_beside1 a_this_row a_this_best a_this_worthOf a_this_trace a_this_bits a_this_sizes a_this_number a_this_aside this_images this_at this_open this_steps this_use this_bestNet this_bestMore this_leastApart this_found this_first this_leastPaid this_traced this_speaks this_isParted this_errors this_s) H := hP
    have hD : va_D A (k_X12_till G a_this a_this_s a_this_kept a_this_errors a_this_step a_this_named a_this_pile a_this_told a_this_beside1 a_this_row a_this_best a_this_worthOf a_this_trace a_this_bits a_this_sizes a_this_number a_this_aside this_images this_at this_open this_steps this_use this_bestNet this_bestMore this_leastApart this_found this_first this_leastPaid this_traced this_speaks this_isParted this_errors this_s) := hD
    refine lv_if_ne (tgt := 23) hx hb dX12_till_14 (by decide) (fun c5 => ?_) (fun c5 => ?_)
    · replace hf := kf c5 hf
      refine lv_bipush (v := (10 : Int32)) hx hb dX12_till_23 (by decide) ?_
      refine lv_aload_n hx hb dX12_till_25 rfl (lv_at hl 0 rfl) ?_
      refine lv_iload_n hx hb dX12_till_26 rfl (lv_at hl 1 rfl) ?_
      obtain ⟨r6, hr6, hf⟩ := kb hf
      refine kV (As := [.int p0]) (rest := [.int (10 : Int32)]) ⟨hx, hb, hml, hown, hts⟩ (c_X12_kindOf l G N a_this a_this_s a_this_kept a_this_errors a_this_step a_this_named a_this_pile a_this_told a_this_beside1 a_this_row a_this_best a_this_worthOf a_this_trace a_this_bits a_this_sizes a_this_number a_this_aside p0 this_images this_at this_open this_steps this_use this_bestNet this_bestMore this_leastApart this_found this_first this_leastPaid this_traced this_speaks this_isParted this_s r6 hr6) (kcV 1 hts tw_1181 tw_92 tw_1178 tw_1180 tw_58 hd_X12_kindOf ⟨Nat.le_of_ble_eq_true rfl, Nat.le_of_ble_eq_true rfl⟩) dX12_till_27 hl.1 hK hAm hA hP hD hS 0 (ci := 12) rfl rfl rfl [0, 2] rfl rfl rfl [] rfl rfl rfl (Nat.le_of_ble_eq_true rfl) ⟨Nat.le_refl _, Nat.le_refl _⟩ (fun H locs hP hD hS => ?_)
      have hP : va_P (gD G) vwCl (k_X12_till G a_this a_this_s a_this_kept a_this_errors a_this_step a_this_named a_this_pile a_this_told a_this_beside1 a_this_row a_this_best a_this_worthOf a_this_trace a_this_bits a_this_sizes a_this_number a_this_aside this_images this_at this_open this_steps this_use this_bestNet this_bestMore this_leastApart this_found this_first this_leastPaid this_traced this_speaks this_isParted this_errors this_s) H := hP
      have hD : va_D A (k_X12_till G a_this a_this_s a_this_kept a_this_errors a_this_step a_this_named a_this_pile a_this_told a_this_beside1 a_this_row a_this_best a_this_worthOf a_this_trace a_this_bits a_this_sizes a_this_number a_this_aside this_images this_at this_open this_steps this_use this_bestNet this_bestMore this_leastApart this_found this_first this_leastPaid this_traced this_speaks this_isParted this_errors this_s) := hD
      refine lv_imul hx hb dX12_till_30 ?_
      refine lv_aload_n hx hb dX12_till_31 rfl (lv_at hl 0 rfl) ?_
      refine lv_iload_n hx hb dX12_till_32 rfl (lv_at hl 1 rfl) ?_
      obtain ⟨r7, hr7, hf⟩ := kb hf
      refine kV (As := [.int p0]) (rest := [.int ((10 : Int32) * r6)]) ⟨hx, hb, hml, hown, hts⟩ (c_X12_mOf l G N a_this a_this_s a_this_kept a_this_errors a_this_step a_this_named a_this_pile a_this_told a_this_beside1 a_this_row a_this_best a_this_worthOf a_this_trace a_this_bits a_this_sizes a_this_number a_this_aside p0 this_images this_at this_open this_steps this_use this_bestNet this_bestMore this_leastApart this_found this_first this_leastPaid this_traced this_speaks this_isParted this_s r7 hr7) (kcV 1 hts tw_1185 tw_92 tw_1182 tw_1184 tw_59 hd_X12_mOf ⟨Nat.le_of_ble_eq_true rfl, Nat.le_of_ble_eq_true rfl⟩) dX12_till_33 hl.1 hK hAm hA hP hD hS 0 (ci := 12) rfl rfl rfl [0, 2] rfl rfl rfl [] rfl rfl rfl (Nat.le_of_ble_eq_true rfl) ⟨Nat.le_refl _, Nat.le_refl _⟩ (fun H locs hP hD hS => ?_)
      have hP : va_P (gD G) vwCl (k_X12_till G a_this a_this_s a_this_kept a_this_errors a_this_step a_this_named a_this_pile a_this_told a_this_beside1 a_this_row a_this_best a_this_worthOf a_this_trace a_this_bits a_this_sizes a_this_number a_this_aside this_images this_at this_open this_steps this_use this_bestNet this_bestMore this_leastApart this_found this_first this_leastPaid this_traced this_speaks this_isParted this_errors this_s) H := hP
      have hD : va_D A (k_X12_till G a_this a_this_s a_this_kept a_this_errors a_this_step a_this_named a_this_pile a_this_told a_this_beside1 a_this_row a_this_best a_this_worthOf a_this_trace a_this_bits a_this_sizes a_this_number a_this_aside this_images this_at this_open this_steps this_use this_bestNet this_bestMore this_leastApart this_found this_first this_leastPaid this_traced this_speaks this_isParted this_errors this_s) := hD
      refine lv_iadd hx hb dX12_till_36 ?_
      refine lv_istore_n (lv' := [(3, .int (((10 : Int32) * r6) + r7)), (0, .ref a_this), (1, .int p0), (2, .int p1)]) hx hb dX12_till_37 rfl hl (by decide) rfl (fun ls hl => ?_)
      refine lv_aload_n hx hb dX12_till_38 rfl (lv_at hl 1 rfl) ?_
      refine va_get (D := gD G) (ci := 12) (C := RX12) (T := TX12) (N := 30) hx hb hts hin_X12 hown hK hP 0 rfl rfl 0 (by decide) fl_7 (fun _ h9 => h9) rfl dX12_till_39 ?_
      refine lv_bipush (v := (32 : Int32)) hx hb dX12_till_42 (by decide) ?_
      refine lv_iconst (v := (2 : Int32)) hx hb dX12_till_44 (by decide) ?_
      refine lv_iload_n hx hb dX12_till_45 rfl (lv_at hl 2 rfl) ?_
      refine lv_imul hx hb dX12_till_46 ?_
      refine lv_iadd hx hb dX12_till_47 ?_
      refine lv_iload_n hx hb dX12_till_48 rfl (lv_at hl 3 rfl) ?_
      refine lv_bipush (v := (10 : Int32)) hx hb dX12_till_49 (by decide) ?_
      refine lv_idiv hx hb dX12_till_51 (by decide) ?_
      obtain ⟨g8, hf⟩ := kg hf
      refine va_iast hx hb hK hP hD hS 2 0 rfl rfl (vin_of g8) dX12_till_52 (fun H locs hP hD hS => ?_)
      have hP : va_P (gD G) vwCl (k_X12_till G a_this a_this_s a_this_kept a_this_errors a_this_step a_this_named a_this_pile a_this_told a_this_beside1 a_this_row a_this_best a_this_worthOf a_this_trace a_this_bits a_this_sizes a_this_number a_this_aside this_images this_at this_open this_steps this_use this_bestNet this_bestMore this_leastApart this_found this_first this_leastPaid this_traced this_speaks this_isParted this_errors (upd this_s ((32 : Int32) + ((2 : Int32) * p0)).toNatClampNeg (p1 / (10 : Int32)))) H := hP
      have hD : va_D A (k_X12_till G a_this a_this_s a_this_kept a_this_errors a_this_step a_this_named a_this_pile a_this_told a_this_beside1 a_this_row a_this_best a_this_worthOf a_this_trace a_this_bits a_this_sizes a_this_number a_this_aside this_images this_at this_open this_steps this_use this_bestNet this_bestMore this_leastApart this_found this_first this_leastPaid this_traced this_speaks this_isParted this_errors (upd this_s ((32 : Int32) + ((2 : Int32) * p0)).toNatClampNeg (p1 / (10 : Int32)))) := hD
      refine lv_aload_n hx hb dX12_till_53 rfl (lv_at hl 1 rfl) ?_
      refine va_get (D := gD G) (ci := 12) (C := RX12) (T := TX12) (N := 30) hx hb hts hin_X12 hown hK hP 0 rfl rfl 0 (by decide) fl_7 (fun _ h9 => h9) rfl dX12_till_54 ?_
      refine lv_bipush (v := (32 : Int32)) hx hb dX12_till_57 (by decide) ?_
      refine lv_iconst (v := (2 : Int32)) hx hb dX12_till_59 (by decide) ?_
      refine lv_iload_n hx hb dX12_till_60 rfl (lv_at hl 2 rfl) ?_
      refine lv_imul hx hb dX12_till_61 ?_
      refine lv_iadd hx hb dX12_till_62 ?_
      refine lv_iconst (v := (1 : Int32)) hx hb dX12_till_63 (by decide) ?_
      refine lv_iadd hx hb dX12_till_64 ?_
      refine lv_iload_n hx hb dX12_till_65 rfl (lv_at hl 3 rfl) ?_
      refine lv_bipush (v := (10 : Int32)) hx hb dX12_till_66 (by decide) ?_
      refine lv_irem hx hb dX12_till_68 (by decide) ?_
      obtain ⟨g9, hf⟩ := kg hf
      refine va_iast hx hb hK hP hD hS 2 0 rfl rfl (vin_of g9) dX12_till_69 (fun H locs hP hD hS => ?_)
      have hP : va_P (gD G) vwCl (k_X12_till G a_this a_this_s a_this_kept a_this_errors a_this_step a_this_named a_this_pile a_this_told a_this_beside1 a_this_row a_this_best a_this_worthOf a_this_trace a_this_bits a_this_sizes a_this_number a_this_aside this_images this_at this_open this_steps this_use this_bestNet this_bestMore this_leastApart this_found this_first this_leastPaid this_traced this_speaks this_isParted this_errors (upd (upd this_s ((32 : Int32) + ((2 : Int32) * p0)).toNatClampNeg (p1 / (10 : Int32))) (((32 : Int32) + ((2 : Int32) * p0)) + (1 : Int32)).toNatClampNeg (p1 - p1 / (10 : Int32) * (10 : Int32)))) H := hP
      have hD : va_D A (k_X12_till G a_this a_this_s a_this_kept a_this_errors a_this_step a_this_named a_this_pile a_this_told a_this_beside1 a_this_row a_this_best a_this_worthOf a_this_trace a_this_bits a_this_sizes a_this_number a_this_aside this_images this_at this_open this_steps this_use this_bestNet this_bestMore this_leastApart this_found this_first this_leastPaid this_traced this_speaks this_isParted this_errors (upd (upd this_s ((32 : Int32) + ((2 : Int32) * p0)).toNatClampNeg (p1 / (10 : Int32))) (((32 : Int32) + ((2 : Int32) * p0)) + (1 : Int32)).toNatClampNeg (p1 - p1 / (10 : Int32) * (10 : Int32)))) := hD
      refine lv_iload_n hx hb dX12_till_70 rfl (lv_at hl 0 rfl) ?_
      have ho := ks hf
      subst ho
      exact kiret hx hb hr hlk hP hD hS hQ dX12_till_71
    · replace hf := kt c5 hf
      refine lv_aload_n hx hb dX12_till_17 rfl (lv_at hl 0 rfl) ?_
      refine lv_iconst (v := (1 : Int32)) hx hb dX12_till_18 (by decide) ?_
      obtain ⟨r10, hr10, hf⟩ := kb hf
      refine kV (As := [.int (1 : Int32)]) (rest := []) ⟨hx, hb, hml, hown, hts⟩ (c_X12_error l G N a_this a_this_s a_this_kept a_this_errors a_this_step a_this_named a_this_pile a_this_told a_this_beside1 a_this_row a_this_best a_this_worthOf a_this_trace a_this_bits a_this_sizes a_this_number a_this_aside (1 : Int32) this_images this_at this_open this_steps this_use this_bestNet this_bestMore this_leastApart this_found this_first this_leastPaid this_traced this_speaks this_isParted this_errors r10 hr10) (kcV 1 hts tw_1087 tw_92 tw_1084 tw_1086 tw_43 hd_X12_error ⟨Nat.le_of_ble_eq_true rfl, Nat.le_of_ble_eq_true rfl⟩) dX12_till_19 hl.1 hK hAm hA hP hD hS 0 (ci := 12) rfl rfl rfl [0, 1] rfl rfl rfl [1] rfl rfl rfl (Nat.le_of_ble_eq_true rfl) ⟨Nat.le_refl _, Nat.le_refl _⟩ (fun H locs hP hD hS => ?_)
      have hP : va_P (gD G) vwCl (k_X12_till G a_this a_this_s a_this_kept a_this_errors a_this_step a_this_named a_this_pile a_this_told a_this_beside1 a_this_row a_this_best a_this_worthOf a_this_trace a_this_bits a_this_sizes a_this_number a_this_aside this_images this_at this_open this_steps this_use this_bestNet this_bestMore this_leastApart this_found this_first this_leastPaid this_traced this_speaks this_isParted r10.2 this_s) H := hP
      have hD : va_D A (k_X12_till G a_this a_this_s a_this_kept a_this_errors a_this_step a_this_named a_this_pile a_this_told a_this_beside1 a_this_row a_this_best a_this_worthOf a_this_trace a_this_bits a_this_sizes a_this_number a_this_aside this_images this_at this_open this_steps this_use this_bestNet this_bestMore this_leastApart this_found this_first this_leastPaid this_traced this_speaks this_isParted r10.2 this_s) := hD
      have ho := ks hf
      subst ho
      exact kiret hx hb hr hlk hP hD hS hQ dX12_till_22
abbrev k_X12_tillIs (G : KG) (a_this : Nat) (a_this_s : Nat) (a_this_kept : Nat) (a_this_errors : Nat) (a_this_step : Nat) (a_this_named : Nat) (a_this_pile : Nat) (a_this_told : Nat) (a_this_beside1 : Nat) (a_this_row : Nat) (a_this_best : Nat) (a_this_worthOf : Nat) (a_this_trace : Nat) (a_this_bits : Nat) (a_this_sizes : Nat) (a_this_number : Nat) (a_this_aside : Nat) (this_images : Int32) (this_at : Int32) (this_open : Int32) (this_steps : Int32) (this_use : Int32) (this_bestNet : Int32) (this_bestMore : Int32) (this_leastApart : Int32) (this_found : Int32) (this_first : Int32) (this_leastPaid : Int32) (this_traced : Int32) (this_speaks : Int32) (this_isParted : Int32) (this_errors : Nat → Int32) (this_s : Nat → Int32) : va_W := [(a_this, .inr (12, [.ref a_this_s, .ref a_this_kept, .int this_images, .ref a_this_errors, .int this_at, .int this_open, .int this_steps, .int this_use, .ref a_this_step, .ref a_this_named, .ref a_this_pile, .ref a_this_told, .ref a_this_beside1, .ref a_this_row, .ref a_this_best, .int this_bestNet, .int this_bestMore, .ref a_this_worthOf, .int this_leastApart, .int this_found, .int this_first, .int this_leastPaid, .ref a_this_trace, .int this_traced, .int this_speaks, .int this_isParted, .ref a_this_bits, .ref a_this_sizes, .ref a_this_number, .ref a_this_aside])), (a_this_errors, .inl (gI G, 7, .inl this_errors)), (a_this_s, .inl (gI G, 374, .inl this_s))]
def f_X12_tillIs (N : Nat) (p0 : Int32) (p1 : Int32) (this_errors : Nat → Int32) (this_s : Nat → Int32) : Option (Int32 × (Nat → Int32)) := ((f_X12_isTill N p0).bind fun r1 => (if r1 = 0 then ((f_X12_error N (1 : Int32) this_errors).bind fun r3 => (some (r3.1, r3.2))) else ((f_X12_in N p1 (0 : Int32) (1 : Int32)).bind fun r4 => (if r4 = 0 then ((f_X12_error N (1 : Int32) this_errors).bind fun r6 => (some (r6.1, r6.2))) else (if vin (((32 : Int32) + ((2 : Int32) * p0)) + p1) 374 = true then (some ((this_s (((32 : Int32) + ((2 : Int32) * p0)) + p1).toNatClampNeg), this_errors)) else none)))))
set_option maxRecDepth 100000 in
set_option maxHeartbeats 4000000 in
theorem c_X12_tillIs (l : Launch) (G : KG) (N : Nat) (a_this : Nat) (a_this_s : Nat) (a_this_kept : Nat) (a_this_errors : Nat) (a_this_step : Nat) (a_this_named : Nat) (a_this_pile : Nat) (a_this_told : Nat) (a_this_beside1 : Nat) (a_this_row : Nat) (a_this_best : Nat) (a_this_worthOf : Nat) (a_this_trace : Nat) (a_this_bits : Nat) (a_this_sizes : Nat) (a_this_number : Nat) (a_this_aside : Nat) (p0 : Int32) (p1 : Int32) (this_images : Int32) (this_at : Int32) (this_open : Int32) (this_steps : Int32) (this_use : Int32) (this_bestNet : Int32) (this_bestMore : Int32) (this_leastApart : Int32) (this_found : Int32) (this_first : Int32) (this_leastPaid : Int32) (this_traced : Int32) (this_speaks : Int32) (this_isParted : Int32) (this_errors : Nat → Int32) (this_s : Nat → Int32)  (out : Int32 × (Nat → Int32)) (hf : f_X12_tillIs N p0 p1 this_errors this_s = some out) : KM l G yX12_tillIs (kw yX12_tillIs cX12_tillIs 3 (some .int)) 2 42 [.ref a_this, .int p0, .int p1] (k_X12_tillIs G a_this a_this_s a_this_kept a_this_errors a_this_step a_this_named a_this_pile a_this_told a_this_beside1 a_this_row a_this_best a_this_worthOf a_this_trace a_this_bits a_this_sizes a_this_number a_this_aside this_images this_at this_open this_steps this_use this_bestNet this_bestMore this_leastApart this_found this_first this_leastPaid this_traced this_speaks this_isParted this_errors this_s) (k_X12_tillIs G a_this a_this_s a_this_kept a_this_errors a_this_step a_this_named a_this_pile a_this_told a_this_beside1 a_this_row a_this_best a_this_worthOf a_this_trace a_this_bits a_this_sizes a_this_number a_this_aside this_images this_at this_open this_steps this_use this_bestNet this_bestMore this_leastApart this_found this_first this_leastPaid this_traced this_speaks this_isParted (out.2) this_s) (some (.int (out.1))) := by
  refine KM.of (by decide) (Nat.le_of_ble_eq_true rfl) ?_
  intro p e s m below meth c A ls args Q Fx0 hP hK hD hA hS hAm hQ hl
  obtain ⟨hx, hb, hr, hml, hts, hown, hlk, hnm⟩ := Fx0
  have hown : s.vm.findClass RX12 = some m.cls := hown
  have hl : lv_has ls 3 [(0, .ref a_this), (1, .int p0), (2, .int p1)] := hl
  have fl_7 := hts _ tw_986
  unfold f_X12_tillIs at hf
  refine lv_iload_n hx hb dX12_tillIs_0 rfl (lv_at hl 1 rfl) ?_
  obtain ⟨r1, hr1, hf⟩ := kb hf
  refine kS (As := [.int p0]) (rest := []) ⟨hx, hb, hml, hown, hts⟩ (c_X12_isTill l G N p0 r1 hr1) (kcS 1 hts tw_1177 tw_92 tw_1175 tw_1176 hd_X12_isTill ⟨Nat.le_of_ble_eq_true rfl, Nat.le_of_ble_eq_true rfl⟩) dX12_tillIs_1 hl.1 hK hAm hA hP hD hS [] rfl rfl rfl [] rfl rfl rfl (Nat.le_of_ble_eq_true rfl) ⟨Nat.le_refl _, Nat.le_refl _⟩ (fun H locs hP hD hS => ?_)
  have hP : va_P (gD G) vwCl (k_X12_tillIs G a_this a_this_s a_this_kept a_this_errors a_this_step a_this_named a_this_pile a_this_told a_this_beside1 a_this_row a_this_best a_this_worthOf a_this_trace a_this_bits a_this_sizes a_this_number a_this_aside this_images this_at this_open this_steps this_use this_bestNet this_bestMore this_leastApart this_found this_first this_leastPaid this_traced this_speaks this_isParted this_errors this_s) H := hP
  have hD : va_D A (k_X12_tillIs G a_this a_this_s a_this_kept a_this_errors a_this_step a_this_named a_this_pile a_this_told a_this_beside1 a_this_row a_this_best a_this_worthOf a_this_trace a_this_bits a_this_sizes a_this_number a_this_aside this_images this_at this_open this_steps this_use this_bestNet this_bestMore this_leastApart this_found this_first this_leastPaid this_traced this_speaks this_isParted this_errors this_s) := hD
  refine lv_if_eq (tgt := 32) hx hb dX12_tillIs_4 (by decide) (fun c2 => ?_) (fun c2 => ?_)
  · replace hf := kt c2 hf
    refine lv_aload_n hx hb dX12_tillIs_32 rfl (lv_at hl 0 rfl) ?_
    refine lv_iconst (v := (1 : Int32)) hx hb dX12_tillIs_33 (by decide) ?_
    obtain ⟨r3, hr3, hf⟩ := kb hf
    refine kV (As := [.int (1 : Int32)]) (rest := []) ⟨hx, hb, hml, hown, hts⟩ (c_X12_error l G N a_this a_this_s a_this_kept a_this_errors a_this_step a_this_named a_this_pile a_this_told a_this_beside1 a_this_row a_this_best a_this_worthOf a_this_trace a_this_bits a_this_sizes a_this_number a_this_aside (1 : Int32) this_images this_at this_open this_steps this_use this_bestNet this_bestMore this_leastApart this_found this_first this_leastPaid this_traced this_speaks this_isParted this_errors r3 hr3) (kcV 1 hts tw_1087 tw_92 tw_1084 tw_1086 tw_43 hd_X12_error ⟨Nat.le_of_ble_eq_true rfl, Nat.le_of_ble_eq_true rfl⟩) dX12_tillIs_34 hl.1 hK hAm hA hP hD hS 0 (ci := 12) rfl rfl rfl [0, 1] rfl rfl rfl [1] rfl rfl rfl (Nat.le_of_ble_eq_true rfl) ⟨Nat.le_refl _, Nat.le_refl _⟩ (fun H locs hP hD hS => ?_)
    have hP : va_P (gD G) vwCl (k_X12_tillIs G a_this a_this_s a_this_kept a_this_errors a_this_step a_this_named a_this_pile a_this_told a_this_beside1 a_this_row a_this_best a_this_worthOf a_this_trace a_this_bits a_this_sizes a_this_number a_this_aside this_images this_at this_open this_steps this_use this_bestNet this_bestMore this_leastApart this_found this_first this_leastPaid this_traced this_speaks this_isParted r3.2 this_s) H := hP
    have hD : va_D A (k_X12_tillIs G a_this a_this_s a_this_kept a_this_errors a_this_step a_this_named a_this_pile a_this_told a_this_beside1 a_this_row a_this_best a_this_worthOf a_this_trace a_this_bits a_this_sizes a_this_number a_this_aside this_images this_at this_open this_steps this_use this_bestNet this_bestMore this_leastApart this_found this_first this_leastPaid this_traced this_speaks this_isParted r3.2 this_s) := hD
    have ho := ks hf
    subst ho
    exact kiret hx hb hr hlk hP hD hS hQ dX12_tillIs_37
  · replace hf := kf c2 hf
    refine lv_iload_n hx hb dX12_tillIs_7 rfl (lv_at hl 2 rfl) ?_
    refine lv_iconst (v := (0 : Int32)) hx hb dX12_tillIs_8 (by decide) ?_
    refine lv_iconst (v := (1 : Int32)) hx hb dX12_tillIs_9 (by decide) ?_
    obtain ⟨r4, hr4, hf⟩ := kb hf
    refine kS (As := [.int p1, .int (0 : Int32), .int (1 : Int32)]) (rest := []) ⟨hx, hb, hml, hown, hts⟩ (c_X12_in l G N p1 (0 : Int32) (1 : Int32) r4 hr4) (kcS 3 hts tw_1083 tw_92 tw_1081 tw_1082 hd_X12_in ⟨Nat.le_of_ble_eq_true rfl, Nat.le_of_ble_eq_true rfl⟩) dX12_tillIs_10 hl.1 hK hAm hA hP hD hS [] rfl rfl rfl [] rfl rfl rfl (Nat.le_of_ble_eq_true rfl) ⟨Nat.le_refl _, Nat.le_refl _⟩ (fun H locs hP hD hS => ?_)
    have hP : va_P (gD G) vwCl (k_X12_tillIs G a_this a_this_s a_this_kept a_this_errors a_this_step a_this_named a_this_pile a_this_told a_this_beside1 a_this_row a_this_best a_this_worthOf a_this_trace a_this_bits a_this_sizes a_this_number a_this_aside this_images this_at this_open this_steps this_use this_bestNet this_bestMore this_leastApart this_found this_first this_leastPaid this_traced this_speaks this_isParted this_errors this_s) H := hP
    have hD : va_D A (k_X12_tillIs G a_this a_this_s a_this_kept a_this_errors a_this_step a_this_named a_this_pile a_this_told a_this_beside1 a_this_row a_this_best a_this_worthOf a_this_trace a_this_bits a_this_sizes a_this_number a_this_aside this_images this_at this_open this_steps this_use this_bestNet this_bestMore this_leastApart this_found this_first this_leastPaid this_traced this_speaks this_isParted this_errors this_s) := hD
    refine lv_if_eq (tgt := 32) hx hb dX12_tillIs_13 (by decide) (fun c5 => ?_) (fun c5 => ?_)
    · replace hf := kt c5 hf
      refine lv_aload_n hx hb dX12_tillIs_32 rfl (lv_at hl 0 rfl) ?_
      refine lv_iconst (v := (1 : Int32)) hx hb dX12_tillIs_33 (by decide) ?_
      obtain ⟨r6, hr6, hf⟩ := kb hf
      refine kV (As := [.int (1 : Int32)]) (rest := []) ⟨hx, hb, hml, hown, hts⟩ (c_X12_error l G N a_this a_this_s a_this_kept a_this_errors a_this_step a_this_named a_this_pile a_this_told a_this_beside1 a_this_row a_this_best a_this_worthOf a_this_trace a_this_bits a_this_sizes a_this_number a_this_aside (1 : Int32) this_images this_at this_open this_steps this_use this_bestNet this_bestMore this_leastApart this_found this_first this_leastPaid this_traced this_speaks this_isParted this_errors r6 hr6) (kcV 1 hts tw_1087 tw_92 tw_1084 tw_1086 tw_43 hd_X12_error ⟨Nat.le_of_ble_eq_true rfl, Nat.le_of_ble_eq_true rfl⟩) dX12_tillIs_34 hl.1 hK hAm hA hP hD hS 0 (ci := 12) rfl rfl rfl [0, 1] rfl rfl rfl [1] rfl rfl rfl (Nat.le_of_ble_eq_true rfl) ⟨Nat.le_refl _, Nat.le_refl _⟩ (fun H locs hP hD hS => ?_)
      have hP : va_P (gD G) vwCl (k_X12_tillIs G a_this a_this_s a_this_kept a_this_errors a_this_step a_this_named a_this_pile a_this_told a_this_beside1 a_this_row a_this_best a_this_worthOf a_this_trace a_this_bits a_this_sizes a_this_number a_this_aside this_images this_at this_open this_steps this_use this_bestNet this_bestMore this_leastApart this_found this_first this_leastPaid this_traced this_speaks this_isParted r6.2 this_s) H := hP
      have hD : va_D A (k_X12_tillIs G a_this a_this_s a_this_kept a_this_errors a_this_step a_this_named a_this_pile a_this_told a_this_beside1 a_this_row a_this_best a_this_worthOf a_this_trace a_this_bits a_this_sizes a_this_number a_this_aside this_images this_at this_open this_steps this_use this_bestNet this_bestMore this_leastApart this_found this_first this_leastPaid this_traced this_speaks this_isParted r6.2 this_s) := hD
      have ho := ks hf
      subst ho
      exact kiret hx hb hr hlk hP hD hS hQ dX12_tillIs_37
    · replace hf := kf c5 hf
      refine lv_aload_n hx hb dX12_tillIs_16 rfl (lv_at hl 0 rfl) ?_
      refine va_get (D := gD G) (ci := 12) (C := RX12) (T := TX12) (N := 30) hx hb hts hin_X12 hown hK hP 0 rfl rfl 0 (by decide) fl_7 (fun _ h9 => h9) rfl dX12_tillIs_17 ?_
      refine lv_bipush (v := (32 : Int32)) hx hb dX12_tillIs_20 (by decide) ?_
      refine lv_iconst (v := (2 : Int32)) hx hb dX12_tillIs_22 (by decide) ?_
      refine lv_iload_n hx hb dX12_tillIs_23 rfl (lv_at hl 1 rfl) ?_
      refine lv_imul hx hb dX12_tillIs_24 ?_
      refine lv_iadd hx hb dX12_tillIs_25 ?_
      refine lv_iload_n hx hb dX12_tillIs_26 rfl (lv_at hl 2 rfl) ?_
      refine lv_iadd hx hb dX12_tillIs_27 ?_
      obtain ⟨g7, hf⟩ := kg hf
      refine va_iald hx hb hK hP 2 0 rfl rfl (vin_of g7) dX12_tillIs_28 ?_
      refine lv_goto (tgt := 37) hx hb dX12_tillIs_29 (by decide) ?_
      have ho := ks hf
      subst ho
      exact kiret hx hb hr hlk hP hD hS hQ dX12_tillIs_37
abbrev k_X12_isUnder (G : KG) : va_W := []
def f_X12_isUnder (N : Nat) (p0 : Int32) (p1 : Int32) : Option (Int32) := (if p1 = 0 then (some (1 : Int32)) else (if p0 = p1 then (some (1 : Int32)) else (if p1 = (2 : Int32) then (if p0 = (4 : Int32) then (some (1 : Int32)) else (if p1 = (1 : Int32) then (if p0 = (5 : Int32) then (some (1 : Int32)) else (some (0 : Int32))) else (some (0 : Int32)))) else (if p1 = (1 : Int32) then (if p0 = (5 : Int32) then (some (1 : Int32)) else (some (0 : Int32))) else (some (0 : Int32))))))
set_option maxRecDepth 100000 in
set_option maxHeartbeats 4000000 in
theorem c_X12_isUnder (l : Launch) (G : KG) (N : Nat) (p0 : Int32) (p1 : Int32)  (out : Int32) (hf : f_X12_isUnder N p0 p1 = some out) : KM l G yX12_isUnder (kw yX12_isUnder cX12_isUnder 2 (some .boolean)) 0 0 [.int p0, .int p1] (k_X12_isUnder G) (k_X12_isUnder G) (some (.int out)) := by
  refine KM.of (by decide) (Nat.le_of_ble_eq_true rfl) ?_
  intro p e s m below meth c A ls args Q Fx0 hP hK hD hA hS hAm hQ hl
  obtain ⟨hx, hb, hr, hml, hts, hown, hlk, hnm⟩ := Fx0
  have hown : s.vm.findClass RX12 = some m.cls := hown
  have hl : lv_has ls 2 [(0, .int p0), (1, .int p1)] := hl
  unfold f_X12_isUnder at hf
  refine lv_iload_n hx hb dX12_isUnder_0 rfl (lv_at hl 1 rfl) ?_
  refine lv_if_eq (tgt := 29) hx hb dX12_isUnder_1 (by decide) (fun c1 => ?_) (fun c1 => ?_)
  · replace hf := kt c1 hf
    refine lv_iconst (v := (1 : Int32)) hx hb dX12_isUnder_29 (by decide) ?_
    refine lv_goto (tgt := 34) hx hb dX12_isUnder_30 (by decide) ?_
    have ho := ks hf
    subst ho
    exact kzret hx hb hr (Or.inr rfl) hlk hP hD hS hQ dX12_isUnder_34
  · replace hf := kf c1 hf
    refine lv_iload_n hx hb dX12_isUnder_4 rfl (lv_at hl 0 rfl) ?_
    refine lv_iload_n hx hb dX12_isUnder_5 rfl (lv_at hl 1 rfl) ?_
    refine lv_icmp_eq (tgt := 29) hx hb dX12_isUnder_6 (by decide) (fun c2 => ?_) (fun c2 => ?_)
    · replace hf := kt c2 hf
      refine lv_iconst (v := (1 : Int32)) hx hb dX12_isUnder_29 (by decide) ?_
      refine lv_goto (tgt := 34) hx hb dX12_isUnder_30 (by decide) ?_
      have ho := ks hf
      subst ho
      exact kzret hx hb hr (Or.inr rfl) hlk hP hD hS hQ dX12_isUnder_34
    · replace hf := kf c2 hf
      refine lv_iload_n hx hb dX12_isUnder_9 rfl (lv_at hl 1 rfl) ?_
      refine lv_iconst (v := (2 : Int32)) hx hb dX12_isUnder_10 (by decide) ?_
      refine lv_icmp_ne (tgt := 19) hx hb dX12_isUnder_11 (by decide) (fun c3 => ?_) (fun c3 => ?_)
      · replace hf := kf c3 hf
        refine lv_iload_n hx hb dX12_isUnder_19 rfl (lv_at hl 1 rfl) ?_
        refine lv_iconst (v := (1 : Int32)) hx hb dX12_isUnder_20 (by decide) ?_
        refine lv_icmp_ne (tgt := 33) hx hb dX12_isUnder_21 (by decide) (fun c4 => ?_) (fun c4 => ?_)
        · replace hf := kf c4 hf
          refine lv_iconst (v := (0 : Int32)) hx hb dX12_isUnder_33 (by decide) ?_
          have ho := ks hf
          subst ho
          exact kzret hx hb hr (Or.inl rfl) hlk hP hD hS hQ dX12_isUnder_34
        · replace hf := kt c4 hf
          refine lv_iload_n hx hb dX12_isUnder_24 rfl (lv_at hl 0 rfl) ?_
          refine lv_iconst (v := (5 : Int32)) hx hb dX12_isUnder_25 (by decide) ?_
          refine lv_icmp_ne (tgt := 33) hx hb dX12_isUnder_26 (by decide) (fun c5 => ?_) (fun c5 => ?_)
          · replace hf := kf c5 hf
            refine lv_iconst (v := (0 : Int32)) hx hb dX12_isUnder_33 (by decide) ?_
            have ho := ks hf
            subst ho
            exact kzret hx hb hr (Or.inl rfl) hlk hP hD hS hQ dX12_isUnder_34
          · replace hf := kt c5 hf
            refine lv_iconst (v := (1 : Int32)) hx hb dX12_isUnder_29 (by decide) ?_
            refine lv_goto (tgt := 34) hx hb dX12_isUnder_30 (by decide) ?_
            have ho := ks hf
            subst ho
            exact kzret hx hb hr (Or.inr rfl) hlk hP hD hS hQ dX12_isUnder_34
      · replace hf := kt c3 hf
        refine lv_iload_n hx hb dX12_isUnder_14 rfl (lv_at hl 0 rfl) ?_
        refine lv_iconst (v := (4 : Int32)) hx hb dX12_isUnder_15 (by decide) ?_
        refine lv_icmp_eq (tgt := 29) hx hb dX12_isUnder_16 (by decide) (fun c6 => ?_) (fun c6 => ?_)
        · replace hf := kt c6 hf
          refine lv_iconst (v := (1 : Int32)) hx hb dX12_isUnder_29 (by decide) ?_
          refine lv_goto (tgt := 34) hx hb dX12_isUnder_30 (by decide) ?_
          have ho := ks hf
          subst ho
          exact kzret hx hb hr (Or.inr rfl) hlk hP hD hS hQ dX12_isUnder_34
        · replace hf := kf c6 hf
          refine lv_iload_n hx hb dX12_isUnder_19 rfl (lv_at hl 1 rfl) ?_
          refine lv_iconst (v := (1 : Int32)) hx hb dX12_isUnder_20 (by decide) ?_
          refine lv_icmp_ne (tgt := 33) hx hb dX12_isUnder_21 (by decide) (fun c7 => ?_) (fun c7 => ?_)
          · replace hf := kf c7 hf
            refine lv_iconst (v := (0 : Int32)) hx hb dX12_isUnder_33 (by decide) ?_
            have ho := ks hf
            subst ho
            exact kzret hx hb hr (Or.inl rfl) hlk hP hD hS hQ dX12_isUnder_34
          · replace hf := kt c7 hf
            refine lv_iload_n hx hb dX12_isUnder_24 rfl (lv_at hl 0 rfl) ?_
            refine lv_iconst (v := (5 : Int32)) hx hb dX12_isUnder_25 (by decide) ?_
            refine lv_icmp_ne (tgt := 33) hx hb dX12_isUnder_26 (by decide) (fun c8 => ?_) (fun c8 => ?_)
            · replace hf := kf c8 hf
              refine lv_iconst (v := (0 : Int32)) hx hb dX12_isUnder_33 (by decide) ?_
              have ho := ks hf
              subst ho
              exact kzret hx hb hr (Or.inl rfl) hlk hP hD hS hQ dX12_isUnder_34
            · replace hf := kt c8 hf
              refine lv_iconst (v := (1 : Int32)) hx hb dX12_isUnder_29 (by decide) ?_
              refine lv_goto (tgt := 34) hx hb dX12_isUnder_30 (by decide) ?_
              have ho := ks hf
              subst ho
              exact kzret hx hb hr (Or.inr rfl) hlk hP hD hS hQ dX12_isUnder_34
abbrev k_X12_as (G : KG) (a_this : Nat) (a_this_s : Nat) (a_this_kept : Nat) (a_this_errors : Nat) (a_this_step : Nat) (a_this_named : Nat) (a_this_pile : Nat) (a_this_told : Nat) (a_this_beside1 : Nat) (a_this_row : Nat) (a_this_best : Nat) (a_this_worthOf : Nat) (a_this_trace : Nat) (a_this_bits : Nat) (a_this_sizes : Nat) (a_this_number : Nat) (a_this_aside : Nat) (this_images : Int32) (this_at : Int32) (this_open : Int32) (this_steps : Int32) (this_use : Int32) (this_bestNet : Int32) (this_bestMore : Int32) (this_leastApart : Int32) (this_found : Int32) (this_first : Int32) (this_leastPaid : Int32) (this_traced : Int32) (this_speaks : Int32) (this_isParted : Int32) (this_errors : Nat → Int32) (this_s : Nat → Int32) : va_W := [(a_this, .inr (12, [.ref a_this_s, .ref a_this_kept, .int this_images, .ref a_this_errors, .int this_at, .int this_open, .int this_steps, .int this_use, .ref a_this_step, .ref a_this_named, .ref a_this_pile, .ref a_this_told, .ref a_this_beside1, .ref a_this_row, .ref a_this_best, .int this_bestNet, .int this_bestMore, .ref a_this_worthOf, .int this_leastApart, .int this_found, .int this_first, .int this_leastPaid, .ref a_this_trace, .int this_traced, .int this_speaks, .int this_isParted, .ref a_this_bits, .ref a_this_sizes, .ref a_this_number, .ref a_this_aside])), (a_this_errors, .inl (gI G, 7, .inl this_errors)), (a_this_s, .inl (gI G, 374, .inl this_s))]
def f_X12_as (N : Nat) (p0 : Int32) (p1 : Int32) (this_errors : Nat → Int32) (this_s : Nat → Int32) : Option (Int32 × (Nat → Int32)) := ((f_X12_isTill N p0).bind fun r1 => (if r1 = 0 then ((f_X12_error N (1 : Int32) this_errors).bind fun r3 => (some (r3.1, r3.2))) else ((f_X12_in N p1 (0 : Int32) (6 : Int32)).bind fun r4 => (if r4 = 0 then ((f_X12_error N (1 : Int32) this_errors).bind fun r11 => (some (r11.1, r11.2))) else ((f_X12_kindOf N p0 this_s).bind fun r6 => ((f_X12_isUnder N r6 p1).bind fun r7 => (if r7 = 0 then ((f_X12_error N (5 : Int32) this_errors).bind fun r9 => (some (r9.1, r9.2))) else ((f_X12_mOf N p0 this_s).bind fun r10 => (some (r10, this_errors))))))))))
set_option maxRecDepth 100000 in
set_option maxHeartbeats 4000000 in
theorem c_X12_as (l : Launch) (G : KG) (N : Nat) (a_this : Nat) (a_this_s : Nat) (a_this_kept : Nat) (a_this_errors : Nat) (a_this_step : Nat) (a_this_named : Nat) (a_this_pile : Nat) (a_this_told : Nat) (a_this_beside1 : Nat) (a_this_row : Nat) (a_this_best : Nat) (a_this_worthOf : Nat) (a_this_trace : Nat) (a_this_bits : Nat) (a_this_sizes : Nat) (a_this_number : Nat) (a_this_aside : Nat) (p0 : Int32) (p1 : Int32) (this_images : Int32) (this_at : Int32) (this_open : Int32) (this_steps : Int32) (this_use : Int32) (this_bestNet : Int32) (this_bestMore : Int32) (this_leastApart : Int32) (this_found : Int32) (this_first : Int32) (this_leastPaid : Int32) (this_traced : Int32) (this_speaks : Int32) (this_isParted : Int32) (this_errors : Nat → Int32) (this_s : Nat → Int32)  (out : Int32 × (Nat → Int32)) (hf : f_X12_as N p0 p1 this_errors this_s = some out) : KM l G yX12_as (kw yX12_as cX12_as 3 (some .int)) 2 42 [.ref a_this, .int p0, .int p1] (k_X12_as G a_this a_this_s a_this_kept a_this_errors a_this_step a_this_named a_this_pile a_this_told a_this_beside1 a_this_row a_this_best a_this_worthOf a_this_trace a_this_bits a_this_sizes a_this_number a_this_aside this_images this_at this_open this_steps this_use this_bestNet this_bestMore this_leastApart this_found this_first this_leastPaid this_traced this_speaks this_isParted this_errors this_s) (k_X12_as G a_this a_this_s a_this_kept a_this_errors a_this_step a_this_named a_this_pile a_this_told a_this_beside1 a_this_row a_this_best a_this_worthOf a_this_trace a_this_bits a_this_sizes a_this_number a_this_aside this_images this_at this_open this_steps this_use this_bestNet this_bestMore this_leastApart this_found this_first this_leastPaid this_traced this_speaks this_isParted (out.2) this_s) (some (.int (out.1))) := by
  refine KM.of (by decide) (Nat.le_of_ble_eq_true rfl) ?_
  intro p e s m below meth c A ls args Q Fx0 hP hK hD hA hS hAm hQ hl
  obtain ⟨hx, hb, hr, hml, hts, hown, hlk, hnm⟩ := Fx0
  have hown : s.vm.findClass RX12 = some m.cls := hown
  have hl : lv_has ls 3 [(0, .ref a_this), (1, .int p0), (2, .int p1)] := hl
  unfold f_X12_as at hf
  refine lv_iload_n hx hb dX12_as_0 rfl (lv_at hl 1 rfl) ?_
  obtain ⟨r1, hr1, hf⟩ := kb hf
  refine kS (As := [.int p0]) (rest := []) ⟨hx, hb, hml, hown, hts⟩ (c_X12_isTill l G N p0 r1 hr1) (kcS 1 hts tw_1177 tw_92 tw_1175 tw_1176 hd_X12_isTill ⟨Nat.le_of_ble_eq_true rfl, Nat.le_of_ble_eq_true rfl⟩) dX12_as_1 hl.1 hK hAm hA hP hD hS [] rfl rfl rfl [] rfl rfl rfl (Nat.le_of_ble_eq_true rfl) ⟨Nat.le_refl _, Nat.le_refl _⟩ (fun H locs hP hD hS => ?_)
  have hP : va_P (gD G) vwCl (k_X12_as G a_this a_this_s a_this_kept a_this_errors a_this_step a_this_named a_this_pile a_this_told a_this_beside1 a_this_row a_this_best a_this_worthOf a_this_trace a_this_bits a_this_sizes a_this_number a_this_aside this_images this_at this_open this_steps this_use this_bestNet this_bestMore this_leastApart this_found this_first this_leastPaid this_traced this_speaks this_isParted this_errors this_s) H := hP
  have hD : va_D A (k_X12_as G a_this a_this_s a_this_kept a_this_errors a_this_step a_this_named a_this_pile a_this_told a_this_beside1 a_this_row a_this_best a_this_worthOf a_this_trace a_this_bits a_this_sizes a_this_number a_this_aside this_images this_at this_open this_steps this_use this_bestNet this_bestMore this_leastApart this_found this_first this_leastPaid this_traced this_speaks this_isParted this_errors this_s) := hD
  refine lv_if_eq (tgt := 17) hx hb dX12_as_4 (by decide) (fun c2 => ?_) (fun c2 => ?_)
  · replace hf := kt c2 hf
    refine lv_aload_n hx hb dX12_as_17 rfl (lv_at hl 0 rfl) ?_
    refine lv_iconst (v := (1 : Int32)) hx hb dX12_as_18 (by decide) ?_
    obtain ⟨r3, hr3, hf⟩ := kb hf
    refine kV (As := [.int (1 : Int32)]) (rest := []) ⟨hx, hb, hml, hown, hts⟩ (c_X12_error l G N a_this a_this_s a_this_kept a_this_errors a_this_step a_this_named a_this_pile a_this_told a_this_beside1 a_this_row a_this_best a_this_worthOf a_this_trace a_this_bits a_this_sizes a_this_number a_this_aside (1 : Int32) this_images this_at this_open this_steps this_use this_bestNet this_bestMore this_leastApart this_found this_first this_leastPaid this_traced this_speaks this_isParted this_errors r3 hr3) (kcV 1 hts tw_1087 tw_92 tw_1084 tw_1086 tw_43 hd_X12_error ⟨Nat.le_of_ble_eq_true rfl, Nat.le_of_ble_eq_true rfl⟩) dX12_as_19 hl.1 hK hAm hA hP hD hS 0 (ci := 12) rfl rfl rfl [0, 1] rfl rfl rfl [1] rfl rfl rfl (Nat.le_of_ble_eq_true rfl) ⟨Nat.le_refl _, Nat.le_refl _⟩ (fun H locs hP hD hS => ?_)
    have hP : va_P (gD G) vwCl (k_X12_as G a_this a_this_s a_this_kept a_this_errors a_this_step a_this_named a_this_pile a_this_told a_this_beside1 a_this_row a_this_best a_this_worthOf a_this_trace a_this_bits a_this_sizes a_this_number a_this_aside this_images this_at this_open this_steps this_use this_bestNet this_bestMore this_leastApart this_found this_first this_leastPaid this_traced this_speaks this_isParted r3.2 this_s) H := hP
    have hD : va_D A (k_X12_as G a_this a_this_s a_this_kept a_this_errors a_this_step a_this_named a_this_pile a_this_told a_this_beside1 a_this_row a_this_best a_this_worthOf a_this_trace a_this_bits a_this_sizes a_this_number a_this_aside this_images this_at this_open this_steps this_use this_bestNet this_bestMore this_leastApart this_found this_first this_leastPaid this_traced this_speaks this_isParted r3.2 this_s) := hD
    have ho := ks hf
    subst ho
    exact kiret hx hb hr hlk hP hD hS hQ dX12_as_22
  · replace hf := kf c2 hf
    refine lv_iload_n hx hb dX12_as_7 rfl (lv_at hl 2 rfl) ?_
    refine lv_iconst (v := (0 : Int32)) hx hb dX12_as_8 (by decide) ?_
    refine lv_bipush (v := (6 : Int32)) hx hb dX12_as_9 (by decide) ?_
    obtain ⟨r4, hr4, hf⟩ := kb hf
    refine kS (As := [.int p1, .int (0 : Int32), .int (6 : Int32)]) (rest := []) ⟨hx, hb, hml, hown, hts⟩ (c_X12_in l G N p1 (0 : Int32) (6 : Int32) r4 hr4) (kcS 3 hts tw_1083 tw_92 tw_1081 tw_1082 hd_X12_in ⟨Nat.le_of_ble_eq_true rfl, Nat.le_of_ble_eq_true rfl⟩) dX12_as_11 hl.1 hK hAm hA hP hD hS [] rfl rfl rfl [] rfl rfl rfl (Nat.le_of_ble_eq_true rfl) ⟨Nat.le_refl _, Nat.le_refl _⟩ (fun H locs hP hD hS => ?_)
    have hP : va_P (gD G) vwCl (k_X12_as G a_this a_this_s a_this_kept a_this_errors a_this_step a_this_named a_this_pile a_this_told a_this_beside1 a_this_row a_this_best a_this_worthOf a_this_trace a_this_bits a_this_sizes a_this_number a_this_aside this_images this_at this_open this_steps this_use this_bestNet this_bestMore this_leastApart this_found this_first this_leastPaid this_traced this_speaks this_isParted this_errors this_s) H := hP
    have hD : va_D A (k_X12_as G a_this a_this_s a_this_kept a_this_errors a_this_step a_this_named a_this_pile a_this_told a_this_beside1 a_this_row a_this_best a_this_worthOf a_this_trace a_this_bits a_this_sizes a_this_number a_this_aside this_images this_at this_open this_steps this_use this_bestNet this_bestMore this_leastApart this_found this_first this_leastPaid this_traced this_speaks this_isParted this_errors this_s) := hD
    refine lv_if_ne (tgt := 23) hx hb dX12_as_14 (by decide) (fun c5 => ?_) (fun c5 => ?_)
    · replace hf := kf c5 hf
      refine lv_aload_n hx hb dX12_as_23 rfl (lv_at hl 0 rfl) ?_
      refine lv_iload_n hx hb dX12_as_24 rfl (lv_at hl 1 rfl) ?_
      obtain ⟨r6, hr6, hf⟩ := kb hf
      refine kV (As := [.int p0]) (rest := []) ⟨hx, hb, hml, hown, hts⟩ (c_X12_kindOf l G N a_this a_this_s a_this_kept a_this_errors a_this_step a_this_named a_this_pile a_this_told a_this_beside1 a_this_row a_this_best a_this_worthOf a_this_trace a_this_bits a_this_sizes a_this_number a_this_aside p0 this_images this_at this_open this_steps this_use this_bestNet this_bestMore this_leastApart this_found this_first this_leastPaid this_traced this_speaks this_isParted this_s r6 hr6) (kcV 1 hts tw_1181 tw_92 tw_1178 tw_1180 tw_58 hd_X12_kindOf ⟨Nat.le_of_ble_eq_true rfl, Nat.le_of_ble_eq_true rfl⟩) dX12_as_25 hl.1 hK hAm hA hP hD hS 0 (ci := 12) rfl rfl rfl [0, 2] rfl rfl rfl [] rfl rfl rfl (Nat.le_of_ble_eq_true rfl) ⟨Nat.le_refl _, Nat.le_refl _⟩ (fun H locs hP hD hS => ?_)
      have hP : va_P (gD G) vwCl (k_X12_as G a_this a_this_s a_this_kept a_this_errors a_this_step a_this_named a_this_pile a_this_told a_this_beside1 a_this_row a_this_best a_this_worthOf a_this_trace a_this_bits a_this_sizes a_this_number a_this_aside this_images this_at this_open this_steps this_use this_bestNet this_bestMore this_leastApart this_found this_first this_leastPaid this_traced this_speaks this_isParted this_errors this_s) H := hP
      have hD : va_D A (k_X12_as G a_this a_this_s a_this_kept a_this_errors a_this_step a_this_named a_this_pile a_this_told a_this_beside1 a_this_row a_this_best a_this_worthOf a_this_trace a_this_bits a_this_sizes a_this_number a_this_aside this_images this_at this_open this_steps this_use this_bestNet this_bestMore this_leastApart this_found this_first this_leastPaid this_traced this_speaks this_isParted this_errors this_s) := hD
      refine lv_iload_n hx hb dX12_as_28 rfl (lv_at hl 2 rfl) ?_
      obtain ⟨r7, hr7, hf⟩ := kb hf
      refine kS (As := [.int r6, .int p1]) (rest := []) ⟨hx, hb, hml, hown, hts⟩ (c_X12_isUnder l G N r6 p1 r7 hr7) (kcS 2 hts tw_1196 tw_92 tw_1194 tw_1195 hd_X12_isUnder ⟨Nat.le_of_ble_eq_true rfl, Nat.le_of_ble_eq_true rfl⟩) dX12_as_29 hl.1 hK hAm hA hP hD hS [] rfl rfl rfl [] rfl rfl rfl (Nat.le_of_ble_eq_true rfl) ⟨Nat.le_refl _, Nat.le_refl _⟩ (fun H locs hP hD hS => ?_)
      have hP : va_P (gD G) vwCl (k_X12_as G a_this a_this_s a_this_kept a_this_errors a_this_step a_this_named a_this_pile a_this_told a_this_beside1 a_this_row a_this_best a_this_worthOf a_this_trace a_this_bits a_this_sizes a_this_number a_this_aside this_images this_at this_open this_steps this_use this_bestNet this_bestMore this_leastApart this_found this_first this_leastPaid this_traced this_speaks this_isParted this_errors this_s) H := hP
      have hD : va_D A (k_X12_as G a_this a_this_s a_this_kept a_this_errors a_this_step a_this_named a_this_pile a_this_told a_this_beside1 a_this_row a_this_best a_this_worthOf a_this_trace a_this_bits a_this_sizes a_this_number a_this_aside this_images this_at this_open this_steps this_use this_bestNet this_bestMore this_leastApart this_found this_first this_leastPaid this_traced this_speaks this_isParted this_errors this_s) := hD
      refine lv_if_eq (tgt := 43) hx hb dX12_as_32 (by decide) (fun c8 => ?_) (fun c8 => ?_)
      · replace hf := kt c8 hf
        refine lv_aload_n hx hb dX12_as_43 rfl (lv_at hl 0 rfl) ?_
        refine lv_iconst (v := (5 : Int32)) hx hb dX12_as_44 (by decide) ?_
        obtain ⟨r9, hr9, hf⟩ := kb hf
        refine kV (As := [.int (5 : Int32)]) (rest := []) ⟨hx, hb, hml, hown, hts⟩ (c_X12_error l G N a_this a_this_s a_this_kept a_this_errors a_this_step a_this_named a_this_pile a_this_told a_this_beside1 a_this_row a_this_best a_this_worthOf a_this_trace a_this_bits a_this_sizes a_this_number a_this_aside (5 : Int32) this_images this_at this_open this_steps this_use this_bestNet this_bestMore this_leastApart this_found this_first this_leastPaid this_traced this_speaks this_isParted this_errors r9 hr9) (kcV 1 hts tw_1087 tw_92 tw_1084 tw_1086 tw_43 hd_X12_error ⟨Nat.le_of_ble_eq_true rfl, Nat.le_of_ble_eq_true rfl⟩) dX12_as_45 hl.1 hK hAm hA hP hD hS 0 (ci := 12) rfl rfl rfl [0, 1] rfl rfl rfl [1] rfl rfl rfl (Nat.le_of_ble_eq_true rfl) ⟨Nat.le_refl _, Nat.le_refl _⟩ (fun H locs hP hD hS => ?_)
        have hP : va_P (gD G) vwCl (k_X12_as G a_this a_this_s a_this_kept a_this_errors a_this_step a_this_named a_this_pile a_this_told a_this_beside1 a_this_row a_this_best a_this_worthOf a_this_trace a_this_bits a_this_sizes a_this_number a_this_aside this_images this_at this_open this_steps this_use this_bestNet this_bestMore this_leastApart this_found this_first this_leastPaid this_traced this_speaks this_isParted r9.2 this_s) H := hP
        have hD : va_D A (k_X12_as G a_this a_this_s a_this_kept a_this_errors a_this_step a_this_named a_this_pile a_this_told a_this_beside1 a_this_row a_this_best a_this_worthOf a_this_trace a_this_bits a_this_sizes a_this_number a_this_aside this_images this_at this_open this_steps this_use this_bestNet this_bestMore this_leastApart this_found this_first this_leastPaid this_traced this_speaks this_isParted r9.2 this_s) := hD
        have ho := ks hf
        subst ho
        exact kiret hx hb hr hlk hP hD hS hQ dX12_as_48
      · replace hf := kf c8 hf
        refine lv_aload_n hx hb dX12_as_35 rfl (lv_at hl 0 rfl) ?_
        refine lv_iload_n hx hb dX12_as_36 rfl (lv_at hl 1 rfl) ?_
        obtain ⟨r10, hr10, hf⟩ := kb hf
        refine kV (As := [.int p0]) (rest := []) ⟨hx, hb, hml, hown, hts⟩ (c_X12_mOf l G N a_this a_this_s a_this_kept a_this_errors a_this_step a_this_named a_this_pile a_this_told a_this_beside1 a_this_row a_this_best a_this_worthOf a_this_trace a_this_bits a_this_sizes a_this_number a_this_aside p0 this_images this_at this_open this_steps this_use this_bestNet this_bestMore this_leastApart this_found this_first this_leastPaid this_traced this_speaks this_isParted this_s r10 hr10) (kcV 1 hts tw_1185 tw_92 tw_1182 tw_1184 tw_59 hd_X12_mOf ⟨Nat.le_of_ble_eq_true rfl, Nat.le_of_ble_eq_true rfl⟩) dX12_as_37 hl.1 hK hAm hA hP hD hS 0 (ci := 12) rfl rfl rfl [0, 2] rfl rfl rfl [] rfl rfl rfl (Nat.le_of_ble_eq_true rfl) ⟨Nat.le_refl _, Nat.le_refl _⟩ (fun H locs hP hD hS => ?_)
        have hP : va_P (gD G) vwCl (k_X12_as G a_this a_this_s a_this_kept a_this_errors a_this_step a_this_named a_this_pile a_this_told a_this_beside1 a_this_row a_this_best a_this_worthOf a_this_trace a_this_bits a_this_sizes a_this_number a_this_aside this_images this_at this_open this_steps this_use this_bestNet this_bestMore this_leastApart this_found this_first this_leastPaid this_traced this_speaks this_isParted this_errors this_s) H := hP
        have hD : va_D A (k_X12_as G a_this a_this_s a_this_kept a_this_errors a_this_step a_this_named a_this_pile a_this_told a_this_beside1 a_this_row a_this_best a_this_worthOf a_this_trace a_this_bits a_this_sizes a_this_number a_this_aside this_images this_at this_open this_steps this_use this_bestNet this_bestMore this_leastApart this_found this_first this_leastPaid this_traced this_speaks this_isParted this_errors this_s) := hD
        refine lv_goto (tgt := 48) hx hb dX12_as_40 (by decide) ?_
        have ho := ks hf
        subst ho
        exact kiret hx hb hr hlk hP hD hS hQ dX12_as_48
    · replace hf := kt c5 hf
      refine lv_aload_n hx hb dX12_as_17 rfl (lv_at hl 0 rfl) ?_
      refine lv_iconst (v := (1 : Int32)) hx hb dX12_as_18 (by decide) ?_
      obtain ⟨r11, hr11, hf⟩ := kb hf
      refine kV (As := [.int (1 : Int32)]) (rest := []) ⟨hx, hb, hml, hown, hts⟩ (c_X12_error l G N a_this a_this_s a_this_kept a_this_errors a_this_step a_this_named a_this_pile a_this_told a_this_beside1 a_this_row a_this_best a_this_worthOf a_this_trace a_this_bits a_this_sizes a_this_number a_this_aside (1 : Int32) this_images this_at this_open this_steps this_use this_bestNet this_bestMore this_leastApart this_found this_first this_leastPaid this_traced this_speaks this_isParted this_errors r11 hr11) (kcV 1 hts tw_1087 tw_92 tw_1084 tw_1086 tw_43 hd_X12_error ⟨Nat.le_of_ble_eq_true rfl, Nat.le_of_ble_eq_true rfl⟩) dX12_as_19 hl.1 hK hAm hA hP hD hS 0 (ci := 12) rfl rfl rfl [0, 1] rfl rfl rfl [1] rfl rfl rfl (Nat.le_of_ble_eq_true rfl) ⟨Nat.le_refl _, Nat.le_refl _⟩ (fun H locs hP hD hS => ?_)
      have hP : va_P (gD G) vwCl (k_X12_as G a_this a_this_s a_this_kept a_this_errors a_this_step a_this_named a_this_pile a_this_told a_this_beside1 a_this_row a_this_best a_this_worthOf a_this_trace a_this_bits a_this_sizes a_this_number a_this_aside this_images this_at this_open this_steps this_use this_bestNet this_bestMore this_leastApart this_found this_first this_leastPaid this_traced this_speaks this_isParted r11.2 this_s) H := hP
      have hD : va_D A (k_X12_as G a_this a_this_s a_this_kept a_this_errors a_this_step a_this_named a_this_pile a_this_told a_this_beside1 a_this_row a_this_best a_this_worthOf a_this_trace a_this_bits a_this_sizes a_this_number a_this_aside this_images this_at this_open this_steps this_use this_bestNet this_bestMore this_leastApart this_found this_first this_leastPaid this_traced this_speaks this_isParted r11.2 this_s) := hD
      have ho := ks hf
      subst ho
      exact kiret hx hb hr hlk hP hD hS hQ dX12_as_22
abbrev k_X12_figures (G : KG) (a_this : Nat) (a_this_s : Nat) (a_this_kept : Nat) (a_this_errors : Nat) (a_this_step : Nat) (a_this_named : Nat) (a_this_pile : Nat) (a_this_told : Nat) (a_this_beside1 : Nat) (a_this_row : Nat) (a_this_best : Nat) (a_this_worthOf : Nat) (a_this_trace : Nat) (a_this_bits : Nat) (a_this_sizes : Nat) (a_this_number : Nat) (a_this_aside : Nat) (this_images : Int32) (this_at : Int32) (this_open : Int32) (this_steps : Int32) (this_use : Int32) (this_bestNet : Int32) (this_bestMore : Int32) (this_leastApart : Int32) (this_found : Int32) (this_first : Int32) (this_leastPaid : Int32) (this_traced : Int32) (this_speaks : Int32) (this_isParted : Int32) (this_errors : Nat → Int32) : va_W := [(a_this, .inr (12, [.ref a_this_s, .ref a_this_kept, .int this_images, .ref a_this_errors, .int this_at, .int this_open, .int this_steps, .int this_use, .ref a_this_step, .ref a_this_named, .ref a_this_pile, .ref a_this_told, .ref a_this_beside1, .ref a_this_row, .ref a_this_best, .int this_bestNet, .int this_bestMore, .ref a_this_worthOf, .int this_leastApart, .int this_found, .int this_first, .int this_leastPaid, .ref a_this_trace, .int this_traced, .int this_speaks, .int this_isParted, .ref a_this_bits, .ref a_this_sizes, .ref a_this_number, .ref a_this_aside])), (a_this_errors, .inl (gI G, 7, .inl this_errors))]
def f_X12_figures (N : Nat) (p0 : Int32) (p1 : Int32) (this_errors : Nat → Int32) : Option (Int32 × (Nat → Int32)) := (if p0 < 0 then ((f_X12_error N (1 : Int32) this_errors).bind fun r2 => (some (r2.1, r2.2))) else ((f_X12_in N p1 (2 : Int32) (11 : Int32)).bind fun r3 => (if r3 = 0 then ((f_X12_error N (1 : Int32) this_errors).bind fun r5 => (some (r5.1, r5.2))) else ((f_X12_added N p0 p1).bind fun r6 => (some (r6, this_errors))))))
set_option maxRecDepth 100000 in
set_option maxHeartbeats 4000000 in
theorem c_X12_figures (l : Launch) (G : KG) (N : Nat) (a_this : Nat) (a_this_s : Nat) (a_this_kept : Nat) (a_this_errors : Nat) (a_this_step : Nat) (a_this_named : Nat) (a_this_pile : Nat) (a_this_told : Nat) (a_this_beside1 : Nat) (a_this_row : Nat) (a_this_best : Nat) (a_this_worthOf : Nat) (a_this_trace : Nat) (a_this_bits : Nat) (a_this_sizes : Nat) (a_this_number : Nat) (a_this_aside : Nat) (p0 : Int32) (p1 : Int32) (this_images : Int32) (this_at : Int32) (this_open : Int32) (this_steps : Int32) (this_use : Int32) (this_bestNet : Int32) (this_bestMore : Int32) (this_leastApart : Int32) (this_found : Int32) (this_first : Int32) (this_leastPaid : Int32) (this_traced : Int32) (this_speaks : Int32) (this_isParted : Int32) (this_errors : Nat → Int32)  (out : Int32 × (Nat → Int32)) (hf : f_X12_figures N p0 p1 this_errors = some out) : KM l G yX12_figures (kw yX12_figures cX12_figures 3 (some .int)) 1 23 [.ref a_this, .int p0, .int p1] (k_X12_figures G a_this a_this_s a_this_kept a_this_errors a_this_step a_this_named a_this_pile a_this_told a_this_beside1 a_this_row a_this_best a_this_worthOf a_this_trace a_this_bits a_this_sizes a_this_number a_this_aside this_images this_at this_open this_steps this_use this_bestNet this_bestMore this_leastApart this_found this_first this_leastPaid this_traced this_speaks this_isParted this_errors) (k_X12_figures G a_this a_this_s a_this_kept a_this_errors a_this_step a_this_named a_this_pile a_this_told a_this_beside1 a_this_row a_this_best a_this_worthOf a_this_trace a_this_bits a_this_sizes a_this_number a_this_aside this_images this_at this_open this_steps this_use this_bestNet this_bestMore this_leastApart this_found this_first this_leastPaid this_traced this_speaks this_isParted (out.2)) (some (.int (out.1))) := by
  refine KM.of (by decide) (Nat.le_of_ble_eq_true rfl) ?_
  intro p e s m below meth c A ls args Q Fx0 hP hK hD hA hS hAm hQ hl
  obtain ⟨hx, hb, hr, hml, hts, hown, hlk, hnm⟩ := Fx0
  have hown : s.vm.findClass RX12 = some m.cls := hown
  have hl : lv_has ls 3 [(0, .ref a_this), (1, .int p0), (2, .int p1)] := hl
  unfold f_X12_figures at hf
  refine lv_iload_n hx hb dX12_figures_0 rfl (lv_at hl 1 rfl) ?_
  refine lv_if_lt (tgt := 22) hx hb dX12_figures_1 (by decide) (fun c1 => ?_) (fun c1 => ?_)
  · replace hf := kt c1 hf
    refine lv_aload_n hx hb dX12_figures_22 rfl (lv_at hl 0 rfl) ?_
    refine lv_iconst (v := (1 : Int32)) hx hb dX12_figures_23 (by decide) ?_
    obtain ⟨r2, hr2, hf⟩ := kb hf
    refine kV (As := [.int (1 : Int32)]) (rest := []) ⟨hx, hb, hml, hown, hts⟩ (c_X12_error l G N a_this a_this_s a_this_kept a_this_errors a_this_step a_this_named a_this_pile a_this_told a_this_beside1 a_this_row a_this_best a_this_worthOf a_this_trace a_this_bits a_this_sizes a_this_number a_this_aside (1 : Int32) this_images this_at this_open this_steps this_use this_bestNet this_bestMore this_leastApart this_found this_first this_leastPaid this_traced this_speaks this_isParted this_errors r2 hr2) (kcV 1 hts tw_1087 tw_92 tw_1084 tw_1086 tw_43 hd_X12_error ⟨Nat.le_of_ble_eq_true rfl, Nat.le_of_ble_eq_true rfl⟩) dX12_figures_24 hl.1 hK hAm hA hP hD hS 0 (ci := 12) rfl rfl rfl [0, 1] rfl rfl rfl [1] rfl rfl rfl (Nat.le_of_ble_eq_true rfl) ⟨Nat.le_refl _, Nat.le_refl _⟩ (fun H locs hP hD hS => ?_)
    have hP : va_P (gD G) vwCl (k_X12_figures G a_this a_this_s a_this_kept a_this_errors a_this_step a_this_named a_this_pile a_this_told a_this_beside1 a_this_row a_this_best a_this_worthOf a_this_trace a_this_bits a_this_sizes a_this_number a_this_aside this_images this_at this_open this_steps this_use this_bestNet this_bestMore this_leastApart this_found this_first this_leastPaid this_traced this_speaks this_isParted r2.2) H := hP
    have hD : va_D A (k_X12_figures G a_this a_this_s a_this_kept a_this_errors a_this_step a_this_named a_this_pile a_this_told a_this_beside1 a_this_row a_this_best a_this_worthOf a_this_trace a_this_bits a_this_sizes a_this_number a_this_aside this_images this_at this_open this_steps this_use this_bestNet this_bestMore this_leastApart this_found this_first this_leastPaid this_traced this_speaks this_isParted r2.2) := hD
    have ho := ks hf
    subst ho
    exact kiret hx hb hr hlk hP hD hS hQ dX12_figures_27
  · replace hf := kf c1 hf
    refine lv_iload_n hx hb dX12_figures_4 rfl (lv_at hl 2 rfl) ?_
    refine lv_iconst (v := (2 : Int32)) hx hb dX12_figures_5 (by decide) ?_
    refine lv_bipush (v := (11 : Int32)) hx hb dX12_figures_6 (by decide) ?_
    obtain ⟨r3, hr3, hf⟩ := kb hf
    refine kS (As := [.int p1, .int (2 : Int32), .int (11 : Int32)]) (rest := []) ⟨hx, hb, hml, hown, hts⟩ (c_X12_in l G N p1 (2 : Int32) (11 : Int32) r3 hr3) (kcS 3 hts tw_1083 tw_92 tw_1081 tw_1082 hd_X12_in ⟨Nat.le_of_ble_eq_true rfl, Nat.le_of_ble_eq_true rfl⟩) dX12_figures_8 hl.1 hK hAm hA hP hD hS [] rfl rfl rfl [] rfl rfl rfl (Nat.le_of_ble_eq_true rfl) ⟨Nat.le_refl _, Nat.le_refl _⟩ (fun H locs hP hD hS => ?_)
    have hP : va_P (gD G) vwCl (k_X12_figures G a_this a_this_s a_this_kept a_this_errors a_this_step a_this_named a_this_pile a_this_told a_this_beside1 a_this_row a_this_best a_this_worthOf a_this_trace a_this_bits a_this_sizes a_this_number a_this_aside this_images this_at this_open this_steps this_use this_bestNet this_bestMore this_leastApart this_found this_first this_leastPaid this_traced this_speaks this_isParted this_errors) H := hP
    have hD : va_D A (k_X12_figures G a_this a_this_s a_this_kept a_this_errors a_this_step a_this_named a_this_pile a_this_told a_this_beside1 a_this_row a_this_best a_this_worthOf a_this_trace a_this_bits a_this_sizes a_this_number a_this_aside this_images this_at this_open this_steps this_use this_bestNet this_bestMore this_leastApart this_found this_first this_leastPaid this_traced this_speaks this_isParted this_errors) := hD
    refine lv_if_eq (tgt := 22) hx hb dX12_figures_11 (by decide) (fun c4 => ?_) (fun c4 => ?_)
    · replace hf := kt c4 hf
      refine lv_aload_n hx hb dX12_figures_22 rfl (lv_at hl 0 rfl) ?_
      refine lv_iconst (v := (1 : Int32)) hx hb dX12_figures_23 (by decide) ?_
      obtain ⟨r5, hr5, hf⟩ := kb hf
      refine kV (As := [.int (1 : Int32)]) (rest := []) ⟨hx, hb, hml, hown, hts⟩ (c_X12_error l G N a_this a_this_s a_this_kept a_this_errors a_this_step a_this_named a_this_pile a_this_told a_this_beside1 a_this_row a_this_best a_this_worthOf a_this_trace a_this_bits a_this_sizes a_this_number a_this_aside (1 : Int32) this_images this_at this_open this_steps this_use this_bestNet this_bestMore this_leastApart this_found this_first this_leastPaid this_traced this_speaks this_isParted this_errors r5 hr5) (kcV 1 hts tw_1087 tw_92 tw_1084 tw_1086 tw_43 hd_X12_error ⟨Nat.le_of_ble_eq_true rfl, Nat.le_of_ble_eq_true rfl⟩) dX12_figures_24 hl.1 hK hAm hA hP hD hS 0 (ci := 12) rfl rfl rfl [0, 1] rfl rfl rfl [1] rfl rfl rfl (Nat.le_of_ble_eq_true rfl) ⟨Nat.le_refl _, Nat.le_refl _⟩ (fun H locs hP hD hS => ?_)
      have hP : va_P (gD G) vwCl (k_X12_figures G a_this a_this_s a_this_kept a_this_errors a_this_step a_this_named a_this_pile a_this_told a_this_beside1 a_this_row a_this_best a_this_worthOf a_this_trace a_this_bits a_this_sizes a_this_number a_this_aside this_images this_at this_open this_steps this_use this_bestNet this_bestMore this_leastApart this_found this_first this_leastPaid this_traced this_speaks this_isParted r5.2) H := hP
      have hD : va_D A (k_X12_figures G a_this a_this_s a_this_kept a_this_errors a_this_step a_this_named a_this_pile a_this_told a_this_beside1 a_this_row a_this_best a_this_worthOf a_this_trace a_this_bits a_this_sizes a_this_number a_this_aside this_images this_at this_open this_steps this_use this_bestNet this_bestMore this_leastApart this_found this_first this_leastPaid this_traced this_speaks this_isParted r5.2) := hD
      have ho := ks hf
      subst ho
      exact kiret hx hb hr hlk hP hD hS hQ dX12_figures_27
    · replace hf := kf c4 hf
      refine lv_iload_n hx hb dX12_figures_14 rfl (lv_at hl 1 rfl) ?_
      refine lv_iload_n hx hb dX12_figures_15 rfl (lv_at hl 2 rfl) ?_
      obtain ⟨r6, hr6, hf⟩ := kb hf
      refine kS (As := [.int p0, .int p1]) (rest := []) ⟨hx, hb, hml, hown, hts⟩ (c_X12_added l G N p0 p1 r6 hr6) (kcS 2 hts tw_1203 tw_92 tw_1201 tw_1202 hd_X12_added ⟨Nat.le_of_ble_eq_true rfl, Nat.le_of_ble_eq_true rfl⟩) dX12_figures_16 hl.1 hK hAm hA hP hD hS [] rfl rfl rfl [] rfl rfl rfl (Nat.le_of_ble_eq_true rfl) ⟨Nat.le_refl _, Nat.le_refl _⟩ (fun H locs hP hD hS => ?_)
      have hP : va_P (gD G) vwCl (k_X12_figures G a_this a_this_s a_this_kept a_this_errors a_this_step a_this_named a_this_pile a_this_told a_this_beside1 a_this_row a_this_best a_this_worthOf a_this_trace a_this_bits a_this_sizes a_this_number a_this_aside this_images this_at this_open this_steps this_use this_bestNet this_bestMore this_leastApart this_found this_first this_leastPaid this_traced this_speaks this_isParted this_errors) H := hP
      have hD : va_D A (k_X12_figures G a_this a_this_s a_this_kept a_this_errors a_this_step a_this_named a_this_pile a_this_told a_this_beside1 a_this_row a_this_best a_this_worthOf a_this_trace a_this_bits a_this_sizes a_this_number a_this_aside this_images this_at this_open this_steps this_use this_bestNet this_bestMore this_leastApart this_found this_first this_leastPaid this_traced this_speaks this_isParted this_errors) := hD
      refine lv_goto (tgt := 27) hx hb dX12_figures_19 (by decide) ?_
      have ho := ks hf
      subst ho
      exact kiret hx hb hr hlk hP hD hS hQ dX12_figures_27
abbrev k_X12_asks (G : KG) (a_this : Nat) (a_this_s : Nat) (a_this_kept : Nat) (a_this_errors : Nat) (a_this_step : Nat) (a_this_named : Nat) (a_this_pile : Nat) (a_this_told : Nat) (a_this_beside1 : Nat) (a_this_row : Nat) (a_this_best : Nat) (a_this_worthOf : Nat) (a_this_trace : Nat) (a_this_bits : Nat) (a_this_sizes : Nat) (a_this_number : Nat) (a_this_aside : Nat) (this_images : Int32) (this_at : Int32) (this_open : Int32) (this_steps : Int32) (this_use : Int32) (this_bestNet : Int32) (this_bestMore : Int32) (this_leastApart : Int32) (this_found : Int32) (this_first : Int32) (this_leastPaid : Int32) (this_traced : Int32) (this_speaks : Int32) (this_isParted : Int32) (this_errors : Nat → Int32) (this_named : Nat → Int32) (this_pile : Nat → Int32) (this_s : Nat → Int32) : va_W := [(a_this, .inr (12, [.ref a_this_s, .ref a_this_kept, .int this_images, .ref a_this_errors, .int this_at, .int this_open, .int this_steps, .int this_use, .ref a_this_step, .ref a_this_named, .ref a_this_pile, .ref a_this_told, .ref a_this_beside1, .ref a_this_row, .ref a_this_best, .int this_bestNet, .int this_bestMore, .ref a_this_worthOf, .int this_leastApart, .int this_found, .int this_first, .int this_leastPaid, .ref a_this_trace, .int this_traced, .int this_speaks, .int this_isParted, .ref a_this_bits, .ref a_this_sizes, .ref a_this_number, .ref a_this_aside])), (a_this_errors, .inl (gI G, 7, .inl this_errors)), (a_this_named, .inl (gI G, 128, .inl this_named)), (a_this_pile, .inl (gI G, 64, .inl this_pile)), (a_this_s, .inl (gI G, 374, .inl this_s))]
def f_X12_asks (N : Nat) (p0 : Int32) (p1 : Int32) (p2 : Int32) (this_errors : Nat → Int32) (this_named : Nat → Int32) (this_pile : Nat → Int32) (this_s : Nat → Int32) : Option (Int32 × (Nat → Int32) × (Nat → Int32) × (Nat → Int32)) := ((f_X12_isTill N p0).bind fun r1 => (if r1 = 0 then ((f_X12_error N (1 : Int32) this_errors).bind fun r3 => (some (r3.1, r3.2, this_named, this_pile))) else ((f_X12_in N p1 (0 : Int32) (299970 : Int32)).bind fun r4 => (if r4 = 0 then ((f_X12_error N (1 : Int32) this_errors).bind fun r6 => (some (r6.1, r6.2, this_named, this_pile))) else ((f_X12_in N p2 (0 : Int32) (30 : Int32)).bind fun r7 => (if r7 = 0 then ((f_X12_error N (1 : Int32) this_errors).bind fun r9 => (some (r9.1, r9.2, this_named, this_pile))) else ((f_X12_asked N p0 p1 p2 this_named this_pile this_s).bind fun r10 => (some (r10.1, this_errors, r10.2.1, r10.2.2)))))))))
set_option maxRecDepth 100000 in
set_option maxHeartbeats 4000000 in
theorem c_X12_asks (l : Launch) (G : KG) (N : Nat) (a_this : Nat) (a_this_s : Nat) (a_this_kept : Nat) (a_this_errors : Nat) (a_this_step : Nat) (a_this_named : Nat) (a_this_pile : Nat) (a_this_told : Nat) (a_this_beside1 : Nat) (a_this_row : Nat) (a_this_best : Nat) (a_this_worthOf : Nat) (a_this_trace : Nat) (a_this_bits : Nat) (a_this_sizes : Nat) (a_this_number : Nat) (a_this_aside : Nat) (p0 : Int32) (p1 : Int32) (p2 : Int32) (this_images : Int32) (this_at : Int32) (this_open : Int32) (this_steps : Int32) (this_use : Int32) (this_bestNet : Int32) (this_bestMore : Int32) (this_leastApart : Int32) (this_found : Int32) (this_first : Int32) (this_leastPaid : Int32) (this_traced : Int32) (this_speaks : Int32) (this_isParted : Int32) (this_errors : Nat → Int32) (this_named : Nat → Int32) (this_pile : Nat → Int32) (this_s : Nat → Int32)  (out : Int32 × (Nat → Int32) × (Nat → Int32) × (Nat → Int32)) (hf : f_X12_asks N p0 p1 p2 this_errors this_named this_pile this_s = some out) : KM l G yX12_asks (kw yX12_asks cX12_asks 4 (some .int)) 3 73 [.ref a_this, .int p0, .int p1, .int p2] (k_X12_asks G a_this a_this_s a_this_kept a_this_errors a_this_step a_this_named a_this_pile a_this_told a_this_beside1 a_this_row a_this_best a_this_worthOf a_this_trace a_this_bits a_this_sizes a_this_number a_this_aside this_images this_at this_open this_steps this_use this_bestNet this_bestMore this_leastApart this_found this_first this_leastPaid this_traced this_speaks this_isParted this_errors this_named this_pile this_s) (k_X12_asks G a_this a_this_s a_this_kept a_this_errors a_this_step a_this_named a_this_pile a_this_told a_this_beside1 a_this_row a_this_best a_this_worthOf a_this_trace a_this_bits a_this_sizes a_this_number a_this_aside this_images this_at this_open this_steps this_use this_bestNet this_bestMore this_leastApart this_found this_first this_leastPaid this_traced this_speaks this_isParted (out.2.1) (out.2.2.1) (out.2.2.2) this_s) (some (.int (out.1))) := by
  refine KM.of (by decide) (Nat.le_of_ble_eq_true rfl) ?_
  intro p e s m below meth c A ls args Q Fx0 hP hK hD hA hS hAm hQ hl
  obtain ⟨hx, hb, hr, hml, hts, hown, hlk, hnm⟩ := Fx0
  have hown : s.vm.findClass RX12 = some m.cls := hown
  have hl : lv_has ls 4 [(0, .ref a_this), (1, .int p0), (2, .int p1), (3, .int p2)] := hl
  have kc_168 := hts _ tw_1208
  unfold f_X12_asks at hf
  refine lv_iload_n hx hb dX12_asks_0 rfl (lv_at hl 1 rfl) ?_
  obtain ⟨r1, hr1, hf⟩ := kb hf
  refine kS (As := [.int p0]) (rest := []) ⟨hx, hb, hml, hown, hts⟩ (c_X12_isTill l G N p0 r1 hr1) (kcS 1 hts tw_1177 tw_92 tw_1175 tw_1176 hd_X12_isTill ⟨Nat.le_of_ble_eq_true rfl, Nat.le_of_ble_eq_true rfl⟩) dX12_asks_1 hl.1 hK hAm hA hP hD hS [] rfl rfl rfl [] rfl rfl rfl (Nat.le_of_ble_eq_true rfl) ⟨Nat.le_refl _, Nat.le_refl _⟩ (fun H locs hP hD hS => ?_)
  have hP : va_P (gD G) vwCl (k_X12_asks G a_this a_this_s a_this_kept a_this_errors a_this_step a_this_named a_this_pile a_this_told a_this_beside1 a_this_row a_this_best a_this_worthOf a_this_trace a_this_bits a_this_sizes a_this_number a_this_aside this_images this_at this_open this_steps this_use this_bestNet this_bestMore this_leastApart this_found this_first this_leastPaid this_traced this_speaks this_isParted this_errors this_named this_pile this_s) H := hP
  have hD : va_D A (k_X12_asks G a_this a_this_s a_this_kept a_this_errors a_this_step a_this_named a_this_pile a_this_told a_this_beside1 a_this_row a_this_best a_this_worthOf a_this_trace a_this_bits a_this_sizes a_this_number a_this_aside this_images this_at this_open this_steps this_use this_bestNet this_bestMore this_leastApart this_found this_first this_leastPaid this_traced this_speaks this_isParted this_errors this_named this_pile this_s) := hD
  refine lv_if_eq (tgt := 37) hx hb dX12_asks_4 (by decide) (fun c2 => ?_) (fun c2 => ?_)
  · replace hf := kt c2 hf
    refine lv_aload_n hx hb dX12_asks_37 rfl (lv_at hl 0 rfl) ?_
    refine lv_iconst (v := (1 : Int32)) hx hb dX12_asks_38 (by decide) ?_
    obtain ⟨r3, hr3, hf⟩ := kb hf
    refine kV (As := [.int (1 : Int32)]) (rest := []) ⟨hx, hb, hml, hown, hts⟩ (c_X12_error l G N a_this a_this_s a_this_kept a_this_errors a_this_step a_this_named a_this_pile a_this_told a_this_beside1 a_this_row a_this_best a_this_worthOf a_this_trace a_this_bits a_this_sizes a_this_number a_this_aside (1 : Int32) this_images this_at this_open this_steps this_use this_bestNet this_bestMore this_leastApart this_found this_first this_leastPaid this_traced this_speaks this_isParted this_errors r3 hr3) (kcV 1 hts tw_1087 tw_92 tw_1084 tw_1086 tw_43 hd_X12_error ⟨Nat.le_of_ble_eq_true rfl, Nat.le_of_ble_eq_true rfl⟩) dX12_asks_39 hl.1 hK hAm hA hP hD hS 0 (ci := 12) rfl rfl rfl [0, 1] rfl rfl rfl [1] rfl rfl rfl (Nat.le_of_ble_eq_true rfl) ⟨Nat.le_refl _, Nat.le_refl _⟩ (fun H locs hP hD hS => ?_)
    have hP : va_P (gD G) vwCl (k_X12_asks G a_this a_this_s a_this_kept a_this_errors a_this_step a_this_named a_this_pile a_this_told a_this_beside1 a_this_row a_this_best a_this_worthOf a_this_trace a_this_bits a_this_sizes a_this_number a_this_aside this_images this_at this_open this_steps this_use this_bestNet this_bestMore this_leastApart this_found this_first this_leastPaid this_traced this_speaks this_isParted r3.2 this_named this_pile this_s) H := hP
    have hD : va_D A (k_X12_asks G a_this a_this_s a_this_kept a_this_errors a_this_step a_this_named a_this_pile a_this_told a_this_beside1 a_this_row a_this_best a_this_worthOf a_this_trace a_this_bits a_this_sizes a_this_number a_this_aside this_images this_at this_open this_steps this_use this_bestNet this_bestMore this_leastApart this_found this_first this_leastPaid this_traced this_speaks this_isParted r3.2 this_named this_pile this_s) := hD
    have ho := ks hf
    subst ho
    exact kiret hx hb hr hlk hP hD hS hQ dX12_asks_42
  · replace hf := kf c2 hf
    refine lv_iload_n hx hb dX12_asks_7 rfl (lv_at hl 2 rfl) ?_
    refine lv_iconst (v := (0 : Int32)) hx hb dX12_asks_8 (by decide) ?_
    refine lv_ldc (v := (299970 : Int32)) hx hb hown kc_168 dX12_asks_9 ?_
    obtain ⟨r4, hr4, hf⟩ := kb hf
    refine kS (As := [.int p1, .int (0 : Int32), .int (299970 : Int32)]) (rest := []) ⟨hx, hb, hml, hown, hts⟩ (c_X12_in l G N p1 (0 : Int32) (299970 : Int32) r4 hr4) (kcS 3 hts tw_1083 tw_92 tw_1081 tw_1082 hd_X12_in ⟨Nat.le_of_ble_eq_true rfl, Nat.le_of_ble_eq_true rfl⟩) dX12_asks_11 hl.1 hK hAm hA hP hD hS [] rfl rfl rfl [] rfl rfl rfl (Nat.le_of_ble_eq_true rfl) ⟨Nat.le_refl _, Nat.le_refl _⟩ (fun H locs hP hD hS => ?_)
    have hP : va_P (gD G) vwCl (k_X12_asks G a_this a_this_s a_this_kept a_this_errors a_this_step a_this_named a_this_pile a_this_told a_this_beside1 a_this_row a_this_best a_this_worthOf a_this_trace a_this_bits a_this_sizes a_this_number a_this_aside this_images this_at this_open this_steps this_use this_bestNet this_bestMore this_leastApart this_found this_first this_leastPaid this_traced this_speaks this_isParted this_errors this_named this_pile this_s) H := hP
    have hD : va_D A (k_X12_asks G a_this a_this_s a_this_kept a_this_errors a_this_step a_this_named a_this_pile a_this_told a_this_beside1 a_this_row a_this_best a_this_worthOf a_this_trace a_this_bits a_this_sizes a_this_number a_this_aside this_images this_at this_open this_steps this_use this_bestNet this_bestMore this_leastApart this_found this_first this_leastPaid this_traced this_speaks this_isParted this_errors this_named this_pile this_s) := hD
    refine lv_if_eq (tgt := 37) hx hb dX12_asks_14 (by decide) (fun c5 => ?_) (fun c5 => ?_)
    · replace hf := kt c5 hf
      refine lv_aload_n hx hb dX12_asks_37 rfl (lv_at hl 0 rfl) ?_
      refine lv_iconst (v := (1 : Int32)) hx hb dX12_asks_38 (by decide) ?_
      obtain ⟨r6, hr6, hf⟩ := kb hf
      refine kV (As := [.int (1 : Int32)]) (rest := []) ⟨hx, hb, hml, hown, hts⟩ (c_X12_error l G N a_this a_this_s a_this_kept a_this_errors a_this_step a_this_named a_this_pile a_this_told a_this_beside1 a_this_row a_this_best a_this_worthOf a_this_trace a_this_bits a_this_sizes a_this_number a_this_aside (1 : Int32) this_images this_at this_open this_steps this_use this_bestNet this_bestMore this_leastApart this_found this_first this_leastPaid this_traced this_speaks this_isParted this_errors r6 hr6) (kcV 1 hts tw_1087 tw_92 tw_1084 tw_1086 tw_43 hd_X12_error ⟨Nat.le_of_ble_eq_true rfl, Nat.le_of_ble_eq_true rfl⟩) dX12_asks_39 hl.1 hK hAm hA hP hD hS 0 (ci := 12) rfl rfl rfl [0, 1] rfl rfl rfl [1] rfl rfl rfl (Nat.le_of_ble_eq_true rfl) ⟨Nat.le_refl _, Nat.le_refl _⟩ (fun H locs hP hD hS => ?_)
      have hP : va_P (gD G) vwCl (k_X12_asks G a_this a_this_s a_this_kept a_this_errors a_this_step a_this_named a_this_pile a_this_told a_this_beside1 a_this_row a_this_best a_this_worthOf a_this_trace a_this_bits a_this_sizes a_this_number a_this_aside this_images this_at this_open this_steps this_use this_bestNet this_bestMore this_leastApart this_found this_first this_leastPaid this_traced this_speaks this_isParted r6.2 this_named this_pile this_s) H := hP
      have hD : va_D A (k_X12_asks G a_this a_this_s a_this_kept a_this_errors a_this_step a_this_named a_this_pile a_this_told a_this_beside1 a_this_row a_this_best a_this_worthOf a_this_trace a_this_bits a_this_sizes a_this_number a_this_aside this_images this_at this_open this_steps this_use this_bestNet this_bestMore this_leastApart this_found this_first this_leastPaid this_traced this_speaks this_isParted r6.2 this_named this_pile this_s) := hD
      have ho := ks hf
      subst ho
      exact kiret hx hb hr hlk hP hD hS hQ dX12_asks_42
    · replace hf := kf c5 hf
      refine lv_iload_n hx hb dX12_asks_17 rfl (lv_at hl 3 rfl) ?_
      refine lv_iconst (v := (0 : Int32)) hx hb dX12_asks_18 (by decide) ?_
      refine lv_bipush (v := (30 : Int32)) hx hb dX12_asks_19 (by decide) ?_
      obtain ⟨r7, hr7, hf⟩ := kb hf
      refine kS (As := [.int p2, .int (0 : Int32), .int (30 : Int32)]) (rest := []) ⟨hx, hb, hml, hown, hts⟩ (c_X12_in l G N p2 (0 : Int32) (30 : Int32) r7 hr7) (kcS 3 hts tw_1083 tw_92 tw_1081 tw_1082 hd_X12_in ⟨Nat.le_of_ble_eq_true rfl, Nat.le_of_ble_eq_true rfl⟩) dX12_asks_21 hl.1 hK hAm hA hP hD hS [] rfl rfl rfl [] rfl rfl rfl (Nat.le_of_ble_eq_true rfl) ⟨Nat.le_refl _, Nat.le_refl _⟩ (fun H locs hP hD hS => ?_)
      have hP : va_P (gD G) vwCl (k_X12_asks G a_this a_this_s a_this_kept a_this_errors a_this_step a_this_named a_this_pile a_this_told a_this_beside1 a_this_row a_this_best a_this_worthOf a_this_trace a_this_bits a_this_sizes a_this_number a_this_aside this_images this_at this_open this_steps this_use this_bestNet this_bestMore this_leastApart this_found this_first this_leastPaid this_traced this_speaks this_isParted this_errors this_named this_pile this_s) H := hP
      have hD : va_D A (k_X12_asks G a_this a_this_s a_this_kept a_this_errors a_this_step a_this_named a_this_pile a_this_told a_this_beside1 a_this_row a_this_best a_this_worthOf a_this_trace a_this_bits a_this_sizes a_this_number a_this_aside this_images this_at this_open this_steps this_use this_bestNet this_bestMore this_leastApart this_found this_first this_leastPaid this_traced this_speaks this_isParted this_errors this_named this_pile this_s) := hD
      refine lv_if_eq (tgt := 37) hx hb dX12_asks_24 (by decide) (fun c8 => ?_) (fun c8 => ?_)
      · replace hf := kt c8 hf
        refine lv_aload_n hx hb dX12_asks_37 rfl (lv_at hl 0 rfl) ?_
        refine lv_iconst (v := (1 : Int32)) hx hb dX12_asks_38 (by decide) ?_
        obtain ⟨r9, hr9, hf⟩ := kb hf
        refine kV (As := [.int (1 : Int32)]) (rest := []) ⟨hx, hb, hml, hown, hts⟩ (c_X12_error l G N a_this a_this_s a_this_kept a_this_errors a_this_step a_this_named a_this_pile a_this_told a_this_beside1 a_this_row a_this_best a_this_worthOf a_this_trace a_this_bits a_this_sizes a_this_number a_this_aside (1 : Int32) this_images this_at this_open this_steps this_use this_bestNet this_bestMore this_leastApart this_found this_first this_leastPaid this_traced this_speaks this_isParted this_errors r9 hr9) (kcV 1 hts tw_1087 tw_92 tw_1084 tw_1086 tw_43 hd_X12_error ⟨Nat.le_of_ble_eq_true rfl, Nat.le_of_ble_eq_true rfl⟩) dX12_asks_39 hl.1 hK hAm hA hP hD hS 0 (ci := 12) rfl rfl rfl [0, 1] rfl rfl rfl [1] rfl rfl rfl (Nat.le_of_ble_eq_true rfl) ⟨Nat.le_refl _, Nat.le_refl _⟩ (fun H locs hP hD hS => ?_)
        have hP : va_P (gD G) vwCl (k_X12_asks G a_this a_this_s a_this_kept a_this_errors a_this_step a_this_named a_this_pile a_this_told a_this_beside1 a_this_row a_this_best a_this_worthOf a_this_trace a_this_bits a_this_sizes a_this_number a_this_aside this_images this_at this_open this_steps this_use this_bestNet this_bestMore this_leastApart this_found this_first this_leastPaid this_traced this_speaks this_isParted r9.2 this_named this_pile this_s) H := hP
        have hD : va_D A (k_X12_asks G a_this a_this_s a_this_kept a_this_errors a_this_step a_this_named a_this_pile a_this_told a_this_beside1 a_this_row a_this_best a_this_worthOf a_this_trace a_this_bits a_this_sizes a_this_number a_this_aside this_images this_at this_open this_steps this_use this_bestNet this_bestMore this_leastApart this_found this_first this_leastPaid this_traced this_speaks this_isParted r9.2 this_named this_pile this_s) := hD
        have ho := ks hf
        subst ho
        exact kiret hx hb hr hlk hP hD hS hQ dX12_asks_42
      · replace hf := kf c8 hf
        refine lv_aload_n hx hb dX12_asks_27 rfl (lv_at hl 0 rfl) ?_
        refine lv_iload_n hx hb dX12_asks_28 rfl (lv_at hl 1 rfl) ?_
        refine lv_iload_n hx hb dX12_asks_29 rfl (lv_at hl 2 rfl) ?_
        refine lv_iload_n hx hb dX12_asks_30 rfl (lv_at hl 3 rfl) ?_
        obtain ⟨r10, hr10, hf⟩ := kb hf
        refine kV (As := [.int p0, .int p1, .int p2]) (rest := []) ⟨hx, hb, hml, hown, hts⟩ (c_X12_asked l G N a_this a_this_s a_this_kept a_this_errors a_this_step a_this_named a_this_pile a_this_told a_this_beside1 a_this_row a_this_best a_this_worthOf a_this_trace a_this_bits a_this_sizes a_this_number a_this_aside p0 p1 p2 this_images this_at this_open this_steps this_use this_bestNet this_bestMore this_leastApart this_found this_first this_leastPaid this_traced this_speaks this_isParted this_named this_pile this_s r10 hr10) (kcV 3 hts tw_1212 tw_92 tw_1209 tw_1211 tw_60 hd_X12_asked ⟨Nat.le_of_ble_eq_true rfl, Nat.le_of_ble_eq_true rfl⟩) dX12_asks_31 hl.1 hK hAm hA hP hD hS 0 (ci := 12) rfl rfl rfl [0, 2, 3, 4] rfl rfl rfl [1, 2] rfl rfl rfl (Nat.le_of_ble_eq_true rfl) ⟨Nat.le_refl _, Nat.le_refl _⟩ (fun H locs hP hD hS => ?_)
        have hP : va_P (gD G) vwCl (k_X12_asks G a_this a_this_s a_this_kept a_this_errors a_this_step a_this_named a_this_pile a_this_told a_this_beside1 a_this_row a_this_best a_this_worthOf a_this_trace a_this_bits a_this_sizes a_this_number a_this_aside this_images this_at this_open this_steps this_use this_bestNet this_bestMore this_leastApart this_found this_first this_leastPaid this_traced this_speaks this_isParted this_errors r10.2.1 r10.2.2 this_s) H := hP
        have hD : va_D A (k_X12_asks G a_this a_this_s a_this_kept a_this_errors a_this_step a_this_named a_this_pile a_this_told a_this_beside1 a_this_row a_this_best a_this_worthOf a_this_trace a_this_bits a_this_sizes a_this_number a_this_aside this_images this_at this_open this_steps this_use this_bestNet this_bestMore this_leastApart this_found this_first this_leastPaid this_traced this_speaks this_isParted this_errors r10.2.1 r10.2.2 this_s) := hD
        refine lv_goto (tgt := 42) hx hb dX12_asks_34 (by decide) ?_
        have ho := ks hf
        subst ho
        exact kiret hx hb hr hlk hP hD hS hQ dX12_asks_42
abbrev k_X12_tells (G : KG) (a_p1 : Nat) (a_this : Nat) (a_this_s : Nat) (a_this_kept : Nat) (a_this_errors : Nat) (a_this_step : Nat) (a_this_named : Nat) (a_this_pile : Nat) (a_this_told : Nat) (a_this_beside1 : Nat) (a_this_row : Nat) (a_this_best : Nat) (a_this_worthOf : Nat) (a_this_trace : Nat) (a_this_bits : Nat) (a_this_sizes : Nat) (a_this_number : Nat) (a_this_aside : Nat) (p1 : Nat → Int32) (this_images : Int32) (this_at : Int32) (this_open : Int32) (this_steps : Int32) (this_use : Int32) (this_bestNet : Int32) (this_bestMore : Int32) (this_leastApart : Int32) (this_found : Int32) (this_first : Int32) (this_leastPaid : Int32) (this_traced : Int32) (this_speaks : Int32) (this_isParted : Int32) (this_bits : Nat → Int32) (this_number : Nat → Int32) (this_sizes : Nat → Int32) : va_W := [(a_p1, .inl (gI G, 8, .inl p1)), (a_this, .inr (12, [.ref a_this_s, .ref a_this_kept, .int this_images, .ref a_this_errors, .int this_at, .int this_open, .int this_steps, .int this_use, .ref a_this_step, .ref a_this_named, .ref a_this_pile, .ref a_this_told, .ref a_this_beside1, .ref a_this_row, .ref a_this_best, .int this_bestNet, .int this_bestMore, .ref a_this_worthOf, .int this_leastApart, .int this_found, .int this_first, .int this_leastPaid, .ref a_this_trace, .int this_traced, .int this_speaks, .int this_isParted, .ref a_this_bits, .ref a_this_sizes, .ref a_this_number, .ref a_this_aside])), (a_this_bits, .inl (gI G, 4, .inl this_bits)), (a_this_number, .inl (gI G, 96, .inl this_number)), (a_this_sizes, .inl (gI G, 4, .inl this_sizes))]
def f_X12_tells_14 (N : Nat) (x1 : Int32) (this_number : Nat → Int32) (this_sizes : Nat → Int32) (K : Int32 → (Nat → Int32) → Option (Int32 × (Nat → Int32))) : Nat → Int32 → (Nat → Int32) → Option (Int32 × (Nat → Int32))
  | 0, _, _ => none
  | n + 1, y4, p1_v => (if (8 : Int32) ≤ y4 then (K y4 p1_v) else (if vin x1 4 = true then (if (this_sizes x1.toNatClampNeg) ≤ y4 then (if vin y4 8 = true then (f_X12_tells_14 N x1 this_number this_sizes K n (y4 + (1 : Int32)) (upd p1_v y4.toNatClampNeg (0 : Int32))) else none) else (if vin (((24 : Int32) * x1) + y4) 96 = true then (if vin y4 8 = true then (f_X12_tells_14 N x1 this_number this_sizes K n (y4 + (1 : Int32)) (upd p1_v y4.toNatClampNeg (this_number (((24 : Int32) * x1) + y4).toNatClampNeg))) else none) else none)) else none))
def f_X12_tells_61 (N : Nat) (p1 : Nat → Int32) (K : Int32 → Option (Int32 × (Nat → Int32))) : Nat → Int32 → Option (Int32 × (Nat → Int32))
  | 0, _ => none
  | n + 1, y4 => (if (8 : Int32) ≤ y4 then (K y4) else (if vin y4 8 = true then ((f_X12_in N (p1 y4.toNatClampNeg) (0 : Int32) (9 : Int32)).bind fun r12 => (if r12 = 0 then (some ((1 : Int32), p1)) else (f_X12_tells_61 N p1 K n (y4 + (1 : Int32))))) else none))
def f_X12_tells (N : Nat) (p0 : Int32) (p2 : Int32) (p1 : Nat → Int32) (this_bits : Nat → Int32) (this_number : Nat → Int32) (this_sizes : Nat → Int32) : Option (Int32 × (Nat → Int32)) := (if vin p0 4 = true then (if (this_bits p0.toNatClampNeg) = 0 then (some ((2 : Int32), p1)) else (f_X12_tells_14 N p0 this_number this_sizes (fun v4_9 p1_9 => (f_X12_tells_61 N p1_9 (fun v4_14 => ((f_X12_many N p1_9).bind fun r15 => (if r15 ≤ p2 then (some ((0 : Int32), p1_9)) else (some ((4 : Int32), p1_9))))) N (0 : Int32))) N (0 : Int32) p1)) else none)
set_option maxRecDepth 100000 in
set_option maxHeartbeats 4000000 in
theorem c_X12_tells (l : Launch) (G : KG) (N : Nat) (a_p1 : Nat) (a_this : Nat) (a_this_s : Nat) (a_this_kept : Nat) (a_this_errors : Nat) (a_this_step : Nat) (a_this_named : Nat) (a_this_pile : Nat) (a_this_told : Nat) (a_this_beside1 : Nat) (a_this_row : Nat) (a_this_best : Nat) (a_this_worthOf : Nat) (a_this_trace : Nat) (a_this_bits : Nat) (a_this_sizes : Nat) (a_this_number : Nat) (a_this_aside : Nat) (p0 : Int32) (p2 : Int32) (p1 : Nat → Int32) (this_images : Int32) (this_at : Int32) (this_open : Int32) (this_steps : Int32) (this_use : Int32) (this_bestNet : Int32) (this_bestMore : Int32) (this_leastApart : Int32) (this_found : Int32) (this_first : Int32) (this_leastPaid : Int32) (this_traced : Int32) (this_speaks : Int32) (this_isParted : Int32) (this_bits : Nat → Int32) (this_number : Nat → Int32) (this_sizes : Nat → Int32)  (out : Int32 × (Nat → Int32)) (hf : f_X12_tells N p0 p2 p1 this_bits this_number this_sizes = some out) : KM l G yX12_tells (kw yX12_tells cX12_tells 5 (some .int)) 1 22 [.ref a_this, .int p0, .ref a_p1, .int p2] (k_X12_tells G a_p1 a_this a_this_s a_this_kept a_this_errors a_this_step a_this_named a_this_pile a_this_told a_this_beside1 a_this_row a_this_best a_this_worthOf a_this_trace a_this_bits a_this_sizes a_this_number a_this_aside p1 this_images this_at this_open this_steps this_use this_bestNet this_bestMore this_leastApart this_found this_first this_leastPaid this_traced this_speaks this_isParted this_bits this_number this_sizes) (k_X12_tells G a_p1 a_this a_this_s a_this_kept a_this_errors a_this_step a_this_named a_this_pile a_this_told a_this_beside1 a_this_row a_this_best a_this_worthOf a_this_trace a_this_bits a_this_sizes a_this_number a_this_aside (out.2) this_images this_at this_open this_steps this_use this_bestNet this_bestMore this_leastApart this_found this_first this_leastPaid this_traced this_speaks this_isParted this_bits this_number this_sizes) (some (.int (out.1))) := by
  refine KM.of (by decide) (Nat.le_of_ble_eq_true rfl) ?_
  intro p e s m below meth c A ls args Q Fx0 hP hK hD hA hS hAm hQ hl
  obtain ⟨hx, hb, hr, hml, hts, hown, hlk, hnm⟩ := Fx0
  have hown : s.vm.findClass RX12 = some m.cls := hown
  have hl : lv_has ls 5 [(0, .ref a_this), (1, .int p0), (2, .ref a_p1), (3, .int p2)] := hl
  have fl_46 := hts _ tw_1012
  have fl_49 := hts _ tw_1013
  have fl_52 := hts _ tw_1014
  unfold f_X12_tells at hf
  refine lv_aload_n hx hb dX12_tells_0 rfl (lv_at hl 0 rfl) ?_
  refine va_get (D := gD G) (ci := 12) (C := RX12) (T := TX12) (N := 30) hx hb hts hin_X12 hown hK hP 1 rfl rfl 26 (by decide) fl_46 (fun _ h9 => h9) rfl dX12_tells_1 ?_
  refine lv_iload_n hx hb dX12_tells_4 rfl (lv_at hl 1 rfl) ?_
  obtain ⟨g1, hf⟩ := kg hf
  refine va_iald hx hb hK hP 2 0 rfl rfl (vin_of g1) dX12_tells_5 ?_
  refine lv_if_ne (tgt := 11) hx hb dX12_tells_6 (by decide) (fun c2 => ?_) (fun c2 => ?_)
  · replace hf := kf c2 hf
    refine lv_iconst (v := (0 : Int32)) hx hb dX12_tells_11 (by decide) ?_
    refine lv_istore (lv' := [(4, .int (0 : Int32)), (0, .ref a_this), (1, .int p0), (2, .ref a_p1), (3, .int p2)]) hx hb dX12_tells_12 hl (by decide) rfl (fun ls hl => ?_)
    have L12 : ∀ (K : Int32 → (Nat → Int32) → Option (Int32 × (Nat → Int32))), (∀ (v4_12 : Int32) (p1_12 : Nat → Int32) (H : Heap) (locs : List Loc), va_P (gD G) vwCl (k_X12_tells G a_p1 a_this a_this_s a_this_kept a_this_errors a_this_step a_this_named a_this_pile a_this_told a_this_beside1 a_this_row a_this_best a_this_worthOf a_this_trace a_this_bits a_this_sizes a_this_number a_this_aside p1_12 this_images this_at this_open this_steps this_use this_bestNet this_bestMore this_leastApart this_found this_first this_leastPaid this_traced this_speaks this_isParted this_bits this_number this_sizes) H → va_D A (k_X12_tells G a_p1 a_this a_this_s a_this_kept a_this_errors a_this_step a_this_named a_this_pile a_this_told a_this_beside1 a_this_row a_this_best a_this_worthOf a_this_trace a_this_bits a_this_sizes a_this_number a_this_aside p1_12 this_images this_at this_open this_steps this_use this_bestNet this_bestMore this_leastApart this_found this_first this_leastPaid this_traced this_speaks this_isParted this_bits this_number this_sizes) → va_S A s.heap H locs → ∀ (ls : Array Slot), lv_has ls 5 [(0, .ref a_this), (1, .int p0), (2, .ref a_p1), (3, .int p2), (4, .int v4_12)] → K v4_12 p1_12 = some out → W p l e (kR 1 0 0 22) s m args below meth c H locs 0 0 Q (F0 m 58 ls [])) → ∀ (n : Nat), ∀ (v4_12 : Int32) (p1_12 : Nat → Int32) (H : Heap) (locs : List Loc), va_P (gD G) vwCl (k_X12_tells G a_p1 a_this a_this_s a_this_kept a_this_errors a_this_step a_this_named a_this_pile a_this_told a_this_beside1 a_this_row a_this_best a_this_worthOf a_this_trace a_this_bits a_this_sizes a_this_number a_this_aside p1_12 this_images this_at this_open this_steps this_use this_bestNet this_bestMore this_leastApart this_found this_first this_leastPaid this_traced this_speaks this_isParted this_bits this_number this_sizes) H → va_D A (k_X12_tells G a_p1 a_this a_this_s a_this_kept a_this_errors a_this_step a_this_named a_this_pile a_this_told a_this_beside1 a_this_row a_this_best a_this_worthOf a_this_trace a_this_bits a_this_sizes a_this_number a_this_aside p1_12 this_images this_at this_open this_steps this_use this_bestNet this_bestMore this_leastApart this_found this_first this_leastPaid this_traced this_speaks this_isParted this_bits this_number this_sizes) → va_S A s.heap H locs → ∀ (ls : Array Slot), lv_has ls 5 [(0, .ref a_this), (1, .int p0), (2, .ref a_p1), (3, .int p2), (4, .int v4_12)] → f_X12_tells_14 N p0 this_number this_sizes K n v4_12 p1_12 = some out → W p l e (kR 1 0 0 22) s m args below meth c H locs 0 0 Q (F0 m 14 ls []) := by
      intro K hK12 n
      induction n with
      | zero =>
        intro v4_12 p1_12 H locs hP hD hS ls hl hf
        rw [f_X12_tells_14] at hf
        cases hf
      | succ n ih =>
        intro v4_12 p1_12 H locs hP hD hS ls hl hf
        rw [f_X12_tells_14] at hf
        refine lv_iload hx hb dX12_tells_14 (lv_at hl 4 rfl) ?_
        refine lv_bipush (v := (8 : Int32)) hx hb dX12_tells_16 (by decide) ?_
        refine lv_icmp_ge (tgt := 58) hx hb dX12_tells_18 (by decide) (fun c13 => ?_) (fun c13 => ?_)
        · replace hf := kt c13 hf
          exact hK12 v4_12 p1_12 _ _ hP hD hS ls (lv_sub hl [0, 1, 2, 3, 4] rfl) hf
        · replace hf := kf c13 hf
          refine lv_aload_n hx hb dX12_tells_21 rfl (lv_at hl 2 rfl) ?_
          refine lv_iload hx hb dX12_tells_22 (lv_at hl 4 rfl) ?_
          refine lv_iload hx hb dX12_tells_24 (lv_at hl 4 rfl) ?_
          refine lv_aload_n hx hb dX12_tells_26 rfl (lv_at hl 0 rfl) ?_
          refine va_get (D := gD G) (ci := 12) (C := RX12) (T := TX12) (N := 30) hx hb hts hin_X12 hown hK hP 1 rfl rfl 27 (by decide) fl_49 (fun _ h9 => h9) rfl dX12_tells_27 ?_
          refine lv_iload_n hx hb dX12_tells_30 rfl (lv_at hl 1 rfl) ?_
          obtain ⟨g14, hf⟩ := kg hf
          refine va_iald hx hb hK hP 4 0 rfl rfl (vin_of g14) dX12_tells_31 ?_
          refine lv_icmp_ge (tgt := 50) hx hb dX12_tells_32 (by decide) (fun c15 => ?_) (fun c15 => ?_)
          · replace hf := kt c15 hf
            refine lv_iconst (v := (0 : Int32)) hx hb dX12_tells_50 (by decide) ?_
            obtain ⟨g16, hf⟩ := kg hf
            refine va_iast hx hb hK hP hD hS 0 0 rfl rfl (vin_of g16) dX12_tells_51 (fun H locs hP hD hS => ?_)
            have hP : va_P (gD G) vwCl (k_X12_tells G a_p1 a_this a_this_s a_this_kept a_this_errors a_this_step a_this_named a_this_pile a_this_told a_this_beside1 a_this_row a_this_best a_this_worthOf a_this_trace a_this_bits a_this_sizes a_this_number a_this_aside (upd p1_12 v4_12.toNatClampNeg (0 : Int32)) this_images this_at this_open this_steps this_use this_bestNet this_bestMore this_leastApart this_found this_first this_leastPaid this_traced this_speaks this_isParted this_bits this_number this_sizes) H := hP
            have hD : va_D A (k_X12_tells G a_p1 a_this a_this_s a_this_kept a_this_errors a_this_step a_this_named a_this_pile a_this_told a_this_beside1 a_this_row a_this_best a_this_worthOf a_this_trace a_this_bits a_this_sizes a_this_number a_this_aside (upd p1_12 v4_12.toNatClampNeg (0 : Int32)) this_images this_at this_open this_steps this_use this_bestNet this_bestMore this_leastApart this_found this_first this_leastPaid this_traced this_speaks this_isParted this_bits this_number this_sizes) := hD
            refine lv_iinc (v := (v4_12 + (1 : Int32))) (lv' := [(4, .int (v4_12 + (1 : Int32))), (0, .ref a_this), (1, .int p0), (2, .ref a_p1), (3, .int p2)]) hx hb dX12_tells_52 hl (k := 4) rfl rfl (by decide) rfl (fun ls hl => ?_)
            refine lv_goto (tgt := 14) hx hb dX12_tells_55 (by decide) ?_
            exact ih (v4_12 + (1 : Int32)) (upd p1_12 v4_12.toNatClampNeg (0 : Int32)) _ _ hP hD hS ls (lv_sub hl [1, 2, 3, 4, 0] rfl) hf
          · replace hf := kf c15 hf
            refine lv_aload_n hx hb dX12_tells_35 rfl (lv_at hl 0 rfl) ?_
            refine va_get (D := gD G) (ci := 12) (C := RX12) (T := TX12) (N := 30) hx hb hts hin_X12 hown hK hP 1 rfl rfl 28 (by decide) fl_52 (fun _ h9 => h9) rfl dX12_tells_36 ?_
            refine lv_bipush (v := (24 : Int32)) hx hb dX12_tells_39 (by decide) ?_
            refine lv_iload_n hx hb dX12_tells_41 rfl (lv_at hl 1 rfl) ?_
            refine lv_imul hx hb dX12_tells_42 ?_
            refine lv_iload hx hb dX12_tells_43 (lv_at hl 4 rfl) ?_
            refine lv_iadd hx hb dX12_tells_45 ?_
            obtain ⟨g17, hf⟩ := kg hf
            refine va_iald hx hb hK hP 3 0 rfl rfl (vin_of g17) dX12_tells_46 ?_
            refine lv_goto (tgt := 51) hx hb dX12_tells_47 (by decide) ?_
            obtain ⟨g18, hf⟩ := kg hf
            refine va_iast hx hb hK hP hD hS 0 0 rfl rfl (vin_of g18) dX12_tells_51 (fun H locs hP hD hS => ?_)
            have hP : va_P (gD G) vwCl (k_X12_tells G a_p1 a_this a_this_s a_this_kept a_this_errors a_this_step a_this_named a_this_pile a_this_told a_this_beside1 a_this_row a_this_best a_this_worthOf a_this_trace a_this_bits a_this_sizes a_this_number a_this_aside (upd p1_12 v4_12.toNatClampNeg (this_number (((24 : Int32) * p0) + v4_12).toNatClampNeg)) this_images this_at this_open this_steps this_use this_bestNet this_bestMore this_leastApart this_found this_first this_leastPaid this_traced this_speaks this_isParted this_bits this_number this_sizes) H := hP
            have hD : va_D A (k_X12_tells G a_p1 a_this a_this_s a_this_kept a_this_errors a_this_step a_this_named a_this_pile a_this_told a_this_beside1 a_this_row a_this_best a_this_worthOf a_this_trace a_this_bits a_this_sizes a_this_number a_this_aside (upd p1_12 v4_12.toNatClampNeg (this_number (((24 : Int32) * p0) + v4_12).toNatClampNeg)) this_images this_at this_open this_steps this_use this_bestNet this_bestMore this_leastApart this_found this_first this_leastPaid this_traced this_speaks this_isParted this_bits this_number this_sizes) := hD
            refine lv_iinc (v := (v4_12 + (1 : Int32))) (lv' := [(4, .int (v4_12 + (1 : Int32))), (0, .ref a_this), (1, .int p0), (2, .ref a_p1), (3, .int p2)]) hx hb dX12_tells_52 hl (k := 4) rfl rfl (by decide) rfl (fun ls hl => ?_)
            refine lv_goto (tgt := 14) hx hb dX12_tells_55 (by decide) ?_
            exact ih (v4_12 + (1 : Int32)) (upd p1_12 v4_12.toNatClampNeg (this_number (((24 : Int32) * p0) + v4_12).toNatClampNeg)) _ _ hP hD hS ls (lv_sub hl [1, 2, 3, 4, 0] rfl) hf
    refine L12 _ (fun v4_3 p1_3 H locs hP hD hS ls hl hf => ?_) N (0 : Int32) p1 _ _ hP hD hS ls (lv_sub hl [1, 2, 3, 4, 0] rfl) hf
    refine lv_iconst (v := (0 : Int32)) hx hb dX12_tells_58 (by decide) ?_
    refine lv_istore (lv' := [(4, .int (0 : Int32)), (0, .ref a_this), (1, .int p0), (2, .ref a_p1), (3, .int p2)]) hx hb dX12_tells_59 hl (by decide) rfl (fun ls hl => ?_)
    have L7 : ∀ (K : Int32 → Option (Int32 × (Nat → Int32))), (∀ (v4_7 : Int32) (H : Heap) (locs : List Loc), va_P (gD G) vwCl (k_X12_tells G a_p1 a_this a_this_s a_this_kept a_this_errors a_this_step a_this_named a_this_pile a_this_told a_this_beside1 a_this_row a_this_best a_this_worthOf a_this_trace a_this_bits a_this_sizes a_this_number a_this_aside p1_3 this_images this_at this_open this_steps this_use this_bestNet this_bestMore this_leastApart this_found this_first this_leastPaid this_traced this_speaks this_isParted this_bits this_number this_sizes) H → va_D A (k_X12_tells G a_p1 a_this a_this_s a_this_kept a_this_errors a_this_step a_this_named a_this_pile a_this_told a_this_beside1 a_this_row a_this_best a_this_worthOf a_this_trace a_this_bits a_this_sizes a_this_number a_this_aside p1_3 this_images this_at this_open this_steps this_use this_bestNet this_bestMore this_leastApart this_found this_first this_leastPaid this_traced this_speaks this_isParted this_bits this_number this_sizes) → va_S A s.heap H locs → ∀ (ls : Array Slot), lv_has ls 5 [(0, .ref a_this), (1, .int p0), (2, .ref a_p1), (3, .int p2), (4, .int v4_7)] → K v4_7 = some out → W p l e (kR 1 0 0 22) s m args below meth c H locs 0 0 Q (F0 m 89 ls [])) → ∀ (n : Nat), ∀ (v4_7 : Int32) (H : Heap) (locs : List Loc), va_P (gD G) vwCl (k_X12_tells G a_p1 a_this a_this_s a_this_kept a_this_errors a_this_step a_this_named a_this_pile a_this_told a_this_beside1 a_this_row a_this_best a_this_worthOf a_this_trace a_this_bits a_this_sizes a_this_number a_this_aside p1_3 this_images this_at this_open this_steps this_use this_bestNet this_bestMore this_leastApart this_found this_first this_leastPaid this_traced this_speaks this_isParted this_bits this_number this_sizes) H → va_D A (k_X12_tells G a_p1 a_this a_this_s a_this_kept a_this_errors a_this_step a_this_named a_this_pile a_this_told a_this_beside1 a_this_row a_this_best a_this_worthOf a_this_trace a_this_bits a_this_sizes a_this_number a_this_aside p1_3 this_images this_at this_open this_steps this_use this_bestNet this_bestMore this_leastApart this_found this_first this_leastPaid this_traced this_speaks this_isParted this_bits this_number this_sizes) → va_S A s.heap H locs → ∀ (ls : Array Slot), lv_has ls 5 [(0, .ref a_this), (1, .int p0), (2, .ref a_p1), (3, .int p2), (4, .int v4_7)] → f_X12_tells_61 N p1_3 K n v4_7 = some out → W p l e (kR 1 0 0 22) s m args below meth c H locs 0 0 Q (F0 m 61 ls []) := by
      intro K hK7 n
      induction n with
      | zero =>
        intro v4_7 H locs hP hD hS ls hl hf
        rw [f_X12_tells_61] at hf
        cases hf
      | succ n ih =>
        intro v4_7 H locs hP hD hS ls hl hf
        rw [f_X12_tells_61] at hf
        refine lv_iload hx hb dX12_tells_61 (lv_at hl 4 rfl) ?_
        refine lv_bipush (v := (8 : Int32)) hx hb dX12_tells_63 (by decide) ?_
        refine lv_icmp_ge (tgt := 89) hx hb dX12_tells_65 (by decide) (fun c8 => ?_) (fun c8 => ?_)
        · replace hf := kt c8 hf
          exact hK7 v4_7 _ _ hP hD hS ls (lv_sub hl [0, 1, 2, 3, 4] rfl) hf
        · replace hf := kf c8 hf
          refine lv_aload_n hx hb dX12_tells_68 rfl (lv_at hl 2 rfl) ?_
          refine lv_iload hx hb dX12_tells_69 (lv_at hl 4 rfl) ?_
          obtain ⟨g9, hf⟩ := kg hf
          refine va_iald hx hb hK hP 0 0 rfl rfl (vin_of g9) dX12_tells_71 ?_
          refine lv_iconst (v := (0 : Int32)) hx hb dX12_tells_72 (by decide) ?_
          refine lv_bipush (v := (9 : Int32)) hx hb dX12_tells_73 (by decide) ?_
          obtain ⟨r10, hr10, hf⟩ := kb hf
          refine kS (As := [.int (p1_3 v4_7.toNatClampNeg), .int (0 : Int32), .int (9 : Int32)]) (rest := []) ⟨hx, hb, hml, hown, hts⟩ (c_X12_in l G N (p1_3 v4_7.toNatClampNeg) (0 : Int32) (9 : Int32) r10 hr10) (kcS 3 hts tw_1083 tw_92 tw_1081 tw_1082 hd_X12_in ⟨Nat.le_of_ble_eq_true rfl, Nat.le_of_ble_eq_true rfl⟩) dX12_tells_75 hl.1 hK hAm hA hP hD hS [] rfl rfl rfl [] rfl rfl rfl (Nat.le_of_ble_eq_true rfl) ⟨Nat.le_refl _, Nat.le_refl _⟩ (fun H locs hP hD hS => ?_)
          have hP : va_P (gD G) vwCl (k_X12_tells G a_p1 a_this a_this_s a_this_kept a_this_errors a_this_step a_this_named a_this_pile a_this_told a_this_beside1 a_this_row a_this_best a_this_worthOf a_this_trace a_this_bits a_this_sizes a_this_number a_this_aside p1_3 this_images this_at this_open this_steps this_use this_bestNet this_bestMore this_leastApart this_found this_first this_leastPaid this_traced this_speaks this_isParted this_bits this_number this_sizes) H := hP
          have hD : va_D A (k_X12_tells G a_p1 a_this a_this_s a_this_kept a_this_errors a_this_step a_this_named a_this_pile a_this_told a_this_beside1 a_this_row a_this_best a_this_worthOf a_this_trace a_this_bits a_this_sizes a_this_number a_this_aside p1_3 this_images this_at this_open this_steps this_use this_bestNet this_bestMore this_leastApart this_found this_first this_leastPaid this_traced this_speaks this_isParted this_bits this_number this_sizes) := hD
          refine lv_if_ne (tgt := 83) hx hb dX12_tells_78 (by decide) (fun c11 => ?_) (fun c11 => ?_)
          · replace hf := kf c11 hf
            refine lv_iinc (v := (v4_7 + (1 : Int32))) (lv' := [(4, .int (v4_7 + (1 : Int32))), (0, .ref a_this), (1, .int p0), (2, .ref a_p1), (3, .int p2)]) hx hb dX12_tells_83 hl (k := 4) rfl rfl (by decide) rfl (fun ls hl => ?_)
            refine lv_goto (tgt := 61) hx hb dX12_tells_86 (by decide) ?_
            exact ih (v4_7 + (1 : Int32)) _ _ hP hD hS ls (lv_sub hl [1, 2, 3, 4, 0] rfl) hf
          · replace hf := kt c11 hf
            refine lv_iconst (v := (1 : Int32)) hx hb dX12_tells_81 (by decide) ?_
            have ho := ks hf
            subst ho
            exact kiret hx hb hr hlk hP hD hS hQ dX12_tells_82
    refine L7 _ (fun v4_4 H locs hP hD hS ls hl hf => ?_) N (0 : Int32) _ _ hP hD hS ls (lv_sub hl [1, 2, 3, 4, 0] rfl) hf
    refine lv_aload_n hx hb dX12_tells_89 rfl (lv_at hl 2 rfl) ?_
    obtain ⟨r5, hr5, hf⟩ := kb hf
    refine kS (As := [.ref a_p1]) (rest := []) ⟨hx, hb, hml, hown, hts⟩ (c_X12_many l G N a_p1 p1_3 r5 hr5) (kcS 1 hts tw_1233 tw_92 tw_1231 tw_1232 hd_X12_many ⟨Nat.le_of_ble_eq_true rfl, Nat.le_of_ble_eq_true rfl⟩) dX12_tells_90 hl.1 hK hAm hA hP hD hS [0] rfl rfl rfl [] rfl rfl rfl (Nat.le_of_ble_eq_true rfl) ⟨Nat.le_refl _, Nat.le_refl _⟩ (fun H locs hP hD hS => ?_)
    have hP : va_P (gD G) vwCl (k_X12_tells G a_p1 a_this a_this_s a_this_kept a_this_errors a_this_step a_this_named a_this_pile a_this_told a_this_beside1 a_this_row a_this_best a_this_worthOf a_this_trace a_this_bits a_this_sizes a_this_number a_this_aside p1_3 this_images this_at this_open this_steps this_use this_bestNet this_bestMore this_leastApart this_found this_first this_leastPaid this_traced this_speaks this_isParted this_bits this_number this_sizes) H := hP
    have hD : va_D A (k_X12_tells G a_p1 a_this a_this_s a_this_kept a_this_errors a_this_step a_this_named a_this_pile a_this_told a_this_beside1 a_this_row a_this_best a_this_worthOf a_this_trace a_this_bits a_this_sizes a_this_number a_this_aside p1_3 this_images this_at this_open this_steps this_use this_bestNet this_bestMore this_leastApart this_found this_first this_leastPaid this_traced this_speaks this_isParted this_bits this_number this_sizes) := hD
    refine lv_iload_n hx hb dX12_tells_93 rfl (lv_at hl 3 rfl) ?_
    refine lv_icmp_le (tgt := 101) hx hb dX12_tells_94 (by decide) (fun c6 => ?_) (fun c6 => ?_)
    · replace hf := kt c6 hf
      refine lv_iconst (v := (0 : Int32)) hx hb dX12_tells_101 (by decide) ?_
      have ho := ks hf
      subst ho
      exact kiret hx hb hr hlk hP hD hS hQ dX12_tells_102
    · replace hf := kf c6 hf
      refine lv_iconst (v := (4 : Int32)) hx hb dX12_tells_97 (by decide) ?_
      refine lv_goto (tgt := 102) hx hb dX12_tells_98 (by decide) ?_
      have ho := ks hf
      subst ho
      exact kiret hx hb hr hlk hP hD hS hQ dX12_tells_102
  · replace hf := kt c2 hf
    refine lv_iconst (v := (2 : Int32)) hx hb dX12_tells_9 (by decide) ?_
    have ho := ks hf
    subst ho
    exact kiret hx hb hr hlk hP hD hS hQ dX12_tells_10
abbrev k_X12_isInStock (G : KG) (a_p0 : Nat) (a_this : Nat) (a_this_s : Nat) (a_this_kept : Nat) (a_this_errors : Nat) (a_this_step : Nat) (a_this_named : Nat) (a_this_pile : Nat) (a_this_told : Nat) (a_this_beside1 : Nat) (a_this_row : Nat) (a_this_best : Nat) (a_this_worthOf : Nat) (a_this_trace : Nat) (a_this_bits : Nat) (a_this_sizes : Nat) (a_this_number : Nat) (a_this_aside : Nat) (p0 : Nat → Int32) (this_images : Int32) (this_at : Int32) (this_open : Int32) (this_steps : Int32) (this_use : Int32) (this_bestNet : Int32) (this_bestMore : Int32) (this_leastApart : Int32) (this_found : Int32) (this_first : Int32) (this_leastPaid : Int32) (this_traced : Int32) (this_speaks : Int32) (this_isParted : Int32) (this_s : Nat → Int32) : va_W := [(a_p0, .inl (gI G, 8, .inl p0)), (a_this, .inr (12, [.ref a_this_s, .ref a_this_kept, .int this_images, .ref a_this_errors, .int this_at, .int this_open, .int this_steps, .int this_use, .ref a_this_step, .ref a_this_named, .ref a_this_pile, .ref a_this_told, .ref a_this_beside1, .ref a_this_row, .ref a_this_best, .int this_bestNet, .int this_bestMore, .ref a_this_worthOf, .int this_leastApart, .int this_found, .int this_first, .int this_leastPaid, .ref a_this_trace, .int this_traced, .int this_speaks, .int this_isParted, .ref a_this_bits, .ref a_this_sizes, .ref a_this_number, .ref a_this_aside])), (a_this_s, .inl (gI G, 374, .inl this_s))]
def f_X12_isInStock_4 (N : Nat) (p0 : Nat → Int32) (this_s : Nat → Int32) (K : Int32 → Int32 → Option (Int32)) : Nat → Int32 → Int32 → Option (Int32)
  | 0, _, _ => none
  | n + 1, y2, y3 => (if (8 : Int32) ≤ y3 then (K y2 y3) else (if y2 = 0 then (f_X12_isInStock_4 N p0 this_s K n (0 : Int32) (y3 + (1 : Int32))) else (if vin y3 8 = true then (if vin ((24 : Int32) + y3) 374 = true then (if (this_s ((24 : Int32) + y3).toNatClampNeg) < (p0 y3.toNatClampNeg) then (f_X12_isInStock_4 N p0 this_s K n (0 : Int32) (y3 + (1 : Int32))) else (f_X12_isInStock_4 N p0 this_s K n (1 : Int32) (y3 + (1 : Int32)))) else none) else none)))
def f_X12_isInStock (N : Nat) (p0 : Nat → Int32) (this_s : Nat → Int32) : Option (Int32) := (f_X12_isInStock_4 N p0 this_s (fun v2_6 v3_6 => (if v2_6 = 0 ∨ v2_6 = 1 then (some v2_6) else none)) N (1 : Int32) (0 : Int32))
set_option maxRecDepth 100000 in
set_option maxHeartbeats 4000000 in
theorem c_X12_isInStock (l : Launch) (G : KG) (N : Nat) (a_p0 : Nat) (a_this : Nat) (a_this_s : Nat) (a_this_kept : Nat) (a_this_errors : Nat) (a_this_step : Nat) (a_this_named : Nat) (a_this_pile : Nat) (a_this_told : Nat) (a_this_beside1 : Nat) (a_this_row : Nat) (a_this_best : Nat) (a_this_worthOf : Nat) (a_this_trace : Nat) (a_this_bits : Nat) (a_this_sizes : Nat) (a_this_number : Nat) (a_this_aside : Nat) (p0 : Nat → Int32) (this_images : Int32) (this_at : Int32) (this_open : Int32) (this_steps : Int32) (this_use : Int32) (this_bestNet : Int32) (this_bestMore : Int32) (this_leastApart : Int32) (this_found : Int32) (this_first : Int32) (this_leastPaid : Int32) (this_traced : Int32) (this_speaks : Int32) (this_isParted : Int32) (this_s : Nat → Int32)  (out : Int32) (hf : f_X12_isInStock N p0 this_s = some out) : KM l G yX12_isInStock (kw yX12_isInStock cX12_isInStock 4 (some .boolean)) 0 0 [.ref a_this, .ref a_p0] (k_X12_isInStock G a_p0 a_this a_this_s a_this_kept a_this_errors a_this_step a_this_named a_this_pile a_this_told a_this_beside1 a_this_row a_this_best a_this_worthOf a_this_trace a_this_bits a_this_sizes a_this_number a_this_aside p0 this_images this_at this_open this_steps this_use this_bestNet this_bestMore this_leastApart this_found this_first this_leastPaid this_traced this_speaks this_isParted this_s) (k_X12_isInStock G a_p0 a_this a_this_s a_this_kept a_this_errors a_this_step a_this_named a_this_pile a_this_told a_this_beside1 a_this_row a_this_best a_this_worthOf a_this_trace a_this_bits a_this_sizes a_this_number a_this_aside p0 this_images this_at this_open this_steps this_use this_bestNet this_bestMore this_leastApart this_found this_first this_leastPaid this_traced this_speaks this_isParted this_s) (some (.int out)) := by
  refine KM.of (by decide) (Nat.le_of_ble_eq_true rfl) ?_
  intro p e s m below meth c A ls args Q Fx0 hP hK hD hA hS hAm hQ hl
  obtain ⟨hx, hb, hr, hml, hts, hown, hlk, hnm⟩ := Fx0
  have hown : s.vm.findClass RX12 = some m.cls := hown
  have hl : lv_has ls 4 [(0, .ref a_this), (1, .ref a_p0)] := hl
  have fl_7 := hts _ tw_986
  unfold f_X12_isInStock at hf
  refine lv_iconst (v := (1 : Int32)) hx hb dX12_isInStock_0 (by decide) ?_
  refine lv_istore_n (lv' := [(2, .int (1 : Int32)), (0, .ref a_this), (1, .ref a_p0)]) hx hb dX12_isInStock_1 rfl hl (by decide) rfl (fun ls hl => ?_)
  refine lv_iconst (v := (0 : Int32)) hx hb dX12_isInStock_2 (by decide) ?_
  refine lv_istore_n (lv' := [(3, .int (0 : Int32)), (2, .int (1 : Int32)), (0, .ref a_this), (1, .ref a_p0)]) hx hb dX12_isInStock_3 rfl hl (by decide) rfl (fun ls hl => ?_)
  have L3 : ∀ (K : Int32 → Int32 → Option (Int32)), (∀ (v2_3 : Int32) (v3_3 : Int32) (H : Heap) (locs : List Loc), va_P (gD G) vwCl (k_X12_isInStock G a_p0 a_this a_this_s a_this_kept a_this_errors a_this_step a_this_named a_this_pile a_this_told a_this_beside1 a_this_row a_this_best a_this_worthOf a_this_trace a_this_bits a_this_sizes a_this_number a_this_aside p0 this_images this_at this_open this_steps this_use this_bestNet this_bestMore this_leastApart this_found this_first this_leastPaid this_traced this_speaks this_isParted this_s) H → va_D A (k_X12_isInStock G a_p0 a_this a_this_s a_this_kept a_this_errors a_this_step a_this_named a_this_pile a_this_told a_this_beside1 a_this_row a_this_best a_this_worthOf a_this_trace a_this_bits a_this_sizes a_this_number a_this_aside p0 this_images this_at this_open this_steps this_use this_bestNet this_bestMore this_leastApart this_found this_first this_leastPaid this_traced this_speaks this_isParted this_s) → va_S A s.heap H locs → ∀ (ls : Array Slot), lv_has ls 4 [(0, .ref a_this), (1, .ref a_p0), (2, .int v2_3), (3, .int v3_3)] → K v2_3 v3_3 = some out → W p l e (kR 0 0 0 0) s m args below meth c H locs 0 0 Q (F0 m 41 ls [])) → ∀ (n : Nat), ∀ (v2_3 : Int32) (v3_3 : Int32) (H : Heap) (locs : List Loc), va_P (gD G) vwCl (k_X12_isInStock G a_p0 a_this a_this_s a_this_kept a_this_errors a_this_step a_this_named a_this_pile a_this_told a_this_beside1 a_this_row a_this_best a_this_worthOf a_this_trace a_this_bits a_this_sizes a_this_number a_this_aside p0 this_images this_at this_open this_steps this_use this_bestNet this_bestMore this_leastApart this_found this_first this_leastPaid this_traced this_speaks this_isParted this_s) H → va_D A (k_X12_isInStock G a_p0 a_this a_this_s a_this_kept a_this_errors a_this_step a_this_named a_this_pile a_this_told a_this_beside1 a_this_row a_this_best a_this_worthOf a_this_trace a_this_bits a_this_sizes a_this_number a_this_aside p0 this_images this_at this_open this_steps this_use this_bestNet this_bestMore this_leastApart this_found this_first this_leastPaid this_traced this_speaks this_isParted this_s) → va_S A s.heap H locs → ∀ (ls : Array Slot), lv_has ls 4 [(0, .ref a_this), (1, .ref a_p0), (2, .int v2_3), (3, .int v3_3)] → f_X12_isInStock_4 N p0 this_s K n v2_3 v3_3 = some out → W p l e (kR 0 0 0 0) s m args below meth c H locs 0 0 Q (F0 m 4 ls []) := by
    intro K hK3 n
    induction n with
    | zero =>
      intro v2_3 v3_3 H locs hP hD hS ls hl hf
      rw [f_X12_isInStock_4] at hf
      cases hf
    | succ n ih =>
      intro v2_3 v3_3 H locs hP hD hS ls hl hf
      rw [f_X12_isInStock_4] at hf
      refine lv_iload_n hx hb dX12_isInStock_4 rfl (lv_at hl 3 rfl) ?_
      refine lv_bipush (v := (8 : Int32)) hx hb dX12_isInStock_5 (by decide) ?_
      refine lv_icmp_ge (tgt := 41) hx hb dX12_isInStock_7 (by decide) (fun c4 => ?_) (fun c4 => ?_)
      · replace hf := kt c4 hf
        exact hK3 v2_3 v3_3 _ _ hP hD hS ls (lv_sub hl [0, 1, 2, 3] rfl) hf
      · replace hf := kf c4 hf
        refine lv_iload_n hx hb dX12_isInStock_10 rfl (lv_at hl 2 rfl) ?_
        refine lv_if_eq (tgt := 33) hx hb dX12_isInStock_11 (by decide) (fun c5 => ?_) (fun c5 => ?_)
        · replace hf := kt c5 hf
          refine lv_iconst (v := (0 : Int32)) hx hb dX12_isInStock_33 (by decide) ?_
          refine lv_istore_n (lv' := [(2, .int (0 : Int32)), (0, .ref a_this), (1, .ref a_p0), (3, .int v3_3)]) hx hb dX12_isInStock_34 rfl hl (by decide) rfl (fun ls hl => ?_)
          refine lv_iinc (v := (v3_3 + (1 : Int32))) (lv' := [(3, .int (v3_3 + (1 : Int32))), (2, .int (0 : Int32)), (0, .ref a_this), (1, .ref a_p0)]) hx hb dX12_isInStock_35 hl (k := 3) rfl rfl (by decide) rfl (fun ls hl => ?_)
          refine lv_goto (tgt := 4) hx hb dX12_isInStock_38 (by decide) ?_
          exact ih (0 : Int32) (v3_3 + (1 : Int32)) _ _ hP hD hS ls (lv_sub hl [2, 3, 1, 0] rfl) hf
        · replace hf := kf c5 hf
          refine lv_aload_n hx hb dX12_isInStock_14 rfl (lv_at hl 1 rfl) ?_
          refine lv_iload_n hx hb dX12_isInStock_15 rfl (lv_at hl 3 rfl) ?_
          obtain ⟨g6, hf⟩ := kg hf
          refine va_iald hx hb hK hP 0 0 rfl rfl (vin_of g6) dX12_isInStock_16 ?_
          refine lv_aload_n hx hb dX12_isInStock_17 rfl (lv_at hl 0 rfl) ?_
          refine va_get (D := gD G) (ci := 12) (C := RX12) (T := TX12) (N := 30) hx hb hts hin_X12 hown hK hP 1 rfl rfl 0 (by decide) fl_7 (fun _ h9 => h9) rfl dX12_isInStock_18 ?_
          refine lv_bipush (v := (24 : Int32)) hx hb dX12_isInStock_21 (by decide) ?_
          refine lv_iload_n hx hb dX12_isInStock_23 rfl (lv_at hl 3 rfl) ?_
          refine lv_iadd hx hb dX12_isInStock_24 ?_
          obtain ⟨g7, hf⟩ := kg hf
          refine va_iald hx hb hK hP 2 0 rfl rfl (vin_of g7) dX12_isInStock_25 ?_
          refine lv_icmp_gt (tgt := 33) hx hb dX12_isInStock_26 (by decide) (fun c8 => ?_) (fun c8 => ?_)
          · replace hf := kt c8 hf
            refine lv_iconst (v := (0 : Int32)) hx hb dX12_isInStock_33 (by decide) ?_
            refine lv_istore_n (lv' := [(2, .int (0 : Int32)), (0, .ref a_this), (1, .ref a_p0), (3, .int v3_3)]) hx hb dX12_isInStock_34 rfl hl (by decide) rfl (fun ls hl => ?_)
            refine lv_iinc (v := (v3_3 + (1 : Int32))) (lv' := [(3, .int (v3_3 + (1 : Int32))), (2, .int (0 : Int32)), (0, .ref a_this), (1, .ref a_p0)]) hx hb dX12_isInStock_35 hl (k := 3) rfl rfl (by decide) rfl (fun ls hl => ?_)
            refine lv_goto (tgt := 4) hx hb dX12_isInStock_38 (by decide) ?_
            exact ih (0 : Int32) (v3_3 + (1 : Int32)) _ _ hP hD hS ls (lv_sub hl [2, 3, 1, 0] rfl) hf
          · replace hf := kf c8 hf
            refine lv_iconst (v := (1 : Int32)) hx hb dX12_isInStock_29 (by decide) ?_
            refine lv_goto (tgt := 34) hx hb dX12_isInStock_30 (by decide) ?_
            refine lv_istore_n (lv' := [(2, .int (1 : Int32)), (0, .ref a_this), (1, .ref a_p0), (3, .int v3_3)]) hx hb dX12_isInStock_34 rfl hl (by decide) rfl (fun ls hl => ?_)
            refine lv_iinc (v := (v3_3 + (1 : Int32))) (lv' := [(3, .int (v3_3 + (1 : Int32))), (2, .int (1 : Int32)), (0, .ref a_this), (1, .ref a_p0)]) hx hb dX12_isInStock_35 hl (k := 3) rfl rfl (by decide) rfl (fun ls hl => ?_)
            refine lv_goto (tgt := 4) hx hb dX12_isInStock_38 (by decide) ?_
            exact ih (1 : Int32) (v3_3 + (1 : Int32)) _ _ hP hD hS ls (lv_sub hl [2, 3, 1, 0] rfl) hf
  refine L3 _ (fun v2_1 v3_1 H locs hP hD hS ls hl hf => ?_) N (1 : Int32) (0 : Int32) _ _ hP hD hS ls (lv_sub hl [2, 3, 1, 0] rfl) hf
  refine lv_iload_n hx hb dX12_isInStock_41 rfl (lv_at hl 2 rfl) ?_
  obtain ⟨g2, hf⟩ := kg hf
  have ho := ks hf
  subst ho
  exact kzret hx hb hr g2 hlk hP hD hS hQ dX12_isInStock_42
abbrev k_X12_goes (G : KG) (a_p1 : Nat) (a_this : Nat) (a_this_s : Nat) (a_this_kept : Nat) (a_this_errors : Nat) (a_this_step : Nat) (a_this_named : Nat) (a_this_pile : Nat) (a_this_told : Nat) (a_this_beside1 : Nat) (a_this_row : Nat) (a_this_best : Nat) (a_this_worthOf : Nat) (a_this_trace : Nat) (a_this_bits : Nat) (a_this_sizes : Nat) (a_this_number : Nat) (a_this_aside : Nat) (p1 : Nat → Int32) (this_images : Int32) (this_at : Int32) (this_open : Int32) (this_steps : Int32) (this_use : Int32) (this_bestNet : Int32) (this_bestMore : Int32) (this_leastApart : Int32) (this_found : Int32) (this_first : Int32) (this_leastPaid : Int32) (this_traced : Int32) (this_speaks : Int32) (this_isParted : Int32) (this_named : Nat → Int32) (this_pile : Nat → Int32) (this_s : Nat → Int32) : va_W := [(a_p1, .inl (gI G, 8, .inl p1)), (a_this, .inr (12, [.ref a_this_s, .ref a_this_kept, .int this_images, .ref a_this_errors, .int this_at, .int this_open, .int this_steps, .int this_use, .ref a_this_step, .ref a_this_named, .ref a_this_pile, .ref a_this_told, .ref a_this_beside1, .ref a_this_row, .ref a_this_best, .int this_bestNet, .int this_bestMore, .ref a_this_worthOf, .int this_leastApart, .int this_found, .int this_first, .int this_leastPaid, .ref a_this_trace, .int this_traced, .int this_speaks, .int this_isParted, .ref a_this_bits, .ref a_this_sizes, .ref a_this_number, .ref a_this_aside])), (a_this_named, .inl (gI G, 128, .inl this_named)), (a_this_pile, .inl (gI G, 64, .inl this_pile)), (a_this_s, .inl (gI G, 374, .inl this_s))]
def f_X12_goes_75 (N : Nat) (p1 : Nat → Int32) (K : Int32 → (Nat → Int32) → Option (Int32 × (Nat → Int32) × (Nat → Int32) × (Nat → Int32))) : Nat → Int32 → (Nat → Int32) → Option (Int32 × (Nat → Int32) × (Nat → Int32) × (Nat → Int32))
  | 0, _, _ => none
  | n + 1, y4, this_s_v => (if (8 : Int32) ≤ y4 then (K y4 this_s_v) else (if vin ((24 : Int32) + y4) 374 = true then (if vin y4 8 = true then (if vin ((24 : Int32) + y4) 374 = true then (f_X12_goes_75 N p1 K n (y4 + (1 : Int32)) (upd this_s_v ((24 : Int32) + y4).toNatClampNeg ((this_s_v ((24 : Int32) + y4).toNatClampNeg) - (p1 y4.toNatClampNeg)))) else none) else none) else none))
def f_X12_goes (N : Nat) (p0 : Int32) (p1 : Nat → Int32) (this_named : Nat → Int32) (this_pile : Nat → Int32) (this_s : Nat → Int32) : Option (Int32 × (Nat → Int32) × (Nat → Int32) × (Nat → Int32)) := ((f_X12_paid N p0 p1 this_named this_pile this_s).bind fun r1 => ((f_X12_held N ((this_s (1 : Int32).toNatClampNeg) + r1.1) (0 : Int32) (99999999 : Int32)).bind fun r2 => ((f_X12_costOf N p1 (upd this_s (1 : Int32).toNatClampNeg r2)).bind fun r3 => ((f_X12_held N (((upd this_s (1 : Int32).toNatClampNeg r2) (2 : Int32).toNatClampNeg) + r3) (0 : Int32) (99999999 : Int32)).bind fun r4 => ((f_X12_held N (((upd (upd this_s (1 : Int32).toNatClampNeg r2) (2 : Int32).toNatClampNeg r4) (0 : Int32).toNatClampNeg) + (1 : Int32)) (0 : Int32) (9999 : Int32)).bind fun r5 => (f_X12_goes_75 N p1 (fun v4_10 this_s_10 => (some (r1.1, r1.2.1, r1.2.2, this_s_10))) N (0 : Int32) (upd (upd (upd this_s (1 : Int32).toNatClampNeg r2) (2 : Int32).toNatClampNeg r4) (0 : Int32).toNatClampNeg r5)))))))
set_option maxRecDepth 100000 in
set_option maxHeartbeats 4000000 in
theorem c_X12_goes (l : Launch) (G : KG) (N : Nat) (a_p1 : Nat) (a_this : Nat) (a_this_s : Nat) (a_this_kept : Nat) (a_this_errors : Nat) (a_this_step : Nat) (a_this_named : Nat) (a_this_pile : Nat) (a_this_told : Nat) (a_this_beside1 : Nat) (a_this_row : Nat) (a_this_best : Nat) (a_this_worthOf : Nat) (a_this_trace : Nat) (a_this_bits : Nat) (a_this_sizes : Nat) (a_this_number : Nat) (a_this_aside : Nat) (p0 : Int32) (p1 : Nat → Int32) (this_images : Int32) (this_at : Int32) (this_open : Int32) (this_steps : Int32) (this_use : Int32) (this_bestNet : Int32) (this_bestMore : Int32) (this_leastApart : Int32) (this_found : Int32) (this_first : Int32) (this_leastPaid : Int32) (this_traced : Int32) (this_speaks : Int32) (this_isParted : Int32) (this_named : Nat → Int32) (this_pile : Nat → Int32) (this_s : Nat → Int32)  (out : Int32 × (Nat → Int32) × (Nat → Int32) × (Nat → Int32)) (hf : f_X12_goes N p0 p1 this_named this_pile this_s = some out) : KM l G yX12_goes (kw yX12_goes cX12_goes 5 (some .int)) 4 95 [.ref a_this, .int p0, .ref a_p1] (k_X12_goes G a_p1 a_this a_this_s a_this_kept a_this_errors a_this_step a_this_named a_this_pile a_this_told a_this_beside1 a_this_row a_this_best a_this_worthOf a_this_trace a_this_bits a_this_sizes a_this_number a_this_aside p1 this_images this_at this_open this_steps this_use this_bestNet this_bestMore this_leastApart this_found this_first this_leastPaid this_traced this_speaks this_isParted this_named this_pile this_s) (k_X12_goes G a_p1 a_this a_this_s a_this_kept a_this_errors a_this_step a_this_named a_this_pile a_this_told a_this_beside1 a_this_row a_this_best a_this_worthOf a_this_trace a_this_bits a_this_sizes a_this_number a_this_aside p1 this_images this_at this_open this_steps this_use this_bestNet this_bestMore this_leastApart this_found this_first this_leastPaid this_traced this_speaks this_isParted (out.2.1) (out.2.2.1) (out.2.2.2)) (some (.int (out.1))) := by
  refine KM.of (by decide) (Nat.le_of_ble_eq_true rfl) ?_
  intro p e s m below meth c A ls args Q Fx0 hP hK hD hA hS hAm hQ hl
  obtain ⟨hx, hb, hr, hml, hts, hown, hlk, hnm⟩ := Fx0
  have hown : s.vm.findClass RX12 = some m.cls := hown
  have hl : lv_has ls 5 [(0, .ref a_this), (1, .int p0), (2, .ref a_p1)] := hl
  have fl_7 := hts _ tw_986
  have kc_187 := hts _ tw_1262
  unfold f_X12_goes at hf
  refine lv_aload_n hx hb dX12_goes_0 rfl (lv_at hl 0 rfl) ?_
  refine lv_iload_n hx hb dX12_goes_1 rfl (lv_at hl 1 rfl) ?_
  refine lv_aload_n hx hb dX12_goes_2 rfl (lv_at hl 2 rfl) ?_
  obtain ⟨r1, hr1, hf⟩ := kb hf
  refine kV (As := [.int p0, .ref a_p1]) (rest := []) ⟨hx, hb, hml, hown, hts⟩ (c_X12_paid l G N a_p1 a_this a_this_s a_this_kept a_this_errors a_this_step a_this_named a_this_pile a_this_told a_this_beside1 a_this_row a_this_best a_this_worthOf a_this_trace a_this_bits a_this_sizes a_this_number a_this_aside p0 p1 this_images this_at this_open this_steps this_use this_bestNet this_bestMore this_leastApart this_found this_first this_leastPaid this_traced this_speaks this_isParted this_named this_pile this_s r1 hr1) (kcV 2 hts tw_1249 tw_92 tw_1246 tw_1248 tw_65 hd_X12_paid ⟨Nat.le_of_ble_eq_true rfl, Nat.le_of_ble_eq_true rfl⟩) dX12_goes_3 hl.1 hK hAm hA hP hD hS 1 (ci := 12) rfl rfl rfl [0, 1, 2, 3, 4] rfl rfl rfl [2, 3] rfl rfl rfl (Nat.le_of_ble_eq_true rfl) ⟨Nat.le_refl _, Nat.le_refl _⟩ (fun H locs hP hD hS => ?_)
  have hP : va_P (gD G) vwCl (k_X12_goes G a_p1 a_this a_this_s a_this_kept a_this_errors a_this_step a_this_named a_this_pile a_this_told a_this_beside1 a_this_row a_this_best a_this_worthOf a_this_trace a_this_bits a_this_sizes a_this_number a_this_aside p1 this_images this_at this_open this_steps this_use this_bestNet this_bestMore this_leastApart this_found this_first this_leastPaid this_traced this_speaks this_isParted r1.2.1 r1.2.2 this_s) H := hP
  have hD : va_D A (k_X12_goes G a_p1 a_this a_this_s a_this_kept a_this_errors a_this_step a_this_named a_this_pile a_this_told a_this_beside1 a_this_row a_this_best a_this_worthOf a_this_trace a_this_bits a_this_sizes a_this_number a_this_aside p1 this_images this_at this_open this_steps this_use this_bestNet this_bestMore this_leastApart this_found this_first this_leastPaid this_traced this_speaks this_isParted r1.2.1 r1.2.2 this_s) := hD
  refine lv_istore_n (lv' := [(3, .int r1.1), (0, .ref a_this), (1, .int p0), (2, .ref a_p1)]) hx hb dX12_goes_6 rfl hl (by decide) rfl (fun ls hl => ?_)
  refine lv_aload_n hx hb dX12_goes_7 rfl (lv_at hl 1 rfl) ?_
  refine va_get (D := gD G) (ci := 12) (C := RX12) (T := TX12) (N := 30) hx hb hts hin_X12 hown hK hP 1 rfl rfl 0 (by decide) fl_7 (fun _ h9 => h9) rfl dX12_goes_8 ?_
  refine lv_iconst (v := (1 : Int32)) hx hb dX12_goes_11 (by decide) ?_
  refine lv_aload_n hx hb dX12_goes_12 rfl (lv_at hl 1 rfl) ?_
  refine va_get (D := gD G) (ci := 12) (C := RX12) (T := TX12) (N := 30) hx hb hts hin_X12 hown hK hP 1 rfl rfl 0 (by decide) fl_7 (fun _ h9 => h9) rfl dX12_goes_13 ?_
  refine lv_iconst (v := (1 : Int32)) hx hb dX12_goes_16 (by decide) ?_
  refine va_iald hx hb hK hP 4 0 rfl rfl (vin_of (by decide)) dX12_goes_17 ?_
  refine lv_iload_n hx hb dX12_goes_18 rfl (lv_at hl 0 rfl) ?_
  refine lv_iadd hx hb dX12_goes_19 ?_
  refine lv_iconst (v := (0 : Int32)) hx hb dX12_goes_20 (by decide) ?_
  refine lv_ldc (v := (99999999 : Int32)) hx hb hown kc_187 dX12_goes_21 ?_
  obtain ⟨r2, hr2, hf⟩ := kb hf
  refine kS (As := [.int ((this_s (1 : Int32).toNatClampNeg) + r1.1), .int (0 : Int32), .int (99999999 : Int32)]) (rest := [.int (1 : Int32), .ref a_this_s]) ⟨hx, hb, hml, hown, hts⟩ (c_X12_held l G N ((this_s (1 : Int32).toNatClampNeg) + r1.1) (0 : Int32) (99999999 : Int32) r2 hr2) (kcS 3 hts tw_1170 tw_92 tw_1168 tw_1169 hd_X12_held ⟨Nat.le_of_ble_eq_true rfl, Nat.le_of_ble_eq_true rfl⟩) dX12_goes_23 hl.1 hK hAm hA hP hD hS [] rfl rfl rfl [] rfl rfl rfl (Nat.le_of_ble_eq_true rfl) ⟨Nat.le_refl _, Nat.le_refl _⟩ (fun H locs hP hD hS => ?_)
  have hP : va_P (gD G) vwCl (k_X12_goes G a_p1 a_this a_this_s a_this_kept a_this_errors a_this_step a_this_named a_this_pile a_this_told a_this_beside1 a_this_row a_this_best a_this_worthOf a_this_trace a_this_bits a_this_sizes a_this_number a_this_aside p1 this_images this_at this_open this_steps this_use this_bestNet this_bestMore this_leastApart this_found this_first this_leastPaid this_traced this_speaks this_isParted r1.2.1 r1.2.2 this_s) H := hP
  have hD : va_D A (k_X12_goes G a_p1 a_this a_this_s a_this_kept a_this_errors a_this_step a_this_named a_this_pile a_this_told a_this_beside1 a_this_row a_this_best a_this_worthOf a_this_trace a_this_bits a_this_sizes a_this_number a_this_aside p1 this_images this_at this_open this_steps this_use this_bestNet this_bestMore this_leastApart this_found this_first this_leastPaid this_traced this_speaks this_isParted r1.2.1 r1.2.2 this_s) := hD
  refine va_iast hx hb hK hP hD hS 4 0 rfl rfl (vin_of (by decide)) dX12_goes_26 (fun H locs hP hD hS => ?_)
  have hP : va_P (gD G) vwCl (k_X12_goes G a_p1 a_this a_this_s a_this_kept a_this_errors a_this_step a_this_named a_this_pile a_this_told a_this_beside1 a_this_row a_this_best a_this_worthOf a_this_trace a_this_bits a_this_sizes a_this_number a_this_aside p1 this_images this_at this_open this_steps this_use this_bestNet this_bestMore this_leastApart this_found this_first this_leastPaid this_traced this_speaks this_isParted r1.2.1 r1.2.2 (upd this_s (1 : Int32).toNatClampNeg r2)) H := hP
  have hD : va_D A (k_X12_goes G a_p1 a_this a_this_s a_this_kept a_this_errors a_this_step a_this_named a_this_pile a_this_told a_this_beside1 a_this_row a_this_best a_this_worthOf a_this_trace a_this_bits a_this_sizes a_this_number a_this_aside p1 this_images this_at this_open this_steps this_use this_bestNet this_bestMore this_leastApart this_found this_first this_leastPaid this_traced this_speaks this_isParted r1.2.1 r1.2.2 (upd this_s (1 : Int32).toNatClampNeg r2)) := hD
  refine lv_aload_n hx hb dX12_goes_27 rfl (lv_at hl 1 rfl) ?_
  refine va_get (D := gD G) (ci := 12) (C := RX12) (T := TX12) (N := 30) hx hb hts hin_X12 hown hK hP 1 rfl rfl 0 (by decide) fl_7 (fun _ h9 => h9) rfl dX12_goes_28 ?_
  refine lv_iconst (v := (2 : Int32)) hx hb dX12_goes_31 (by decide) ?_
  refine lv_aload_n hx hb dX12_goes_32 rfl (lv_at hl 1 rfl) ?_
  refine va_get (D := gD G) (ci := 12) (C := RX12) (T := TX12) (N := 30) hx hb hts hin_X12 hown hK hP 1 rfl rfl 0 (by decide) fl_7 (fun _ h9 => h9) rfl dX12_goes_33 ?_
  refine lv_iconst (v := (2 : Int32)) hx hb dX12_goes_36 (by decide) ?_
  refine va_iald hx hb hK hP 4 0 rfl rfl (vin_of (by decide)) dX12_goes_37 ?_
  refine lv_aload_n hx hb dX12_goes_38 rfl (lv_at hl 1 rfl) ?_
  refine lv_aload_n hx hb dX12_goes_39 rfl (lv_at hl 3 rfl) ?_
  obtain ⟨r3, hr3, hf⟩ := kb hf
  refine kV (As := [.ref a_p1]) (rest := [.int ((upd this_s (1 : Int32).toNatClampNeg r2) (2 : Int32).toNatClampNeg), .int (2 : Int32), .ref a_this_s]) ⟨hx, hb, hml, hown, hts⟩ (c_X12_costOf l G N a_p1 a_this a_this_s a_this_kept a_this_errors a_this_step a_this_named a_this_pile a_this_told a_this_beside1 a_this_row a_this_best a_this_worthOf a_this_trace a_this_bits a_this_sizes a_this_number a_this_aside p1 this_images this_at this_open this_steps this_use this_bestNet this_bestMore this_leastApart this_found this_first this_leastPaid this_traced this_speaks this_isParted (upd this_s (1 : Int32).toNatClampNeg r2) r3 hr3) (kcV 1 hts tw_1241 tw_92 tw_1238 tw_1240 tw_64 hd_X12_costOf ⟨Nat.le_of_ble_eq_true rfl, Nat.le_of_ble_eq_true rfl⟩) dX12_goes_40 hl.1 hK hAm hA hP hD hS 1 (ci := 12) rfl rfl rfl [0, 1, 4] rfl rfl rfl [] rfl rfl rfl (Nat.le_of_ble_eq_true rfl) ⟨Nat.le_refl _, Nat.le_refl _⟩ (fun H locs hP hD hS => ?_)
  have hP : va_P (gD G) vwCl (k_X12_goes G a_p1 a_this a_this_s a_this_kept a_this_errors a_this_step a_this_named a_this_pile a_this_told a_this_beside1 a_this_row a_this_best a_this_worthOf a_this_trace a_this_bits a_this_sizes a_this_number a_this_aside p1 this_images this_at this_open this_steps this_use this_bestNet this_bestMore this_leastApart this_found this_first this_leastPaid this_traced this_speaks this_isParted r1.2.1 r1.2.2 (upd this_s (1 : Int32).toNatClampNeg r2)) H := hP
  have hD : va_D A (k_X12_goes G a_p1 a_this a_this_s a_this_kept a_this_errors a_this_step a_this_named a_this_pile a_this_told a_this_beside1 a_this_row a_this_best a_this_worthOf a_this_trace a_this_bits a_this_sizes a_this_number a_this_aside p1 this_images this_at this_open this_steps this_use this_bestNet this_bestMore this_leastApart this_found this_first this_leastPaid this_traced this_speaks this_isParted r1.2.1 r1.2.2 (upd this_s (1 : Int32).toNatClampNeg r2)) := hD
  refine lv_iadd hx hb dX12_goes_43 ?_
  refine lv_iconst (v := (0 : Int32)) hx hb dX12_goes_44 (by decide) ?_
  refine lv_ldc (v := (99999999 : Int32)) hx hb hown kc_187 dX12_goes_45 ?_
  obtain ⟨r4, hr4, hf⟩ := kb hf
  refine kS (As := [.int (((upd this_s (1 : Int32).toNatClampNeg r2) (2 : Int32).toNatClampNeg) + r3), .int (0 : Int32), .int (99999999 : Int32)]) (rest := [.int (2 : Int32), .ref a_this_s]) ⟨hx, hb, hml, hown, hts⟩ (c_X12_held l G N (((upd this_s (1 : Int32).toNatClampNeg r2) (2 : Int32).toNatClampNeg) + r3) (0 : Int32) (99999999 : Int32) r4 hr4) (kcS 3 hts tw_1170 tw_92 tw_1168 tw_1169 hd_X12_held ⟨Nat.le_of_ble_eq_true rfl, Nat.le_of_ble_eq_true rfl⟩) dX12_goes_47 hl.1 hK hAm hA hP hD hS [] rfl rfl rfl [] rfl rfl rfl (Nat.le_of_ble_eq_true rfl) ⟨Nat.le_refl _, Nat.le_refl _⟩ (fun H locs hP hD hS => ?_)
  have hP : va_P (gD G) vwCl (k_X12_goes G a_p1 a_this a_this_s a_this_kept a_this_errors a_this_step a_this_named a_this_pile a_this_told a_this_beside1 a_this_row a_this_best a_this_worthOf a_this_trace a_this_bits a_this_sizes a_this_number a_this_aside p1 this_images this_at this_open this_steps this_use this_bestNet this_bestMore this_leastApart this_found this_first this_leastPaid this_traced this_speaks this_isParted r1.2.1 r1.2.2 (upd this_s (1 : Int32).toNatClampNeg r2)) H := hP
  have hD : va_D A (k_X12_goes G a_p1 a_this a_this_s a_this_kept a_this_errors a_this_step a_this_named a_this_pile a_this_told a_this_beside1 a_this_row a_this_best a_this_worthOf a_this_trace a_this_bits a_this_sizes a_this_number a_this_aside p1 this_images this_at this_open this_steps this_use this_bestNet this_bestMore this_leastApart this_found this_first this_leastPaid this_traced this_speaks this_isParted r1.2.1 r1.2.2 (upd this_s (1 : Int32).toNatClampNeg r2)) := hD
  refine va_iast hx hb hK hP hD hS 4 0 rfl rfl (vin_of (by decide)) dX12_goes_50 (fun H locs hP hD hS => ?_)
  have hP : va_P (gD G) vwCl (k_X12_goes G a_p1 a_this a_this_s a_this_kept a_this_errors a_this_step a_this_named a_this_pile a_this_told a_this_beside1 a_this_row a_this_best a_this_worthOf a_this_trace a_this_bits a_this_sizes a_this_number a_this_aside p1 this_images this_at this_open this_steps this_use this_bestNet this_bestMore this_leastApart this_found this_first this_leastPaid this_traced this_speaks this_isParted r1.2.1 r1.2.2 (upd (upd this_s (1 : Int32).toNatClampNeg r2) (2 : Int32).toNatClampNeg r4)) H := hP
  have hD : va_D A (k_X12_goes G a_p1 a_this a_this_s a_this_kept a_this_errors a_this_step a_this_named a_this_pile a_this_told a_this_beside1 a_this_row a_this_best a_this_worthOf a_this_trace a_this_bits a_this_sizes a_this_number a_this_aside p1 this_images this_at this_open this_steps this_use this_bestNet this_bestMore this_leastApart this_found this_first this_leastPaid this_traced this_speaks this_isParted r1.2.1 r1.2.2 (upd (upd this_s (1 : Int32).toNatClampNeg r2) (2 : Int32).toNatClampNeg r4)) := hD
  refine lv_aload_n hx hb dX12_goes_51 rfl (lv_at hl 1 rfl) ?_
  refine va_get (D := gD G) (ci := 12) (C := RX12) (T := TX12) (N := 30) hx hb hts hin_X12 hown hK hP 1 rfl rfl 0 (by decide) fl_7 (fun _ h9 => h9) rfl dX12_goes_52 ?_
  refine lv_iconst (v := (0 : Int32)) hx hb dX12_goes_55 (by decide) ?_
  refine lv_aload_n hx hb dX12_goes_56 rfl (lv_at hl 1 rfl) ?_
  refine va_get (D := gD G) (ci := 12) (C := RX12) (T := TX12) (N := 30) hx hb hts hin_X12 hown hK hP 1 rfl rfl 0 (by decide) fl_7 (fun _ h9 => h9) rfl dX12_goes_57 ?_
  refine lv_iconst (v := (0 : Int32)) hx hb dX12_goes_60 (by decide) ?_
  refine va_iald hx hb hK hP 4 0 rfl rfl (vin_of (by decide)) dX12_goes_61 ?_
  refine lv_iconst (v := (1 : Int32)) hx hb dX12_goes_62 (by decide) ?_
  refine lv_iadd hx hb dX12_goes_63 ?_
  refine lv_iconst (v := (0 : Int32)) hx hb dX12_goes_64 (by decide) ?_
  refine lv_sipush (v := (9999 : Int32)) hx hb dX12_goes_65 (by decide) ?_
  obtain ⟨r5, hr5, hf⟩ := kb hf
  refine kS (As := [.int (((upd (upd this_s (1 : Int32).toNatClampNeg r2) (2 : Int32).toNatClampNeg r4) (0 : Int32).toNatClampNeg) + (1 : Int32)), .int (0 : Int32), .int (9999 : Int32)]) (rest := [.int (0 : Int32), .ref a_this_s]) ⟨hx, hb, hml, hown, hts⟩ (c_X12_held l G N (((upd (upd this_s (1 : Int32).toNatClampNeg r2) (2 : Int32).toNatClampNeg r4) (0 : Int32).toNatClampNeg) + (1 : Int32)) (0 : Int32) (9999 : Int32) r5 hr5) (kcS 3 hts tw_1170 tw_92 tw_1168 tw_1169 hd_X12_held ⟨Nat.le_of_ble_eq_true rfl, Nat.le_of_ble_eq_true rfl⟩) dX12_goes_68 hl.1 hK hAm hA hP hD hS [] rfl rfl rfl [] rfl rfl rfl (Nat.le_of_ble_eq_true rfl) ⟨Nat.le_refl _, Nat.le_refl _⟩ (fun H locs hP hD hS => ?_)
  have hP : va_P (gD G) vwCl (k_X12_goes G a_p1 a_this a_this_s a_this_kept a_this_errors a_this_step a_this_named a_this_pile a_this_told a_this_beside1 a_this_row a_this_best a_this_worthOf a_this_trace a_this_bits a_this_sizes a_this_number a_this_aside p1 this_images this_at this_open this_steps this_use this_bestNet this_bestMore this_leastApart this_found this_first this_leastPaid this_traced this_speaks this_isParted r1.2.1 r1.2.2 (upd (upd this_s (1 : Int32).toNatClampNeg r2) (2 : Int32).toNatClampNeg r4)) H := hP
  have hD : va_D A (k_X12_goes G a_p1 a_this a_this_s a_this_kept a_this_errors a_this_step a_this_named a_this_pile a_this_told a_this_beside1 a_this_row a_this_best a_this_worthOf a_this_trace a_this_bits a_this_sizes a_this_number a_this_aside p1 this_images this_at this_open this_steps this_use this_bestNet this_bestMore this_leastApart this_found this_first this_leastPaid this_traced this_speaks this_isParted r1.2.1 r1.2.2 (upd (upd this_s (1 : Int32).toNatClampNeg r2) (2 : Int32).toNatClampNeg r4)) := hD
  refine va_iast hx hb hK hP hD hS 4 0 rfl rfl (vin_of (by decide)) dX12_goes_71 (fun H locs hP hD hS => ?_)
  have hP : va_P (gD G) vwCl (k_X12_goes G a_p1 a_this a_this_s a_this_kept a_this_errors a_this_step a_this_named a_this_pile a_this_told a_this_beside1 a_this_row a_this_best a_this_worthOf a_this_trace a_this_bits a_this_sizes a_this_number a_this_aside p1 this_images this_at this_open this_steps this_use this_bestNet this_bestMore this_leastApart this_found this_first this_leastPaid this_traced this_speaks this_isParted r1.2.1 r1.2.2 (upd (upd (upd this_s (1 : Int32).toNatClampNeg r2) (2 : Int32).toNatClampNeg r4) (0 : Int32).toNatClampNeg r5)) H := hP
  have hD : va_D A (k_X12_goes G a_p1 a_this a_this_s a_this_kept a_this_errors a_this_step a_this_named a_this_pile a_this_told a_this_beside1 a_this_row a_this_best a_this_worthOf a_this_trace a_this_bits a_this_sizes a_this_number a_this_aside p1 this_images this_at this_open this_steps this_use this_bestNet this_bestMore this_leastApart this_found this_first this_leastPaid this_traced this_speaks this_isParted r1.2.1 r1.2.2 (upd (upd (upd this_s (1 : Int32).toNatClampNeg r2) (2 : Int32).toNatClampNeg r4) (0 : Int32).toNatClampNeg r5)) := hD
  refine lv_iconst (v := (0 : Int32)) hx hb dX12_goes_72 (by decide) ?_
  refine lv_istore (lv' := [(4, .int (0 : Int32)), (3, .int r1.1), (0, .ref a_this), (1, .int p0), (2, .ref a_p1)]) hx hb dX12_goes_73 hl (by decide) rfl (fun ls hl => ?_)
  have L7 : ∀ (K : Int32 → (Nat → Int32) → Option (Int32 × (Nat → Int32) × (Nat → Int32) × (Nat → Int32))), (∀ (v4_7 : Int32) (this_s_7 : Nat → Int32) (H : Heap) (locs : List Loc), va_P (gD G) vwCl (k_X12_goes G a_p1 a_this a_this_s a_this_kept a_this_errors a_this_step a_this_named a_this_pile a_this_told a_this_beside1 a_this_row a_this_best a_this_worthOf a_this_trace a_this_bits a_this_sizes a_this_number a_this_aside p1 this_images this_at this_open this_steps this_use this_bestNet this_bestMore this_leastApart this_found this_first this_leastPaid this_traced this_speaks this_isParted r1.2.1 r1.2.2 this_s_7) H → va_D A (k_X12_goes G a_p1 a_this a_this_s a_this_kept a_this_errors a_this_step a_this_named a_this_pile a_this_told a_this_beside1 a_this_row a_this_best a_this_worthOf a_this_trace a_this_bits a_this_sizes a_this_number a_this_aside p1 this_images this_at this_open this_steps this_use this_bestNet this_bestMore this_leastApart this_found this_first this_leastPaid this_traced this_speaks this_isParted r1.2.1 r1.2.2 this_s_7) → va_S A s.heap H locs → ∀ (ls : Array Slot), lv_has ls 5 [(0, .ref a_this), (1, .int p0), (2, .ref a_p1), (3, .int r1.1), (4, .int v4_7)] → K v4_7 this_s_7 = some out → W p l e (kR 4 0 0 95) s m args below meth c H locs 0 0 Q (F0 m 105 ls [])) → ∀ (n : Nat), ∀ (v4_7 : Int32) (this_s_7 : Nat → Int32) (H : Heap) (locs : List Loc), va_P (gD G) vwCl (k_X12_goes G a_p1 a_this a_this_s a_this_kept a_this_errors a_this_step a_this_named a_this_pile a_this_told a_this_beside1 a_this_row a_this_best a_this_worthOf a_this_trace a_this_bits a_this_sizes a_this_number a_this_aside p1 this_images this_at this_open this_steps this_use this_bestNet this_bestMore this_leastApart this_found this_first this_leastPaid this_traced this_speaks this_isParted r1.2.1 r1.2.2 this_s_7) H → va_D A (k_X12_goes G a_p1 a_this a_this_s a_this_kept a_this_errors a_this_step a_this_named a_this_pile a_this_told a_this_beside1 a_this_row a_this_best a_this_worthOf a_this_trace a_this_bits a_this_sizes a_this_number a_this_aside p1 this_images this_at this_open this_steps this_use this_bestNet this_bestMore this_leastApart this_found this_first this_leastPaid this_traced this_speaks this_isParted r1.2.1 r1.2.2 this_s_7) → va_S A s.heap H locs → ∀ (ls : Array Slot), lv_has ls 5 [(0, .ref a_this), (1, .int p0), (2, .ref a_p1), (3, .int r1.1), (4, .int v4_7)] → f_X12_goes_75 N p1 K n v4_7 this_s_7 = some out → W p l e (kR 4 0 0 95) s m args below meth c H locs 0 0 Q (F0 m 75 ls []) := by
    intro K hK7 n
    induction n with
    | zero =>
      intro v4_7 this_s_7 H locs hP hD hS ls hl hf
      rw [f_X12_goes_75] at hf
      cases hf
    | succ n ih =>
      intro v4_7 this_s_7 H locs hP hD hS ls hl hf
      rw [f_X12_goes_75] at hf
      refine lv_iload hx hb dX12_goes_75 (lv_at hl 4 rfl) ?_
      refine lv_bipush (v := (8 : Int32)) hx hb dX12_goes_77 (by decide) ?_
      refine lv_icmp_ge (tgt := 105) hx hb dX12_goes_79 (by decide) (fun c8 => ?_) (fun c8 => ?_)
      · replace hf := kt c8 hf
        exact hK7 v4_7 this_s_7 _ _ hP hD hS ls (lv_sub hl [0, 1, 2, 3, 4] rfl) hf
      · replace hf := kf c8 hf
        refine lv_aload_n hx hb dX12_goes_82 rfl (lv_at hl 0 rfl) ?_
        refine va_get (D := gD G) (ci := 12) (C := RX12) (T := TX12) (N := 30) hx hb hts hin_X12 hown hK hP 1 rfl rfl 0 (by decide) fl_7 (fun _ h9 => h9) rfl dX12_goes_83 ?_
        refine lv_bipush (v := (24 : Int32)) hx hb dX12_goes_86 (by decide) ?_
        refine lv_iload hx hb dX12_goes_88 (lv_at hl 4 rfl) ?_
        refine lv_iadd hx hb dX12_goes_90 ?_
        refine lv_dup2_11 hx hb dX12_goes_91 rfl rfl ?_
        obtain ⟨g9, hf⟩ := kg hf
        refine va_iald hx hb hK hP 4 0 rfl rfl (vin_of g9) dX12_goes_92 ?_
        refine lv_aload_n hx hb dX12_goes_93 rfl (lv_at hl 2 rfl) ?_
        refine lv_iload hx hb dX12_goes_94 (lv_at hl 4 rfl) ?_
        obtain ⟨g10, hf⟩ := kg hf
        refine va_iald hx hb hK hP 0 0 rfl rfl (vin_of g10) dX12_goes_96 ?_
        refine lv_isub hx hb dX12_goes_97 ?_
        obtain ⟨g11, hf⟩ := kg hf
        refine va_iast hx hb hK hP hD hS 4 0 rfl rfl (vin_of g11) dX12_goes_98 (fun H locs hP hD hS => ?_)
        have hP : va_P (gD G) vwCl (k_X12_goes G a_p1 a_this a_this_s a_this_kept a_this_errors a_this_step a_this_named a_this_pile a_this_told a_this_beside1 a_this_row a_this_best a_this_worthOf a_this_trace a_this_bits a_this_sizes a_this_number a_this_aside p1 this_images this_at this_open this_steps this_use this_bestNet this_bestMore this_leastApart this_found this_first this_leastPaid this_traced this_speaks this_isParted r1.2.1 r1.2.2 (upd this_s_7 ((24 : Int32) + v4_7).toNatClampNeg ((this_s_7 ((24 : Int32) + v4_7).toNatClampNeg) - (p1 v4_7.toNatClampNeg)))) H := hP
        have hD : va_D A (k_X12_goes G a_p1 a_this a_this_s a_this_kept a_this_errors a_this_step a_this_named a_this_pile a_this_told a_this_beside1 a_this_row a_this_best a_this_worthOf a_this_trace a_this_bits a_this_sizes a_this_number a_this_aside p1 this_images this_at this_open this_steps this_use this_bestNet this_bestMore this_leastApart this_found this_first this_leastPaid this_traced this_speaks this_isParted r1.2.1 r1.2.2 (upd this_s_7 ((24 : Int32) + v4_7).toNatClampNeg ((this_s_7 ((24 : Int32) + v4_7).toNatClampNeg) - (p1 v4_7.toNatClampNeg)))) := hD
        refine lv_iinc (v := (v4_7 + (1 : Int32))) (lv' := [(4, .int (v4_7 + (1 : Int32))), (0, .ref a_this), (1, .int p0), (2, .ref a_p1), (3, .int r1.1)]) hx hb dX12_goes_99 hl (k := 4) rfl rfl (by decide) rfl (fun ls hl => ?_)
        refine lv_goto (tgt := 75) hx hb dX12_goes_102 (by decide) ?_
        exact ih (v4_7 + (1 : Int32)) (upd this_s_7 ((24 : Int32) + v4_7).toNatClampNeg ((this_s_7 ((24 : Int32) + v4_7).toNatClampNeg) - (p1 v4_7.toNatClampNeg))) _ _ hP hD hS ls (lv_sub hl [1, 2, 3, 4, 0] rfl) hf
  refine L7 _ (fun v4_6 this_s_6 H locs hP hD hS ls hl hf => ?_) N (0 : Int32) (upd (upd (upd this_s (1 : Int32).toNatClampNeg r2) (2 : Int32).toNatClampNeg r4) (0 : Int32).toNatClampNeg r5) _ _ hP hD hS ls (lv_sub hl [2, 3, 4, 1, 0] rfl) hf
  refine lv_iload_n hx hb dX12_goes_105 rfl (lv_at hl 3 rfl) ?_
  have ho := ks hf
  subst ho
  exact kiret hx hb hr hlk hP hD hS hQ dX12_goes_106
abbrev k_X12_draw (G : KG) (a_this : Nat) (a_this_s : Nat) (a_this_kept : Nat) (a_this_errors : Nat) (a_this_step : Nat) (a_this_named : Nat) (a_this_pile : Nat) (a_this_told : Nat) (a_this_beside1 : Nat) (a_this_row : Nat) (a_this_best : Nat) (a_this_worthOf : Nat) (a_this_trace : Nat) (a_this_bits : Nat) (a_this_sizes : Nat) (a_this_number : Nat) (a_this_aside : Nat) (this_images : Int32) (this_at : Int32) (this_open : Int32) (this_steps : Int32) (this_use : Int32) (this_bestNet : Int32) (this_bestMore : Int32) (this_leastApart : Int32) (this_found : Int32) (this_first : Int32) (this_leastPaid : Int32) (this_traced : Int32) (this_speaks : Int32) (this_isParted : Int32) (this_s : Nat → Int32) : va_W := [(a_this, .inr (12, [.ref a_this_s, .ref a_this_kept, .int this_images, .ref a_this_errors, .int this_at, .int this_open, .int this_steps, .int this_use, .ref a_this_step, .ref a_this_named, .ref a_this_pile, .ref a_this_told, .ref a_this_beside1, .ref a_this_row, .ref a_this_best, .int this_bestNet, .int this_bestMore, .ref a_this_worthOf, .int this_leastApart, .int this_found, .int this_first, .int this_leastPaid, .ref a_this_trace, .int this_traced, .int this_speaks, .int this_isParted, .ref a_this_bits, .ref a_this_sizes, .ref a_this_number, .ref a_this_aside])), (a_this_s, .inl (gI G, 374, .inl this_s))]
def f_X12_draw (N : Nat) (this_s : Nat → Int32) : Option (Int32 × (Nat → Int32)) := (some ((jushr ((upd this_s (5 : Int32).toNatClampNeg (((this_s (5 : Int32).toNatClampNeg) * (1103515245 : Int32)) + (12345 : Int32))) (5 : Int32).toNatClampNeg) (8 : Int32)), (upd this_s (5 : Int32).toNatClampNeg (((this_s (5 : Int32).toNatClampNeg) * (1103515245 : Int32)) + (12345 : Int32)))))
set_option maxRecDepth 100000 in
set_option maxHeartbeats 4000000 in
theorem c_X12_draw (l : Launch) (G : KG) (N : Nat) (a_this : Nat) (a_this_s : Nat) (a_this_kept : Nat) (a_this_errors : Nat) (a_this_step : Nat) (a_this_named : Nat) (a_this_pile : Nat) (a_this_told : Nat) (a_this_beside1 : Nat) (a_this_row : Nat) (a_this_best : Nat) (a_this_worthOf : Nat) (a_this_trace : Nat) (a_this_bits : Nat) (a_this_sizes : Nat) (a_this_number : Nat) (a_this_aside : Nat) (this_images : Int32) (this_at : Int32) (this_open : Int32) (this_steps : Int32) (this_use : Int32) (this_bestNet : Int32) (this_bestMore : Int32) (this_leastApart : Int32) (this_found : Int32) (this_first : Int32) (this_leastPaid : Int32) (this_traced : Int32) (this_speaks : Int32) (this_isParted : Int32) (this_s : Nat → Int32)  (out : Int32 × (Nat → Int32)) (hf : f_X12_draw N this_s = some out) : KM l G yX12_draw (kw yX12_draw cX12_draw 1 (some .int)) 0 0 [.ref a_this] (k_X12_draw G a_this a_this_s a_this_kept a_this_errors a_this_step a_this_named a_this_pile a_this_told a_this_beside1 a_this_row a_this_best a_this_worthOf a_this_trace a_this_bits a_this_sizes a_this_number a_this_aside this_images this_at this_open this_steps this_use this_bestNet this_bestMore this_leastApart this_found this_first this_leastPaid this_traced this_speaks this_isParted this_s) (k_X12_draw G a_this a_this_s a_this_kept a_this_errors a_this_step a_this_named a_this_pile a_this_told a_this_beside1 a_this_row a_this_best a_this_worthOf a_this_trace a_this_bits a_this_sizes a_this_number a_this_aside this_images this_at this_open this_steps this_use this_bestNet this_bestMore this_leastApart this_found this_first this_leastPaid this_traced this_speaks this_isParted (out.2)) (some (.int (out.1))) := by
  refine KM.of (by decide) (Nat.le_of_ble_eq_true rfl) ?_
  intro p e s m below meth c A ls args Q Fx0 hP hK hD hA hS hAm hQ hl
  obtain ⟨hx, hb, hr, hml, hts, hown, hlk, hnm⟩ := Fx0
  have hown : s.vm.findClass RX12 = some m.cls := hown
  have hl : lv_has ls 1 [(0, .ref a_this)] := hl
  have fl_7 := hts _ tw_986
  have kc_195 := hts _ tw_1271
  unfold f_X12_draw at hf
  refine lv_aload_n hx hb dX12_draw_0 rfl (lv_at hl 0 rfl) ?_
  refine va_get (D := gD G) (ci := 12) (C := RX12) (T := TX12) (N := 30) hx hb hts hin_X12 hown hK hP 0 rfl rfl 0 (by decide) fl_7 (fun _ h9 => h9) rfl dX12_draw_1 ?_
  refine lv_iconst (v := (5 : Int32)) hx hb dX12_draw_4 (by decide) ?_
  refine lv_aload_n hx hb dX12_draw_5 rfl (lv_at hl 0 rfl) ?_
  refine va_get (D := gD G) (ci := 12) (C := RX12) (T := TX12) (N := 30) hx hb hts hin_X12 hown hK hP 0 rfl rfl 0 (by decide) fl_7 (fun _ h9 => h9) rfl dX12_draw_6 ?_
  refine lv_iconst (v := (5 : Int32)) hx hb dX12_draw_9 (by decide) ?_
  refine va_iald hx hb hK hP 1 0 rfl rfl (vin_of (by decide)) dX12_draw_10 ?_
  refine lv_ldc (v := (1103515245 : Int32)) hx hb hown kc_195 dX12_draw_11 ?_
  refine lv_imul hx hb dX12_draw_13 ?_
  refine lv_sipush (v := (12345 : Int32)) hx hb dX12_draw_14 (by decide) ?_
  refine lv_iadd hx hb dX12_draw_17 ?_
  refine va_iast hx hb hK hP hD hS 1 0 rfl rfl (vin_of (by decide)) dX12_draw_18 (fun H locs hP hD hS => ?_)
  have hP : va_P (gD G) vwCl (k_X12_draw G a_this a_this_s a_this_kept a_this_errors a_this_step a_this_named a_this_pile a_this_told a_this_beside1 a_this_row a_this_best a_this_worthOf a_this_trace a_this_bits a_this_sizes a_this_number a_this_aside this_images this_at this_open this_steps this_use this_bestNet this_bestMore this_leastApart this_found this_first this_leastPaid this_traced this_speaks this_isParted (upd this_s (5 : Int32).toNatClampNeg (((this_s (5 : Int32).toNatClampNeg) * (1103515245 : Int32)) + (12345 : Int32)))) H := hP
  have hD : va_D A (k_X12_draw G a_this a_this_s a_this_kept a_this_errors a_this_step a_this_named a_this_pile a_this_told a_this_beside1 a_this_row a_this_best a_this_worthOf a_this_trace a_this_bits a_this_sizes a_this_number a_this_aside this_images this_at this_open this_steps this_use this_bestNet this_bestMore this_leastApart this_found this_first this_leastPaid this_traced this_speaks this_isParted (upd this_s (5 : Int32).toNatClampNeg (((this_s (5 : Int32).toNatClampNeg) * (1103515245 : Int32)) + (12345 : Int32)))) := hD
  refine lv_aload_n hx hb dX12_draw_19 rfl (lv_at hl 0 rfl) ?_
  refine va_get (D := gD G) (ci := 12) (C := RX12) (T := TX12) (N := 30) hx hb hts hin_X12 hown hK hP 0 rfl rfl 0 (by decide) fl_7 (fun _ h9 => h9) rfl dX12_draw_20 ?_
  refine lv_iconst (v := (5 : Int32)) hx hb dX12_draw_23 (by decide) ?_
  refine va_iald hx hb hK hP 1 0 rfl rfl (vin_of (by decide)) dX12_draw_24 ?_
  refine lv_bipush (v := (8 : Int32)) hx hb dX12_draw_25 (by decide) ?_
  refine lv_iushr (v := (jushr ((upd this_s (5 : Int32).toNatClampNeg (((this_s (5 : Int32).toNatClampNeg) * (1103515245 : Int32)) + (12345 : Int32))) (5 : Int32).toNatClampNeg) (8 : Int32))) hx hb dX12_draw_27 rfl ?_
  have ho := ks hf
  subst ho
  exact kiret hx hb hr hlk hP hD hS hQ dX12_draw_28
abbrev k_X12_draws (G : KG) (a_this : Nat) (a_this_s : Nat) (a_this_kept : Nat) (a_this_errors : Nat) (a_this_step : Nat) (a_this_named : Nat) (a_this_pile : Nat) (a_this_told : Nat) (a_this_beside1 : Nat) (a_this_row : Nat) (a_this_best : Nat) (a_this_worthOf : Nat) (a_this_trace : Nat) (a_this_bits : Nat) (a_this_sizes : Nat) (a_this_number : Nat) (a_this_aside : Nat) (this_images : Int32) (this_at : Int32) (this_open : Int32) (this_steps : Int32) (this_use : Int32) (this_bestNet : Int32) (this_bestMore : Int32) (this_leastApart : Int32) (this_found : Int32) (this_first : Int32) (this_leastPaid : Int32) (this_traced : Int32) (this_speaks : Int32) (this_isParted : Int32) (this_errors : Nat → Int32) (this_named : Nat → Int32) (this_pile : Nat → Int32) (this_s : Nat → Int32) (this_told : Nat → Int32) : va_W := [(a_this, .inr (12, [.ref a_this_s, .ref a_this_kept, .int this_images, .ref a_this_errors, .int this_at, .int this_open, .int this_steps, .int this_use, .ref a_this_step, .ref a_this_named, .ref a_this_pile, .ref a_this_told, .ref a_this_beside1, .ref a_this_row, .ref a_this_best, .int this_bestNet, .int this_bestMore, .ref a_this_worthOf, .int this_leastApart, .int this_found, .int this_first, .int this_leastPaid, .ref a_this_trace, .int this_traced, .int this_speaks, .int this_isParted, .ref a_this_bits, .ref a_this_sizes, .ref a_this_number, .ref a_this_aside])), (a_this_errors, .inl (gI G, 7, .inl this_errors)), (a_this_named, .inl (gI G, 128, .inl this_named)), (a_this_pile, .inl (gI G, 64, .inl this_pile)), (a_this_s, .inl (gI G, 374, .inl this_s)), (a_this_told, .inl (gI G, 8, .inl this_told))]
def f_X12_draws_28 (N : Nat) (K : Int32 → (Nat → Int32) → Option (Int32 × (Nat → Int32) × (Nat → Int32) × (Nat → Int32) × (Nat → Int32) × (Nat → Int32))) : Nat → Int32 → (Nat → Int32) → Option (Int32 × (Nat → Int32) × (Nat → Int32) × (Nat → Int32) × (Nat → Int32) × (Nat → Int32))
  | 0, _, _ => none
  | n + 1, y4, this_told_v => (if (8 : Int32) ≤ y4 then (K y4 this_told_v) else (if vin y4 8 = true then (f_X12_draws_28 N K n (y4 + (1 : Int32)) (upd this_told_v y4.toNatClampNeg (0 : Int32))) else none))
def f_X12_draws_20 (N : Nat) (x1 : Int32) (K : Int32 → Int32 → (Nat → Int32) → (Nat → Int32) → (Nat → Int32) → (Nat → Int32) → Option (Int32 × (Nat → Int32) × (Nat → Int32) × (Nat → Int32) × (Nat → Int32) × (Nat → Int32))) : Nat → Int32 → Int32 → (Nat → Int32) → (Nat → Int32) → (Nat → Int32) → (Nat → Int32) → Option (Int32 × (Nat → Int32) × (Nat → Int32) × (Nat → Int32) × (Nat → Int32) × (Nat → Int32))
  | 0, _, _, _, _, _, _ => none
  | n + 1, y2, y3, this_named_v, this_pile_v, this_s_v, this_told_v => (if x1 ≤ y3 then (K y2 y3 this_named_v this_pile_v this_s_v this_told_v) else (f_X12_draws_28 N (fun v4_6 this_told_6 => ((f_X12_draw N this_s_v).bind fun r7 => ((f_X12_draw N r7.2).bind fun r8 => (if vin (r7.1 - r7.1 / (8 : Int32) * (8 : Int32)) 8 = true then ((f_X12_draw N r8.2).bind fun r10 => ((f_X12_isInStock N (upd this_told_6 (r7.1 - r7.1 / (8 : Int32) * (8 : Int32)).toNatClampNeg ((r8.1 - r8.1 / (4 : Int32) * (4 : Int32)) + (1 : Int32))) r10.2).bind fun r11 => (if r11 = 0 then (f_X12_draws_20 N x1 K n y2 (y3 + (1 : Int32)) this_named_v this_pile_v r10.2 (upd this_told_6 (r7.1 - r7.1 / (8 : Int32) * (8 : Int32)).toNatClampNeg ((r8.1 - r8.1 / (4 : Int32) * (4 : Int32)) + (1 : Int32)))) else ((f_X12_goes N (r10.1 - r10.1 / (4 : Int32) * (4 : Int32)) (upd this_told_6 (r7.1 - r7.1 / (8 : Int32) * (8 : Int32)).toNatClampNeg ((r8.1 - r8.1 / (4 : Int32) * (4 : Int32)) + (1 : Int32))) this_named_v this_pile_v r10.2).bind fun r13 => (f_X12_draws_20 N x1 K n (y2 + (1 : Int32)) (y3 + (1 : Int32)) r13.2.1 r13.2.2.1 r13.2.2.2 (upd this_told_6 (r7.1 - r7.1 / (8 : Int32) * (8 : Int32)).toNatClampNeg ((r8.1 - r8.1 / (4 : Int32) * (4 : Int32)) + (1 : Int32)))))))) else none)))) N (0 : Int32) this_told_v))
def f_X12_draws (N : Nat) (p0 : Int32) (this_errors : Nat → Int32) (this_named : Nat → Int32) (this_pile : Nat → Int32) (this_s : Nat → Int32) (this_told : Nat → Int32) : Option (Int32 × (Nat → Int32) × (Nat → Int32) × (Nat → Int32) × (Nat → Int32) × (Nat → Int32)) := ((f_X12_in N p0 (1 : Int32) (60 : Int32)).bind fun r1 => (if r1 = 0 then ((f_X12_error N (1 : Int32) this_errors).bind fun r31 => (some (r31.1, r31.2, this_named, this_pile, this_s, this_told))) else (f_X12_draws_20 N p0 (fun v2_17 v3_17 this_named_17 this_pile_17 this_s_17 this_told_17 => (some (v2_17, this_errors, this_named_17, this_pile_17, this_s_17, this_told_17))) N (0 : Int32) (0 : Int32) this_named this_pile this_s this_told)))
set_option maxRecDepth 100000 in
set_option maxHeartbeats 4000000 in
theorem c_X12_draws (l : Launch) (G : KG) (N : Nat) (a_this : Nat) (a_this_s : Nat) (a_this_kept : Nat) (a_this_errors : Nat) (a_this_step : Nat) (a_this_named : Nat) (a_this_pile : Nat) (a_this_told : Nat) (a_this_beside1 : Nat) (a_this_row : Nat) (a_this_best : Nat) (a_this_worthOf : Nat) (a_this_trace : Nat) (a_this_bits : Nat) (a_this_sizes : Nat) (a_this_number : Nat) (a_this_aside : Nat) (p0 : Int32) (this_images : Int32) (this_at : Int32) (this_open : Int32) (this_steps : Int32) (this_use : Int32) (this_bestNet : Int32) (this_bestMore : Int32) (this_leastApart : Int32) (this_found : Int32) (this_first : Int32) (this_leastPaid : Int32) (this_traced : Int32) (this_speaks : Int32) (this_isParted : Int32) (this_errors : Nat → Int32) (this_named : Nat → Int32) (this_pile : Nat → Int32) (this_s : Nat → Int32) (this_told : Nat → Int32)  (out : Int32 × (Nat → Int32) × (Nat → Int32) × (Nat → Int32) × (Nat → Int32) × (Nat → Int32)) (hf : f_X12_draws N p0 this_errors this_named this_pile this_s this_told = some out) : KM l G yX12_draws (kw yX12_draws cX12_draws 7 (some .int)) 5 119 [.ref a_this, .int p0] (k_X12_draws G a_this a_this_s a_this_kept a_this_errors a_this_step a_this_named a_this_pile a_this_told a_this_beside1 a_this_row a_this_best a_this_worthOf a_this_trace a_this_bits a_this_sizes a_this_number a_this_aside this_images this_at this_open this_steps this_use this_bestNet this_bestMore this_leastApart this_found this_first this_leastPaid this_traced this_speaks this_isParted this_errors this_named this_pile this_s this_told) (k_X12_draws G a_this a_this_s a_this_kept a_this_errors a_this_step a_this_named a_this_pile a_this_told a_this_beside1 a_this_row a_this_best a_this_worthOf a_this_trace a_this_bits a_this_sizes a_this_number a_this_aside this_images this_at this_open this_steps this_use this_bestNet this_bestMore this_leastApart this_found this_first this_leastPaid this_traced this_speaks this_isParted (out.2.1) (out.2.2.1) (out.2.2.2.1) (out.2.2.2.2.1) (out.2.2.2.2.2)) (some (.int (out.1))) := by
  refine KM.of (by decide) (Nat.le_of_ble_eq_true rfl) ?_
  intro p e s m below meth c A ls args Q Fx0 hP hK hD hA hS hAm hQ hl
  obtain ⟨hx, hb, hr, hml, hts, hown, hlk, hnm⟩ := Fx0
  have hown : s.vm.findClass RX12 = some m.cls := hown
  have hl : lv_has ls 7 [(0, .ref a_this), (1, .int p0)] := hl
  have fl_28 := hts _ tw_997
  unfold f_X12_draws at hf
  refine lv_iload_n hx hb dX12_draws_0 rfl (lv_at hl 1 rfl) ?_
  refine lv_iconst (v := (1 : Int32)) hx hb dX12_draws_1 (by decide) ?_
  refine lv_bipush (v := (60 : Int32)) hx hb dX12_draws_2 (by decide) ?_
  obtain ⟨r1, hr1, hf⟩ := kb hf
  refine kS (As := [.int p0, .int (1 : Int32), .int (60 : Int32)]) (rest := []) ⟨hx, hb, hml, hown, hts⟩ (c_X12_in l G N p0 (1 : Int32) (60 : Int32) r1 hr1) (kcS 3 hts tw_1083 tw_92 tw_1081 tw_1082 hd_X12_in ⟨Nat.le_of_ble_eq_true rfl, Nat.le_of_ble_eq_true rfl⟩) dX12_draws_4 hl.1 hK hAm hA hP hD hS [] rfl rfl rfl [] rfl rfl rfl (Nat.le_of_ble_eq_true rfl) ⟨Nat.le_refl _, Nat.le_refl _⟩ (fun H locs hP hD hS => ?_)
  have hP : va_P (gD G) vwCl (k_X12_draws G a_this a_this_s a_this_kept a_this_errors a_this_step a_this_named a_this_pile a_this_told a_this_beside1 a_this_row a_this_best a_this_worthOf a_this_trace a_this_bits a_this_sizes a_this_number a_this_aside this_images this_at this_open this_steps this_use this_bestNet this_bestMore this_leastApart this_found this_first this_leastPaid this_traced this_speaks this_isParted this_errors this_named this_pile this_s this_told) H := hP
  have hD : va_D A (k_X12_draws G a_this a_this_s a_this_kept a_this_errors a_this_step a_this_named a_this_pile a_this_told a_this_beside1 a_this_row a_this_best a_this_worthOf a_this_trace a_this_bits a_this_sizes a_this_number a_this_aside this_images this_at this_open this_steps this_use this_bestNet this_bestMore this_leastApart this_found this_first this_leastPaid this_traced this_speaks this_isParted this_errors this_named this_pile this_s this_told) := hD
  refine lv_if_ne (tgt := 16) hx hb dX12_draws_7 (by decide) (fun c2 => ?_) (fun c2 => ?_)
  · replace hf := kf c2 hf
    refine lv_iconst (v := (0 : Int32)) hx hb dX12_draws_16 (by decide) ?_
    refine lv_istore_n (lv' := [(2, .int (0 : Int32)), (0, .ref a_this), (1, .int p0)]) hx hb dX12_draws_17 rfl hl (by decide) rfl (fun ls hl => ?_)
    refine lv_iconst (v := (0 : Int32)) hx hb dX12_draws_18 (by decide) ?_
    refine lv_istore_n (lv' := [(3, .int (0 : Int32)), (2, .int (0 : Int32)), (0, .ref a_this), (1, .int p0)]) hx hb dX12_draws_19 rfl hl (by decide) rfl (fun ls hl => ?_)
    have L4 : ∀ (K : Int32 → Int32 → (Nat → Int32) → (Nat → Int32) → (Nat → Int32) → (Nat → Int32) → Option (Int32 × (Nat → Int32) × (Nat → Int32) × (Nat → Int32) × (Nat → Int32) × (Nat → Int32))), (∀ (v2_4 : Int32) (v3_4 : Int32) (this_named_4 : Nat → Int32) (this_pile_4 : Nat → Int32) (this_s_4 : Nat → Int32) (this_told_4 : Nat → Int32) (H : Heap) (locs : List Loc), va_P (gD G) vwCl (k_X12_draws G a_this a_this_s a_this_kept a_this_errors a_this_step a_this_named a_this_pile a_this_told a_this_beside1 a_this_row a_this_best a_this_worthOf a_this_trace a_this_bits a_this_sizes a_this_number a_this_aside this_images this_at this_open this_steps this_use this_bestNet this_bestMore this_leastApart this_found this_first this_leastPaid this_traced this_speaks this_isParted this_errors this_named_4 this_pile_4 this_s_4 this_told_4) H → va_D A (k_X12_draws G a_this a_this_s a_this_kept a_this_errors a_this_step a_this_named a_this_pile a_this_told a_this_beside1 a_this_row a_this_best a_this_worthOf a_this_trace a_this_bits a_this_sizes a_this_number a_this_aside this_images this_at this_open this_steps this_use this_bestNet this_bestMore this_leastApart this_found this_first this_leastPaid this_traced this_speaks this_isParted this_errors this_named_4 this_pile_4 this_s_4 this_told_4) → va_S A s.heap H locs → ∀ (ls : Array Slot), lv_has ls 7 [(0, .ref a_this), (1, .int p0), (2, .int v2_4), (3, .int v3_4)] → K v2_4 v3_4 this_named_4 this_pile_4 this_s_4 this_told_4 = some out → W p l e (kR 5 0 0 119) s m args below meth c H locs 0 0 Q (F0 m 113 ls [])) → ∀ (n : Nat), ∀ (v2_4 : Int32) (v3_4 : Int32) (this_named_4 : Nat → Int32) (this_pile_4 : Nat → Int32) (this_s_4 : Nat → Int32) (this_told_4 : Nat → Int32) (H : Heap) (locs : List Loc), va_P (gD G) vwCl (k_X12_draws G a_this a_this_s a_this_kept a_this_errors a_this_step a_this_named a_this_pile a_this_told a_this_beside1 a_this_row a_this_best a_this_worthOf a_this_trace a_this_bits a_this_sizes a_this_number a_this_aside this_images this_at this_open this_steps this_use this_bestNet this_bestMore this_leastApart this_found this_first this_leastPaid this_traced this_speaks this_isParted this_errors this_named_4 this_pile_4 this_s_4 this_told_4) H → va_D A (k_X12_draws G a_this a_this_s a_this_kept a_this_errors a_this_step a_this_named a_this_pile a_this_told a_this_beside1 a_this_row a_this_best a_this_worthOf a_this_trace a_this_bits a_this_sizes a_this_number a_this_aside this_images this_at this_open this_steps this_use this_bestNet this_bestMore this_leastApart this_found this_first this_leastPaid this_traced this_speaks this_isParted this_errors this_named_4 this_pile_4 this_s_4 this_told_4) → va_S A s.heap H locs → ∀ (ls : Array Slot), lv_has ls 7 [(0, .ref a_this), (1, .int p0), (2, .int v2_4), (3, .int v3_4)] → f_X12_draws_20 N p0 K n v2_4 v3_4 this_named_4 this_pile_4 this_s_4 this_told_4 = some out → W p l e (kR 5 0 0 119) s m args below meth c H locs 0 0 Q (F0 m 20 ls []) := by
      intro K hK4 n
      induction n with
      | zero =>
        intro v2_4 v3_4 this_named_4 this_pile_4 this_s_4 this_told_4 H locs hP hD hS ls hl hf
        rw [f_X12_draws_20] at hf
        cases hf
      | succ n ih =>
        intro v2_4 v3_4 this_named_4 this_pile_4 this_s_4 this_told_4 H locs hP hD hS ls hl hf
        rw [f_X12_draws_20] at hf
        refine lv_iload_n hx hb dX12_draws_20 rfl (lv_at hl 3 rfl) ?_
        refine lv_iload_n hx hb dX12_draws_21 rfl (lv_at hl 1 rfl) ?_
        refine lv_icmp_ge (tgt := 113) hx hb dX12_draws_22 (by decide) (fun c5 => ?_) (fun c5 => ?_)
        · replace hf := kt c5 hf
          exact hK4 v2_4 v3_4 this_named_4 this_pile_4 this_s_4 this_told_4 _ _ hP hD hS ls (lv_sub hl [0, 1, 2, 3] rfl) hf
        · replace hf := kf c5 hf
          refine lv_iconst (v := (0 : Int32)) hx hb dX12_draws_25 (by decide) ?_
          refine lv_istore (lv' := [(4, .int (0 : Int32)), (0, .ref a_this), (1, .int p0), (2, .int v2_4), (3, .int v3_4)]) hx hb dX12_draws_26 hl (by decide) rfl (fun ls hl => ?_)
          have L14 : ∀ (K : Int32 → (Nat → Int32) → Option (Int32 × (Nat → Int32) × (Nat → Int32) × (Nat → Int32) × (Nat → Int32) × (Nat → Int32))), (∀ (v4_14 : Int32) (this_told_14 : Nat → Int32) (H : Heap) (locs : List Loc), va_P (gD G) vwCl (k_X12_draws G a_this a_this_s a_this_kept a_this_errors a_this_step a_this_named a_this_pile a_this_told a_this_beside1 a_this_row a_this_best a_this_worthOf a_this_trace a_this_bits a_this_sizes a_this_number a_this_aside this_images this_at this_open this_steps this_use this_bestNet this_bestMore this_leastApart this_found this_first this_leastPaid this_traced this_speaks this_isParted this_errors this_named_4 this_pile_4 this_s_4 this_told_14) H → va_D A (k_X12_draws G a_this a_this_s a_this_kept a_this_errors a_this_step a_this_named a_this_pile a_this_told a_this_beside1 a_this_row a_this_best a_this_worthOf a_this_trace a_this_bits a_this_sizes a_this_number a_this_aside this_images this_at this_open this_steps this_use this_bestNet this_bestMore this_leastApart this_found this_first this_leastPaid this_traced this_speaks this_isParted this_errors this_named_4 this_pile_4 this_s_4 this_told_14) → va_S A s.heap H locs → ∀ (ls : Array Slot), lv_has ls 7 [(0, .ref a_this), (1, .int p0), (2, .int v2_4), (3, .int v3_4), (4, .int v4_14)] → K v4_14 this_told_14 = some out → W p l e (kR 5 0 0 119) s m args below meth c H locs 0 0 Q (F0 m 49 ls [])) → ∀ (n : Nat), ∀ (v4_14 : Int32) (this_told_14 : Nat → Int32) (H : Heap) (locs : List Loc), va_P (gD G) vwCl (k_X12_draws G a_this a_this_s a_this_kept a_this_errors a_this_step a_this_named a_this_pile a_this_told a_this_beside1 a_this_row a_this_best a_this_worthOf a_this_trace a_this_bits a_this_sizes a_this_number a_this_aside this_images this_at this_open this_steps this_use this_bestNet this_bestMore this_leastApart this_found this_first this_leastPaid this_traced this_speaks this_isParted this_errors this_named_4 this_pile_4 this_s_4 this_told_14) H → va_D A (k_X12_draws G a_this a_this_s a_this_kept a_this_errors a_this_step a_this_named a_this_pile a_this_told a_this_beside1 a_this_row a_this_best a_this_worthOf a_this_trace a_this_bits a_this_sizes a_this_number a_this_aside this_images this_at this_open this_steps this_use this_bestNet this_bestMore this_leastApart this_found this_first this_leastPaid this_traced this_speaks this_isParted this_errors this_named_4 this_pile_4 this_s_4 this_told_14) → va_S A s.heap H locs → ∀ (ls : Array Slot), lv_has ls 7 [(0, .ref a_this), (1, .int p0), (2, .int v2_4), (3, .int v3_4), (4, .int v4_14)] → f_X12_draws_28 N K n v4_14 this_told_14 = some out → W p l e (kR 5 0 0 119) s m args below meth c H locs 0 0 Q (F0 m 28 ls []) := by
            intro K hK14 n
            induction n with
            | zero =>
              intro v4_14 this_told_14 H locs hP hD hS ls hl hf
              rw [f_X12_draws_28] at hf
              cases hf
            | succ n ih =>
              intro v4_14 this_told_14 H locs hP hD hS ls hl hf
              rw [f_X12_draws_28] at hf
              refine lv_iload hx hb dX12_draws_28 (lv_at hl 4 rfl) ?_
              refine lv_bipush (v := (8 : Int32)) hx hb dX12_draws_30 (by decide) ?_
              refine lv_icmp_ge (tgt := 49) hx hb dX12_draws_32 (by decide) (fun c15 => ?_) (fun c15 => ?_)
              · replace hf := kt c15 hf
                exact hK14 v4_14 this_told_14 _ _ hP hD hS ls (lv_sub hl [0, 1, 2, 3, 4] rfl) hf
              · replace hf := kf c15 hf
                refine lv_aload_n hx hb dX12_draws_35 rfl (lv_at hl 0 rfl) ?_
                refine va_get (D := gD G) (ci := 12) (C := RX12) (T := TX12) (N := 30) hx hb hts hin_X12 hown hK hP 0 rfl rfl 11 (by decide) fl_28 (fun _ h9 => h9) rfl dX12_draws_36 ?_
                refine lv_iload hx hb dX12_draws_39 (lv_at hl 4 rfl) ?_
                refine lv_iconst (v := (0 : Int32)) hx hb dX12_draws_41 (by decide) ?_
                obtain ⟨g16, hf⟩ := kg hf
                refine va_iast hx hb hK hP hD hS 5 0 rfl rfl (vin_of g16) dX12_draws_42 (fun H locs hP hD hS => ?_)
                have hP : va_P (gD G) vwCl (k_X12_draws G a_this a_this_s a_this_kept a_this_errors a_this_step a_this_named a_this_pile a_this_told a_this_beside1 a_this_row a_this_best a_this_worthOf a_this_trace a_this_bits a_this_sizes a_this_number a_this_aside this_images this_at this_open this_steps this_use this_bestNet this_bestMore this_leastApart this_found this_first this_leastPaid this_traced this_speaks this_isParted this_errors this_named_4 this_pile_4 this_s_4 (upd this_told_14 v4_14.toNatClampNeg (0 : Int32))) H := hP
                have hD : va_D A (k_X12_draws G a_this a_this_s a_this_kept a_this_errors a_this_step a_this_named a_this_pile a_this_told a_this_beside1 a_this_row a_this_best a_this_worthOf a_this_trace a_this_bits a_this_sizes a_this_number a_this_aside this_images this_at this_open this_steps this_use this_bestNet this_bestMore this_leastApart this_found this_first this_leastPaid this_traced this_speaks this_isParted this_errors this_named_4 this_pile_4 this_s_4 (upd this_told_14 v4_14.toNatClampNeg (0 : Int32))) := hD
                refine lv_iinc (v := (v4_14 + (1 : Int32))) (lv' := [(4, .int (v4_14 + (1 : Int32))), (0, .ref a_this), (1, .int p0), (2, .int v2_4), (3, .int v3_4)]) hx hb dX12_draws_43 hl (k := 4) rfl rfl (by decide) rfl (fun ls hl => ?_)
                refine lv_goto (tgt := 28) hx hb dX12_draws_46 (by decide) ?_
                exact ih (v4_14 + (1 : Int32)) (upd this_told_14 v4_14.toNatClampNeg (0 : Int32)) _ _ hP hD hS ls (lv_sub hl [1, 2, 3, 4, 0] rfl) hf
          refine L14 _ (fun v4_6 this_told_6 H locs hP hD hS ls hl hf => ?_) N (0 : Int32) this_told_4 _ _ hP hD hS ls (lv_sub hl [1, 2, 3, 4, 0] rfl) hf
          refine lv_aload_n hx hb dX12_draws_49 rfl (lv_at hl 0 rfl) ?_
          obtain ⟨r7, hr7, hf⟩ := kb hf
          refine kV (As := []) (rest := []) ⟨hx, hb, hml, hown, hts⟩ (c_X12_draw l G N a_this a_this_s a_this_kept a_this_errors a_this_step a_this_named a_this_pile a_this_told a_this_beside1 a_this_row a_this_best a_this_worthOf a_this_trace a_this_bits a_this_sizes a_this_number a_this_aside this_images this_at this_open this_steps this_use this_bestNet this_bestMore this_leastApart this_found this_first this_leastPaid this_traced this_speaks this_isParted this_s_4 r7 hr7) (kcV 0 hts tw_1270 tw_92 tw_1267 tw_1269 tw_68 hd_X12_draw ⟨Nat.le_of_ble_eq_true rfl, Nat.le_of_ble_eq_true rfl⟩) dX12_draws_50 hl.1 hK hAm hA hP hD hS 0 (ci := 12) rfl rfl rfl [0, 4] rfl rfl rfl [1] rfl rfl rfl (Nat.le_of_ble_eq_true rfl) ⟨Nat.le_refl _, Nat.le_refl _⟩ (fun H locs hP hD hS => ?_)
          have hP : va_P (gD G) vwCl (k_X12_draws G a_this a_this_s a_this_kept a_this_errors a_this_step a_this_named a_this_pile a_this_told a_this_beside1 a_this_row a_this_best a_this_worthOf a_this_trace a_this_bits a_this_sizes a_this_number a_this_aside this_images this_at this_open this_steps this_use this_bestNet this_bestMore this_leastApart this_found this_first this_leastPaid this_traced this_speaks this_isParted this_errors this_named_4 this_pile_4 r7.2 this_told_6) H := hP
          have hD : va_D A (k_X12_draws G a_this a_this_s a_this_kept a_this_errors a_this_step a_this_named a_this_pile a_this_told a_this_beside1 a_this_row a_this_best a_this_worthOf a_this_trace a_this_bits a_this_sizes a_this_number a_this_aside this_images this_at this_open this_steps this_use this_bestNet this_bestMore this_leastApart this_found this_first this_leastPaid this_traced this_speaks this_isParted this_errors this_named_4 this_pile_4 r7.2 this_told_6) := hD
          refine lv_bipush (v := (8 : Int32)) hx hb dX12_draws_53 (by decide) ?_
          refine lv_irem hx hb dX12_draws_55 (by decide) ?_
          refine lv_istore (lv' := [(4, .int (r7.1 - r7.1 / (8 : Int32) * (8 : Int32))), (0, .ref a_this), (1, .int p0), (2, .int v2_4), (3, .int v3_4)]) hx hb dX12_draws_56 hl (by decide) rfl (fun ls hl => ?_)
          refine lv_aload_n hx hb dX12_draws_58 rfl (lv_at hl 1 rfl) ?_
          refine va_get (D := gD G) (ci := 12) (C := RX12) (T := TX12) (N := 30) hx hb hts hin_X12 hown hK hP 0 rfl rfl 11 (by decide) fl_28 (fun _ h9 => h9) rfl dX12_draws_59 ?_
          refine lv_iload hx hb dX12_draws_62 (lv_at hl 0 rfl) ?_
          refine lv_aload_n hx hb dX12_draws_64 rfl (lv_at hl 1 rfl) ?_
          obtain ⟨r8, hr8, hf⟩ := kb hf
          refine kV (As := []) (rest := [.int (r7.1 - r7.1 / (8 : Int32) * (8 : Int32)), .ref a_this_told]) ⟨hx, hb, hml, hown, hts⟩ (c_X12_draw l G N a_this a_this_s a_this_kept a_this_errors a_this_step a_this_named a_this_pile a_this_told a_this_beside1 a_this_row a_this_best a_this_worthOf a_this_trace a_this_bits a_this_sizes a_this_number a_this_aside this_images this_at this_open this_steps this_use this_bestNet this_bestMore this_leastApart this_found this_first this_leastPaid this_traced this_speaks this_isParted r7.2 r8 hr8) (kcV 0 hts tw_1270 tw_92 tw_1267 tw_1269 tw_68 hd_X12_draw ⟨Nat.le_of_ble_eq_true rfl, Nat.le_of_ble_eq_true rfl⟩) dX12_draws_65 hl.1 hK hAm hA hP hD hS 0 (ci := 12) rfl rfl rfl [0, 4] rfl rfl rfl [1] rfl rfl rfl (Nat.le_of_ble_eq_true rfl) ⟨Nat.le_refl _, Nat.le_refl _⟩ (fun H locs hP hD hS => ?_)
          have hP : va_P (gD G) vwCl (k_X12_draws G a_this a_this_s a_this_kept a_this_errors a_this_step a_this_named a_this_pile a_this_told a_this_beside1 a_this_row a_this_best a_this_worthOf a_this_trace a_this_bits a_this_sizes a_this_number a_this_aside this_images this_at this_open this_steps this_use this_bestNet this_bestMore this_leastApart this_found this_first this_leastPaid this_traced this_speaks this_isParted this_errors this_named_4 this_pile_4 r8.2 this_told_6) H := hP
          have hD : va_D A (k_X12_draws G a_this a_this_s a_this_kept a_this_errors a_this_step a_this_named a_this_pile a_this_told a_this_beside1 a_this_row a_this_best a_this_worthOf a_this_trace a_this_bits a_this_sizes a_this_number a_this_aside this_images this_at this_open this_steps this_use this_bestNet this_bestMore this_leastApart this_found this_first this_leastPaid this_traced this_speaks this_isParted this_errors this_named_4 this_pile_4 r8.2 this_told_6) := hD
          refine lv_iconst (v := (4 : Int32)) hx hb dX12_draws_68 (by decide) ?_
          refine lv_irem hx hb dX12_draws_69 (by decide) ?_
          refine lv_iconst (v := (1 : Int32)) hx hb dX12_draws_70 (by decide) ?_
          refine lv_iadd hx hb dX12_draws_71 ?_
          obtain ⟨g9, hf⟩ := kg hf
          refine va_iast hx hb hK hP hD hS 5 0 rfl rfl (vin_of g9) dX12_draws_72 (fun H locs hP hD hS => ?_)
          have hP : va_P (gD G) vwCl (k_X12_draws G a_this a_this_s a_this_kept a_this_errors a_this_step a_this_named a_this_pile a_this_told a_this_beside1 a_this_row a_this_best a_this_worthOf a_this_trace a_this_bits a_this_sizes a_this_number a_this_aside this_images this_at this_open this_steps this_use this_bestNet this_bestMore this_leastApart this_found this_first this_leastPaid this_traced this_speaks this_isParted this_errors this_named_4 this_pile_4 r8.2 (upd this_told_6 (r7.1 - r7.1 / (8 : Int32) * (8 : Int32)).toNatClampNeg ((r8.1 - r8.1 / (4 : Int32) * (4 : Int32)) + (1 : Int32)))) H := hP
          have hD : va_D A (k_X12_draws G a_this a_this_s a_this_kept a_this_errors a_this_step a_this_named a_this_pile a_this_told a_this_beside1 a_this_row a_this_best a_this_worthOf a_this_trace a_this_bits a_this_sizes a_this_number a_this_aside this_images this_at this_open this_steps this_use this_bestNet this_bestMore this_leastApart this_found this_first this_leastPaid this_traced this_speaks this_isParted this_errors this_named_4 this_pile_4 r8.2 (upd this_told_6 (r7.1 - r7.1 / (8 : Int32) * (8 : Int32)).toNatClampNeg ((r8.1 - r8.1 / (4 : Int32) * (4 : Int32)) + (1 : Int32)))) := hD
          refine lv_aload_n hx hb dX12_draws_73 rfl (lv_at hl 1 rfl) ?_
          obtain ⟨r10, hr10, hf⟩ := kb hf
          refine kV (As := []) (rest := []) ⟨hx, hb, hml, hown, hts⟩ (c_X12_draw l G N a_this a_this_s a_this_kept a_this_errors a_this_step a_this_named a_this_pile a_this_told a_this_beside1 a_this_row a_this_best a_this_worthOf a_this_trace a_this_bits a_this_sizes a_this_number a_this_aside this_images this_at this_open this_steps this_use this_bestNet this_bestMore this_leastApart this_found this_first this_leastPaid this_traced this_speaks this_isParted r8.2 r10 hr10) (kcV 0 hts tw_1270 tw_92 tw_1267 tw_1269 tw_68 hd_X12_draw ⟨Nat.le_of_ble_eq_true rfl, Nat.le_of_ble_eq_true rfl⟩) dX12_draws_74 hl.1 hK hAm hA hP hD hS 0 (ci := 12) rfl rfl rfl [0, 4] rfl rfl rfl [1] rfl rfl rfl (Nat.le_of_ble_eq_true rfl) ⟨Nat.le_refl _, Nat.le_refl _⟩ (fun H locs hP hD hS => ?_)
          have hP : va_P (gD G) vwCl (k_X12_draws G a_this a_this_s a_this_kept a_this_errors a_this_step a_this_named a_this_pile a_this_told a_this_beside1 a_this_row a_this_best a_this_worthOf a_this_trace a_this_bits a_this_sizes a_this_number a_this_aside this_images this_at this_open this_steps this_use this_bestNet this_bestMore this_leastApart this_found this_first this_leastPaid this_traced this_speaks this_isParted this_errors this_named_4 this_pile_4 r10.2 (upd this_told_6 (r7.1 - r7.1 / (8 : Int32) * (8 : Int32)).toNatClampNeg ((r8.1 - r8.1 / (4 : Int32) * (4 : Int32)) + (1 : Int32)))) H := hP
          have hD : va_D A (k_X12_draws G a_this a_this_s a_this_kept a_this_errors a_this_step a_this_named a_this_pile a_this_told a_this_beside1 a_this_row a_this_best a_this_worthOf a_this_trace a_this_bits a_this_sizes a_this_number a_this_aside this_images this_at this_open this_steps this_use this_bestNet this_bestMore this_leastApart this_found this_first this_leastPaid this_traced this_speaks this_isParted this_errors this_named_4 this_pile_4 r10.2 (upd this_told_6 (r7.1 - r7.1 / (8 : Int32) * (8 : Int32)).toNatClampNeg ((r8.1 - r8.1 / (4 : Int32) * (4 : Int32)) + (1 : Int32)))) := hD
          refine lv_iconst (v := (4 : Int32)) hx hb dX12_draws_77 (by decide) ?_
          refine lv_irem hx hb dX12_draws_78 (by decide) ?_
          refine lv_istore (lv' := [(5, .int (r10.1 - r10.1 / (4 : Int32) * (4 : Int32))), (4, .int (r7.1 - r7.1 / (8 : Int32) * (8 : Int32))), (0, .ref a_this), (1, .int p0), (2, .int v2_4), (3, .int v3_4)]) hx hb dX12_draws_79 hl (by decide) rfl (fun ls hl => ?_)
          refine lv_aload_n hx hb dX12_draws_81 rfl (lv_at hl 2 rfl) ?_
          refine lv_aload_n hx hb dX12_draws_82 rfl (lv_at hl 2 rfl) ?_
          refine va_get (D := gD G) (ci := 12) (C := RX12) (T := TX12) (N := 30) hx hb hts hin_X12 hown hK hP 0 rfl rfl 11 (by decide) fl_28 (fun _ h9 => h9) rfl dX12_draws_83 ?_
          obtain ⟨r11, hr11, hf⟩ := kb hf
          refine kV (As := [.ref a_this_told]) (rest := []) ⟨hx, hb, hml, hown, hts⟩ (c_X12_isInStock l G N a_this_told a_this a_this_s a_this_kept a_this_errors a_this_step a_this_named a_this_pile a_this_told a_this_beside1 a_this_row a_this_best a_this_worthOf a_this_trace a_this_bits a_this_sizes a_this_number a_this_aside (upd this_told_6 (r7.1 - r7.1 / (8 : Int32) * (8 : Int32)).toNatClampNeg ((r8.1 - r8.1 / (4 : Int32) * (4 : Int32)) + (1 : Int32))) this_images this_at this_open this_steps this_use this_bestNet this_bestMore this_leastApart this_found this_first this_leastPaid this_traced this_speaks this_isParted r10.2 r11 hr11) (kcV 1 hts tw_1257 tw_92 tw_1254 tw_1256 tw_66 hd_X12_isInStock ⟨Nat.le_of_ble_eq_true rfl, Nat.le_of_ble_eq_true rfl⟩) dX12_draws_86 hl.1 hK hAm hA hP hD hS 0 (ci := 12) rfl rfl rfl [5, 0, 4] rfl rfl rfl [] rfl rfl rfl (Nat.le_of_ble_eq_true rfl) ⟨Nat.le_refl _, Nat.le_refl _⟩ (fun H locs hP hD hS => ?_)
          have hP : va_P (gD G) vwCl (k_X12_draws G a_this a_this_s a_this_kept a_this_errors a_this_step a_this_named a_this_pile a_this_told a_this_beside1 a_this_row a_this_best a_this_worthOf a_this_trace a_this_bits a_this_sizes a_this_number a_this_aside this_images this_at this_open this_steps this_use this_bestNet this_bestMore this_leastApart this_found this_first this_leastPaid this_traced this_speaks this_isParted this_errors this_named_4 this_pile_4 r10.2 (upd this_told_6 (r7.1 - r7.1 / (8 : Int32) * (8 : Int32)).toNatClampNeg ((r8.1 - r8.1 / (4 : Int32) * (4 : Int32)) + (1 : Int32)))) H := hP
          have hD : va_D A (k_X12_draws G a_this a_this_s a_this_kept a_this_errors a_this_step a_this_named a_this_pile a_this_told a_this_beside1 a_this_row a_this_best a_this_worthOf a_this_trace a_this_bits a_this_sizes a_this_number a_this_aside this_images this_at this_open this_steps this_use this_bestNet this_bestMore this_leastApart this_found this_first this_leastPaid this_traced this_speaks this_isParted this_errors this_named_4 this_pile_4 r10.2 (upd this_told_6 (r7.1 - r7.1 / (8 : Int32) * (8 : Int32)).toNatClampNeg ((r8.1 - r8.1 / (4 : Int32) * (4 : Int32)) + (1 : Int32)))) := hD
          refine lv_if_eq (tgt := 107) hx hb dX12_draws_89 (by decide) (fun c12 => ?_) (fun c12 => ?_)
          · replace hf := kt c12 hf
            refine lv_iinc (v := (v3_4 + (1 : Int32))) (lv' := [(3, .int (v3_4 + (1 : Int32))), (5, .int (r10.1 - r10.1 / (4 : Int32) * (4 : Int32))), (4, .int (r7.1 - r7.1 / (8 : Int32) * (8 : Int32))), (0, .ref a_this), (1, .int p0), (2, .int v2_4)]) hx hb dX12_draws_107 hl (k := 5) rfl rfl (by decide) rfl (fun ls hl => ?_)
            refine lv_goto (tgt := 20) hx hb dX12_draws_110 (by decide) ?_
            exact ih v2_4 (v3_4 + (1 : Int32)) this_named_4 this_pile_4 r10.2 (upd this_told_6 (r7.1 - r7.1 / (8 : Int32) * (8 : Int32)).toNatClampNeg ((r8.1 - r8.1 / (4 : Int32) * (4 : Int32)) + (1 : Int32))) _ _ hP hD hS ls (lv_sub hl [3, 4, 5, 0] rfl) hf
          · replace hf := kf c12 hf
            refine lv_aload_n hx hb dX12_draws_92 rfl (lv_at hl 2 rfl) ?_
            refine lv_iload hx hb dX12_draws_93 (lv_at hl 0 rfl) ?_
            refine lv_aload_n hx hb dX12_draws_95 rfl (lv_at hl 2 rfl) ?_
            refine va_get (D := gD G) (ci := 12) (C := RX12) (T := TX12) (N := 30) hx hb hts hin_X12 hown hK hP 0 rfl rfl 11 (by decide) fl_28 (fun _ h9 => h9) rfl dX12_draws_96 ?_
            obtain ⟨r13, hr13, hf⟩ := kb hf
            refine kV (As := [.int (r10.1 - r10.1 / (4 : Int32) * (4 : Int32)), .ref a_this_told]) (rest := []) ⟨hx, hb, hml, hown, hts⟩ (c_X12_goes l G N a_this_told a_this a_this_s a_this_kept a_this_errors a_this_step a_this_named a_this_pile a_this_told a_this_beside1 a_this_row a_this_best a_this_worthOf a_this_trace a_this_bits a_this_sizes a_this_number a_this_aside (r10.1 - r10.1 / (4 : Int32) * (4 : Int32)) (upd this_told_6 (r7.1 - r7.1 / (8 : Int32) * (8 : Int32)).toNatClampNeg ((r8.1 - r8.1 / (4 : Int32) * (4 : Int32)) + (1 : Int32))) this_images this_at this_open this_steps this_use this_bestNet this_bestMore this_leastApart this_found this_first this_leastPaid this_traced this_speaks this_isParted this_named_4 this_pile_4 r10.2 r13 hr13) (kcV 2 hts tw_1261 tw_92 tw_1258 tw_1260 tw_67 hd_X12_goes ⟨Nat.le_of_ble_eq_true rfl, Nat.le_of_ble_eq_true rfl⟩) dX12_draws_99 hl.1 hK hAm hA hP hD hS 0 (ci := 12) rfl rfl rfl [5, 0, 2, 3, 4] rfl rfl rfl [2, 3, 4] rfl rfl rfl (Nat.le_of_ble_eq_true rfl) ⟨Nat.le_refl _, Nat.le_refl _⟩ (fun H locs hP hD hS => ?_)
            have hP : va_P (gD G) vwCl (k_X12_draws G a_this a_this_s a_this_kept a_this_errors a_this_step a_this_named a_this_pile a_this_told a_this_beside1 a_this_row a_this_best a_this_worthOf a_this_trace a_this_bits a_this_sizes a_this_number a_this_aside this_images this_at this_open this_steps this_use this_bestNet this_bestMore this_leastApart this_found this_first this_leastPaid this_traced this_speaks this_isParted this_errors r13.2.1 r13.2.2.1 r13.2.2.2 (upd this_told_6 (r7.1 - r7.1 / (8 : Int32) * (8 : Int32)).toNatClampNeg ((r8.1 - r8.1 / (4 : Int32) * (4 : Int32)) + (1 : Int32)))) H := hP
            have hD : va_D A (k_X12_draws G a_this a_this_s a_this_kept a_this_errors a_this_step a_this_named a_this_pile a_this_told a_this_beside1 a_this_row a_this_best a_this_worthOf a_this_trace a_this_bits a_this_sizes a_this_number a_this_aside this_images this_at this_open this_steps this_use this_bestNet this_bestMore this_leastApart this_found this_first this_leastPaid this_traced this_speaks this_isParted this_errors r13.2.1 r13.2.2.1 r13.2.2.2 (upd this_told_6 (r7.1 - r7.1 / (8 : Int32) * (8 : Int32)).toNatClampNeg ((r8.1 - r8.1 / (4 : Int32) * (4 : Int32)) + (1 : Int32)))) := hD
            refine lv_istore (lv' := [(6, .int r13.1), (5, .int (r10.1 - r10.1 / (4 : Int32) * (4 : Int32))), (4, .int (r7.1 - r7.1 / (8 : Int32) * (8 : Int32))), (0, .ref a_this), (1, .int p0), (2, .int v2_4), (3, .int v3_4)]) hx hb dX12_draws_102 hl (by decide) rfl (fun ls hl => ?_)
            refine lv_iinc (v := (v2_4 + (1 : Int32))) (lv' := [(2, .int (v2_4 + (1 : Int32))), (6, .int r13.1), (5, .int (r10.1 - r10.1 / (4 : Int32) * (4 : Int32))), (4, .int (r7.1 - r7.1 / (8 : Int32) * (8 : Int32))), (0, .ref a_this), (1, .int p0), (3, .int v3_4)]) hx hb dX12_draws_104 hl (k := 5) rfl rfl (by decide) rfl (fun ls hl => ?_)
            refine lv_iinc (v := (v3_4 + (1 : Int32))) (lv' := [(3, .int (v3_4 + (1 : Int32))), (2, .int (v2_4 + (1 : Int32))), (6, .int r13.1), (5, .int (r10.1 - r10.1 / (4 : Int32) * (4 : Int32))), (4, .int (r7.1 - r7.1 / (8 : Int32) * (8 : Int32))), (0, .ref a_this), (1, .int p0)]) hx hb dX12_draws_107 hl (k := 6) rfl rfl (by decide) rfl (fun ls hl => ?_)
            refine lv_goto (tgt := 20) hx hb dX12_draws_110 (by decide) ?_
            exact ih (v2_4 + (1 : Int32)) (v3_4 + (1 : Int32)) r13.2.1 r13.2.2.1 r13.2.2.2 (upd this_told_6 (r7.1 - r7.1 / (8 : Int32) * (8 : Int32)).toNatClampNeg ((r8.1 - r8.1 / (4 : Int32) * (4 : Int32)) + (1 : Int32))) _ _ hP hD hS ls (lv_sub hl [5, 6, 1, 0] rfl) hf
    refine L4 _ (fun v2_3 v3_3 this_named_3 this_pile_3 this_s_3 this_told_3 H locs hP hD hS ls hl hf => ?_) N (0 : Int32) (0 : Int32) this_named this_pile this_s this_told _ _ hP hD hS ls (lv_sub hl [2, 3, 1, 0] rfl) hf
    refine lv_iload_n hx hb dX12_draws_113 rfl (lv_at hl 2 rfl) ?_
    have ho := ks hf
    subst ho
    exact kiret hx hb hr hlk hP hD hS hQ dX12_draws_114
  · replace hf := kt c2 hf
    refine lv_aload_n hx hb dX12_draws_10 rfl (lv_at hl 0 rfl) ?_
    refine lv_iconst (v := (1 : Int32)) hx hb dX12_draws_11 (by decide) ?_
    obtain ⟨r17, hr17, hf⟩ := kb hf
    refine kV (As := [.int (1 : Int32)]) (rest := []) ⟨hx, hb, hml, hown, hts⟩ (c_X12_error l G N a_this a_this_s a_this_kept a_this_errors a_this_step a_this_named a_this_pile a_this_told a_this_beside1 a_this_row a_this_best a_this_worthOf a_this_trace a_this_bits a_this_sizes a_this_number a_this_aside (1 : Int32) this_images this_at this_open this_steps this_use this_bestNet this_bestMore this_leastApart this_found this_first this_leastPaid this_traced this_speaks this_isParted this_errors r17 hr17) (kcV 1 hts tw_1087 tw_92 tw_1084 tw_1086 tw_43 hd_X12_error ⟨Nat.le_of_ble_eq_true rfl, Nat.le_of_ble_eq_true rfl⟩) dX12_draws_12 hl.1 hK hAm hA hP hD hS 0 (ci := 12) rfl rfl rfl [0, 1] rfl rfl rfl [1] rfl rfl rfl (Nat.le_of_ble_eq_true rfl) ⟨Nat.le_refl _, Nat.le_refl _⟩ (fun H locs hP hD hS => ?_)
    have hP : va_P (gD G) vwCl (k_X12_draws G a_this a_this_s a_this_kept a_this_errors a_this_step a_this_named a_this_pile a_this_told a_this_beside1 a_this_row a_this_best a_this_worthOf a_this_trace a_this_bits a_this_sizes a_this_number a_this_aside this_images this_at this_open this_steps this_use this_bestNet this_bestMore this_leastApart this_found this_first this_leastPaid this_traced this_speaks this_isParted r17.2 this_named this_pile this_s this_told) H := hP
    have hD : va_D A (k_X12_draws G a_this a_this_s a_this_kept a_this_errors a_this_step a_this_named a_this_pile a_this_told a_this_beside1 a_this_row a_this_best a_this_worthOf a_this_trace a_this_bits a_this_sizes a_this_number a_this_aside this_images this_at this_open this_steps this_use this_bestNet this_bestMore this_leastApart this_found this_first this_leastPaid this_traced this_speaks this_isParted r17.2 this_named this_pile this_s this_told) := hD
    have ho := ks hf
    subst ho
    exact kiret hx hb hr hlk hP hD hS hQ dX12_draws_15
abbrev k_X12_seed (G : KG) (a_this : Nat) (a_this_s : Nat) (a_this_kept : Nat) (a_this_errors : Nat) (a_this_step : Nat) (a_this_named : Nat) (a_this_pile : Nat) (a_this_told : Nat) (a_this_beside1 : Nat) (a_this_row : Nat) (a_this_best : Nat) (a_this_worthOf : Nat) (a_this_trace : Nat) (a_this_bits : Nat) (a_this_sizes : Nat) (a_this_number : Nat) (a_this_aside : Nat) (this_images : Int32) (this_at : Int32) (this_open : Int32) (this_steps : Int32) (this_use : Int32) (this_bestNet : Int32) (this_bestMore : Int32) (this_leastApart : Int32) (this_found : Int32) (this_first : Int32) (this_leastPaid : Int32) (this_traced : Int32) (this_speaks : Int32) (this_isParted : Int32) (this_s : Nat → Int32) : va_W := [(a_this, .inr (12, [.ref a_this_s, .ref a_this_kept, .int this_images, .ref a_this_errors, .int this_at, .int this_open, .int this_steps, .int this_use, .ref a_this_step, .ref a_this_named, .ref a_this_pile, .ref a_this_told, .ref a_this_beside1, .ref a_this_row, .ref a_this_best, .int this_bestNet, .int this_bestMore, .ref a_this_worthOf, .int this_leastApart, .int this_found, .int this_first, .int this_leastPaid, .ref a_this_trace, .int this_traced, .int this_speaks, .int this_isParted, .ref a_this_bits, .ref a_this_sizes, .ref a_this_number, .ref a_this_aside])), (a_this_s, .inl (gI G, 374, .inl this_s))]
def f_X12_seed (N : Nat) (p0 : Int32) (this_s : Nat → Int32) : Option (Int32 × (Nat → Int32)) := ((f_X12_change1 N (5 : Int32) p0 this_s).bind fun r1 => (some (r1.1, r1.2)))
set_option maxRecDepth 100000 in
set_option maxHeartbeats 4000000 in
theorem c_X12_seed (l : Launch) (G : KG) (N : Nat) (a_this : Nat) (a_this_s : Nat) (a_this_kept : Nat) (a_this_errors : Nat) (a_this_step : Nat) (a_this_named : Nat) (a_this_pile : Nat) (a_this_told : Nat) (a_this_beside1 : Nat) (a_this_row : Nat) (a_this_best : Nat) (a_this_worthOf : Nat) (a_this_trace : Nat) (a_this_bits : Nat) (a_this_sizes : Nat) (a_this_number : Nat) (a_this_aside : Nat) (p0 : Int32) (this_images : Int32) (this_at : Int32) (this_open : Int32) (this_steps : Int32) (this_use : Int32) (this_bestNet : Int32) (this_bestMore : Int32) (this_leastApart : Int32) (this_found : Int32) (this_first : Int32) (this_leastPaid : Int32) (this_traced : Int32) (this_speaks : Int32) (this_isParted : Int32) (this_s : Nat → Int32)  (out : Int32 × (Nat → Int32)) (hf : f_X12_seed N p0 this_s = some out) : KM l G yX12_seed (kw yX12_seed cX12_seed 2 (some .int)) 1 23 [.ref a_this, .int p0] (k_X12_seed G a_this a_this_s a_this_kept a_this_errors a_this_step a_this_named a_this_pile a_this_told a_this_beside1 a_this_row a_this_best a_this_worthOf a_this_trace a_this_bits a_this_sizes a_this_number a_this_aside this_images this_at this_open this_steps this_use this_bestNet this_bestMore this_leastApart this_found this_first this_leastPaid this_traced this_speaks this_isParted this_s) (k_X12_seed G a_this a_this_s a_this_kept a_this_errors a_this_step a_this_named a_this_pile a_this_told a_this_beside1 a_this_row a_this_best a_this_worthOf a_this_trace a_this_bits a_this_sizes a_this_number a_this_aside this_images this_at this_open this_steps this_use this_bestNet this_bestMore this_leastApart this_found this_first this_leastPaid this_traced this_speaks this_isParted (out.2)) (some (.int (out.1))) := by
  refine KM.of (by decide) (Nat.le_of_ble_eq_true rfl) ?_
  intro p e s m below meth c A ls args Q Fx0 hP hK hD hA hS hAm hQ hl
  obtain ⟨hx, hb, hr, hml, hts, hown, hlk, hnm⟩ := Fx0
  have hown : s.vm.findClass RX12 = some m.cls := hown
  have hl : lv_has ls 2 [(0, .ref a_this), (1, .int p0)] := hl
  unfold f_X12_seed at hf
  refine lv_aload_n hx hb dX12_seed_0 rfl (lv_at hl 0 rfl) ?_
  refine lv_iconst (v := (5 : Int32)) hx hb dX12_seed_1 (by decide) ?_
  refine lv_iload_n hx hb dX12_seed_2 rfl (lv_at hl 1 rfl) ?_
  obtain ⟨r1, hr1, hf⟩ := kb hf
  refine kV (As := [.int (5 : Int32), .int p0]) (rest := []) ⟨hx, hb, hml, hown, hts⟩ (c_X12_change1 l G N a_this a_this_s a_this_kept a_this_errors a_this_step a_this_named a_this_pile a_this_told a_this_beside1 a_this_row a_this_best a_this_worthOf a_this_trace a_this_bits a_this_sizes a_this_number a_this_aside (5 : Int32) p0 this_images this_at this_open this_steps this_use this_bestNet this_bestMore this_leastApart this_found this_first this_leastPaid this_traced this_speaks this_isParted this_s r1 hr1) (kcV 2 hts tw_1152 tw_92 tw_1149 tw_1151 tw_55 hd_X12_change1 ⟨Nat.le_of_ble_eq_true rfl, Nat.le_of_ble_eq_true rfl⟩) dX12_seed_3 hl.1 hK hAm hA hP hD hS 0 (ci := 12) rfl rfl rfl [0, 1] rfl rfl rfl [1] rfl rfl rfl (Nat.le_of_ble_eq_true rfl) ⟨Nat.le_refl _, Nat.le_refl _⟩ (fun H locs hP hD hS => ?_)
  have hP : va_P (gD G) vwCl (k_X12_seed G a_this a_this_s a_this_kept a_this_errors a_this_step a_this_named a_this_pile a_this_told a_this_beside1 a_this_row a_this_best a_this_worthOf a_this_trace a_this_bits a_this_sizes a_this_number a_this_aside this_images this_at this_open this_steps this_use this_bestNet this_bestMore this_leastApart this_found this_first this_leastPaid this_traced this_speaks this_isParted r1.2) H := hP
  have hD : va_D A (k_X12_seed G a_this a_this_s a_this_kept a_this_errors a_this_step a_this_named a_this_pile a_this_told a_this_beside1 a_this_row a_this_best a_this_worthOf a_this_trace a_this_bits a_this_sizes a_this_number a_this_aside this_images this_at this_open this_steps this_use this_bestNet this_bestMore this_leastApart this_found this_first this_leastPaid this_traced this_speaks this_isParted r1.2) := hD
  have ho := ks hf
  subst ho
  exact kiret hx hb hr hlk hP hD hS hQ dX12_seed_6
abbrev k_X12_divisor (G : KG) : va_W := []
def f_X12_divisor_4 (N : Nat) (K : Int32 → Int32 → Option (Int32)) : Nat → Int32 → Int32 → Option (Int32)
  | 0, _, _ => none
  | n + 1, y2, y3 => (if y3 = 0 then (K y2 y3) else (if ¬ y3 = 0 then (f_X12_divisor_4 N K n y3 (y2 - y2 / y3 * y3)) else none))
def f_X12_divisor (N : Nat) (p0 : Int32) (p1 : Int32) : Option (Int32) := (f_X12_divisor_4 N (fun v2_3 v3_3 => (some v2_3)) N p0 p1)
set_option maxRecDepth 100000 in
set_option maxHeartbeats 4000000 in
theorem c_X12_divisor (l : Launch) (G : KG) (N : Nat) (p0 : Int32) (p1 : Int32)  (out : Int32) (hf : f_X12_divisor N p0 p1 = some out) : KM l G yX12_divisor (kw yX12_divisor cX12_divisor 5 (some .int)) 0 0 [.int p0, .int p1] (k_X12_divisor G) (k_X12_divisor G) (some (.int out)) := by
  refine KM.of (by decide) (Nat.le_of_ble_eq_true rfl) ?_
  intro p e s m below meth c A ls args Q Fx0 hP hK hD hA hS hAm hQ hl
  obtain ⟨hx, hb, hr, hml, hts, hown, hlk, hnm⟩ := Fx0
  have hown : s.vm.findClass RX12 = some m.cls := hown
  have hl : lv_has ls 5 [(0, .int p0), (1, .int p1)] := hl
  unfold f_X12_divisor at hf
  refine lv_iload_n hx hb dX12_divisor_0 rfl (lv_at hl 0 rfl) ?_
  refine lv_istore_n (lv' := [(2, .int p0), (0, .int p0), (1, .int p1)]) hx hb dX12_divisor_1 rfl hl (by decide) rfl (fun ls hl => ?_)
  refine lv_iload_n hx hb dX12_divisor_2 rfl (lv_at hl 2 rfl) ?_
  refine lv_istore_n (lv' := [(3, .int p1), (2, .int p0), (0, .int p0), (1, .int p1)]) hx hb dX12_divisor_3 rfl hl (by decide) rfl (fun ls hl => ?_)
  have L2 : ∀ (K : Int32 → Int32 → Option (Int32)), (∀ (v2_2 : Int32) (v3_2 : Int32) (H : Heap) (locs : List Loc), va_P (gD G) vwCl (k_X12_divisor G) H → va_D A (k_X12_divisor G) → va_S A s.heap H locs → ∀ (ls : Array Slot), lv_has ls 5 [(0, .int p0), (1, .int p1), (2, .int v2_2), (3, .int v3_2)] → K v2_2 v3_2 = some out → W p l e (kR 0 0 0 0) s m args below meth c H locs 0 0 Q (F0 m 21 ls [])) → ∀ (n : Nat), ∀ (v2_2 : Int32) (v3_2 : Int32) (H : Heap) (locs : List Loc), va_P (gD G) vwCl (k_X12_divisor G) H → va_D A (k_X12_divisor G) → va_S A s.heap H locs → ∀ (ls : Array Slot), lv_has ls 5 [(0, .int p0), (1, .int p1), (2, .int v2_2), (3, .int v3_2)] → f_X12_divisor_4 N K n v2_2 v3_2 = some out → W p l e (kR 0 0 0 0) s m args below meth c H locs 0 0 Q (F0 m 4 ls []) := by
    intro K hK2 n
    induction n with
    | zero =>
      intro v2_2 v3_2 H locs hP hD hS ls hl hf
      rw [f_X12_divisor_4] at hf
      cases hf
    | succ n ih =>
      intro v2_2 v3_2 H locs hP hD hS ls hl hf
      rw [f_X12_divisor_4] at hf
      refine lv_iload_n hx hb dX12_divisor_4 rfl (lv_at hl 3 rfl) ?_
      refine lv_if_eq (tgt := 21) hx hb dX12_divisor_5 (by decide) (fun c3 => ?_) (fun c3 => ?_)
      · replace hf := kt c3 hf
        exact hK2 v2_2 v3_2 _ _ hP hD hS ls (lv_sub hl [0, 1, 2, 3] rfl) hf
      · replace hf := kf c3 hf
        refine lv_iload_n hx hb dX12_divisor_8 rfl (lv_at hl 2 rfl) ?_
        refine lv_iload_n hx hb dX12_divisor_9 rfl (lv_at hl 3 rfl) ?_
        obtain ⟨g4, hf⟩ := kg hf
        refine lv_irem hx hb dX12_divisor_10 g4 ?_
        refine lv_istore (lv' := [(4, .int (v2_2 - v2_2 / v3_2 * v3_2)), (0, .int p0), (1, .int p1), (2, .int v2_2), (3, .int v3_2)]) hx hb dX12_divisor_11 hl (by decide) rfl (fun ls hl => ?_)
        refine lv_iload_n hx hb dX12_divisor_13 rfl (lv_at hl 4 rfl) ?_
        refine lv_istore_n (lv' := [(2, .int v3_2), (4, .int (v2_2 - v2_2 / v3_2 * v3_2)), (0, .int p0), (1, .int p1), (3, .int v3_2)]) hx hb dX12_divisor_14 rfl hl (by decide) rfl (fun ls hl => ?_)
        refine lv_iload hx hb dX12_divisor_15 (lv_at hl 1 rfl) ?_
        refine lv_istore_n (lv' := [(3, .int (v2_2 - v2_2 / v3_2 * v3_2)), (2, .int v3_2), (4, .int (v2_2 - v2_2 / v3_2 * v3_2)), (0, .int p0), (1, .int p1)]) hx hb dX12_divisor_17 rfl hl (by decide) rfl (fun ls hl => ?_)
        refine lv_goto (tgt := 4) hx hb dX12_divisor_18 (by decide) ?_
        exact ih v3_2 (v2_2 - v2_2 / v3_2 * v3_2) _ _ hP hD hS ls (lv_sub hl [3, 4, 1, 0] rfl) hf
  refine L2 _ (fun v2_1 v3_1 H locs hP hD hS ls hl hf => ?_) N p0 p1 _ _ hP hD hS ls (lv_sub hl [2, 3, 1, 0] rfl) hf
  refine lv_iload_n hx hb dX12_divisor_21 rfl (lv_at hl 2 rfl) ?_
  have ho := ks hf
  subst ho
  exact kiret hx hb hr hlk hP hD hS hQ dX12_divisor_22
abbrev k_X12_begins (G : KG) (a_this : Nat) (a_this_s : Nat) (a_this_kept : Nat) (a_this_errors : Nat) (a_this_step : Nat) (a_this_named : Nat) (a_this_pile : Nat) (a_this_told : Nat) (a_this_beside1 : Nat) (a_this_row : Nat) (a_this_best : Nat) (a_this_worthOf : Nat) (a_this_trace : Nat) (a_this_bits : Nat) (a_this_sizes : Nat) (a_this_number : Nat) (a_this_aside : Nat) (this_images : Int32) (this_at : Int32) (this_open : Int32) (this_steps : Int32) (this_use : Int32) (this_bestNet : Int32) (this_bestMore : Int32) (this_leastApart : Int32) (this_found : Int32) (this_first : Int32) (this_leastPaid : Int32) (this_traced : Int32) (this_speaks : Int32) (this_isParted : Int32) (this_trace : Nat → Int32) : va_W := [(a_this, .inr (12, [.ref a_this_s, .ref a_this_kept, .int this_images, .ref a_this_errors, .int this_at, .int this_open, .int this_steps, .int this_use, .ref a_this_step, .ref a_this_named, .ref a_this_pile, .ref a_this_told, .ref a_this_beside1, .ref a_this_row, .ref a_this_best, .int this_bestNet, .int this_bestMore, .ref a_this_worthOf, .int this_leastApart, .int this_found, .int this_first, .int this_leastPaid, .ref a_this_trace, .int this_traced, .int this_speaks, .int this_isParted, .ref a_this_bits, .ref a_this_sizes, .ref a_this_number, .ref a_this_aside])), (a_this_trace, .inl (gI G, 30, .inl this_trace))]
def f_X12_begins (N : Nat) (p0 : Int32) (this_traced : Int32) (this_trace : Nat → Int32) : Option ((Int32) × (Nat → Int32)) := (if (30 : Int32) ≤ this_traced then (some (this_traced, this_trace)) else (if vin this_traced 30 = true then (some ((this_traced + (1 : Int32)), (upd this_trace this_traced.toNatClampNeg p0))) else none))
set_option maxRecDepth 100000 in
set_option maxHeartbeats 4000000 in
theorem c_X12_begins (l : Launch) (G : KG) (N : Nat) (a_this : Nat) (a_this_s : Nat) (a_this_kept : Nat) (a_this_errors : Nat) (a_this_step : Nat) (a_this_named : Nat) (a_this_pile : Nat) (a_this_told : Nat) (a_this_beside1 : Nat) (a_this_row : Nat) (a_this_best : Nat) (a_this_worthOf : Nat) (a_this_trace : Nat) (a_this_bits : Nat) (a_this_sizes : Nat) (a_this_number : Nat) (a_this_aside : Nat) (p0 : Int32) (this_images : Int32) (this_at : Int32) (this_open : Int32) (this_steps : Int32) (this_use : Int32) (this_bestNet : Int32) (this_bestMore : Int32) (this_leastApart : Int32) (this_found : Int32) (this_first : Int32) (this_leastPaid : Int32) (this_traced : Int32) (this_speaks : Int32) (this_isParted : Int32) (this_trace : Nat → Int32)  (out : (Int32) × (Nat → Int32)) (hf : f_X12_begins N p0 this_traced this_trace = some out) : KM l G yX12_begins (kw yX12_begins cX12_begins 2 none) 0 0 [.ref a_this, .int p0] (k_X12_begins G a_this a_this_s a_this_kept a_this_errors a_this_step a_this_named a_this_pile a_this_told a_this_beside1 a_this_row a_this_best a_this_worthOf a_this_trace a_this_bits a_this_sizes a_this_number a_this_aside this_images this_at this_open this_steps this_use this_bestNet this_bestMore this_leastApart this_found this_first this_leastPaid this_traced this_speaks this_isParted this_trace) (k_X12_begins G a_this a_this_s a_this_kept a_this_errors a_this_step a_this_named a_this_pile a_this_told a_this_beside1 a_this_row a_this_best a_this_worthOf a_this_trace a_this_bits a_this_sizes a_this_number a_this_aside this_images this_at this_open this_steps this_use this_bestNet this_bestMore this_leastApart this_found this_first this_leastPaid (out.1) this_speaks this_isParted (out.2)) none := by
  refine KM.of (by decide) (Nat.le_of_ble_eq_true rfl) ?_
  intro p e s m below meth c A ls args Q Fx0 hP hK hD hA hS hAm hQ hl
  obtain ⟨hx, hb, hr, hml, hts, hown, hlk, hnm⟩ := Fx0
  have hown : s.vm.findClass RX12 = some m.cls := hown
  have hl : lv_has ls 2 [(0, .ref a_this), (1, .int p0)] := hl
  have fl_236 := hts _ tw_1009
  have fl_43 := hts _ tw_1008
  unfold f_X12_begins at hf
  refine lv_aload_n hx hb dX12_begins_0 rfl (lv_at hl 0 rfl) ?_
  refine va_get (D := gD G) (ci := 12) (C := RX12) (T := TX12) (N := 30) hx hb hts hin_X12 hown hK hP 0 rfl rfl 23 (by decide) fl_236 (fun _ h9 => h9) rfl dX12_begins_1 ?_
  refine lv_bipush (v := (30 : Int32)) hx hb dX12_begins_4 (by decide) ?_
  refine lv_icmp_ge (tgt := 29) hx hb dX12_begins_6 (by decide) (fun c1 => ?_) (fun c1 => ?_)
  · replace hf := kt c1 hf
    have ho := ks hf
    subst ho
    exact kvret hx hb hr hlk hP hD hS hQ dX12_begins_29
  · replace hf := kf c1 hf
    refine lv_aload_n hx hb dX12_begins_9 rfl (lv_at hl 0 rfl) ?_
    refine va_get (D := gD G) (ci := 12) (C := RX12) (T := TX12) (N := 30) hx hb hts hin_X12 hown hK hP 0 rfl rfl 22 (by decide) fl_43 (fun _ h9 => h9) rfl dX12_begins_10 ?_
    refine lv_aload_n hx hb dX12_begins_13 rfl (lv_at hl 0 rfl) ?_
    refine va_get (D := gD G) (ci := 12) (C := RX12) (T := TX12) (N := 30) hx hb hts hin_X12 hown hK hP 0 rfl rfl 23 (by decide) fl_236 (fun _ h9 => h9) rfl dX12_begins_14 ?_
    refine lv_iload_n hx hb dX12_begins_17 rfl (lv_at hl 1 rfl) ?_
    obtain ⟨g2, hf⟩ := kg hf
    refine va_iast hx hb hK hP hD hS 1 0 rfl rfl (vin_of g2) dX12_begins_18 (fun H locs hP hD hS => ?_)
    have hP : va_P (gD G) vwCl (k_X12_begins G a_this a_this_s a_this_kept a_this_errors a_this_step a_this_named a_this_pile a_this_told a_this_beside1 a_this_row a_this_best a_this_worthOf a_this_trace a_this_bits a_this_sizes a_this_number a_this_aside this_images this_at this_open this_steps this_use this_bestNet this_bestMore this_leastApart this_found this_first this_leastPaid this_traced this_speaks this_isParted (upd this_trace this_traced.toNatClampNeg p0)) H := hP
    have hD : va_D A (k_X12_begins G a_this a_this_s a_this_kept a_this_errors a_this_step a_this_named a_this_pile a_this_told a_this_beside1 a_this_row a_this_best a_this_worthOf a_this_trace a_this_bits a_this_sizes a_this_number a_this_aside this_images this_at this_open this_steps this_use this_bestNet this_bestMore this_leastApart this_found this_first this_leastPaid this_traced this_speaks this_isParted (upd this_trace this_traced.toNatClampNeg p0)) := hD
    refine lv_aload_n hx hb dX12_begins_19 rfl (lv_at hl 0 rfl) ?_
    refine lv_dup hx hb dX12_begins_20 rfl ?_
    refine va_get (D := gD G) (ci := 12) (C := RX12) (T := TX12) (N := 30) hx hb hts hin_X12 hown hK hP 0 rfl rfl 23 (by decide) fl_236 (fun _ h9 => h9) rfl dX12_begins_21 ?_
    refine lv_iconst (v := (1 : Int32)) hx hb dX12_begins_24 (by decide) ?_
    refine lv_iadd hx hb dX12_begins_25 ?_
    refine va_put (D := gD G) (ci := 12) (v := .int (this_traced + (1 : Int32))) (ty := .int) (C := RX12) (T := TX12) (N := 30) hx hb hts hin_X12 tyX12 tyX12_ok nmX12 hown hK hP hD hS 0 rfl rfl 23 (by decide) fl_236 (fun _ h9 => h9) rfl (by decide +kernel) rfl rfl (Nat.le_of_ble_eq_true rfl) dX12_begins_26 (fun H locs hP hD hS => ?_)
    have hP : va_P (gD G) vwCl (k_X12_begins G a_this a_this_s a_this_kept a_this_errors a_this_step a_this_named a_this_pile a_this_told a_this_beside1 a_this_row a_this_best a_this_worthOf a_this_trace a_this_bits a_this_sizes a_this_number a_this_aside this_images this_at this_open this_steps this_use this_bestNet this_bestMore this_leastApart this_found this_first this_leastPaid (this_traced + (1 : Int32)) this_speaks this_isParted (upd this_trace this_traced.toNatClampNeg p0)) H := hP
    have hD : va_D A (k_X12_begins G a_this a_this_s a_this_kept a_this_errors a_this_step a_this_named a_this_pile a_this_told a_this_beside1 a_this_row a_this_best a_this_worthOf a_this_trace a_this_bits a_this_sizes a_this_number a_this_aside this_images this_at this_open this_steps this_use this_bestNet this_bestMore this_leastApart this_found this_first this_leastPaid (this_traced + (1 : Int32)) this_speaks this_isParted (upd this_trace this_traced.toNatClampNeg p0)) := hD
    have ho := ks hf
    subst ho
    exact kvret hx hb hr hlk hP hD hS hQ dX12_begins_29
abbrev k_X12_above (G : KG) : va_W := []
def f_X12_above (N : Nat) (p0 : Int32) : Option (Int32) := (if p0 = (5 : Int32) then (some (1 : Int32)) else (if p0 = (4 : Int32) then (some (2 : Int32)) else (some (0 : Int32))))
set_option maxRecDepth 100000 in
set_option maxHeartbeats 4000000 in
theorem c_X12_above (l : Launch) (G : KG) (N : Nat) (p0 : Int32)  (out : Int32) (hf : f_X12_above N p0 = some out) : KM l G yX12_above (kw yX12_above cX12_above 1 (some .int)) 0 0 [.int p0] (k_X12_above G) (k_X12_above G) (some (.int out)) := by
  refine KM.of (by decide) (Nat.le_of_ble_eq_true rfl) ?_
  intro p e s m below meth c A ls args Q Fx0 hP hK hD hA hS hAm hQ hl
  obtain ⟨hx, hb, hr, hml, hts, hown, hlk, hnm⟩ := Fx0
  have hown : s.vm.findClass RX12 = some m.cls := hown
  have hl : lv_has ls 1 [(0, .int p0)] := hl
  unfold f_X12_above at hf
  refine lv_iload_n hx hb dX12_above_0 rfl (lv_at hl 0 rfl) ?_
  refine lv_iconst (v := (5 : Int32)) hx hb dX12_above_1 (by decide) ?_
  refine lv_icmp_ne (tgt := 9) hx hb dX12_above_2 (by decide) (fun c1 => ?_) (fun c1 => ?_)
  · replace hf := kf c1 hf
    refine lv_iload_n hx hb dX12_above_9 rfl (lv_at hl 0 rfl) ?_
    refine lv_iconst (v := (4 : Int32)) hx hb dX12_above_10 (by decide) ?_
    refine lv_icmp_ne (tgt := 18) hx hb dX12_above_11 (by decide) (fun c2 => ?_) (fun c2 => ?_)
    · replace hf := kf c2 hf
      refine lv_iconst (v := (0 : Int32)) hx hb dX12_above_18 (by decide) ?_
      have ho := ks hf
      subst ho
      exact kiret hx hb hr hlk hP hD hS hQ dX12_above_19
    · replace hf := kt c2 hf
      refine lv_iconst (v := (2 : Int32)) hx hb dX12_above_14 (by decide) ?_
      refine lv_goto (tgt := 19) hx hb dX12_above_15 (by decide) ?_
      have ho := ks hf
      subst ho
      exact kiret hx hb hr hlk hP hD hS hQ dX12_above_19
  · replace hf := kt c1 hf
    refine lv_iconst (v := (1 : Int32)) hx hb dX12_above_5 (by decide) ?_
    refine lv_goto (tgt := 19) hx hb dX12_above_6 (by decide) ?_
    have ho := ks hf
    subst ho
    exact kiret hx hb hr hlk hP hD hS hQ dX12_above_19
abbrev k_X12_body (G : KG) (a_this : Nat) (a_this_s : Nat) (a_this_kept : Nat) (a_this_errors : Nat) (a_this_step : Nat) (a_this_named : Nat) (a_this_pile : Nat) (a_this_told : Nat) (a_this_beside1 : Nat) (a_this_row : Nat) (a_this_best : Nat) (a_this_worthOf : Nat) (a_this_trace : Nat) (a_this_bits : Nat) (a_this_sizes : Nat) (a_this_number : Nat) (a_this_aside : Nat) (this_images : Int32) (this_at : Int32) (this_open : Int32) (this_steps : Int32) (this_use : Int32) (this_bestNet : Int32) (this_bestMore : Int32) (this_leastApart : Int32) (this_found : Int32) (this_first : Int32) (this_leastPaid : Int32) (this_traced : Int32) (this_speaks : Int32) (this_isParted : Int32) (this_errors : Nat → Int32) (this_trace : Nat → Int32) : va_W := [(a_this, .inr (12, [.ref a_this_s, .ref a_this_kept, .int this_images, .ref a_this_errors, .int this_at, .int this_open, .int this_steps, .int this_use, .ref a_this_step, .ref a_this_named, .ref a_this_pile, .ref a_this_told, .ref a_this_beside1, .ref a_this_row, .ref a_this_best, .int this_bestNet, .int this_bestMore, .ref a_this_worthOf, .int this_leastApart, .int this_found, .int this_first, .int this_leastPaid, .ref a_this_trace, .int this_traced, .int this_speaks, .int this_isParted, .ref a_this_bits, .ref a_this_sizes, .ref a_this_number, .ref a_this_aside])), (a_this_errors, .inl (gI G, 7, .inl this_errors)), (a_this_trace, .inl (gI G, 30, .inl this_trace))]
def f_X12_body (N : Nat) (p0 : Int32) (this_traced : Int32) (this_errors : Nat → Int32) (this_trace : Nat → Int32) : Option (Int32 × (Nat → Int32)) := ((f_X12_in N p0 (0 : Int32) (this_traced - (1 : Int32))).bind fun r1 => (if r1 = 0 then ((f_X12_error N (2 : Int32) this_errors).bind fun r3 => (some (r3.1, r3.2))) else (if vin p0 30 = true then (some ((this_trace p0.toNatClampNeg), this_errors)) else none)))
set_option maxRecDepth 100000 in
set_option maxHeartbeats 4000000 in
theorem c_X12_body (l : Launch) (G : KG) (N : Nat) (a_this : Nat) (a_this_s : Nat) (a_this_kept : Nat) (a_this_errors : Nat) (a_this_step : Nat) (a_this_named : Nat) (a_this_pile : Nat) (a_this_told : Nat) (a_this_beside1 : Nat) (a_this_row : Nat) (a_this_best : Nat) (a_this_worthOf : Nat) (a_this_trace : Nat) (a_this_bits : Nat) (a_this_sizes : Nat) (a_this_number : Nat) (a_this_aside : Nat) (p0 : Int32) (this_images : Int32) (this_at : Int32) (this_open : Int32) (this_steps : Int32) (this_use : Int32) (this_bestNet : Int32) (this_bestMore : Int32) (this_leastApart : Int32) (this_found : Int32) (this_first : Int32) (this_leastPaid : Int32) (this_traced : Int32) (this_speaks : Int32) (this_isParted : Int32) (this_errors : Nat → Int32) (this_trace : Nat → Int32)  (out : Int32 × (Nat → Int32)) (hf : f_X12_body N p0 this_traced this_errors this_trace = some out) : KM l G yX12_body (kw yX12_body cX12_body 2 (some .int)) 1 22 [.ref a_this, .int p0] (k_X12_body G a_this a_this_s a_this_kept a_this_errors a_this_step a_this_named a_this_pile a_this_told a_this_beside1 a_this_row a_this_best a_this_worthOf a_this_trace a_this_bits a_this_sizes a_this_number a_this_aside this_images this_at this_open this_steps this_use this_bestNet this_bestMore this_leastApart this_found this_first this_leastPaid this_traced this_speaks this_isParted this_errors this_trace) (k_X12_body G a_this a_this_s a_this_kept a_this_errors a_this_step a_this_named a_this_pile a_this_told a_this_beside1 a_this_row a_this_best a_this_worthOf a_this_trace a_this_bits a_this_sizes a_this_number a_this_aside this_images this_at this_open this_steps this_use this_bestNet this_bestMore this_leastApart this_found this_first this_leastPaid this_traced this_speaks this_isParted (out.2) this_trace) (some (.int (out.1))) := by
  refine KM.of (by decide) (Nat.le_of_ble_eq_true rfl) ?_
  intro p e s m below meth c A ls args Q Fx0 hP hK hD hA hS hAm hQ hl
  obtain ⟨hx, hb, hr, hml, hts, hown, hlk, hnm⟩ := Fx0
  have hown : s.vm.findClass RX12 = some m.cls := hown
  have hl : lv_has ls 2 [(0, .ref a_this), (1, .int p0)] := hl
  have fl_236 := hts _ tw_1009
  have fl_43 := hts _ tw_1008
  unfold f_X12_body at hf
  refine lv_iload_n hx hb dX12_body_0 rfl (lv_at hl 1 rfl) ?_
  refine lv_iconst (v := (0 : Int32)) hx hb dX12_body_1 (by decide) ?_
  refine lv_aload_n hx hb dX12_body_2 rfl (lv_at hl 0 rfl) ?_
  refine va_get (D := gD G) (ci := 12) (C := RX12) (T := TX12) (N := 30) hx hb hts hin_X12 hown hK hP 0 rfl rfl 23 (by decide) fl_236 (fun _ h9 => h9) rfl dX12_body_3 ?_
  refine lv_iconst (v := (1 : Int32)) hx hb dX12_body_6 (by decide) ?_
  refine lv_isub hx hb dX12_body_7 ?_
  obtain ⟨r1, hr1, hf⟩ := kb hf
  refine kS (As := [.int p0, .int (0 : Int32), .int (this_traced - (1 : Int32))]) (rest := []) ⟨hx, hb, hml, hown, hts⟩ (c_X12_in l G N p0 (0 : Int32) (this_traced - (1 : Int32)) r1 hr1) (kcS 3 hts tw_1083 tw_92 tw_1081 tw_1082 hd_X12_in ⟨Nat.le_of_ble_eq_true rfl, Nat.le_of_ble_eq_true rfl⟩) dX12_body_8 hl.1 hK hAm hA hP hD hS [] rfl rfl rfl [] rfl rfl rfl (Nat.le_of_ble_eq_true rfl) ⟨Nat.le_refl _, Nat.le_refl _⟩ (fun H locs hP hD hS => ?_)
  have hP : va_P (gD G) vwCl (k_X12_body G a_this a_this_s a_this_kept a_this_errors a_this_step a_this_named a_this_pile a_this_told a_this_beside1 a_this_row a_this_best a_this_worthOf a_this_trace a_this_bits a_this_sizes a_this_number a_this_aside this_images this_at this_open this_steps this_use this_bestNet this_bestMore this_leastApart this_found this_first this_leastPaid this_traced this_speaks this_isParted this_errors this_trace) H := hP
  have hD : va_D A (k_X12_body G a_this a_this_s a_this_kept a_this_errors a_this_step a_this_named a_this_pile a_this_told a_this_beside1 a_this_row a_this_best a_this_worthOf a_this_trace a_this_bits a_this_sizes a_this_number a_this_aside this_images this_at this_open this_steps this_use this_bestNet this_bestMore this_leastApart this_found this_first this_leastPaid this_traced this_speaks this_isParted this_errors this_trace) := hD
  refine lv_if_eq (tgt := 23) hx hb dX12_body_11 (by decide) (fun c2 => ?_) (fun c2 => ?_)
  · replace hf := kt c2 hf
    refine lv_aload_n hx hb dX12_body_23 rfl (lv_at hl 0 rfl) ?_
    refine lv_iconst (v := (2 : Int32)) hx hb dX12_body_24 (by decide) ?_
    obtain ⟨r3, hr3, hf⟩ := kb hf
    refine kV (As := [.int (2 : Int32)]) (rest := []) ⟨hx, hb, hml, hown, hts⟩ (c_X12_error l G N a_this a_this_s a_this_kept a_this_errors a_this_step a_this_named a_this_pile a_this_told a_this_beside1 a_this_row a_this_best a_this_worthOf a_this_trace a_this_bits a_this_sizes a_this_number a_this_aside (2 : Int32) this_images this_at this_open this_steps this_use this_bestNet this_bestMore this_leastApart this_found this_first this_leastPaid this_traced this_speaks this_isParted this_errors r3 hr3) (kcV 1 hts tw_1087 tw_92 tw_1084 tw_1086 tw_43 hd_X12_error ⟨Nat.le_of_ble_eq_true rfl, Nat.le_of_ble_eq_true rfl⟩) dX12_body_25 hl.1 hK hAm hA hP hD hS 0 (ci := 12) rfl rfl rfl [0, 1] rfl rfl rfl [1] rfl rfl rfl (Nat.le_of_ble_eq_true rfl) ⟨Nat.le_refl _, Nat.le_refl _⟩ (fun H locs hP hD hS => ?_)
    have hP : va_P (gD G) vwCl (k_X12_body G a_this a_this_s a_this_kept a_this_errors a_this_step a_this_named a_this_pile a_this_told a_this_beside1 a_this_row a_this_best a_this_worthOf a_this_trace a_this_bits a_this_sizes a_this_number a_this_aside this_images this_at this_open this_steps this_use this_bestNet this_bestMore this_leastApart this_found this_first this_leastPaid this_traced this_speaks this_isParted r3.2 this_trace) H := hP
    have hD : va_D A (k_X12_body G a_this a_this_s a_this_kept a_this_errors a_this_step a_this_named a_this_pile a_this_told a_this_beside1 a_this_row a_this_best a_this_worthOf a_this_trace a_this_bits a_this_sizes a_this_number a_this_aside this_images this_at this_open this_steps this_use this_bestNet this_bestMore this_leastApart this_found this_first this_leastPaid this_traced this_speaks this_isParted r3.2 this_trace) := hD
    have ho := ks hf
    subst ho
    exact kiret hx hb hr hlk hP hD hS hQ dX12_body_28
  · replace hf := kf c2 hf
    refine lv_aload_n hx hb dX12_body_14 rfl (lv_at hl 0 rfl) ?_
    refine va_get (D := gD G) (ci := 12) (C := RX12) (T := TX12) (N := 30) hx hb hts hin_X12 hown hK hP 0 rfl rfl 22 (by decide) fl_43 (fun _ h9 => h9) rfl dX12_body_15 ?_
    refine lv_iload_n hx hb dX12_body_18 rfl (lv_at hl 1 rfl) ?_
    obtain ⟨g4, hf⟩ := kg hf
    refine va_iald hx hb hK hP 2 0 rfl rfl (vin_of g4) dX12_body_19 ?_
    refine lv_goto (tgt := 28) hx hb dX12_body_20 (by decide) ?_
    have ho := ks hf
    subst ho
    exact kiret hx hb hr hlk hP hD hS hQ dX12_body_28
abbrev k_X12_isSheet (G : KG) : va_W := []
def f_X12_isSheet (N : Nat) (p0 : Int32) : Option (Int32) := ((f_X12_in N p0 (0 : Int32) (3 : Int32)).bind fun r1 => (if r1 = 0 ∨ r1 = 1 then (some r1) else none))
set_option maxRecDepth 100000 in
set_option maxHeartbeats 4000000 in
theorem c_X12_isSheet (l : Launch) (G : KG) (N : Nat) (p0 : Int32)  (out : Int32) (hf : f_X12_isSheet N p0 = some out) : KM l G yX12_isSheet (kw yX12_isSheet cX12_isSheet 1 (some .boolean)) 1 22 [.int p0] (k_X12_isSheet G) (k_X12_isSheet G) (some (.int out)) := by
  refine KM.of (by decide) (Nat.le_of_ble_eq_true rfl) ?_
  intro p e s m below meth c A ls args Q Fx0 hP hK hD hA hS hAm hQ hl
  obtain ⟨hx, hb, hr, hml, hts, hown, hlk, hnm⟩ := Fx0
  have hown : s.vm.findClass RX12 = some m.cls := hown
  have hl : lv_has ls 1 [(0, .int p0)] := hl
  unfold f_X12_isSheet at hf
  refine lv_iload_n hx hb dX12_isSheet_0 rfl (lv_at hl 0 rfl) ?_
  refine lv_iconst (v := (0 : Int32)) hx hb dX12_isSheet_1 (by decide) ?_
  refine lv_iconst (v := (3 : Int32)) hx hb dX12_isSheet_2 (by decide) ?_
  obtain ⟨r1, hr1, hf⟩ := kb hf
  refine kS (As := [.int p0, .int (0 : Int32), .int (3 : Int32)]) (rest := []) ⟨hx, hb, hml, hown, hts⟩ (c_X12_in l G N p0 (0 : Int32) (3 : Int32) r1 hr1) (kcS 3 hts tw_1083 tw_92 tw_1081 tw_1082 hd_X12_in ⟨Nat.le_of_ble_eq_true rfl, Nat.le_of_ble_eq_true rfl⟩) dX12_isSheet_3 hl.1 hK hAm hA hP hD hS [] rfl rfl rfl [] rfl rfl rfl (Nat.le_of_ble_eq_true rfl) ⟨Nat.le_refl _, Nat.le_refl _⟩ (fun H locs hP hD hS => ?_)
  have hP : va_P (gD G) vwCl (k_X12_isSheet G) H := hP
  have hD : va_D A (k_X12_isSheet G) := hD
  obtain ⟨g2, hf⟩ := kg hf
  have ho := ks hf
  subst ho
  exact kzret hx hb hr g2 hlk hP hD hS hQ dX12_isSheet_6
abbrev k_X12_sheet (G : KG) (a_this : Nat) (a_this_s : Nat) (a_this_kept : Nat) (a_this_errors : Nat) (a_this_step : Nat) (a_this_named : Nat) (a_this_pile : Nat) (a_this_told : Nat) (a_this_beside1 : Nat) (a_this_row : Nat) (a_this_best : Nat) (a_this_worthOf : Nat) (a_this_trace : Nat) (a_this_bits : Nat) (a_this_sizes : Nat) (a_this_number : Nat) (a_this_aside : Nat) (this_images : Int32) (this_at : Int32) (this_open : Int32) (this_steps : Int32) (this_use : Int32) (this_bestNet : Int32) (this_bestMore : Int32) (this_leastApart : Int32) (this_found : Int32) (this_first : Int32) (this_leastPaid : Int32) (this_traced : Int32) (this_speaks : Int32) (this_isParted : Int32) (this_bits : Nat → Int32) (this_errors : Nat → Int32) (this_number : Nat → Int32) (this_sizes : Nat → Int32) : va_W := [(a_this, .inr (12, [.ref a_this_s, .ref a_this_kept, .int this_images, .ref a_this_errors, .int this_at, .int this_open, .int this_steps, .int this_use, .ref a_this_step, .ref a_this_named, .ref a_this_pile, .ref a_this_told, .ref a_this_beside1, .ref a_this_row, .ref a_this_best, .int this_bestNet, .int this_bestMore, .ref a_this_worthOf, .int this_leastApart, .int this_found, .int this_first, .int this_leastPaid, .ref a_this_trace, .int this_traced, .int this_speaks, .int this_isParted, .ref a_this_bits, .ref a_this_sizes, .ref a_this_number, .ref a_this_aside])), (a_this_bits, .inl (gI G, 4, .inl this_bits)), (a_this_errors, .inl (gI G, 7, .inl this_errors)), (a_this_number, .inl (gI G, 96, .inl this_number)), (a_this_sizes, .inl (gI G, 4, .inl this_sizes))]
def f_X12_sheet_90 (N : Nat) (x1 : Int32) (K : Int32 → (Nat → Int32) → Option (Int32 × (Nat → Int32) × (Nat → Int32) × (Nat → Int32) × (Nat → Int32))) : Nat → Int32 → (Nat → Int32) → Option (Int32 × (Nat → Int32) × (Nat → Int32) × (Nat → Int32) × (Nat → Int32))
  | 0, _, _ => none
  | n + 1, y4, this_number_v => (if (24 : Int32) ≤ y4 then (K y4 this_number_v) else (if vin (((24 : Int32) * x1) + y4) 96 = true then (f_X12_sheet_90 N x1 K n (y4 + (1 : Int32)) (upd this_number_v (((24 : Int32) * x1) + y4).toNatClampNeg (0 : Int32))) else none))
def f_X12_sheet_j86 (N : Nat) (x1 : Int32) (t1 : Int32) (t2 : Int32) (this_bits : Nat → Int32) (this_errors : Nat → Int32) (this_number : Nat → Int32) (this_sizes : Nat → Int32) : Option (Int32 × (Nat → Int32) × (Nat → Int32) × (Nat → Int32) × (Nat → Int32)) := (if vin t1 4 = true then (f_X12_sheet_90 N x1 (fun v4_4 this_number_4 => (some ((1 : Int32), this_bits, this_errors, this_number_4, (upd this_sizes t1.toNatClampNeg t2)))) N (0 : Int32) this_number) else none)
def f_X12_sheet_j49 (N : Nat) (x1 : Int32) (x2 : Int32) (x3 : Int32) (this_bits : Nat → Int32) (this_errors : Nat → Int32) (this_number : Nat → Int32) (this_sizes : Nat → Int32) : Option (Int32 × (Nat → Int32) × (Nat → Int32) × (Nat → Int32) × (Nat → Int32)) := (if x2 = 0 then (if vin x1 4 = true then (if x2 = 0 then (f_X12_sheet_j86 N x1 x1 (0 : Int32) (upd this_bits x1.toNatClampNeg x2) this_errors this_number this_sizes) else (f_X12_sheet_j86 N x1 x1 x3 (upd this_bits x1.toNatClampNeg x2) this_errors this_number this_sizes)) else none) else (if x3 ≤ (24 : Int32) then (if vin x1 4 = true then (if x2 = 0 then (f_X12_sheet_j86 N x1 x1 (0 : Int32) (upd this_bits x1.toNatClampNeg x2) this_errors this_number this_sizes) else (f_X12_sheet_j86 N x1 x1 x3 (upd this_bits x1.toNatClampNeg x2) this_errors this_number this_sizes)) else none) else ((f_X12_error N (1 : Int32) this_errors).bind fun r14 => (some (r14.1, this_bits, r14.2, this_number, this_sizes)))))
def f_X12_sheet (N : Nat) (p0 : Int32) (p1 : Int32) (p2 : Int32) (this_bits : Nat → Int32) (this_errors : Nat → Int32) (this_number : Nat → Int32) (this_sizes : Nat → Int32) : Option (Int32 × (Nat → Int32) × (Nat → Int32) × (Nat → Int32) × (Nat → Int32)) := ((f_X12_isSheet N p0).bind fun r15 => (if r15 = 0 then ((f_X12_error N (1 : Int32) this_errors).bind fun r17 => (some (r17.1, this_bits, r17.2, this_number, this_sizes))) else (if p1 = 0 then (if p1 = 0 then (f_X12_sheet_j49 N p0 p1 p2 this_bits this_errors this_number this_sizes) else (if 0 ≤ p2 then (f_X12_sheet_j49 N p0 p1 p2 this_bits this_errors this_number this_sizes) else ((f_X12_error N (3 : Int32) this_errors).bind fun r21 => (some (r21.1, this_bits, r21.2, this_number, this_sizes))))) else (if p1 = (8 : Int32) then (if p1 = 0 then (f_X12_sheet_j49 N p0 p1 p2 this_bits this_errors this_number this_sizes) else (if 0 ≤ p2 then (f_X12_sheet_j49 N p0 p1 p2 this_bits this_errors this_number this_sizes) else ((f_X12_error N (3 : Int32) this_errors).bind fun r25 => (some (r25.1, this_bits, r25.2, this_number, this_sizes))))) else (if p1 = (16 : Int32) then (if p1 = 0 then (f_X12_sheet_j49 N p0 p1 p2 this_bits this_errors this_number this_sizes) else (if 0 ≤ p2 then (f_X12_sheet_j49 N p0 p1 p2 this_bits this_errors this_number this_sizes) else ((f_X12_error N (3 : Int32) this_errors).bind fun r29 => (some (r29.1, this_bits, r29.2, this_number, this_sizes))))) else (if p1 = (32 : Int32) then (if p1 = 0 then (f_X12_sheet_j49 N p0 p1 p2 this_bits this_errors this_number this_sizes) else (if 0 ≤ p2 then (f_X12_sheet_j49 N p0 p1 p2 this_bits this_errors this_number this_sizes) else ((f_X12_error N (3 : Int32) this_errors).bind fun r33 => (some (r33.1, this_bits, r33.2, this_number, this_sizes))))) else ((f_X12_error N (1 : Int32) this_errors).bind fun r34 => (some (r34.1, this_bits, r34.2, this_number, this_sizes)))))))))
set_option maxRecDepth 100000 in
set_option maxHeartbeats 4000000 in
theorem c_X12_sheet (l : Launch) (G : KG) (N : Nat) (a_this : Nat) (a_this_s : Nat) (a_this_kept : Nat) (a_this_errors : Nat) (a_this_step : Nat) (a_this_named : Nat) (a_this_pile : Nat) (a_this_told : Nat) (a_this_beside1 : Nat) (a_this_row : Nat) (a_this_best : Nat) (a_this_worthOf : Nat) (a_this_trace : Nat) (a_this_bits : Nat) (a_this_sizes : Nat) (a_this_number : Nat) (a_this_aside : Nat) (p0 : Int32) (p1 : Int32) (p2 : Int32) (this_images : Int32) (this_at : Int32) (this_open : Int32) (this_steps : Int32) (this_use : Int32) (this_bestNet : Int32) (this_bestMore : Int32) (this_leastApart : Int32) (this_found : Int32) (this_first : Int32) (this_leastPaid : Int32) (this_traced : Int32) (this_speaks : Int32) (this_isParted : Int32) (this_bits : Nat → Int32) (this_errors : Nat → Int32) (this_number : Nat → Int32) (this_sizes : Nat → Int32)  (out : Int32 × (Nat → Int32) × (Nat → Int32) × (Nat → Int32) × (Nat → Int32)) (hf : f_X12_sheet N p0 p1 p2 this_bits this_errors this_number this_sizes = some out) : KM l G yX12_sheet (kw yX12_sheet cX12_sheet 5 (some .int)) 2 42 [.ref a_this, .int p0, .int p1, .int p2] (k_X12_sheet G a_this a_this_s a_this_kept a_this_errors a_this_step a_this_named a_this_pile a_this_told a_this_beside1 a_this_row a_this_best a_this_worthOf a_this_trace a_this_bits a_this_sizes a_this_number a_this_aside this_images this_at this_open this_steps this_use this_bestNet this_bestMore this_leastApart this_found this_first this_leastPaid this_traced this_speaks this_isParted this_bits this_errors this_number this_sizes) (k_X12_sheet G a_this a_this_s a_this_kept a_this_errors a_this_step a_this_named a_this_pile a_this_told a_this_beside1 a_this_row a_this_best a_this_worthOf a_this_trace a_this_bits a_this_sizes a_this_number a_this_aside this_images this_at this_open this_steps this_use this_bestNet this_bestMore this_leastApart this_found this_first this_leastPaid this_traced this_speaks this_isParted (out.2.1) (out.2.2.1) (out.2.2.2.1) (out.2.2.2.2)) (some (.int (out.1))) := by
  refine KM.of (by decide) (Nat.le_of_ble_eq_true rfl) ?_
  intro p e s m below meth c A ls args Q Fx0 hP hK hD hA hS hAm hQ hl
  obtain ⟨hx, hb, hr, hml, hts, hown, hlk, hnm⟩ := Fx0
  have hown : s.vm.findClass RX12 = some m.cls := hown
  have hl : lv_has ls 5 [(0, .ref a_this), (1, .int p0), (2, .int p1), (3, .int p2)] := hl
  have fl_52 := hts _ tw_1014
  have fl_46 := hts _ tw_1012
  have fl_49 := hts _ tw_1013
  unfold f_X12_sheet at hf
  have J86 : ∀ (x1_1 : Int32) (x2_1 : Int32) (x3_1 : Int32) (t1_1 : Int32) (t2_1 : Int32) (this_bits_1 : Nat → Int32) (this_errors_1 : Nat → Int32) (this_number_1 : Nat → Int32) (this_sizes_1 : Nat → Int32) (H : Heap) (locs : List Loc), va_P (gD G) vwCl (k_X12_sheet G a_this a_this_s a_this_kept a_this_errors a_this_step a_this_named a_this_pile a_this_told a_this_beside1 a_this_row a_this_best a_this_worthOf a_this_trace a_this_bits a_this_sizes a_this_number a_this_aside this_images this_at this_open this_steps this_use this_bestNet this_bestMore this_leastApart this_found this_first this_leastPaid this_traced this_speaks this_isParted this_bits_1 this_errors_1 this_number_1 this_sizes_1) H → va_D A (k_X12_sheet G a_this a_this_s a_this_kept a_this_errors a_this_step a_this_named a_this_pile a_this_told a_this_beside1 a_this_row a_this_best a_this_worthOf a_this_trace a_this_bits a_this_sizes a_this_number a_this_aside this_images this_at this_open this_steps this_use this_bestNet this_bestMore this_leastApart this_found this_first this_leastPaid this_traced this_speaks this_isParted this_bits_1 this_errors_1 this_number_1 this_sizes_1) → va_S A s.heap H locs → ∀ (ls : Array Slot), lv_has ls 5 [(0, .ref a_this), (1, .int x1_1), (2, .int x2_1), (3, .int x3_1)] → f_X12_sheet_j86 N x1_1 t1_1 t2_1 this_bits_1 this_errors_1 this_number_1 this_sizes_1 = some out → W p l e (kR 2 0 0 42) s m args below meth c H locs 0 0 Q (F0 m 86 ls [.int t2_1, .int t1_1, .ref a_this_sizes]) := by
    intro x1_1 x2_1 x3_1 t1_1 t2_1 this_bits_1 this_errors_1 this_number_1 this_sizes_1 H locs hP hD hS ls hl hf
    rw [f_X12_sheet_j86] at hf
    obtain ⟨g2, hf⟩ := kg hf
    refine va_iast hx hb hK hP hD hS 4 0 rfl rfl (vin_of g2) dX12_sheet_86 (fun H locs hP hD hS => ?_)
    have hP : va_P (gD G) vwCl (k_X12_sheet G a_this a_this_s a_this_kept a_this_errors a_this_step a_this_named a_this_pile a_this_told a_this_beside1 a_this_row a_this_best a_this_worthOf a_this_trace a_this_bits a_this_sizes a_this_number a_this_aside this_images this_at this_open this_steps this_use this_bestNet this_bestMore this_leastApart this_found this_first this_leastPaid this_traced this_speaks this_isParted this_bits_1 this_errors_1 this_number_1 (upd this_sizes_1 t1_1.toNatClampNeg t2_1)) H := hP
    have hD : va_D A (k_X12_sheet G a_this a_this_s a_this_kept a_this_errors a_this_step a_this_named a_this_pile a_this_told a_this_beside1 a_this_row a_this_best a_this_worthOf a_this_trace a_this_bits a_this_sizes a_this_number a_this_aside this_images this_at this_open this_steps this_use this_bestNet this_bestMore this_leastApart this_found this_first this_leastPaid this_traced this_speaks this_isParted this_bits_1 this_errors_1 this_number_1 (upd this_sizes_1 t1_1.toNatClampNeg t2_1)) := hD
    refine lv_iconst (v := (0 : Int32)) hx hb dX12_sheet_87 (by decide) ?_
    refine lv_istore (lv' := [(4, .int (0 : Int32)), (0, .ref a_this), (1, .int x1_1), (2, .int x2_1), (3, .int x3_1)]) hx hb dX12_sheet_88 hl (by decide) rfl (fun ls hl => ?_)
    have L4 : ∀ (K : Int32 → (Nat → Int32) → Option (Int32 × (Nat → Int32) × (Nat → Int32) × (Nat → Int32) × (Nat → Int32))), (∀ (v4_4 : Int32) (this_number_4 : Nat → Int32) (H : Heap) (locs : List Loc), va_P (gD G) vwCl (k_X12_sheet G a_this a_this_s a_this_kept a_this_errors a_this_step a_this_named a_this_pile a_this_told a_this_beside1 a_this_row a_this_best a_this_worthOf a_this_trace a_this_bits a_this_sizes a_this_number a_this_aside this_images this_at this_open this_steps this_use this_bestNet this_bestMore this_leastApart this_found this_first this_leastPaid this_traced this_speaks this_isParted this_bits_1 this_errors_1 this_number_4 (upd this_sizes_1 t1_1.toNatClampNeg t2_1)) H → va_D A (k_X12_sheet G a_this a_this_s a_this_kept a_this_errors a_this_step a_this_named a_this_pile a_this_told a_this_beside1 a_this_row a_this_best a_this_worthOf a_this_trace a_this_bits a_this_sizes a_this_number a_this_aside this_images this_at this_open this_steps this_use this_bestNet this_bestMore this_leastApart this_found this_first this_leastPaid this_traced this_speaks this_isParted this_bits_1 this_errors_1 this_number_4 (upd this_sizes_1 t1_1.toNatClampNeg t2_1)) → va_S A s.heap H locs → ∀ (ls : Array Slot), lv_has ls 5 [(0, .ref a_this), (1, .int x1_1), (2, .int x2_1), (3, .int x3_1), (4, .int v4_4)] → K v4_4 this_number_4 = some out → W p l e (kR 2 0 0 42) s m args below meth c H locs 0 0 Q (F0 m 116 ls [])) → ∀ (n : Nat), ∀ (v4_4 : Int32) (this_number_4 : Nat → Int32) (H : Heap) (locs : List Loc), va_P (gD G) vwCl (k_X12_sheet G a_this a_this_s a_this_kept a_this_errors a_this_step a_this_named a_this_pile a_this_told a_this_beside1 a_this_row a_this_best a_this_worthOf a_this_trace a_this_bits a_this_sizes a_this_number a_this_aside this_images this_at this_open this_steps this_use this_bestNet this_bestMore this_leastApart this_found this_first this_leastPaid this_traced this_speaks this_isParted this_bits_1 this_errors_1 this_number_4 (upd this_sizes_1 t1_1.toNatClampNeg t2_1)) H → va_D A (k_X12_sheet G a_this a_this_s a_this_kept a_this_errors a_this_step a_this_named a_this_pile a_this_told a_this_beside1 a_this_row a_this_best a_this_worthOf a_this_trace a_this_bits a_this_sizes a_this_number a_this_aside this_images this_at this_open this_steps this_use this_bestNet this_bestMore this_leastApart this_found this_first this_leastPaid this_traced this_speaks this_isParted this_bits_1 this_errors_1 this_number_4 (upd this_sizes_1 t1_1.toNatClampNeg t2_1)) → va_S A s.heap H locs → ∀ (ls : Array Slot), lv_has ls 5 [(0, .ref a_this), (1, .int x1_1), (2, .int x2_1), (3, .int x3_1), (4, .int v4_4)] → f_X12_sheet_90 N x1_1 K n v4_4 this_number_4 = some out → W p l e (kR 2 0 0 42) s m args below meth c H locs 0 0 Q (F0 m 90 ls []) := by
      intro K hK4 n
      induction n with
      | zero =>
        intro v4_4 this_number_4 H locs hP hD hS ls hl hf
        rw [f_X12_sheet_90] at hf
        cases hf
      | succ n ih =>
        intro v4_4 this_number_4 H locs hP hD hS ls hl hf
        rw [f_X12_sheet_90] at hf
        refine lv_iload hx hb dX12_sheet_90 (lv_at hl 4 rfl) ?_
        refine lv_bipush (v := (24 : Int32)) hx hb dX12_sheet_92 (by decide) ?_
        refine lv_icmp_ge (tgt := 116) hx hb dX12_sheet_94 (by decide) (fun c5 => ?_) (fun c5 => ?_)
        · replace hf := kt c5 hf
          exact hK4 v4_4 this_number_4 _ _ hP hD hS ls (lv_sub hl [0, 1, 2, 3, 4] rfl) hf
        · replace hf := kf c5 hf
          refine lv_aload_n hx hb dX12_sheet_97 rfl (lv_at hl 0 rfl) ?_
          refine va_get (D := gD G) (ci := 12) (C := RX12) (T := TX12) (N := 30) hx hb hts hin_X12 hown hK hP 0 rfl rfl 28 (by decide) fl_52 (fun _ h9 => h9) rfl dX12_sheet_98 ?_
          refine lv_bipush (v := (24 : Int32)) hx hb dX12_sheet_101 (by decide) ?_
          refine lv_iload_n hx hb dX12_sheet_103 rfl (lv_at hl 1 rfl) ?_
          refine lv_imul hx hb dX12_sheet_104 ?_
          refine lv_iload hx hb dX12_sheet_105 (lv_at hl 4 rfl) ?_
          refine lv_iadd hx hb dX12_sheet_107 ?_
          refine lv_iconst (v := (0 : Int32)) hx hb dX12_sheet_108 (by decide) ?_
          obtain ⟨g6, hf⟩ := kg hf
          refine va_iast hx hb hK hP hD hS 3 0 rfl rfl (vin_of g6) dX12_sheet_109 (fun H locs hP hD hS => ?_)
          have hP : va_P (gD G) vwCl (k_X12_sheet G a_this a_this_s a_this_kept a_this_errors a_this_step a_this_named a_this_pile a_this_told a_this_beside1 a_this_row a_this_best a_this_worthOf a_this_trace a_this_bits a_this_sizes a_this_number a_this_aside this_images this_at this_open this_steps this_use this_bestNet this_bestMore this_leastApart this_found this_first this_leastPaid this_traced this_speaks this_isParted this_bits_1 this_errors_1 (upd this_number_4 (((24 : Int32) * x1_1) + v4_4).toNatClampNeg (0 : Int32)) (upd this_sizes_1 t1_1.toNatClampNeg t2_1)) H := hP
          have hD : va_D A (k_X12_sheet G a_this a_this_s a_this_kept a_this_errors a_this_step a_this_named a_this_pile a_this_told a_this_beside1 a_this_row a_this_best a_this_worthOf a_this_trace a_this_bits a_this_sizes a_this_number a_this_aside this_images this_at this_open this_steps this_use this_bestNet this_bestMore this_leastApart this_found this_first this_leastPaid this_traced this_speaks this_isParted this_bits_1 this_errors_1 (upd this_number_4 (((24 : Int32) * x1_1) + v4_4).toNatClampNeg (0 : Int32)) (upd this_sizes_1 t1_1.toNatClampNeg t2_1)) := hD
          refine lv_iinc (v := (v4_4 + (1 : Int32))) (lv' := [(4, .int (v4_4 + (1 : Int32))), (0, .ref a_this), (1, .int x1_1), (2, .int x2_1), (3, .int x3_1)]) hx hb dX12_sheet_110 hl (k := 4) rfl rfl (by decide) rfl (fun ls hl => ?_)
          refine lv_goto (tgt := 90) hx hb dX12_sheet_113 (by decide) ?_
          exact ih (v4_4 + (1 : Int32)) (upd this_number_4 (((24 : Int32) * x1_1) + v4_4).toNatClampNeg (0 : Int32)) _ _ hP hD hS ls (lv_sub hl [1, 2, 3, 4, 0] rfl) hf
    refine L4 _ (fun v4_3 this_number_3 H locs hP hD hS ls hl hf => ?_) N (0 : Int32) this_number_1 _ _ hP hD hS ls (lv_sub hl [1, 2, 3, 4, 0] rfl) hf
    refine lv_iconst (v := (1 : Int32)) hx hb dX12_sheet_116 (by decide) ?_
    have ho := ks hf
    subst ho
    exact kiret hx hb hr hlk hP hD hS hQ dX12_sheet_117
  have J49 : ∀ (x1_7 : Int32) (x2_7 : Int32) (x3_7 : Int32) (this_bits_7 : Nat → Int32) (this_errors_7 : Nat → Int32) (this_number_7 : Nat → Int32) (this_sizes_7 : Nat → Int32) (H : Heap) (locs : List Loc), va_P (gD G) vwCl (k_X12_sheet G a_this a_this_s a_this_kept a_this_errors a_this_step a_this_named a_this_pile a_this_told a_this_beside1 a_this_row a_this_best a_this_worthOf a_this_trace a_this_bits a_this_sizes a_this_number a_this_aside this_images this_at this_open this_steps this_use this_bestNet this_bestMore this_leastApart this_found this_first this_leastPaid this_traced this_speaks this_isParted this_bits_7 this_errors_7 this_number_7 this_sizes_7) H → va_D A (k_X12_sheet G a_this a_this_s a_this_kept a_this_errors a_this_step a_this_named a_this_pile a_this_told a_this_beside1 a_this_row a_this_best a_this_worthOf a_this_trace a_this_bits a_this_sizes a_this_number a_this_aside this_images this_at this_open this_steps this_use this_bestNet this_bestMore this_leastApart this_found this_first this_leastPaid this_traced this_speaks this_isParted this_bits_7 this_errors_7 this_number_7 this_sizes_7) → va_S A s.heap H locs → ∀ (ls : Array Slot), lv_has ls 5 [(0, .ref a_this), (1, .int x1_7), (2, .int x2_7), (3, .int x3_7)] → f_X12_sheet_j49 N x1_7 x2_7 x3_7 this_bits_7 this_errors_7 this_number_7 this_sizes_7 = some out → W p l e (kR 2 0 0 42) s m args below meth c H locs 0 0 Q (F0 m 49 ls []) := by
    intro x1_7 x2_7 x3_7 this_bits_7 this_errors_7 this_number_7 this_sizes_7 H locs hP hD hS ls hl hf
    rw [f_X12_sheet_j49] at hf
    refine lv_iload_n hx hb dX12_sheet_49 rfl (lv_at hl 2 rfl) ?_
    refine lv_if_eq (tgt := 65) hx hb dX12_sheet_50 (by decide) (fun c8 => ?_) (fun c8 => ?_)
    · replace hf := kt c8 hf
      refine lv_aload_n hx hb dX12_sheet_65 rfl (lv_at hl 0 rfl) ?_
      refine va_get (D := gD G) (ci := 12) (C := RX12) (T := TX12) (N := 30) hx hb hts hin_X12 hown hK hP 0 rfl rfl 26 (by decide) fl_46 (fun _ h9 => h9) rfl dX12_sheet_66 ?_
      refine lv_iload_n hx hb dX12_sheet_69 rfl (lv_at hl 1 rfl) ?_
      refine lv_iload_n hx hb dX12_sheet_70 rfl (lv_at hl 2 rfl) ?_
      obtain ⟨g9, hf⟩ := kg hf
      refine va_iast hx hb hK hP hD hS 1 0 rfl rfl (vin_of g9) dX12_sheet_71 (fun H locs hP hD hS => ?_)
      have hP : va_P (gD G) vwCl (k_X12_sheet G a_this a_this_s a_this_kept a_this_errors a_this_step a_this_named a_this_pile a_this_told a_this_beside1 a_this_row a_this_best a_this_worthOf a_this_trace a_this_bits a_this_sizes a_this_number a_this_aside this_images this_at this_open this_steps this_use this_bestNet this_bestMore this_leastApart this_found this_first this_leastPaid this_traced this_speaks this_isParted (upd this_bits_7 x1_7.toNatClampNeg x2_7) this_errors_7 this_number_7 this_sizes_7) H := hP
      have hD : va_D A (k_X12_sheet G a_this a_this_s a_this_kept a_this_errors a_this_step a_this_named a_this_pile a_this_told a_this_beside1 a_this_row a_this_best a_this_worthOf a_this_trace a_this_bits a_this_sizes a_this_number a_this_aside this_images this_at this_open this_steps this_use this_bestNet this_bestMore this_leastApart this_found this_first this_leastPaid this_traced this_speaks this_isParted (upd this_bits_7 x1_7.toNatClampNeg x2_7) this_errors_7 this_number_7 this_sizes_7) := hD
      refine lv_aload_n hx hb dX12_sheet_72 rfl (lv_at hl 0 rfl) ?_
      refine va_get (D := gD G) (ci := 12) (C := RX12) (T := TX12) (N := 30) hx hb hts hin_X12 hown hK hP 0 rfl rfl 27 (by decide) fl_49 (fun _ h9 => h9) rfl dX12_sheet_73 ?_
      refine lv_iload_n hx hb dX12_sheet_76 rfl (lv_at hl 1 rfl) ?_
      refine lv_iload_n hx hb dX12_sheet_77 rfl (lv_at hl 2 rfl) ?_
      refine lv_if_ne (tgt := 85) hx hb dX12_sheet_78 (by decide) (fun c10 => ?_) (fun c10 => ?_)
      · replace hf := kf c10 hf
        refine lv_iload_n hx hb dX12_sheet_85 rfl (lv_at hl 3 rfl) ?_
        exact J86 x1_7 x2_7 x3_7 x1_7 x3_7 (upd this_bits_7 x1_7.toNatClampNeg x2_7) this_errors_7 this_number_7 this_sizes_7 _ _ hP hD hS ls (lv_sub hl [0, 1, 2, 3] rfl) hf
      · replace hf := kt c10 hf
        refine lv_iconst (v := (0 : Int32)) hx hb dX12_sheet_81 (by decide) ?_
        refine lv_goto (tgt := 86) hx hb dX12_sheet_82 (by decide) ?_
        exact J86 x1_7 x2_7 x3_7 x1_7 (0 : Int32) (upd this_bits_7 x1_7.toNatClampNeg x2_7) this_errors_7 this_number_7 this_sizes_7 _ _ hP hD hS ls (lv_sub hl [0, 1, 2, 3] rfl) hf
    · replace hf := kf c8 hf
      refine lv_iload_n hx hb dX12_sheet_53 rfl (lv_at hl 3 rfl) ?_
      refine lv_bipush (v := (24 : Int32)) hx hb dX12_sheet_54 (by decide) ?_
      refine lv_icmp_le (tgt := 65) hx hb dX12_sheet_56 (by decide) (fun c11 => ?_) (fun c11 => ?_)
      · replace hf := kt c11 hf
        refine lv_aload_n hx hb dX12_sheet_65 rfl (lv_at hl 0 rfl) ?_
        refine va_get (D := gD G) (ci := 12) (C := RX12) (T := TX12) (N := 30) hx hb hts hin_X12 hown hK hP 0 rfl rfl 26 (by decide) fl_46 (fun _ h9 => h9) rfl dX12_sheet_66 ?_
        refine lv_iload_n hx hb dX12_sheet_69 rfl (lv_at hl 1 rfl) ?_
        refine lv_iload_n hx hb dX12_sheet_70 rfl (lv_at hl 2 rfl) ?_
        obtain ⟨g12, hf⟩ := kg hf
        refine va_iast hx hb hK hP hD hS 1 0 rfl rfl (vin_of g12) dX12_sheet_71 (fun H locs hP hD hS => ?_)
        have hP : va_P (gD G) vwCl (k_X12_sheet G a_this a_this_s a_this_kept a_this_errors a_this_step a_this_named a_this_pile a_this_told a_this_beside1 a_this_row a_this_best a_this_worthOf a_this_trace a_this_bits a_this_sizes a_this_number a_this_aside this_images this_at this_open this_steps this_use this_bestNet this_bestMore this_leastApart this_found this_first this_leastPaid this_traced this_speaks this_isParted (upd this_bits_7 x1_7.toNatClampNeg x2_7) this_errors_7 this_number_7 this_sizes_7) H := hP
        have hD : va_D A (k_X12_sheet G a_this a_this_s a_this_kept a_this_errors a_this_step a_this_named a_this_pile a_this_told a_this_beside1 a_this_row a_this_best a_this_worthOf a_this_trace a_this_bits a_this_sizes a_this_number a_this_aside this_images this_at this_open this_steps this_use this_bestNet this_bestMore this_leastApart this_found this_first this_leastPaid this_traced this_speaks this_isParted (upd this_bits_7 x1_7.toNatClampNeg x2_7) this_errors_7 this_number_7 this_sizes_7) := hD
        refine lv_aload_n hx hb dX12_sheet_72 rfl (lv_at hl 0 rfl) ?_
        refine va_get (D := gD G) (ci := 12) (C := RX12) (T := TX12) (N := 30) hx hb hts hin_X12 hown hK hP 0 rfl rfl 27 (by decide) fl_49 (fun _ h9 => h9) rfl dX12_sheet_73 ?_
        refine lv_iload_n hx hb dX12_sheet_76 rfl (lv_at hl 1 rfl) ?_
        refine lv_iload_n hx hb dX12_sheet_77 rfl (lv_at hl 2 rfl) ?_
        refine lv_if_ne (tgt := 85) hx hb dX12_sheet_78 (by decide) (fun c13 => ?_) (fun c13 => ?_)
        · replace hf := kf c13 hf
          refine lv_iload_n hx hb dX12_sheet_85 rfl (lv_at hl 3 rfl) ?_
          exact J86 x1_7 x2_7 x3_7 x1_7 x3_7 (upd this_bits_7 x1_7.toNatClampNeg x2_7) this_errors_7 this_number_7 this_sizes_7 _ _ hP hD hS ls (lv_sub hl [0, 1, 2, 3] rfl) hf
        · replace hf := kt c13 hf
          refine lv_iconst (v := (0 : Int32)) hx hb dX12_sheet_81 (by decide) ?_
          refine lv_goto (tgt := 86) hx hb dX12_sheet_82 (by decide) ?_
          exact J86 x1_7 x2_7 x3_7 x1_7 (0 : Int32) (upd this_bits_7 x1_7.toNatClampNeg x2_7) this_errors_7 this_number_7 this_sizes_7 _ _ hP hD hS ls (lv_sub hl [0, 1, 2, 3] rfl) hf
      · replace hf := kf c11 hf
        refine lv_aload_n hx hb dX12_sheet_59 rfl (lv_at hl 0 rfl) ?_
        refine lv_iconst (v := (1 : Int32)) hx hb dX12_sheet_60 (by decide) ?_
        obtain ⟨r14, hr14, hf⟩ := kb hf
        refine kV (As := [.int (1 : Int32)]) (rest := []) ⟨hx, hb, hml, hown, hts⟩ (c_X12_error l G N a_this a_this_s a_this_kept a_this_errors a_this_step a_this_named a_this_pile a_this_told a_this_beside1 a_this_row a_this_best a_this_worthOf a_this_trace a_this_bits a_this_sizes a_this_number a_this_aside (1 : Int32) this_images this_at this_open this_steps this_use this_bestNet this_bestMore this_leastApart this_found this_first this_leastPaid this_traced this_speaks this_isParted this_errors_7 r14 hr14) (kcV 1 hts tw_1087 tw_92 tw_1084 tw_1086 tw_43 hd_X12_error ⟨Nat.le_of_ble_eq_true rfl, Nat.le_of_ble_eq_true rfl⟩) dX12_sheet_61 hl.1 hK hAm hA hP hD hS 0 (ci := 12) rfl rfl rfl [0, 2] rfl rfl rfl [1] rfl rfl rfl (Nat.le_of_ble_eq_true rfl) ⟨Nat.le_refl _, Nat.le_refl _⟩ (fun H locs hP hD hS => ?_)
        have hP : va_P (gD G) vwCl (k_X12_sheet G a_this a_this_s a_this_kept a_this_errors a_this_step a_this_named a_this_pile a_this_told a_this_beside1 a_this_row a_this_best a_this_worthOf a_this_trace a_this_bits a_this_sizes a_this_number a_this_aside this_images this_at this_open this_steps this_use this_bestNet this_bestMore this_leastApart this_found this_first this_leastPaid this_traced this_speaks this_isParted this_bits_7 r14.2 this_number_7 this_sizes_7) H := hP
        have hD : va_D A (k_X12_sheet G a_this a_this_s a_this_kept a_this_errors a_this_step a_this_named a_this_pile a_this_told a_this_beside1 a_this_row a_this_best a_this_worthOf a_this_trace a_this_bits a_this_sizes a_this_number a_this_aside this_images this_at this_open this_steps this_use this_bestNet this_bestMore this_leastApart this_found this_first this_leastPaid this_traced this_speaks this_isParted this_bits_7 r14.2 this_number_7 this_sizes_7) := hD
        have ho := ks hf
        subst ho
        exact kiret hx hb hr hlk hP hD hS hQ dX12_sheet_64
  refine lv_iload_n hx hb dX12_sheet_0 rfl (lv_at hl 1 rfl) ?_
  obtain ⟨r15, hr15, hf⟩ := kb hf
  refine kS (As := [.int p0]) (rest := []) ⟨hx, hb, hml, hown, hts⟩ (c_X12_isSheet l G N p0 r15 hr15) (kcS 1 hts tw_1226 tw_92 tw_1224 tw_1225 hd_X12_isSheet ⟨Nat.le_of_ble_eq_true rfl, Nat.le_of_ble_eq_true rfl⟩) dX12_sheet_1 hl.1 hK hAm hA hP hD hS [] rfl rfl rfl [] rfl rfl rfl (Nat.le_of_ble_eq_true rfl) ⟨Nat.le_refl _, Nat.le_refl _⟩ (fun H locs hP hD hS => ?_)
  have hP : va_P (gD G) vwCl (k_X12_sheet G a_this a_this_s a_this_kept a_this_errors a_this_step a_this_named a_this_pile a_this_told a_this_beside1 a_this_row a_this_best a_this_worthOf a_this_trace a_this_bits a_this_sizes a_this_number a_this_aside this_images this_at this_open this_steps this_use this_bestNet this_bestMore this_leastApart this_found this_first this_leastPaid this_traced this_speaks this_isParted this_bits this_errors this_number this_sizes) H := hP
  have hD : va_D A (k_X12_sheet G a_this a_this_s a_this_kept a_this_errors a_this_step a_this_named a_this_pile a_this_told a_this_beside1 a_this_row a_this_best a_this_worthOf a_this_trace a_this_bits a_this_sizes a_this_number a_this_aside this_images this_at this_open this_steps this_use this_bestNet this_bestMore this_leastApart this_found this_first this_leastPaid this_traced this_speaks this_isParted this_bits this_errors this_number this_sizes) := hD
  refine lv_if_eq (tgt := 29) hx hb dX12_sheet_4 (by decide) (fun c16 => ?_) (fun c16 => ?_)
  · replace hf := kt c16 hf
    refine lv_aload_n hx hb dX12_sheet_29 rfl (lv_at hl 0 rfl) ?_
    refine lv_iconst (v := (1 : Int32)) hx hb dX12_sheet_30 (by decide) ?_
    obtain ⟨r17, hr17, hf⟩ := kb hf
    refine kV (As := [.int (1 : Int32)]) (rest := []) ⟨hx, hb, hml, hown, hts⟩ (c_X12_error l G N a_this a_this_s a_this_kept a_this_errors a_this_step a_this_named a_this_pile a_this_told a_this_beside1 a_this_row a_this_best a_this_worthOf a_this_trace a_this_bits a_this_sizes a_this_number a_this_aside (1 : Int32) this_images this_at this_open this_steps this_use this_bestNet this_bestMore this_leastApart this_found this_first this_leastPaid this_traced this_speaks this_isParted this_errors r17 hr17) (kcV 1 hts tw_1087 tw_92 tw_1084 tw_1086 tw_43 hd_X12_error ⟨Nat.le_of_ble_eq_true rfl, Nat.le_of_ble_eq_true rfl⟩) dX12_sheet_31 hl.1 hK hAm hA hP hD hS 0 (ci := 12) rfl rfl rfl [0, 2] rfl rfl rfl [1] rfl rfl rfl (Nat.le_of_ble_eq_true rfl) ⟨Nat.le_refl _, Nat.le_refl _⟩ (fun H locs hP hD hS => ?_)
    have hP : va_P (gD G) vwCl (k_X12_sheet G a_this a_this_s a_this_kept a_this_errors a_this_step a_this_named a_this_pile a_this_told a_this_beside1 a_this_row a_this_best a_this_worthOf a_this_trace a_this_bits a_this_sizes a_this_number a_this_aside this_images this_at this_open this_steps this_use this_bestNet this_bestMore this_leastApart this_found this_first this_leastPaid this_traced this_speaks this_isParted this_bits r17.2 this_number this_sizes) H := hP
    have hD : va_D A (k_X12_sheet G a_this a_this_s a_this_kept a_this_errors a_this_step a_this_named a_this_pile a_this_told a_this_beside1 a_this_row a_this_best a_this_worthOf a_this_trace a_this_bits a_this_sizes a_this_number a_this_aside this_images this_at this_open this_steps this_use this_bestNet this_bestMore this_leastApart this_found this_first this_leastPaid this_traced this_speaks this_isParted this_bits r17.2 this_number this_sizes) := hD
    have ho := ks hf
    subst ho
    exact kiret hx hb hr hlk hP hD hS hQ dX12_sheet_34
  · replace hf := kf c16 hf
    refine lv_iload_n hx hb dX12_sheet_7 rfl (lv_at hl 2 rfl) ?_
    refine lv_if_eq (tgt := 35) hx hb dX12_sheet_8 (by decide) (fun c18 => ?_) (fun c18 => ?_)
    · replace hf := kt c18 hf
      refine lv_iload_n hx hb dX12_sheet_35 rfl (lv_at hl 2 rfl) ?_
      refine lv_if_eq (tgt := 49) hx hb dX12_sheet_36 (by decide) (fun c19 => ?_) (fun c19 => ?_)
      · replace hf := kt c19 hf
        exact J49 p0 p1 p2 this_bits this_errors this_number this_sizes _ _ hP hD hS ls (lv_sub hl [0, 1, 2, 3] rfl) hf
      · replace hf := kf c19 hf
        refine lv_iload_n hx hb dX12_sheet_39 rfl (lv_at hl 3 rfl) ?_
        refine lv_if_ge (tgt := 49) hx hb dX12_sheet_40 (by decide) (fun c20 => ?_) (fun c20 => ?_)
        · replace hf := kt c20 hf
          exact J49 p0 p1 p2 this_bits this_errors this_number this_sizes _ _ hP hD hS ls (lv_sub hl [0, 1, 2, 3] rfl) hf
        · replace hf := kf c20 hf
          refine lv_aload_n hx hb dX12_sheet_43 rfl (lv_at hl 0 rfl) ?_
          refine lv_iconst (v := (3 : Int32)) hx hb dX12_sheet_44 (by decide) ?_
          obtain ⟨r21, hr21, hf⟩ := kb hf
          refine kV (As := [.int (3 : Int32)]) (rest := []) ⟨hx, hb, hml, hown, hts⟩ (c_X12_error l G N a_this a_this_s a_this_kept a_this_errors a_this_step a_this_named a_this_pile a_this_told a_this_beside1 a_this_row a_this_best a_this_worthOf a_this_trace a_this_bits a_this_sizes a_this_number a_this_aside (3 : Int32) this_images this_at this_open this_steps this_use this_bestNet this_bestMore this_leastApart this_found this_first this_leastPaid this_traced this_speaks this_isParted this_errors r21 hr21) (kcV 1 hts tw_1087 tw_92 tw_1084 tw_1086 tw_43 hd_X12_error ⟨Nat.le_of_ble_eq_true rfl, Nat.le_of_ble_eq_true rfl⟩) dX12_sheet_45 hl.1 hK hAm hA hP hD hS 0 (ci := 12) rfl rfl rfl [0, 2] rfl rfl rfl [1] rfl rfl rfl (Nat.le_of_ble_eq_true rfl) ⟨Nat.le_refl _, Nat.le_refl _⟩ (fun H locs hP hD hS => ?_)
          have hP : va_P (gD G) vwCl (k_X12_sheet G a_this a_this_s a_this_kept a_this_errors a_this_step a_this_named a_this_pile a_this_told a_this_beside1 a_this_row a_this_best a_this_worthOf a_this_trace a_this_bits a_this_sizes a_this_number a_this_aside this_images this_at this_open this_steps this_use this_bestNet this_bestMore this_leastApart this_found this_first this_leastPaid this_traced this_speaks this_isParted this_bits r21.2 this_number this_sizes) H := hP
          have hD : va_D A (k_X12_sheet G a_this a_this_s a_this_kept a_this_errors a_this_step a_this_named a_this_pile a_this_told a_this_beside1 a_this_row a_this_best a_this_worthOf a_this_trace a_this_bits a_this_sizes a_this_number a_this_aside this_images this_at this_open this_steps this_use this_bestNet this_bestMore this_leastApart this_found this_first this_leastPaid this_traced this_speaks this_isParted this_bits r21.2 this_number this_sizes) := hD
          have ho := ks hf
          subst ho
          exact kiret hx hb hr hlk hP hD hS hQ dX12_sheet_48
    · replace hf := kf c18 hf
      refine lv_iload_n hx hb dX12_sheet_11 rfl (lv_at hl 2 rfl) ?_
      refine lv_bipush (v := (8 : Int32)) hx hb dX12_sheet_12 (by decide) ?_
      refine lv_icmp_eq (tgt := 35) hx hb dX12_sheet_14 (by decide) (fun c22 => ?_) (fun c22 => ?_)
      · replace hf := kt c22 hf
        refine lv_iload_n hx hb dX12_sheet_35 rfl (lv_at hl 2 rfl) ?_
        refine lv_if_eq (tgt := 49) hx hb dX12_sheet_36 (by decide) (fun c23 => ?_) (fun c23 => ?_)
        · replace hf := kt c23 hf
          exact J49 p0 p1 p2 this_bits this_errors this_number this_sizes _ _ hP hD hS ls (lv_sub hl [0, 1, 2, 3] rfl) hf
        · replace hf := kf c23 hf
          refine lv_iload_n hx hb dX12_sheet_39 rfl (lv_at hl 3 rfl) ?_
          refine lv_if_ge (tgt := 49) hx hb dX12_sheet_40 (by decide) (fun c24 => ?_) (fun c24 => ?_)
          · replace hf := kt c24 hf
            exact J49 p0 p1 p2 this_bits this_errors this_number this_sizes _ _ hP hD hS ls (lv_sub hl [0, 1, 2, 3] rfl) hf
          · replace hf := kf c24 hf
            refine lv_aload_n hx hb dX12_sheet_43 rfl (lv_at hl 0 rfl) ?_
            refine lv_iconst (v := (3 : Int32)) hx hb dX12_sheet_44 (by decide) ?_
            obtain ⟨r25, hr25, hf⟩ := kb hf
            refine kV (As := [.int (3 : Int32)]) (rest := []) ⟨hx, hb, hml, hown, hts⟩ (c_X12_error l G N a_this a_this_s a_this_kept a_this_errors a_this_step a_this_named a_this_pile a_this_told a_this_beside1 a_this_row a_this_best a_this_worthOf a_this_trace a_this_bits a_this_sizes a_this_number a_this_aside (3 : Int32) this_images this_at this_open this_steps this_use this_bestNet this_bestMore this_leastApart this_found this_first this_leastPaid this_traced this_speaks this_isParted this_errors r25 hr25) (kcV 1 hts tw_1087 tw_92 tw_1084 tw_1086 tw_43 hd_X12_error ⟨Nat.le_of_ble_eq_true rfl, Nat.le_of_ble_eq_true rfl⟩) dX12_sheet_45 hl.1 hK hAm hA hP hD hS 0 (ci := 12) rfl rfl rfl [0, 2] rfl rfl rfl [1] rfl rfl rfl (Nat.le_of_ble_eq_true rfl) ⟨Nat.le_refl _, Nat.le_refl _⟩ (fun H locs hP hD hS => ?_)
            have hP : va_P (gD G) vwCl (k_X12_sheet G a_this a_this_s a_this_kept a_this_errors a_this_step a_this_named a_this_pile a_this_told a_this_beside1 a_this_row a_this_best a_this_worthOf a_this_trace a_this_bits a_this_sizes a_this_number a_this_aside this_images this_at this_open this_steps this_use this_bestNet this_bestMore this_leastApart this_found this_first this_leastPaid this_traced this_speaks this_isParted this_bits r25.2 this_number this_sizes) H := hP
            have hD : va_D A (k_X12_sheet G a_this a_this_s a_this_kept a_this_errors a_this_step a_this_named a_this_pile a_this_told a_this_beside1 a_this_row a_this_best a_this_worthOf a_this_trace a_this_bits a_this_sizes a_this_number a_this_aside this_images this_at this_open this_steps this_use this_bestNet this_bestMore this_leastApart this_found this_first this_leastPaid this_traced this_speaks this_isParted this_bits r25.2 this_number this_sizes) := hD
            have ho := ks hf
            subst ho
            exact kiret hx hb hr hlk hP hD hS hQ dX12_sheet_48
      · replace hf := kf c22 hf
        refine lv_iload_n hx hb dX12_sheet_17 rfl (lv_at hl 2 rfl) ?_
        refine lv_bipush (v := (16 : Int32)) hx hb dX12_sheet_18 (by decide) ?_
        refine lv_icmp_eq (tgt := 35) hx hb dX12_sheet_20 (by decide) (fun c26 => ?_) (fun c26 => ?_)
        · replace hf := kt c26 hf
          refine lv_iload_n hx hb dX12_sheet_35 rfl (lv_at hl 2 rfl) ?_
          refine lv_if_eq (tgt := 49) hx hb dX12_sheet_36 (by decide) (fun c27 => ?_) (fun c27 => ?_)
          · replace hf := kt c27 hf
            exact J49 p0 p1 p2 this_bits this_errors this_number this_sizes _ _ hP hD hS ls (lv_sub hl [0, 1, 2, 3] rfl) hf
          · replace hf := kf c27 hf
            refine lv_iload_n hx hb dX12_sheet_39 rfl (lv_at hl 3 rfl) ?_
            refine lv_if_ge (tgt := 49) hx hb dX12_sheet_40 (by decide) (fun c28 => ?_) (fun c28 => ?_)
            · replace hf := kt c28 hf
              exact J49 p0 p1 p2 this_bits this_errors this_number this_sizes _ _ hP hD hS ls (lv_sub hl [0, 1, 2, 3] rfl) hf
            · replace hf := kf c28 hf
              refine lv_aload_n hx hb dX12_sheet_43 rfl (lv_at hl 0 rfl) ?_
              refine lv_iconst (v := (3 : Int32)) hx hb dX12_sheet_44 (by decide) ?_
              obtain ⟨r29, hr29, hf⟩ := kb hf
              refine kV (As := [.int (3 : Int32)]) (rest := []) ⟨hx, hb, hml, hown, hts⟩ (c_X12_error l G N a_this a_this_s a_this_kept a_this_errors a_this_step a_this_named a_this_pile a_this_told a_this_beside1 a_this_row a_this_best a_this_worthOf a_this_trace a_this_bits a_this_sizes a_this_number a_this_aside (3 : Int32) this_images this_at this_open this_steps this_use this_bestNet this_bestMore this_leastApart this_found this_first this_leastPaid this_traced this_speaks this_isParted this_errors r29 hr29) (kcV 1 hts tw_1087 tw_92 tw_1084 tw_1086 tw_43 hd_X12_error ⟨Nat.le_of_ble_eq_true rfl, Nat.le_of_ble_eq_true rfl⟩) dX12_sheet_45 hl.1 hK hAm hA hP hD hS 0 (ci := 12) rfl rfl rfl [0, 2] rfl rfl rfl [1] rfl rfl rfl (Nat.le_of_ble_eq_true rfl) ⟨Nat.le_refl _, Nat.le_refl _⟩ (fun H locs hP hD hS => ?_)
              have hP : va_P (gD G) vwCl (k_X12_sheet G a_this a_this_s a_this_kept a_this_errors a_this_step a_this_named a_this_pile a_this_told a_this_beside1 a_this_row a_this_best a_this_worthOf a_this_trace a_this_bits a_this_sizes a_this_number a_this_aside this_images this_at this_open this_steps this_use this_bestNet this_bestMore this_leastApart this_found this_first this_leastPaid this_traced this_speaks this_isParted this_bits r29.2 this_number this_sizes) H := hP
              have hD : va_D A (k_X12_sheet G a_this a_this_s a_this_kept a_this_errors a_this_step a_this_named a_this_pile a_this_told a_this_beside1 a_this_row a_this_best a_this_worthOf a_this_trace a_this_bits a_this_sizes a_this_number a_this_aside this_images this_at this_open this_steps this_use this_bestNet this_bestMore this_leastApart this_found this_first this_leastPaid this_traced this_speaks this_isParted this_bits r29.2 this_number this_sizes) := hD
              have ho := ks hf
              subst ho
              exact kiret hx hb hr hlk hP hD hS hQ dX12_sheet_48
        · replace hf := kf c26 hf
          refine lv_iload_n hx hb dX12_sheet_23 rfl (lv_at hl 2 rfl) ?_
          refine lv_bipush (v := (32 : Int32)) hx hb dX12_sheet_24 (by decide) ?_
          refine lv_icmp_eq (tgt := 35) hx hb dX12_sheet_26 (by decide) (fun c30 => ?_) (fun c30 => ?_)
          · replace hf := kt c30 hf
            refine lv_iload_n hx hb dX12_sheet_35 rfl (lv_at hl 2 rfl) ?_
            refine lv_if_eq (tgt := 49) hx hb dX12_sheet_36 (by decide) (fun c31 => ?_) (fun c31 => ?_)
            · replace hf := kt c31 hf
              exact J49 p0 p1 p2 this_bits this_errors this_number this_sizes _ _ hP hD hS ls (lv_sub hl [0, 1, 2, 3] rfl) hf
            · replace hf := kf c31 hf
              refine lv_iload_n hx hb dX12_sheet_39 rfl (lv_at hl 3 rfl) ?_
              refine lv_if_ge (tgt := 49) hx hb dX12_sheet_40 (by decide) (fun c32 => ?_) (fun c32 => ?_)
              · replace hf := kt c32 hf
                exact J49 p0 p1 p2 this_bits this_errors this_number this_sizes _ _ hP hD hS ls (lv_sub hl [0, 1, 2, 3] rfl) hf
              · replace hf := kf c32 hf
                refine lv_aload_n hx hb dX12_sheet_43 rfl (lv_at hl 0 rfl) ?_
                refine lv_iconst (v := (3 : Int32)) hx hb dX12_sheet_44 (by decide) ?_
                obtain ⟨r33, hr33, hf⟩ := kb hf
                refine kV (As := [.int (3 : Int32)]) (rest := []) ⟨hx, hb, hml, hown, hts⟩ (c_X12_error l G N a_this a_this_s a_this_kept a_this_errors a_this_step a_this_named a_this_pile a_this_told a_this_beside1 a_this_row a_this_best a_this_worthOf a_this_trace a_this_bits a_this_sizes a_this_number a_this_aside (3 : Int32) this_images this_at this_open this_steps this_use this_bestNet this_bestMore this_leastApart this_found this_first this_leastPaid this_traced this_speaks this_isParted this_errors r33 hr33) (kcV 1 hts tw_1087 tw_92 tw_1084 tw_1086 tw_43 hd_X12_error ⟨Nat.le_of_ble_eq_true rfl, Nat.le_of_ble_eq_true rfl⟩) dX12_sheet_45 hl.1 hK hAm hA hP hD hS 0 (ci := 12) rfl rfl rfl [0, 2] rfl rfl rfl [1] rfl rfl rfl (Nat.le_of_ble_eq_true rfl) ⟨Nat.le_refl _, Nat.le_refl _⟩ (fun H locs hP hD hS => ?_)
                have hP : va_P (gD G) vwCl (k_X12_sheet G a_this a_this_s a_this_kept a_this_errors a_this_step a_this_named a_this_pile a_this_told a_this_beside1 a_this_row a_this_best a_this_worthOf a_this_trace a_this_bits a_this_sizes a_this_number a_this_aside this_images this_at this_open this_steps this_use this_bestNet this_bestMore this_leastApart this_found this_first this_leastPaid this_traced this_speaks this_isParted this_bits r33.2 this_number this_sizes) H := hP
                have hD : va_D A (k_X12_sheet G a_this a_this_s a_this_kept a_this_errors a_this_step a_this_named a_this_pile a_this_told a_this_beside1 a_this_row a_this_best a_this_worthOf a_this_trace a_this_bits a_this_sizes a_this_number a_this_aside this_images this_at this_open this_steps this_use this_bestNet this_bestMore this_leastApart this_found this_first this_leastPaid this_traced this_speaks this_isParted this_bits r33.2 this_number this_sizes) := hD
                have ho := ks hf
                subst ho
                exact kiret hx hb hr hlk hP hD hS hQ dX12_sheet_48
          · replace hf := kf c30 hf
            refine lv_aload_n hx hb dX12_sheet_29 rfl (lv_at hl 0 rfl) ?_
            refine lv_iconst (v := (1 : Int32)) hx hb dX12_sheet_30 (by decide) ?_
            obtain ⟨r34, hr34, hf⟩ := kb hf
            refine kV (As := [.int (1 : Int32)]) (rest := []) ⟨hx, hb, hml, hown, hts⟩ (c_X12_error l G N a_this a_this_s a_this_kept a_this_errors a_this_step a_this_named a_this_pile a_this_told a_this_beside1 a_this_row a_this_best a_this_worthOf a_this_trace a_this_bits a_this_sizes a_this_number a_this_aside (1 : Int32) this_images this_at this_open this_steps this_use this_bestNet this_bestMore this_leastApart this_found this_first this_leastPaid this_traced this_speaks this_isParted this_errors r34 hr34) (kcV 1 hts tw_1087 tw_92 tw_1084 tw_1086 tw_43 hd_X12_error ⟨Nat.le_of_ble_eq_true rfl, Nat.le_of_ble_eq_true rfl⟩) dX12_sheet_31 hl.1 hK hAm hA hP hD hS 0 (ci := 12) rfl rfl rfl [0, 2] rfl rfl rfl [1] rfl rfl rfl (Nat.le_of_ble_eq_true rfl) ⟨Nat.le_refl _, Nat.le_refl _⟩ (fun H locs hP hD hS => ?_)
            have hP : va_P (gD G) vwCl (k_X12_sheet G a_this a_this_s a_this_kept a_this_errors a_this_step a_this_named a_this_pile a_this_told a_this_beside1 a_this_row a_this_best a_this_worthOf a_this_trace a_this_bits a_this_sizes a_this_number a_this_aside this_images this_at this_open this_steps this_use this_bestNet this_bestMore this_leastApart this_found this_first this_leastPaid this_traced this_speaks this_isParted this_bits r34.2 this_number this_sizes) H := hP
            have hD : va_D A (k_X12_sheet G a_this a_this_s a_this_kept a_this_errors a_this_step a_this_named a_this_pile a_this_told a_this_beside1 a_this_row a_this_best a_this_worthOf a_this_trace a_this_bits a_this_sizes a_this_number a_this_aside this_images this_at this_open this_steps this_use this_bestNet this_bestMore this_leastApart this_found this_first this_leastPaid this_traced this_speaks this_isParted this_bits r34.2 this_number this_sizes) := hD
            have ho := ks hf
            subst ho
            exact kiret hx hb hr hlk hP hD hS hQ dX12_sheet_34
abbrev k_X12_put (G : KG) (a_this : Nat) (a_this_s : Nat) (a_this_kept : Nat) (a_this_errors : Nat) (a_this_step : Nat) (a_this_named : Nat) (a_this_pile : Nat) (a_this_told : Nat) (a_this_beside1 : Nat) (a_this_row : Nat) (a_this_best : Nat) (a_this_worthOf : Nat) (a_this_trace : Nat) (a_this_bits : Nat) (a_this_sizes : Nat) (a_this_number : Nat) (a_this_aside : Nat) (this_images : Int32) (this_at : Int32) (this_open : Int32) (this_steps : Int32) (this_use : Int32) (this_bestNet : Int32) (this_bestMore : Int32) (this_leastApart : Int32) (this_found : Int32) (this_first : Int32) (this_leastPaid : Int32) (this_traced : Int32) (this_speaks : Int32) (this_isParted : Int32) (this_bits : Nat → Int32) (this_errors : Nat → Int32) (this_number : Nat → Int32) (this_sizes : Nat → Int32) : va_W := [(a_this, .inr (12, [.ref a_this_s, .ref a_this_kept, .int this_images, .ref a_this_errors, .int this_at, .int this_open, .int this_steps, .int this_use, .ref a_this_step, .ref a_this_named, .ref a_this_pile, .ref a_this_told, .ref a_this_beside1, .ref a_this_row, .ref a_this_best, .int this_bestNet, .int this_bestMore, .ref a_this_worthOf, .int this_leastApart, .int this_found, .int this_first, .int this_leastPaid, .ref a_this_trace, .int this_traced, .int this_speaks, .int this_isParted, .ref a_this_bits, .ref a_this_sizes, .ref a_this_number, .ref a_this_aside])), (a_this_bits, .inl (gI G, 4, .inl this_bits)), (a_this_errors, .inl (gI G, 7, .inl this_errors)), (a_this_number, .inl (gI G, 96, .inl this_number)), (a_this_sizes, .inl (gI G, 4, .inl this_sizes))]
def f_X12_put (N : Nat) (p0 : Int32) (p1 : Int32) (p2 : Int32) (this_bits : Nat → Int32) (this_errors : Nat → Int32) (this_number : Nat → Int32) (this_sizes : Nat → Int32) : Option (Int32 × (Nat → Int32) × (Nat → Int32)) := ((f_X12_isSheet N p0).bind fun r1 => (if r1 = 0 then ((f_X12_error N (1 : Int32) this_errors).bind fun r12 => (some (r12.1, r12.2, this_number))) else (if vin p0 4 = true then (if (this_bits p0.toNatClampNeg) = 0 then ((f_X12_error N (2 : Int32) this_errors).bind fun r11 => (some (r11.1, r11.2, this_number))) else (if vin p0 4 = true then ((f_X12_in N p1 (0 : Int32) ((this_sizes p0.toNatClampNeg) - (1 : Int32))).bind fun r6 => (if r6 = 0 then ((f_X12_error N (1 : Int32) this_errors).bind fun r10 => (some (r10.1, r10.2, this_number))) else (if vin p0 4 = true then (if vin (((24 : Int32) * p0) + p1) 96 = true then (some ((1 : Int32), this_errors, (upd this_number (((24 : Int32) * p0) + p1).toNatClampNeg ((p2 <<< (((32 : Int32) - (this_bits p0.toNatClampNeg)) &&& 31)) >>> (((32 : Int32) - (this_bits p0.toNatClampNeg)) &&& 31))))) else none) else none))) else none)) else none)))
set_option maxRecDepth 100000 in
set_option maxHeartbeats 4000000 in
theorem c_X12_put (l : Launch) (G : KG) (N : Nat) (a_this : Nat) (a_this_s : Nat) (a_this_kept : Nat) (a_this_errors : Nat) (a_this_step : Nat) (a_this_named : Nat) (a_this_pile : Nat) (a_this_told : Nat) (a_this_beside1 : Nat) (a_this_row : Nat) (a_this_best : Nat) (a_this_worthOf : Nat) (a_this_trace : Nat) (a_this_bits : Nat) (a_this_sizes : Nat) (a_this_number : Nat) (a_this_aside : Nat) (p0 : Int32) (p1 : Int32) (p2 : Int32) (this_images : Int32) (this_at : Int32) (this_open : Int32) (this_steps : Int32) (this_use : Int32) (this_bestNet : Int32) (this_bestMore : Int32) (this_leastApart : Int32) (this_found : Int32) (this_first : Int32) (this_leastPaid : Int32) (this_traced : Int32) (this_speaks : Int32) (this_isParted : Int32) (this_bits : Nat → Int32) (this_errors : Nat → Int32) (this_number : Nat → Int32) (this_sizes : Nat → Int32)  (out : Int32 × (Nat → Int32) × (Nat → Int32)) (hf : f_X12_put N p0 p1 p2 this_bits this_errors this_number this_sizes = some out) : KM l G yX12_put (kw yX12_put cX12_put 5 (some .int)) 2 42 [.ref a_this, .int p0, .int p1, .int p2] (k_X12_put G a_this a_this_s a_this_kept a_this_errors a_this_step a_this_named a_this_pile a_this_told a_this_beside1 a_this_row a_this_best a_this_worthOf a_this_trace a_this_bits a_this_sizes a_this_number a_this_aside this_images this_at this_open this_steps this_use this_bestNet this_bestMore this_leastApart this_found this_first this_leastPaid this_traced this_speaks this_isParted this_bits this_errors this_number this_sizes) (k_X12_put G a_this a_this_s a_this_kept a_this_errors a_this_step a_this_named a_this_pile a_this_told a_this_beside1 a_this_row a_this_best a_this_worthOf a_this_trace a_this_bits a_this_sizes a_this_number a_this_aside this_images this_at this_open this_steps this_use this_bestNet this_bestMore this_leastApart this_found this_first this_leastPaid this_traced this_speaks this_isParted this_bits (out.2.1) (out.2.2) this_sizes) (some (.int (out.1))) := by
  refine KM.of (by decide) (Nat.le_of_ble_eq_true rfl) ?_
  intro p e s m below meth c A ls args Q Fx0 hP hK hD hA hS hAm hQ hl
  obtain ⟨hx, hb, hr, hml, hts, hown, hlk, hnm⟩ := Fx0
  have hown : s.vm.findClass RX12 = some m.cls := hown
  have hl : lv_has ls 5 [(0, .ref a_this), (1, .int p0), (2, .int p1), (3, .int p2)] := hl
  have fl_46 := hts _ tw_1012
  have fl_49 := hts _ tw_1013
  have fl_52 := hts _ tw_1014
  unfold f_X12_put at hf
  refine lv_iload_n hx hb dX12_put_0 rfl (lv_at hl 1 rfl) ?_
  obtain ⟨r1, hr1, hf⟩ := kb hf
  refine kS (As := [.int p0]) (rest := []) ⟨hx, hb, hml, hown, hts⟩ (c_X12_isSheet l G N p0 r1 hr1) (kcS 1 hts tw_1226 tw_92 tw_1224 tw_1225 hd_X12_isSheet ⟨Nat.le_of_ble_eq_true rfl, Nat.le_of_ble_eq_true rfl⟩) dX12_put_1 hl.1 hK hAm hA hP hD hS [] rfl rfl rfl [] rfl rfl rfl (Nat.le_of_ble_eq_true rfl) ⟨Nat.le_refl _, Nat.le_refl _⟩ (fun H locs hP hD hS => ?_)
  have hP : va_P (gD G) vwCl (k_X12_put G a_this a_this_s a_this_kept a_this_errors a_this_step a_this_named a_this_pile a_this_told a_this_beside1 a_this_row a_this_best a_this_worthOf a_this_trace a_this_bits a_this_sizes a_this_number a_this_aside this_images this_at this_open this_steps this_use this_bestNet this_bestMore this_leastApart this_found this_first this_leastPaid this_traced this_speaks this_isParted this_bits this_errors this_number this_sizes) H := hP
  have hD : va_D A (k_X12_put G a_this a_this_s a_this_kept a_this_errors a_this_step a_this_named a_this_pile a_this_told a_this_beside1 a_this_row a_this_best a_this_worthOf a_this_trace a_this_bits a_this_sizes a_this_number a_this_aside this_images this_at this_open this_steps this_use this_bestNet this_bestMore this_leastApart this_found this_first this_leastPaid this_traced this_speaks this_isParted this_bits this_errors this_number this_sizes) := hD
  refine lv_if_ne (tgt := 13) hx hb dX12_put_4 (by decide) (fun c2 => ?_) (fun c2 => ?_)
  · replace hf := kf c2 hf
    refine lv_aload_n hx hb dX12_put_13 rfl (lv_at hl 0 rfl) ?_
    refine va_get (D := gD G) (ci := 12) (C := RX12) (T := TX12) (N := 30) hx hb hts hin_X12 hown hK hP 0 rfl rfl 26 (by decide) fl_46 (fun _ h9 => h9) rfl dX12_put_14 ?_
    refine lv_iload_n hx hb dX12_put_17 rfl (lv_at hl 1 rfl) ?_
    obtain ⟨g3, hf⟩ := kg hf
    refine va_iald hx hb hK hP 1 0 rfl rfl (vin_of g3) dX12_put_18 ?_
    refine lv_if_ne (tgt := 28) hx hb dX12_put_19 (by decide) (fun c4 => ?_) (fun c4 => ?_)
    · replace hf := kf c4 hf
      refine lv_iload_n hx hb dX12_put_28 rfl (lv_at hl 2 rfl) ?_
      refine lv_iconst (v := (0 : Int32)) hx hb dX12_put_29 (by decide) ?_
      refine lv_aload_n hx hb dX12_put_30 rfl (lv_at hl 0 rfl) ?_
      refine va_get (D := gD G) (ci := 12) (C := RX12) (T := TX12) (N := 30) hx hb hts hin_X12 hown hK hP 0 rfl rfl 27 (by decide) fl_49 (fun _ h9 => h9) rfl dX12_put_31 ?_
      refine lv_iload_n hx hb dX12_put_34 rfl (lv_at hl 1 rfl) ?_
      obtain ⟨g5, hf⟩ := kg hf
      refine va_iald hx hb hK hP 4 0 rfl rfl (vin_of g5) dX12_put_35 ?_
      refine lv_iconst (v := (1 : Int32)) hx hb dX12_put_36 (by decide) ?_
      refine lv_isub hx hb dX12_put_37 ?_
      obtain ⟨r6, hr6, hf⟩ := kb hf
      refine kS (As := [.int p1, .int (0 : Int32), .int ((this_sizes p0.toNatClampNeg) - (1 : Int32))]) (rest := []) ⟨hx, hb, hml, hown, hts⟩ (c_X12_in l G N p1 (0 : Int32) ((this_sizes p0.toNatClampNeg) - (1 : Int32)) r6 hr6) (kcS 3 hts tw_1083 tw_92 tw_1081 tw_1082 hd_X12_in ⟨Nat.le_of_ble_eq_true rfl, Nat.le_of_ble_eq_true rfl⟩) dX12_put_38 hl.1 hK hAm hA hP hD hS [] rfl rfl rfl [] rfl rfl rfl (Nat.le_of_ble_eq_true rfl) ⟨Nat.le_refl _, Nat.le_refl _⟩ (fun H locs hP hD hS => ?_)
      have hP : va_P (gD G) vwCl (k_X12_put G a_this a_this_s a_this_kept a_this_errors a_this_step a_this_named a_this_pile a_this_told a_this_beside1 a_this_row a_this_best a_this_worthOf a_this_trace a_this_bits a_this_sizes a_this_number a_this_aside this_images this_at this_open this_steps this_use this_bestNet this_bestMore this_leastApart this_found this_first this_leastPaid this_traced this_speaks this_isParted this_bits this_errors this_number this_sizes) H := hP
      have hD : va_D A (k_X12_put G a_this a_this_s a_this_kept a_this_errors a_this_step a_this_named a_this_pile a_this_told a_this_beside1 a_this_row a_this_best a_this_worthOf a_this_trace a_this_bits a_this_sizes a_this_number a_this_aside this_images this_at this_open this_steps this_use this_bestNet this_bestMore this_leastApart this_found this_first this_leastPaid this_traced this_speaks this_isParted this_bits this_errors this_number this_sizes) := hD
      refine lv_if_ne (tgt := 50) hx hb dX12_put_41 (by decide) (fun c7 => ?_) (fun c7 => ?_)
      · replace hf := kf c7 hf
        refine lv_bipush (v := (32 : Int32)) hx hb dX12_put_50 (by decide) ?_
        refine lv_aload_n hx hb dX12_put_52 rfl (lv_at hl 0 rfl) ?_
        refine va_get (D := gD G) (ci := 12) (C := RX12) (T := TX12) (N := 30) hx hb hts hin_X12 hown hK hP 0 rfl rfl 26 (by decide) fl_46 (fun _ h9 => h9) rfl dX12_put_53 ?_
        refine lv_iload_n hx hb dX12_put_56 rfl (lv_at hl 1 rfl) ?_
        obtain ⟨g8, hf⟩ := kg hf
        refine va_iald hx hb hK hP 1 0 rfl rfl (vin_of g8) dX12_put_57 ?_
        refine lv_isub hx hb dX12_put_58 ?_
        refine lv_istore (lv' := [(4, .int ((32 : Int32) - (this_bits p0.toNatClampNeg))), (0, .ref a_this), (1, .int p0), (2, .int p1), (3, .int p2)]) hx hb dX12_put_59 hl (by decide) rfl (fun ls hl => ?_)
        refine lv_aload_n hx hb dX12_put_61 rfl (lv_at hl 1 rfl) ?_
        refine va_get (D := gD G) (ci := 12) (C := RX12) (T := TX12) (N := 30) hx hb hts hin_X12 hown hK hP 0 rfl rfl 28 (by decide) fl_52 (fun _ h9 => h9) rfl dX12_put_62 ?_
        refine lv_bipush (v := (24 : Int32)) hx hb dX12_put_65 (by decide) ?_
        refine lv_iload_n hx hb dX12_put_67 rfl (lv_at hl 2 rfl) ?_
        refine lv_imul hx hb dX12_put_68 ?_
        refine lv_iload_n hx hb dX12_put_69 rfl (lv_at hl 3 rfl) ?_
        refine lv_iadd hx hb dX12_put_70 ?_
        refine lv_iload_n hx hb dX12_put_71 rfl (lv_at hl 4 rfl) ?_
        refine lv_iload hx hb dX12_put_72 (lv_at hl 0 rfl) ?_
        refine lv_ishl hx hb dX12_put_74 ?_
        refine lv_iload hx hb dX12_put_75 (lv_at hl 0 rfl) ?_
        refine lv_ishr hx hb dX12_put_77 ?_
        obtain ⟨g9, hf⟩ := kg hf
        refine va_iast hx hb hK hP hD hS 3 0 rfl rfl (vin_of g9) dX12_put_78 (fun H locs hP hD hS => ?_)
        have hP : va_P (gD G) vwCl (k_X12_put G a_this a_this_s a_this_kept a_this_errors a_this_step a_this_named a_this_pile a_this_told a_this_beside1 a_this_row a_this_best a_this_worthOf a_this_trace a_this_bits a_this_sizes a_this_number a_this_aside this_images this_at this_open this_steps this_use this_bestNet this_bestMore this_leastApart this_found this_first this_leastPaid this_traced this_speaks this_isParted this_bits this_errors (upd this_number (((24 : Int32) * p0) + p1).toNatClampNeg ((p2 <<< (((32 : Int32) - (this_bits p0.toNatClampNeg)) &&& 31)) >>> (((32 : Int32) - (this_bits p0.toNatClampNeg)) &&& 31))) this_sizes) H := hP
        have hD : va_D A (k_X12_put G a_this a_this_s a_this_kept a_this_errors a_this_step a_this_named a_this_pile a_this_told a_this_beside1 a_this_row a_this_best a_this_worthOf a_this_trace a_this_bits a_this_sizes a_this_number a_this_aside this_images this_at this_open this_steps this_use this_bestNet this_bestMore this_leastApart this_found this_first this_leastPaid this_traced this_speaks this_isParted this_bits this_errors (upd this_number (((24 : Int32) * p0) + p1).toNatClampNeg ((p2 <<< (((32 : Int32) - (this_bits p0.toNatClampNeg)) &&& 31)) >>> (((32 : Int32) - (this_bits p0.toNatClampNeg)) &&& 31))) this_sizes) := hD
        refine lv_iconst (v := (1 : Int32)) hx hb dX12_put_79 (by decide) ?_
        have ho := ks hf
        subst ho
        exact kiret hx hb hr hlk hP hD hS hQ dX12_put_80
      · replace hf := kt c7 hf
        refine lv_aload_n hx hb dX12_put_44 rfl (lv_at hl 0 rfl) ?_
        refine lv_iconst (v := (1 : Int32)) hx hb dX12_put_45 (by decide) ?_
        obtain ⟨r10, hr10, hf⟩ := kb hf
        refine kV (As := [.int (1 : Int32)]) (rest := []) ⟨hx, hb, hml, hown, hts⟩ (c_X12_error l G N a_this a_this_s a_this_kept a_this_errors a_this_step a_this_named a_this_pile a_this_told a_this_beside1 a_this_row a_this_best a_this_worthOf a_this_trace a_this_bits a_this_sizes a_this_number a_this_aside (1 : Int32) this_images this_at this_open this_steps this_use this_bestNet this_bestMore this_leastApart this_found this_first this_leastPaid this_traced this_speaks this_isParted this_errors r10 hr10) (kcV 1 hts tw_1087 tw_92 tw_1084 tw_1086 tw_43 hd_X12_error ⟨Nat.le_of_ble_eq_true rfl, Nat.le_of_ble_eq_true rfl⟩) dX12_put_46 hl.1 hK hAm hA hP hD hS 0 (ci := 12) rfl rfl rfl [0, 2] rfl rfl rfl [1] rfl rfl rfl (Nat.le_of_ble_eq_true rfl) ⟨Nat.le_refl _, Nat.le_refl _⟩ (fun H locs hP hD hS => ?_)
        have hP : va_P (gD G) vwCl (k_X12_put G a_this a_this_s a_this_kept a_this_errors a_this_step a_this_named a_this_pile a_this_told a_this_beside1 a_this_row a_this_best a_this_worthOf a_this_trace a_this_bits a_this_sizes a_this_number a_this_aside this_images this_at this_open this_steps this_use this_bestNet this_bestMore this_leastApart this_found this_first this_leastPaid this_traced this_speaks this_isParted this_bits r10.2 this_number this_sizes) H := hP
        have hD : va_D A (k_X12_put G a_this a_this_s a_this_kept a_this_errors a_this_step a_this_named a_this_pile a_this_told a_this_beside1 a_this_row a_this_best a_this_worthOf a_this_trace a_this_bits a_this_sizes a_this_number a_this_aside this_images this_at this_open this_steps this_use this_bestNet this_bestMore this_leastApart this_found this_first this_leastPaid this_traced this_speaks this_isParted this_bits r10.2 this_number this_sizes) := hD
        have ho := ks hf
        subst ho
        exact kiret hx hb hr hlk hP hD hS hQ dX12_put_49
    · replace hf := kt c4 hf
      refine lv_aload_n hx hb dX12_put_22 rfl (lv_at hl 0 rfl) ?_
      refine lv_iconst (v := (2 : Int32)) hx hb dX12_put_23 (by decide) ?_
      obtain ⟨r11, hr11, hf⟩ := kb hf
      refine kV (As := [.int (2 : Int32)]) (rest := []) ⟨hx, hb, hml, hown, hts⟩ (c_X12_error l G N a_this a_this_s a_this_kept a_this_errors a_this_step a_this_named a_this_pile a_this_told a_this_beside1 a_this_row a_this_best a_this_worthOf a_this_trace a_this_bits a_this_sizes a_this_number a_this_aside (2 : Int32) this_images this_at this_open this_steps this_use this_bestNet this_bestMore this_leastApart this_found this_first this_leastPaid this_traced this_speaks this_isParted this_errors r11 hr11) (kcV 1 hts tw_1087 tw_92 tw_1084 tw_1086 tw_43 hd_X12_error ⟨Nat.le_of_ble_eq_true rfl, Nat.le_of_ble_eq_true rfl⟩) dX12_put_24 hl.1 hK hAm hA hP hD hS 0 (ci := 12) rfl rfl rfl [0, 2] rfl rfl rfl [1] rfl rfl rfl (Nat.le_of_ble_eq_true rfl) ⟨Nat.le_refl _, Nat.le_refl _⟩ (fun H locs hP hD hS => ?_)
      have hP : va_P (gD G) vwCl (k_X12_put G a_this a_this_s a_this_kept a_this_errors a_this_step a_this_named a_this_pile a_this_told a_this_beside1 a_this_row a_this_best a_this_worthOf a_this_trace a_this_bits a_this_sizes a_this_number a_this_aside this_images this_at this_open this_steps this_use this_bestNet this_bestMore this_leastApart this_found this_first this_leastPaid this_traced this_speaks this_isParted this_bits r11.2 this_number this_sizes) H := hP
      have hD : va_D A (k_X12_put G a_this a_this_s a_this_kept a_this_errors a_this_step a_this_named a_this_pile a_this_told a_this_beside1 a_this_row a_this_best a_this_worthOf a_this_trace a_this_bits a_this_sizes a_this_number a_this_aside this_images this_at this_open this_steps this_use this_bestNet this_bestMore this_leastApart this_found this_first this_leastPaid this_traced this_speaks this_isParted this_bits r11.2 this_number this_sizes) := hD
      have ho := ks hf
      subst ho
      exact kiret hx hb hr hlk hP hD hS hQ dX12_put_27
  · replace hf := kt c2 hf
    refine lv_aload_n hx hb dX12_put_7 rfl (lv_at hl 0 rfl) ?_
    refine lv_iconst (v := (1 : Int32)) hx hb dX12_put_8 (by decide) ?_
    obtain ⟨r12, hr12, hf⟩ := kb hf
    refine kV (As := [.int (1 : Int32)]) (rest := []) ⟨hx, hb, hml, hown, hts⟩ (c_X12_error l G N a_this a_this_s a_this_kept a_this_errors a_this_step a_this_named a_this_pile a_this_told a_this_beside1 a_this_row a_this_best a_this_worthOf a_this_trace a_this_bits a_this_sizes a_this_number a_this_aside (1 : Int32) this_images this_at this_open this_steps this_use this_bestNet this_bestMore this_leastApart this_found this_first this_leastPaid this_traced this_speaks this_isParted this_errors r12 hr12) (kcV 1 hts tw_1087 tw_92 tw_1084 tw_1086 tw_43 hd_X12_error ⟨Nat.le_of_ble_eq_true rfl, Nat.le_of_ble_eq_true rfl⟩) dX12_put_9 hl.1 hK hAm hA hP hD hS 0 (ci := 12) rfl rfl rfl [0, 2] rfl rfl rfl [1] rfl rfl rfl (Nat.le_of_ble_eq_true rfl) ⟨Nat.le_refl _, Nat.le_refl _⟩ (fun H locs hP hD hS => ?_)
    have hP : va_P (gD G) vwCl (k_X12_put G a_this a_this_s a_this_kept a_this_errors a_this_step a_this_named a_this_pile a_this_told a_this_beside1 a_this_row a_this_best a_this_worthOf a_this_trace a_this_bits a_this_sizes a_this_number a_this_aside this_images this_at this_open this_steps this_use this_bestNet this_bestMore this_leastApart this_found this_first this_leastPaid this_traced this_speaks this_isParted this_bits r12.2 this_number this_sizes) H := hP
    have hD : va_D A (k_X12_put G a_this a_this_s a_this_kept a_this_errors a_this_step a_this_named a_this_pile a_this_told a_this_beside1 a_this_row a_this_best a_this_worthOf a_this_trace a_this_bits a_this_sizes a_this_number a_this_aside this_images this_at this_open this_steps this_use this_bestNet this_bestMore this_leastApart this_found this_first this_leastPaid this_traced this_speaks this_isParted this_bits r12.2 this_number this_sizes) := hD
    have ho := ks hf
    subst ho
    exact kiret hx hb hr hlk hP hD hS hQ dX12_put_12
abbrev k_X12_move (G : KG) (a_this : Nat) (a_this_s : Nat) (a_this_kept : Nat) (a_this_errors : Nat) (a_this_step : Nat) (a_this_named : Nat) (a_this_pile : Nat) (a_this_told : Nat) (a_this_beside1 : Nat) (a_this_row : Nat) (a_this_best : Nat) (a_this_worthOf : Nat) (a_this_trace : Nat) (a_this_bits : Nat) (a_this_sizes : Nat) (a_this_number : Nat) (a_this_aside : Nat) (this_images : Int32) (this_at : Int32) (this_open : Int32) (this_steps : Int32) (this_use : Int32) (this_bestNet : Int32) (this_bestMore : Int32) (this_leastApart : Int32) (this_found : Int32) (this_first : Int32) (this_leastPaid : Int32) (this_traced : Int32) (this_speaks : Int32) (this_isParted : Int32) (this_aside : Nat → Int32) (this_bits : Nat → Int32) (this_errors : Nat → Int32) (this_number : Nat → Int32) (this_sizes : Nat → Int32) : va_W := [(a_this, .inr (12, [.ref a_this_s, .ref a_this_kept, .int this_images, .ref a_this_errors, .int this_at, .int this_open, .int this_steps, .int this_use, .ref a_this_step, .ref a_this_named, .ref a_this_pile, .ref a_this_told, .ref a_this_beside1, .ref a_this_row, .ref a_this_best, .int this_bestNet, .int this_bestMore, .ref a_this_worthOf, .int this_leastApart, .int this_found, .int this_first, .int this_leastPaid, .ref a_this_trace, .int this_traced, .int this_speaks, .int this_isParted, .ref a_this_bits, .ref a_this_sizes, .ref a_this_number, .ref a_this_aside])), (a_this_aside, .inl (gI G, 24, .inl this_aside)), (a_this_bits, .inl (gI G, 4, .inl this_bits)), (a_this_errors, .inl (gI G, 7, .inl this_errors)), (a_this_number, .inl (gI G, 96, .inl this_number)), (a_this_sizes, .inl (gI G, 4, .inl this_sizes))]
def f_X12_move_115 (N : Nat) (x1 : Int32) (x2 : Int32) (x5 : Int32) (this_number : Nat → Int32) (K : Int32 → (Nat → Int32) → Option (Int32 × (Nat → Int32) × (Nat → Int32) × (Nat → Int32))) : Nat → Int32 → (Nat → Int32) → Option (Int32 × (Nat → Int32) × (Nat → Int32) × (Nat → Int32))
  | 0, _, _ => none
  | n + 1, y6, this_aside_v => (if x5 ≤ y6 then (K y6 this_aside_v) else (if vin ((((24 : Int32) * x1) + x2) + y6) 96 = true then (if vin y6 24 = true then (f_X12_move_115 N x1 x2 x5 this_number K n (y6 + (1 : Int32)) (upd this_aside_v y6.toNatClampNeg (this_number ((((24 : Int32) * x1) + x2) + y6).toNatClampNeg))) else none) else none))
def f_X12_move_152 (N : Nat) (x3 : Int32) (x4 : Int32) (x5 : Int32) (this_aside : Nat → Int32) (K : Int32 → (Nat → Int32) → Option (Int32 × (Nat → Int32) × (Nat → Int32) × (Nat → Int32))) : Nat → Int32 → (Nat → Int32) → Option (Int32 × (Nat → Int32) × (Nat → Int32) × (Nat → Int32))
  | 0, _, _ => none
  | n + 1, y6, this_number_v => (if x5 ≤ y6 then (K y6 this_number_v) else (if vin y6 24 = true then (if vin ((((24 : Int32) * x3) + x4) + y6) 96 = true then (f_X12_move_152 N x3 x4 x5 this_aside K n (y6 + (1 : Int32)) (upd this_number_v ((((24 : Int32) * x3) + x4) + y6).toNatClampNeg (this_aside y6.toNatClampNeg))) else none) else none))
def f_X12_move (N : Nat) (p0 : Int32) (p1 : Int32) (p2 : Int32) (p3 : Int32) (p4 : Int32) (this_aside : Nat → Int32) (this_bits : Nat → Int32) (this_errors : Nat → Int32) (this_number : Nat → Int32) (this_sizes : Nat → Int32) : Option (Int32 × (Nat → Int32) × (Nat → Int32) × (Nat → Int32)) := ((f_X12_isSheet N p0).bind fun r1 => (if r1 = 0 then ((f_X12_error N (1 : Int32) this_errors).bind fun r3 => (some (r3.1, this_aside, r3.2, this_number))) else ((f_X12_isSheet N p2).bind fun r4 => (if r4 = 0 then ((f_X12_error N (1 : Int32) this_errors).bind fun r44 => (some (r44.1, this_aside, r44.2, this_number))) else (if vin p0 4 = true then (if (this_bits p0.toNatClampNeg) = 0 then ((f_X12_error N (2 : Int32) this_errors).bind fun r8 => (some (r8.1, this_aside, r8.2, this_number))) else (if vin p2 4 = true then (if (this_bits p2.toNatClampNeg) = 0 then ((f_X12_error N (2 : Int32) this_errors).bind fun r43 => (some (r43.1, this_aside, r43.2, this_number))) else (if vin p0 4 = true then (if vin p2 4 = true then (if (this_bits p0.toNatClampNeg) = (this_bits p2.toNatClampNeg) then (if p4 < 0 then ((f_X12_error N (1 : Int32) this_errors).bind fun r15 => (some (r15.1, this_aside, r15.2, this_number))) else (if p1 < 0 then ((f_X12_error N (1 : Int32) this_errors).bind fun r17 => (some (r17.1, this_aside, r17.2, this_number))) else (if p3 < 0 then ((f_X12_error N (1 : Int32) this_errors).bind fun r19 => (some (r19.1, this_aside, r19.2, this_number))) else (if vin p0 4 = true then (if ((this_sizes p0.toNatClampNeg) - p4) < p1 then ((f_X12_error N (1 : Int32) this_errors).bind fun r22 => (some (r22.1, this_aside, r22.2, this_number))) else (if vin p2 4 = true then (if p3 ≤ ((this_sizes p2.toNatClampNeg) - p4) then (f_X12_move_115 N p0 p1 p4 this_number (fun v6_28 this_aside_28 => (f_X12_move_152 N p2 p3 p4 this_aside_28 (fun v6_32 this_number_32 => (some (p4, this_aside_28, this_errors, this_number_32))) N (0 : Int32) this_number)) N (0 : Int32) this_aside) else ((f_X12_error N (1 : Int32) this_errors).bind fun r41 => (some (r41.1, this_aside, r41.2, this_number)))) else none)) else none)))) else ((f_X12_error N (5 : Int32) this_errors).bind fun r42 => (some (r42.1, this_aside, r42.2, this_number)))) else none) else none)) else none)) else none)))))
set_option maxRecDepth 100000 in
set_option maxHeartbeats 4000000 in
theorem c_X12_move (l : Launch) (G : KG) (N : Nat) (a_this : Nat) (a_this_s : Nat) (a_this_kept : Nat) (a_this_errors : Nat) (a_this_step : Nat) (a_this_named : Nat) (a_this_pile : Nat) (a_this_told : Nat) (a_this_beside1 : Nat) (a_this_row : Nat) (a_this_best : Nat) (a_this_worthOf : Nat) (a_this_trace : Nat) (a_this_bits : Nat) (a_this_sizes : Nat) (a_this_number : Nat) (a_this_aside : Nat) (p0 : Int32) (p1 : Int32) (p2 : Int32) (p3 : Int32) (p4 : Int32) (this_images : Int32) (this_at : Int32) (this_open : Int32) (this_steps : Int32) (this_use : Int32) (this_bestNet : Int32) (this_bestMore : Int32) (this_leastApart : Int32) (this_found : Int32) (this_first : Int32) (this_leastPaid : Int32) (this_traced : Int32) (this_speaks : Int32) (this_isParted : Int32) (this_aside : Nat → Int32) (this_bits : Nat → Int32) (this_errors : Nat → Int32) (this_number : Nat → Int32) (this_sizes : Nat → Int32)  (out : Int32 × (Nat → Int32) × (Nat → Int32) × (Nat → Int32)) (hf : f_X12_move N p0 p1 p2 p3 p4 this_aside this_bits this_errors this_number this_sizes = some out) : KM l G yX12_move (kw yX12_move cX12_move 7 (some .int)) 2 42 [.ref a_this, .int p0, .int p1, .int p2, .int p3, .int p4] (k_X12_move G a_this a_this_s a_this_kept a_this_errors a_this_step a_this_named a_this_pile a_this_told a_this_beside1 a_this_row a_this_best a_this_worthOf a_this_trace a_this_bits a_this_sizes a_this_number a_this_aside this_images this_at this_open this_steps this_use this_bestNet this_bestMore this_leastApart this_found this_first this_leastPaid this_traced this_speaks this_isParted this_aside this_bits this_errors this_number this_sizes) (k_X12_move G a_this a_this_s a_this_kept a_this_errors a_this_step a_this_named a_this_pile a_this_told a_this_beside1 a_this_row a_this_best a_this_worthOf a_this_trace a_this_bits a_this_sizes a_this_number a_this_aside this_images this_at this_open this_steps this_use this_bestNet this_bestMore this_leastApart this_found this_first this_leastPaid this_traced this_speaks this_isParted (out.2.1) this_bits (out.2.2.1) (out.2.2.2) this_sizes) (some (.int (out.1))) := by
  refine KM.of (by decide) (Nat.le_of_ble_eq_true rfl) ?_
  intro p e s m below meth c A ls args Q Fx0 hP hK hD hA hS hAm hQ hl
  obtain ⟨hx, hb, hr, hml, hts, hown, hlk, hnm⟩ := Fx0
  have hown : s.vm.findClass RX12 = some m.cls := hown
  have hl : lv_has ls 7 [(0, .ref a_this), (1, .int p0), (2, .int p1), (3, .int p2), (4, .int p3), (5, .int p4)] := hl
  have fl_46 := hts _ tw_1012
  have fl_49 := hts _ tw_1013
  have fl_52 := hts _ tw_1014
  have fl_55 := hts _ tw_1015
  unfold f_X12_move at hf
  refine lv_iload_n hx hb dX12_move_0 rfl (lv_at hl 1 rfl) ?_
  obtain ⟨r1, hr1, hf⟩ := kb hf
  refine kS (As := [.int p0]) (rest := []) ⟨hx, hb, hml, hown, hts⟩ (c_X12_isSheet l G N p0 r1 hr1) (kcS 1 hts tw_1226 tw_92 tw_1224 tw_1225 hd_X12_isSheet ⟨Nat.le_of_ble_eq_true rfl, Nat.le_of_ble_eq_true rfl⟩) dX12_move_1 hl.1 hK hAm hA hP hD hS [] rfl rfl rfl [] rfl rfl rfl (Nat.le_of_ble_eq_true rfl) ⟨Nat.le_refl _, Nat.le_refl _⟩ (fun H locs hP hD hS => ?_)
  have hP : va_P (gD G) vwCl (k_X12_move G a_this a_this_s a_this_kept a_this_errors a_this_step a_this_named a_this_pile a_this_told a_this_beside1 a_this_row a_this_best a_this_worthOf a_this_trace a_this_bits a_this_sizes a_this_number a_this_aside this_images this_at this_open this_steps this_use this_bestNet this_bestMore this_leastApart this_found this_first this_leastPaid this_traced this_speaks this_isParted this_aside this_bits this_errors this_number this_sizes) H := hP
  have hD : va_D A (k_X12_move G a_this a_this_s a_this_kept a_this_errors a_this_step a_this_named a_this_pile a_this_told a_this_beside1 a_this_row a_this_best a_this_worthOf a_this_trace a_this_bits a_this_sizes a_this_number a_this_aside this_images this_at this_open this_steps this_use this_bestNet this_bestMore this_leastApart this_found this_first this_leastPaid this_traced this_speaks this_isParted this_aside this_bits this_errors this_number this_sizes) := hD
  refine lv_if_eq (tgt := 14) hx hb dX12_move_4 (by decide) (fun c2 => ?_) (fun c2 => ?_)
  · replace hf := kt c2 hf
    refine lv_aload_n hx hb dX12_move_14 rfl (lv_at hl 0 rfl) ?_
    refine lv_iconst (v := (1 : Int32)) hx hb dX12_move_15 (by decide) ?_
    obtain ⟨r3, hr3, hf⟩ := kb hf
    refine kV (As := [.int (1 : Int32)]) (rest := []) ⟨hx, hb, hml, hown, hts⟩ (c_X12_error l G N a_this a_this_s a_this_kept a_this_errors a_this_step a_this_named a_this_pile a_this_told a_this_beside1 a_this_row a_this_best a_this_worthOf a_this_trace a_this_bits a_this_sizes a_this_number a_this_aside (1 : Int32) this_images this_at this_open this_steps this_use this_bestNet this_bestMore this_leastApart this_found this_first this_leastPaid this_traced this_speaks this_isParted this_errors r3 hr3) (kcV 1 hts tw_1087 tw_92 tw_1084 tw_1086 tw_43 hd_X12_error ⟨Nat.le_of_ble_eq_true rfl, Nat.le_of_ble_eq_true rfl⟩) dX12_move_16 hl.1 hK hAm hA hP hD hS 0 (ci := 12) rfl rfl rfl [0, 3] rfl rfl rfl [1] rfl rfl rfl (Nat.le_of_ble_eq_true rfl) ⟨Nat.le_refl _, Nat.le_refl _⟩ (fun H locs hP hD hS => ?_)
    have hP : va_P (gD G) vwCl (k_X12_move G a_this a_this_s a_this_kept a_this_errors a_this_step a_this_named a_this_pile a_this_told a_this_beside1 a_this_row a_this_best a_this_worthOf a_this_trace a_this_bits a_this_sizes a_this_number a_this_aside this_images this_at this_open this_steps this_use this_bestNet this_bestMore this_leastApart this_found this_first this_leastPaid this_traced this_speaks this_isParted this_aside this_bits r3.2 this_number this_sizes) H := hP
    have hD : va_D A (k_X12_move G a_this a_this_s a_this_kept a_this_errors a_this_step a_this_named a_this_pile a_this_told a_this_beside1 a_this_row a_this_best a_this_worthOf a_this_trace a_this_bits a_this_sizes a_this_number a_this_aside this_images this_at this_open this_steps this_use this_bestNet this_bestMore this_leastApart this_found this_first this_leastPaid this_traced this_speaks this_isParted this_aside this_bits r3.2 this_number this_sizes) := hD
    have ho := ks hf
    subst ho
    exact kiret hx hb hr hlk hP hD hS hQ dX12_move_19
  · replace hf := kf c2 hf
    refine lv_iload_n hx hb dX12_move_7 rfl (lv_at hl 3 rfl) ?_
    obtain ⟨r4, hr4, hf⟩ := kb hf
    refine kS (As := [.int p2]) (rest := []) ⟨hx, hb, hml, hown, hts⟩ (c_X12_isSheet l G N p2 r4 hr4) (kcS 1 hts tw_1226 tw_92 tw_1224 tw_1225 hd_X12_isSheet ⟨Nat.le_of_ble_eq_true rfl, Nat.le_of_ble_eq_true rfl⟩) dX12_move_8 hl.1 hK hAm hA hP hD hS [] rfl rfl rfl [] rfl rfl rfl (Nat.le_of_ble_eq_true rfl) ⟨Nat.le_refl _, Nat.le_refl _⟩ (fun H locs hP hD hS => ?_)
    have hP : va_P (gD G) vwCl (k_X12_move G a_this a_this_s a_this_kept a_this_errors a_this_step a_this_named a_this_pile a_this_told a_this_beside1 a_this_row a_this_best a_this_worthOf a_this_trace a_this_bits a_this_sizes a_this_number a_this_aside this_images this_at this_open this_steps this_use this_bestNet this_bestMore this_leastApart this_found this_first this_leastPaid this_traced this_speaks this_isParted this_aside this_bits this_errors this_number this_sizes) H := hP
    have hD : va_D A (k_X12_move G a_this a_this_s a_this_kept a_this_errors a_this_step a_this_named a_this_pile a_this_told a_this_beside1 a_this_row a_this_best a_this_worthOf a_this_trace a_this_bits a_this_sizes a_this_number a_this_aside this_images this_at this_open this_steps this_use this_bestNet this_bestMore this_leastApart this_found this_first this_leastPaid this_traced this_speaks this_isParted this_aside this_bits this_errors this_number this_sizes) := hD
    refine lv_if_ne (tgt := 20) hx hb dX12_move_11 (by decide) (fun c5 => ?_) (fun c5 => ?_)
    · replace hf := kf c5 hf
      refine lv_aload_n hx hb dX12_move_20 rfl (lv_at hl 0 rfl) ?_
      refine va_get (D := gD G) (ci := 12) (C := RX12) (T := TX12) (N := 30) hx hb hts hin_X12 hown hK hP 0 rfl rfl 26 (by decide) fl_46 (fun _ h9 => h9) rfl dX12_move_21 ?_
      refine lv_iload_n hx hb dX12_move_24 rfl (lv_at hl 1 rfl) ?_
      obtain ⟨g6, hf⟩ := kg hf
      refine va_iald hx hb hK hP 2 0 rfl rfl (vin_of g6) dX12_move_25 ?_
      refine lv_if_eq (tgt := 38) hx hb dX12_move_26 (by decide) (fun c7 => ?_) (fun c7 => ?_)
      · replace hf := kt c7 hf
        refine lv_aload_n hx hb dX12_move_38 rfl (lv_at hl 0 rfl) ?_
        refine lv_iconst (v := (2 : Int32)) hx hb dX12_move_39 (by decide) ?_
        obtain ⟨r8, hr8, hf⟩ := kb hf
        refine kV (As := [.int (2 : Int32)]) (rest := []) ⟨hx, hb, hml, hown, hts⟩ (c_X12_error l G N a_this a_this_s a_this_kept a_this_errors a_this_step a_this_named a_this_pile a_this_told a_this_beside1 a_this_row a_this_best a_this_worthOf a_this_trace a_this_bits a_this_sizes a_this_number a_this_aside (2 : Int32) this_images this_at this_open this_steps this_use this_bestNet this_bestMore this_leastApart this_found this_first this_leastPaid this_traced this_speaks this_isParted this_errors r8 hr8) (kcV 1 hts tw_1087 tw_92 tw_1084 tw_1086 tw_43 hd_X12_error ⟨Nat.le_of_ble_eq_true rfl, Nat.le_of_ble_eq_true rfl⟩) dX12_move_40 hl.1 hK hAm hA hP hD hS 0 (ci := 12) rfl rfl rfl [0, 3] rfl rfl rfl [1] rfl rfl rfl (Nat.le_of_ble_eq_true rfl) ⟨Nat.le_refl _, Nat.le_refl _⟩ (fun H locs hP hD hS => ?_)
        have hP : va_P (gD G) vwCl (k_X12_move G a_this a_this_s a_this_kept a_this_errors a_this_step a_this_named a_this_pile a_this_told a_this_beside1 a_this_row a_this_best a_this_worthOf a_this_trace a_this_bits a_this_sizes a_this_number a_this_aside this_images this_at this_open this_steps this_use this_bestNet this_bestMore this_leastApart this_found this_first this_leastPaid this_traced this_speaks this_isParted this_aside this_bits r8.2 this_number this_sizes) H := hP
        have hD : va_D A (k_X12_move G a_this a_this_s a_this_kept a_this_errors a_this_step a_this_named a_this_pile a_this_told a_this_beside1 a_this_row a_this_best a_this_worthOf a_this_trace a_this_bits a_this_sizes a_this_number a_this_aside this_images this_at this_open this_steps this_use this_bestNet this_bestMore this_leastApart this_found this_first this_leastPaid this_traced this_speaks this_isParted this_aside this_bits r8.2 this_number this_sizes) := hD
        have ho := ks hf
        subst ho
        exact kiret hx hb hr hlk hP hD hS hQ dX12_move_43
      · replace hf := kf c7 hf
        refine lv_aload_n hx hb dX12_move_29 rfl (lv_at hl 0 rfl) ?_
        refine va_get (D := gD G) (ci := 12) (C := RX12) (T := TX12) (N := 30) hx hb hts hin_X12 hown hK hP 0 rfl rfl 26 (by decide) fl_46 (fun _ h9 => h9) rfl dX12_move_30 ?_
        refine lv_iload_n hx hb dX12_move_33 rfl (lv_at hl 3 rfl) ?_
        obtain ⟨g9, hf⟩ := kg hf
        refine va_iald hx hb hK hP 2 0 rfl rfl (vin_of g9) dX12_move_34 ?_
        refine lv_if_ne (tgt := 44) hx hb dX12_move_35 (by decide) (fun c10 => ?_) (fun c10 => ?_)
        · replace hf := kf c10 hf
          refine lv_aload_n hx hb dX12_move_44 rfl (lv_at hl 0 rfl) ?_
          refine va_get (D := gD G) (ci := 12) (C := RX12) (T := TX12) (N := 30) hx hb hts hin_X12 hown hK hP 0 rfl rfl 26 (by decide) fl_46 (fun _ h9 => h9) rfl dX12_move_45 ?_
          refine lv_iload_n hx hb dX12_move_48 rfl (lv_at hl 1 rfl) ?_
          obtain ⟨g11, hf⟩ := kg hf
          refine va_iald hx hb hK hP 2 0 rfl rfl (vin_of g11) dX12_move_49 ?_
          refine lv_aload_n hx hb dX12_move_50 rfl (lv_at hl 0 rfl) ?_
          refine va_get (D := gD G) (ci := 12) (C := RX12) (T := TX12) (N := 30) hx hb hts hin_X12 hown hK hP 0 rfl rfl 26 (by decide) fl_46 (fun _ h9 => h9) rfl dX12_move_51 ?_
          refine lv_iload_n hx hb dX12_move_54 rfl (lv_at hl 3 rfl) ?_
          obtain ⟨g12, hf⟩ := kg hf
          refine va_iald hx hb hK hP 2 0 rfl rfl (vin_of g12) dX12_move_55 ?_
          refine lv_icmp_eq (tgt := 65) hx hb dX12_move_56 (by decide) (fun c13 => ?_) (fun c13 => ?_)
          · replace hf := kt c13 hf
            refine lv_iload hx hb dX12_move_65 (lv_at hl 5 rfl) ?_
            refine lv_if_lt (tgt := 106) hx hb dX12_move_67 (by decide) (fun c14 => ?_) (fun c14 => ?_)
            · replace hf := kt c14 hf
              refine lv_aload_n hx hb dX12_move_106 rfl (lv_at hl 0 rfl) ?_
              refine lv_iconst (v := (1 : Int32)) hx hb dX12_move_107 (by decide) ?_
              obtain ⟨r15, hr15, hf⟩ := kb hf
              refine kV (As := [.int (1 : Int32)]) (rest := []) ⟨hx, hb, hml, hown, hts⟩ (c_X12_error l G N a_this a_this_s a_this_kept a_this_errors a_this_step a_this_named a_this_pile a_this_told a_this_beside1 a_this_row a_this_best a_this_worthOf a_this_trace a_this_bits a_this_sizes a_this_number a_this_aside (1 : Int32) this_images this_at this_open this_steps this_use this_bestNet this_bestMore this_leastApart this_found this_first this_leastPaid this_traced this_speaks this_isParted this_errors r15 hr15) (kcV 1 hts tw_1087 tw_92 tw_1084 tw_1086 tw_43 hd_X12_error ⟨Nat.le_of_ble_eq_true rfl, Nat.le_of_ble_eq_true rfl⟩) dX12_move_108 hl.1 hK hAm hA hP hD hS 0 (ci := 12) rfl rfl rfl [0, 3] rfl rfl rfl [1] rfl rfl rfl (Nat.le_of_ble_eq_true rfl) ⟨Nat.le_refl _, Nat.le_refl _⟩ (fun H locs hP hD hS => ?_)
              have hP : va_P (gD G) vwCl (k_X12_move G a_this a_this_s a_this_kept a_this_errors a_this_step a_this_named a_this_pile a_this_told a_this_beside1 a_this_row a_this_best a_this_worthOf a_this_trace a_this_bits a_this_sizes a_this_number a_this_aside this_images this_at this_open this_steps this_use this_bestNet this_bestMore this_leastApart this_found this_first this_leastPaid this_traced this_speaks this_isParted this_aside this_bits r15.2 this_number this_sizes) H := hP
              have hD : va_D A (k_X12_move G a_this a_this_s a_this_kept a_this_errors a_this_step a_this_named a_this_pile a_this_told a_this_beside1 a_this_row a_this_best a_this_worthOf a_this_trace a_this_bits a_this_sizes a_this_number a_this_aside this_images this_at this_open this_steps this_use this_bestNet this_bestMore this_leastApart this_found this_first this_leastPaid this_traced this_speaks this_isParted this_aside this_bits r15.2 this_number this_sizes) := hD
              have ho := ks hf
              subst ho
              exact kiret hx hb hr hlk hP hD hS hQ dX12_move_111
            · replace hf := kf c14 hf
              refine lv_iload_n hx hb dX12_move_70 rfl (lv_at hl 2 rfl) ?_
              refine lv_if_lt (tgt := 106) hx hb dX12_move_71 (by decide) (fun c16 => ?_) (fun c16 => ?_)
              · replace hf := kt c16 hf
                refine lv_aload_n hx hb dX12_move_106 rfl (lv_at hl 0 rfl) ?_
                refine lv_iconst (v := (1 : Int32)) hx hb dX12_move_107 (by decide) ?_
                obtain ⟨r17, hr17, hf⟩ := kb hf
                refine kV (As := [.int (1 : Int32)]) (rest := []) ⟨hx, hb, hml, hown, hts⟩ (c_X12_error l G N a_this a_this_s a_this_kept a_this_errors a_this_step a_this_named a_this_pile a_this_told a_this_beside1 a_this_row a_this_best a_this_worthOf a_this_trace a_this_bits a_this_sizes a_this_number a_this_aside (1 : Int32) this_images this_at this_open this_steps this_use this_bestNet this_bestMore this_leastApart this_found this_first this_leastPaid this_traced this_speaks this_isParted this_errors r17 hr17) (kcV 1 hts tw_1087 tw_92 tw_1084 tw_1086 tw_43 hd_X12_error ⟨Nat.le_of_ble_eq_true rfl, Nat.le_of_ble_eq_true rfl⟩) dX12_move_108 hl.1 hK hAm hA hP hD hS 0 (ci := 12) rfl rfl rfl [0, 3] rfl rfl rfl [1] rfl rfl rfl (Nat.le_of_ble_eq_true rfl) ⟨Nat.le_refl _, Nat.le_refl _⟩ (fun H locs hP hD hS => ?_)
                have hP : va_P (gD G) vwCl (k_X12_move G a_this a_this_s a_this_kept a_this_errors a_this_step a_this_named a_this_pile a_this_told a_this_beside1 a_this_row a_this_best a_this_worthOf a_this_trace a_this_bits a_this_sizes a_this_number a_this_aside this_images this_at this_open this_steps this_use this_bestNet this_bestMore this_leastApart this_found this_first this_leastPaid this_traced this_speaks this_isParted this_aside this_bits r17.2 this_number this_sizes) H := hP
                have hD : va_D A (k_X12_move G a_this a_this_s a_this_kept a_this_errors a_this_step a_this_named a_this_pile a_this_told a_this_beside1 a_this_row a_this_best a_this_worthOf a_this_trace a_this_bits a_this_sizes a_this_number a_this_aside this_images this_at this_open this_steps this_use this_bestNet this_bestMore this_leastApart this_found this_first this_leastPaid this_traced this_speaks this_isParted this_aside this_bits r17.2 this_number this_sizes) := hD
                have ho := ks hf
                subst ho
                exact kiret hx hb hr hlk hP hD hS hQ dX12_move_111
              · replace hf := kf c16 hf
                refine lv_iload hx hb dX12_move_74 (lv_at hl 4 rfl) ?_
                refine lv_if_lt (tgt := 106) hx hb dX12_move_76 (by decide) (fun c18 => ?_) (fun c18 => ?_)
                · replace hf := kt c18 hf
                  refine lv_aload_n hx hb dX12_move_106 rfl (lv_at hl 0 rfl) ?_
                  refine lv_iconst (v := (1 : Int32)) hx hb dX12_move_107 (by decide) ?_
                  obtain ⟨r19, hr19, hf⟩ := kb hf
                  refine kV (As := [.int (1 : Int32)]) (rest := []) ⟨hx, hb, hml, hown, hts⟩ (c_X12_error l G N a_this a_this_s a_this_kept a_this_errors a_this_step a_this_named a_this_pile a_this_told a_this_beside1 a_this_row a_this_best a_this_worthOf a_this_trace a_this_bits a_this_sizes a_this_number a_this_aside (1 : Int32) this_images this_at this_open this_steps this_use this_bestNet this_bestMore this_leastApart this_found this_first this_leastPaid this_traced this_speaks this_isParted this_errors r19 hr19) (kcV 1 hts tw_1087 tw_92 tw_1084 tw_1086 tw_43 hd_X12_error ⟨Nat.le_of_ble_eq_true rfl, Nat.le_of_ble_eq_true rfl⟩) dX12_move_108 hl.1 hK hAm hA hP hD hS 0 (ci := 12) rfl rfl rfl [0, 3] rfl rfl rfl [1] rfl rfl rfl (Nat.le_of_ble_eq_true rfl) ⟨Nat.le_refl _, Nat.le_refl _⟩ (fun H locs hP hD hS => ?_)
                  have hP : va_P (gD G) vwCl (k_X12_move G a_this a_this_s a_this_kept a_this_errors a_this_step a_this_named a_this_pile a_this_told a_this_beside1 a_this_row a_this_best a_this_worthOf a_this_trace a_this_bits a_this_sizes a_this_number a_this_aside this_images this_at this_open this_steps this_use this_bestNet this_bestMore this_leastApart this_found this_first this_leastPaid this_traced this_speaks this_isParted this_aside this_bits r19.2 this_number this_sizes) H := hP
                  have hD : va_D A (k_X12_move G a_this a_this_s a_this_kept a_this_errors a_this_step a_this_named a_this_pile a_this_told a_this_beside1 a_this_row a_this_best a_this_worthOf a_this_trace a_this_bits a_this_sizes a_this_number a_this_aside this_images this_at this_open this_steps this_use this_bestNet this_bestMore this_leastApart this_found this_first this_leastPaid this_traced this_speaks this_isParted this_aside this_bits r19.2 this_number this_sizes) := hD
                  have ho := ks hf
                  subst ho
                  exact kiret hx hb hr hlk hP hD hS hQ dX12_move_111
                · replace hf := kf c18 hf
                  refine lv_iload_n hx hb dX12_move_79 rfl (lv_at hl 2 rfl) ?_
                  refine lv_aload_n hx hb dX12_move_80 rfl (lv_at hl 0 rfl) ?_
                  refine va_get (D := gD G) (ci := 12) (C := RX12) (T := TX12) (N := 30) hx hb hts hin_X12 hown hK hP 0 rfl rfl 27 (by decide) fl_49 (fun _ h9 => h9) rfl dX12_move_81 ?_
                  refine lv_iload_n hx hb dX12_move_84 rfl (lv_at hl 1 rfl) ?_
                  obtain ⟨g20, hf⟩ := kg hf
                  refine va_iald hx hb hK hP 5 0 rfl rfl (vin_of g20) dX12_move_85 ?_
                  refine lv_iload hx hb dX12_move_86 (lv_at hl 5 rfl) ?_
                  refine lv_isub hx hb dX12_move_88 ?_
                  refine lv_icmp_gt (tgt := 106) hx hb dX12_move_89 (by decide) (fun c21 => ?_) (fun c21 => ?_)
                  · replace hf := kt c21 hf
                    refine lv_aload_n hx hb dX12_move_106 rfl (lv_at hl 0 rfl) ?_
                    refine lv_iconst (v := (1 : Int32)) hx hb dX12_move_107 (by decide) ?_
                    obtain ⟨r22, hr22, hf⟩ := kb hf
                    refine kV (As := [.int (1 : Int32)]) (rest := []) ⟨hx, hb, hml, hown, hts⟩ (c_X12_error l G N a_this a_this_s a_this_kept a_this_errors a_this_step a_this_named a_this_pile a_this_told a_this_beside1 a_this_row a_this_best a_this_worthOf a_this_trace a_this_bits a_this_sizes a_this_number a_this_aside (1 : Int32) this_images this_at this_open this_steps this_use this_bestNet this_bestMore this_leastApart this_found this_first this_leastPaid this_traced this_speaks this_isParted this_errors r22 hr22) (kcV 1 hts tw_1087 tw_92 tw_1084 tw_1086 tw_43 hd_X12_error ⟨Nat.le_of_ble_eq_true rfl, Nat.le_of_ble_eq_true rfl⟩) dX12_move_108 hl.1 hK hAm hA hP hD hS 0 (ci := 12) rfl rfl rfl [0, 3] rfl rfl rfl [1] rfl rfl rfl (Nat.le_of_ble_eq_true rfl) ⟨Nat.le_refl _, Nat.le_refl _⟩ (fun H locs hP hD hS => ?_)
                    have hP : va_P (gD G) vwCl (k_X12_move G a_this a_this_s a_this_kept a_this_errors a_this_step a_this_named a_this_pile a_this_told a_this_beside1 a_this_row a_this_best a_this_worthOf a_this_trace a_this_bits a_this_sizes a_this_number a_this_aside this_images this_at this_open this_steps this_use this_bestNet this_bestMore this_leastApart this_found this_first this_leastPaid this_traced this_speaks this_isParted this_aside this_bits r22.2 this_number this_sizes) H := hP
                    have hD : va_D A (k_X12_move G a_this a_this_s a_this_kept a_this_errors a_this_step a_this_named a_this_pile a_this_told a_this_beside1 a_this_row a_this_best a_this_worthOf a_this_trace a_this_bits a_this_sizes a_this_number a_this_aside this_images this_at this_open this_steps this_use this_bestNet this_bestMore this_leastApart this_found this_first this_leastPaid this_traced this_speaks this_isParted this_aside this_bits r22.2 this_number this_sizes) := hD
                    have ho := ks hf
                    subst ho
                    exact kiret hx hb hr hlk hP hD hS hQ dX12_move_111
                  · replace hf := kf c21 hf
                    refine lv_iload hx hb dX12_move_92 (lv_at hl 4 rfl) ?_
                    refine lv_aload_n hx hb dX12_move_94 rfl (lv_at hl 0 rfl) ?_
                    refine va_get (D := gD G) (ci := 12) (C := RX12) (T := TX12) (N := 30) hx hb hts hin_X12 hown hK hP 0 rfl rfl 27 (by decide) fl_49 (fun _ h9 => h9) rfl dX12_move_95 ?_
                    refine lv_iload_n hx hb dX12_move_98 rfl (lv_at hl 3 rfl) ?_
                    obtain ⟨g23, hf⟩ := kg hf
                    refine va_iald hx hb hK hP 5 0 rfl rfl (vin_of g23) dX12_move_99 ?_
                    refine lv_iload hx hb dX12_move_100 (lv_at hl 5 rfl) ?_
                    refine lv_isub hx hb dX12_move_102 ?_
                    refine lv_icmp_le (tgt := 112) hx hb dX12_move_103 (by decide) (fun c24 => ?_) (fun c24 => ?_)
                    · replace hf := kt c24 hf
                      refine lv_iconst (v := (0 : Int32)) hx hb dX12_move_112 (by decide) ?_
                      refine lv_istore (lv' := [(6, .int (0 : Int32)), (0, .ref a_this), (1, .int p0), (2, .int p1), (3, .int p2), (4, .int p3), (5, .int p4)]) hx hb dX12_move_113 hl (by decide) rfl (fun ls hl => ?_)
                      have L31 : ∀ (K : Int32 → (Nat → Int32) → Option (Int32 × (Nat → Int32) × (Nat → Int32) × (Nat → Int32))), (∀ (v6_31 : Int32) (this_aside_31 : Nat → Int32) (H : Heap) (locs : List Loc), va_P (gD G) vwCl (k_X12_move G a_this a_this_s a_this_kept a_this_errors a_this_step a_this_named a_this_pile a_this_told a_this_beside1 a_this_row a_this_best a_this_worthOf a_this_trace a_this_bits a_this_sizes a_this_number a_this_aside this_images this_at this_open this_steps this_use this_bestNet this_bestMore this_leastApart this_found this_first this_leastPaid this_traced this_speaks this_isParted this_aside_31 this_bits this_errors this_number this_sizes) H → va_D A (k_X12_move G a_this a_this_s a_this_kept a_this_errors a_this_step a_this_named a_this_pile a_this_told a_this_beside1 a_this_row a_this_best a_this_worthOf a_this_trace a_this_bits a_this_sizes a_this_number a_this_aside this_images this_at this_open this_steps this_use this_bestNet this_bestMore this_leastApart this_found this_first this_leastPaid this_traced this_speaks this_isParted this_aside_31 this_bits this_errors this_number this_sizes) → va_S A s.heap H locs → ∀ (ls : Array Slot), lv_has ls 7 [(0, .ref a_this), (1, .int p0), (2, .int p1), (3, .int p2), (4, .int p3), (5, .int p4), (6, .int v6_31)] → K v6_31 this_aside_31 = some out → W p l e (kR 2 0 0 42) s m args below meth c H locs 0 0 Q (F0 m 149 ls [])) → ∀ (n : Nat), ∀ (v6_31 : Int32) (this_aside_31 : Nat → Int32) (H : Heap) (locs : List Loc), va_P (gD G) vwCl (k_X12_move G a_this a_this_s a_this_kept a_this_errors a_this_step a_this_named a_this_pile a_this_told a_this_beside1 a_this_row a_this_best a_this_worthOf a_this_trace a_this_bits a_this_sizes a_this_number a_this_aside this_images this_at this_open this_steps this_use this_bestNet this_bestMore this_leastApart this_found this_first this_leastPaid this_traced this_speaks this_isParted this_aside_31 this_bits this_errors this_number this_sizes) H → va_D A (k_X12_move G a_this a_this_s a_this_kept a_this_errors a_this_step a_this_named a_this_pile a_this_told a_this_beside1 a_this_row a_this_best a_this_worthOf a_this_trace a_this_bits a_this_sizes a_this_number a_this_aside this_images this_at this_open this_steps this_use this_bestNet this_bestMore this_leastApart this_found this_first this_leastPaid this_traced this_speaks this_isParted this_aside_31 this_bits this_errors this_number this_sizes) → va_S A s.heap H locs → ∀ (ls : Array Slot), lv_has ls 7 [(0, .ref a_this), (1, .int p0), (2, .int p1), (3, .int p2), (4, .int p3), (5, .int p4), (6, .int v6_31)] → f_X12_move_115 N p0 p1 p4 this_number K n v6_31 this_aside_31 = some out → W p l e (kR 2 0 0 42) s m args below meth c H locs 0 0 Q (F0 m 115 ls []) := by
                        intro K hK31 n
                        induction n with
                        | zero =>
                          intro v6_31 this_aside_31 H locs hP hD hS ls hl hf
                          rw [f_X12_move_115] at hf
                          cases hf
                        | succ n ih =>
                          intro v6_31 this_aside_31 H locs hP hD hS ls hl hf
                          rw [f_X12_move_115] at hf
                          refine lv_iload hx hb dX12_move_115 (lv_at hl 6 rfl) ?_
                          refine lv_iload hx hb dX12_move_117 (lv_at hl 5 rfl) ?_
                          refine lv_icmp_ge (tgt := 149) hx hb dX12_move_119 (by decide) (fun c32 => ?_) (fun c32 => ?_)
                          · replace hf := kt c32 hf
                            exact hK31 v6_31 this_aside_31 _ _ hP hD hS ls (lv_sub hl [0, 1, 2, 3, 4, 5, 6] rfl) hf
                          · replace hf := kf c32 hf
                            refine lv_aload_n hx hb dX12_move_122 rfl (lv_at hl 0 rfl) ?_
                            refine va_get (D := gD G) (ci := 12) (C := RX12) (T := TX12) (N := 30) hx hb hts hin_X12 hown hK hP 0 rfl rfl 29 (by decide) fl_55 (fun _ h9 => h9) rfl dX12_move_123 ?_
                            refine lv_iload hx hb dX12_move_126 (lv_at hl 6 rfl) ?_
                            refine lv_aload_n hx hb dX12_move_128 rfl (lv_at hl 0 rfl) ?_
                            refine va_get (D := gD G) (ci := 12) (C := RX12) (T := TX12) (N := 30) hx hb hts hin_X12 hown hK hP 0 rfl rfl 28 (by decide) fl_52 (fun _ h9 => h9) rfl dX12_move_129 ?_
                            refine lv_bipush (v := (24 : Int32)) hx hb dX12_move_132 (by decide) ?_
                            refine lv_iload_n hx hb dX12_move_134 rfl (lv_at hl 1 rfl) ?_
                            refine lv_imul hx hb dX12_move_135 ?_
                            refine lv_iload_n hx hb dX12_move_136 rfl (lv_at hl 2 rfl) ?_
                            refine lv_iadd hx hb dX12_move_137 ?_
                            refine lv_iload hx hb dX12_move_138 (lv_at hl 6 rfl) ?_
                            refine lv_iadd hx hb dX12_move_140 ?_
                            obtain ⟨g33, hf⟩ := kg hf
                            refine va_iald hx hb hK hP 4 0 rfl rfl (vin_of g33) dX12_move_141 ?_
                            obtain ⟨g34, hf⟩ := kg hf
                            refine va_iast hx hb hK hP hD hS 1 0 rfl rfl (vin_of g34) dX12_move_142 (fun H locs hP hD hS => ?_)
                            have hP : va_P (gD G) vwCl (k_X12_move G a_this a_this_s a_this_kept a_this_errors a_this_step a_this_named a_this_pile a_this_told a_this_beside1 a_this_row a_this_best a_this_worthOf a_this_trace a_this_bits a_this_sizes a_this_number a_this_aside this_images this_at this_open this_steps this_use this_bestNet this_bestMore this_leastApart this_found this_first this_leastPaid this_traced this_speaks this_isParted (upd this_aside_31 v6_31.toNatClampNeg (this_number ((((24 : Int32) * p0) + p1) + v6_31).toNatClampNeg)) this_bits this_errors this_number this_sizes) H := hP
                            have hD : va_D A (k_X12_move G a_this a_this_s a_this_kept a_this_errors a_this_step a_this_named a_this_pile a_this_told a_this_beside1 a_this_row a_this_best a_this_worthOf a_this_trace a_this_bits a_this_sizes a_this_number a_this_aside this_images this_at this_open this_steps this_use this_bestNet this_bestMore this_leastApart this_found this_first this_leastPaid this_traced this_speaks this_isParted (upd this_aside_31 v6_31.toNatClampNeg (this_number ((((24 : Int32) * p0) + p1) + v6_31).toNatClampNeg)) this_bits this_errors this_number this_sizes) := hD
                            refine lv_iinc (v := (v6_31 + (1 : Int32))) (lv' := [(6, .int (v6_31 + (1 : Int32))), (0, .ref a_this), (1, .int p0), (2, .int p1), (3, .int p2), (4, .int p3), (5, .int p4)]) hx hb dX12_move_143 hl (k := 6) rfl rfl (by decide) rfl (fun ls hl => ?_)
                            refine lv_goto (tgt := 115) hx hb dX12_move_146 (by decide) ?_
                            exact ih (v6_31 + (1 : Int32)) (upd this_aside_31 v6_31.toNatClampNeg (this_number ((((24 : Int32) * p0) + p1) + v6_31).toNatClampNeg)) _ _ hP hD hS ls (lv_sub hl [1, 2, 3, 4, 5, 6, 0] rfl) hf
                      refine L31 _ (fun v6_25 this_aside_25 H locs hP hD hS ls hl hf => ?_) N (0 : Int32) this_aside _ _ hP hD hS ls (lv_sub hl [1, 2, 3, 4, 5, 6, 0] rfl) hf
                      refine lv_iconst (v := (0 : Int32)) hx hb dX12_move_149 (by decide) ?_
                      refine lv_istore (lv' := [(6, .int (0 : Int32)), (0, .ref a_this), (1, .int p0), (2, .int p1), (3, .int p2), (4, .int p3), (5, .int p4)]) hx hb dX12_move_150 hl (by decide) rfl (fun ls hl => ?_)
                      have L27 : ∀ (K : Int32 → (Nat → Int32) → Option (Int32 × (Nat → Int32) × (Nat → Int32) × (Nat → Int32))), (∀ (v6_27 : Int32) (this_number_27 : Nat → Int32) (H : Heap) (locs : List Loc), va_P (gD G) vwCl (k_X12_move G a_this a_this_s a_this_kept a_this_errors a_this_step a_this_named a_this_pile a_this_told a_this_beside1 a_this_row a_this_best a_this_worthOf a_this_trace a_this_bits a_this_sizes a_this_number a_this_aside this_images this_at this_open this_steps this_use this_bestNet this_bestMore this_leastApart this_found this_first this_leastPaid this_traced this_speaks this_isParted this_aside_25 this_bits this_errors this_number_27 this_sizes) H → va_D A (k_X12_move G a_this a_this_s a_this_kept a_this_errors a_this_step a_this_named a_this_pile a_this_told a_this_beside1 a_this_row a_this_best a_this_worthOf a_this_trace a_this_bits a_this_sizes a_this_number a_this_aside this_images this_at this_open this_steps this_use this_bestNet this_bestMore this_leastApart this_found this_first this_leastPaid this_traced this_speaks this_isParted this_aside_25 this_bits this_errors this_number_27 this_sizes) → va_S A s.heap H locs → ∀ (ls : Array Slot), lv_has ls 7 [(0, .ref a_this), (1, .int p0), (2, .int p1), (3, .int p2), (4, .int p3), (5, .int p4), (6, .int v6_27)] → K v6_27 this_number_27 = some out → W p l e (kR 2 0 0 42) s m args below meth c H locs 0 0 Q (F0 m 187 ls [])) → ∀ (n : Nat), ∀ (v6_27 : Int32) (this_number_27 : Nat → Int32) (H : Heap) (locs : List Loc), va_P (gD G) vwCl (k_X12_move G a_this a_this_s a_this_kept a_this_errors a_this_step a_this_named a_this_pile a_this_told a_this_beside1 a_this_row a_this_best a_this_worthOf a_this_trace a_this_bits a_this_sizes a_this_number a_this_aside this_images this_at this_open this_steps this_use this_bestNet this_bestMore this_leastApart this_found this_first this_leastPaid this_traced this_speaks this_isParted this_aside_25 this_bits this_errors this_number_27 this_sizes) H → va_D A (k_X12_move G a_this a_this_s a_this_kept a_this_errors a_this_step a_this_named a_this_pile a_this_told a_this_beside1 a_this_row a_this_best a_this_worthOf a_this_trace a_this_bits a_this_sizes a_this_number a_this_aside this_images this_at this_open this_steps this_use this_bestNet this_bestMore this_leastApart this_found this_first this_leastPaid this_traced this_speaks this_isParted this_aside_25 this_bits this_errors this_number_27 this_sizes) → va_S A s.heap H locs → ∀ (ls : Array Slot), lv_has ls 7 [(0, .ref a_this), (1, .int p0), (2, .int p1), (3, .int p2), (4, .int p3), (5, .int p4), (6, .int v6_27)] → f_X12_move_152 N p2 p3 p4 this_aside_25 K n v6_27 this_number_27 = some out → W p l e (kR 2 0 0 42) s m args below meth c H locs 0 0 Q (F0 m 152 ls []) := by
                        intro K hK27 n
                        induction n with
                        | zero =>
                          intro v6_27 this_number_27 H locs hP hD hS ls hl hf
                          rw [f_X12_move_152] at hf
                          cases hf
                        | succ n ih =>
                          intro v6_27 this_number_27 H locs hP hD hS ls hl hf
                          rw [f_X12_move_152] at hf
                          refine lv_iload hx hb dX12_move_152 (lv_at hl 6 rfl) ?_
                          refine lv_iload hx hb dX12_move_154 (lv_at hl 5 rfl) ?_
                          refine lv_icmp_ge (tgt := 187) hx hb dX12_move_156 (by decide) (fun c28 => ?_) (fun c28 => ?_)
                          · replace hf := kt c28 hf
                            exact hK27 v6_27 this_number_27 _ _ hP hD hS ls (lv_sub hl [0, 1, 2, 3, 4, 5, 6] rfl) hf
                          · replace hf := kf c28 hf
                            refine lv_aload_n hx hb dX12_move_159 rfl (lv_at hl 0 rfl) ?_
                            refine va_get (D := gD G) (ci := 12) (C := RX12) (T := TX12) (N := 30) hx hb hts hin_X12 hown hK hP 0 rfl rfl 28 (by decide) fl_52 (fun _ h9 => h9) rfl dX12_move_160 ?_
                            refine lv_bipush (v := (24 : Int32)) hx hb dX12_move_163 (by decide) ?_
                            refine lv_iload_n hx hb dX12_move_165 rfl (lv_at hl 3 rfl) ?_
                            refine lv_imul hx hb dX12_move_166 ?_
                            refine lv_iload hx hb dX12_move_167 (lv_at hl 4 rfl) ?_
                            refine lv_iadd hx hb dX12_move_169 ?_
                            refine lv_iload hx hb dX12_move_170 (lv_at hl 6 rfl) ?_
                            refine lv_iadd hx hb dX12_move_172 ?_
                            refine lv_aload_n hx hb dX12_move_173 rfl (lv_at hl 0 rfl) ?_
                            refine va_get (D := gD G) (ci := 12) (C := RX12) (T := TX12) (N := 30) hx hb hts hin_X12 hown hK hP 0 rfl rfl 29 (by decide) fl_55 (fun _ h9 => h9) rfl dX12_move_174 ?_
                            refine lv_iload hx hb dX12_move_177 (lv_at hl 6 rfl) ?_
                            obtain ⟨g29, hf⟩ := kg hf
                            refine va_iald hx hb hK hP 1 0 rfl rfl (vin_of g29) dX12_move_179 ?_
                            obtain ⟨g30, hf⟩ := kg hf
                            refine va_iast hx hb hK hP hD hS 4 0 rfl rfl (vin_of g30) dX12_move_180 (fun H locs hP hD hS => ?_)
                            have hP : va_P (gD G) vwCl (k_X12_move G a_this a_this_s a_this_kept a_this_errors a_this_step a_this_named a_this_pile a_this_told a_this_beside1 a_this_row a_this_best a_this_worthOf a_this_trace a_this_bits a_this_sizes a_this_number a_this_aside this_images this_at this_open this_steps this_use this_bestNet this_bestMore this_leastApart this_found this_first this_leastPaid this_traced this_speaks this_isParted this_aside_25 this_bits this_errors (upd this_number_27 ((((24 : Int32) * p2) + p3) + v6_27).toNatClampNeg (this_aside_25 v6_27.toNatClampNeg)) this_sizes) H := hP
                            have hD : va_D A (k_X12_move G a_this a_this_s a_this_kept a_this_errors a_this_step a_this_named a_this_pile a_this_told a_this_beside1 a_this_row a_this_best a_this_worthOf a_this_trace a_this_bits a_this_sizes a_this_number a_this_aside this_images this_at this_open this_steps this_use this_bestNet this_bestMore this_leastApart this_found this_first this_leastPaid this_traced this_speaks this_isParted this_aside_25 this_bits this_errors (upd this_number_27 ((((24 : Int32) * p2) + p3) + v6_27).toNatClampNeg (this_aside_25 v6_27.toNatClampNeg)) this_sizes) := hD
                            refine lv_iinc (v := (v6_27 + (1 : Int32))) (lv' := [(6, .int (v6_27 + (1 : Int32))), (0, .ref a_this), (1, .int p0), (2, .int p1), (3, .int p2), (4, .int p3), (5, .int p4)]) hx hb dX12_move_181 hl (k := 6) rfl rfl (by decide) rfl (fun ls hl => ?_)
                            refine lv_goto (tgt := 152) hx hb dX12_move_184 (by decide) ?_
                            exact ih (v6_27 + (1 : Int32)) (upd this_number_27 ((((24 : Int32) * p2) + p3) + v6_27).toNatClampNeg (this_aside_25 v6_27.toNatClampNeg)) _ _ hP hD hS ls (lv_sub hl [1, 2, 3, 4, 5, 6, 0] rfl) hf
                      refine L27 _ (fun v6_26 this_number_26 H locs hP hD hS ls hl hf => ?_) N (0 : Int32) this_number _ _ hP hD hS ls (lv_sub hl [1, 2, 3, 4, 5, 6, 0] rfl) hf
                      refine lv_iload hx hb dX12_move_187 (lv_at hl 5 rfl) ?_
                      have ho := ks hf
                      subst ho
                      exact kiret hx hb hr hlk hP hD hS hQ dX12_move_189
                    · replace hf := kf c24 hf
                      refine lv_aload_n hx hb dX12_move_106 rfl (lv_at hl 0 rfl) ?_
                      refine lv_iconst (v := (1 : Int32)) hx hb dX12_move_107 (by decide) ?_
                      obtain ⟨r35, hr35, hf⟩ := kb hf
                      refine kV (As := [.int (1 : Int32)]) (rest := []) ⟨hx, hb, hml, hown, hts⟩ (c_X12_error l G N a_this a_this_s a_this_kept a_this_errors a_this_step a_this_named a_this_pile a_this_told a_this_beside1 a_this_row a_this_best a_this_worthOf a_this_trace a_this_bits a_this_sizes a_this_number a_this_aside (1 : Int32) this_images this_at this_open this_steps this_use this_bestNet this_bestMore this_leastApart this_found this_first this_leastPaid this_traced this_speaks this_isParted this_errors r35 hr35) (kcV 1 hts tw_1087 tw_92 tw_1084 tw_1086 tw_43 hd_X12_error ⟨Nat.le_of_ble_eq_true rfl, Nat.le_of_ble_eq_true rfl⟩) dX12_move_108 hl.1 hK hAm hA hP hD hS 0 (ci := 12) rfl rfl rfl [0, 3] rfl rfl rfl [1] rfl rfl rfl (Nat.le_of_ble_eq_true rfl) ⟨Nat.le_refl _, Nat.le_refl _⟩ (fun H locs hP hD hS => ?_)
                      have hP : va_P (gD G) vwCl (k_X12_move G a_this a_this_s a_this_kept a_this_errors a_this_step a_this_named a_this_pile a_this_told a_this_beside1 a_this_row a_this_best a_this_worthOf a_this_trace a_this_bits a_this_sizes a_this_number a_this_aside this_images this_at this_open this_steps this_use this_bestNet this_bestMore this_leastApart this_found this_first this_leastPaid this_traced this_speaks this_isParted this_aside this_bits r35.2 this_number this_sizes) H := hP
                      have hD : va_D A (k_X12_move G a_this a_this_s a_this_kept a_this_errors a_this_step a_this_named a_this_pile a_this_told a_this_beside1 a_this_row a_this_best a_this_worthOf a_this_trace a_this_bits a_this_sizes a_this_number a_this_aside this_images this_at this_open this_steps this_use this_bestNet this_bestMore this_leastApart this_found this_first this_leastPaid this_traced this_speaks this_isParted this_aside this_bits r35.2 this_number this_sizes) := hD
                      have ho := ks hf
                      subst ho
                      exact kiret hx hb hr hlk hP hD hS hQ dX12_move_111
          · replace hf := kf c13 hf
            refine lv_aload_n hx hb dX12_move_59 rfl (lv_at hl 0 rfl) ?_
            refine lv_iconst (v := (5 : Int32)) hx hb dX12_move_60 (by decide) ?_
            obtain ⟨r36, hr36, hf⟩ := kb hf
            refine kV (As := [.int (5 : Int32)]) (rest := []) ⟨hx, hb, hml, hown, hts⟩ (c_X12_error l G N a_this a_this_s a_this_kept a_this_errors a_this_step a_this_named a_this_pile a_this_told a_this_beside1 a_this_row a_this_best a_this_worthOf a_this_trace a_this_bits a_this_sizes a_this_number a_this_aside (5 : Int32) this_images this_at this_open this_steps this_use this_bestNet this_bestMore this_leastApart this_found this_first this_leastPaid this_traced this_speaks this_isParted this_errors r36 hr36) (kcV 1 hts tw_1087 tw_92 tw_1084 tw_1086 tw_43 hd_X12_error ⟨Nat.le_of_ble_eq_true rfl, Nat.le_of_ble_eq_true rfl⟩) dX12_move_61 hl.1 hK hAm hA hP hD hS 0 (ci := 12) rfl rfl rfl [0, 3] rfl rfl rfl [1] rfl rfl rfl (Nat.le_of_ble_eq_true rfl) ⟨Nat.le_refl _, Nat.le_refl _⟩ (fun H locs hP hD hS => ?_)
            have hP : va_P (gD G) vwCl (k_X12_move G a_this a_this_s a_this_kept a_this_errors a_this_step a_this_named a_this_pile a_this_told a_this_beside1 a_this_row a_this_best a_this_worthOf a_this_trace a_this_bits a_this_sizes a_this_number a_this_aside this_images this_at this_open this_steps this_use this_bestNet this_bestMore this_leastApart this_found this_first this_leastPaid this_traced this_speaks this_isParted this_aside this_bits r36.2 this_number this_sizes) H := hP
            have hD : va_D A (k_X12_move G a_this a_this_s a_this_kept a_this_errors a_this_step a_this_named a_this_pile a_this_told a_this_beside1 a_this_row a_this_best a_this_worthOf a_this_trace a_this_bits a_this_sizes a_this_number a_this_aside this_images this_at this_open this_steps this_use this_bestNet this_bestMore this_leastApart this_found this_first this_leastPaid this_traced this_speaks this_isParted this_aside this_bits r36.2 this_number this_sizes) := hD
            have ho := ks hf
            subst ho
            exact kiret hx hb hr hlk hP hD hS hQ dX12_move_64
        · replace hf := kt c10 hf
          refine lv_aload_n hx hb dX12_move_38 rfl (lv_at hl 0 rfl) ?_
          refine lv_iconst (v := (2 : Int32)) hx hb dX12_move_39 (by decide) ?_
          obtain ⟨r37, hr37, hf⟩ := kb hf
          refine kV (As := [.int (2 : Int32)]) (rest := []) ⟨hx, hb, hml, hown, hts⟩ (c_X12_error l G N a_this a_this_s a_this_kept a_this_errors a_this_step a_this_named a_this_pile a_this_told a_this_beside1 a_this_row a_this_best a_this_worthOf a_this_trace a_this_bits a_this_sizes a_this_number a_this_aside (2 : Int32) this_images this_at this_open this_steps this_use this_bestNet this_bestMore this_leastApart this_found this_first this_leastPaid this_traced this_speaks this_isParted this_errors r37 hr37) (kcV 1 hts tw_1087 tw_92 tw_1084 tw_1086 tw_43 hd_X12_error ⟨Nat.le_of_ble_eq_true rfl, Nat.le_of_ble_eq_true rfl⟩) dX12_move_40 hl.1 hK hAm hA hP hD hS 0 (ci := 12) rfl rfl rfl [0, 3] rfl rfl rfl [1] rfl rfl rfl (Nat.le_of_ble_eq_true rfl) ⟨Nat.le_refl _, Nat.le_refl _⟩ (fun H locs hP hD hS => ?_)
          have hP : va_P (gD G) vwCl (k_X12_move G a_this a_this_s a_this_kept a_this_errors a_this_step a_this_named a_this_pile a_this_told a_this_beside1 a_this_row a_this_best a_this_worthOf a_this_trace a_this_bits a_this_sizes a_this_number a_this_aside this_images this_at this_open this_steps this_use this_bestNet this_bestMore this_leastApart this_found this_first this_leastPaid this_traced this_speaks this_isParted this_aside this_bits r37.2 this_number this_sizes) H := hP
          have hD : va_D A (k_X12_move G a_this a_this_s a_this_kept a_this_errors a_this_step a_this_named a_this_pile a_this_told a_this_beside1 a_this_row a_this_best a_this_worthOf a_this_trace a_this_bits a_this_sizes a_this_number a_this_aside this_images this_at this_open this_steps this_use this_bestNet this_bestMore this_leastApart this_found this_first this_leastPaid this_traced this_speaks this_isParted this_aside this_bits r37.2 this_number this_sizes) := hD
          have ho := ks hf
          subst ho
          exact kiret hx hb hr hlk hP hD hS hQ dX12_move_43
    · replace hf := kt c5 hf
      refine lv_aload_n hx hb dX12_move_14 rfl (lv_at hl 0 rfl) ?_
      refine lv_iconst (v := (1 : Int32)) hx hb dX12_move_15 (by decide) ?_
      obtain ⟨r38, hr38, hf⟩ := kb hf
      refine kV (As := [.int (1 : Int32)]) (rest := []) ⟨hx, hb, hml, hown, hts⟩ (c_X12_error l G N a_this a_this_s a_this_kept a_this_errors a_this_step a_this_named a_this_pile a_this_told a_this_beside1 a_this_row a_this_best a_this_worthOf a_this_trace a_this_bits a_this_sizes a_this_number a_this_aside (1 : Int32) this_images this_at this_open this_steps this_use this_bestNet this_bestMore this_leastApart this_found this_first this_leastPaid this_traced this_speaks this_isParted this_errors r38 hr38) (kcV 1 hts tw_1087 tw_92 tw_1084 tw_1086 tw_43 hd_X12_error ⟨Nat.le_of_ble_eq_true rfl, Nat.le_of_ble_eq_true rfl⟩) dX12_move_16 hl.1 hK hAm hA hP hD hS 0 (ci := 12) rfl rfl rfl [0, 3] rfl rfl rfl [1] rfl rfl rfl (Nat.le_of_ble_eq_true rfl) ⟨Nat.le_refl _, Nat.le_refl _⟩ (fun H locs hP hD hS => ?_)
      have hP : va_P (gD G) vwCl (k_X12_move G a_this a_this_s a_this_kept a_this_errors a_this_step a_this_named a_this_pile a_this_told a_this_beside1 a_this_row a_this_best a_this_worthOf a_this_trace a_this_bits a_this_sizes a_this_number a_this_aside this_images this_at this_open this_steps this_use this_bestNet this_bestMore this_leastApart this_found this_first this_leastPaid this_traced this_speaks this_isParted this_aside this_bits r38.2 this_number this_sizes) H := hP
      have hD : va_D A (k_X12_move G a_this a_this_s a_this_kept a_this_errors a_this_step a_this_named a_this_pile a_this_told a_this_beside1 a_this_row a_this_best a_this_worthOf a_this_trace a_this_bits a_this_sizes a_this_number a_this_aside this_images this_at this_open this_steps this_use this_bestNet this_bestMore this_leastApart this_found this_first this_leastPaid this_traced this_speaks this_isParted this_aside this_bits r38.2 this_number this_sizes) := hD
      have ho := ks hf
      subst ho
      exact kiret hx hb hr hlk hP hD hS hQ dX12_move_19
abbrev k_X12_prices (G : KG) (a_this : Nat) (a_this_s : Nat) (a_this_kept : Nat) (a_this_errors : Nat) (a_this_step : Nat) (a_this_named : Nat) (a_this_pile : Nat) (a_this_told : Nat) (a_this_beside1 : Nat) (a_this_row : Nat) (a_this_best : Nat) (a_this_worthOf : Nat) (a_this_trace : Nat) (a_this_bits : Nat) (a_this_sizes : Nat) (a_this_number : Nat) (a_this_aside : Nat) (this_images : Int32) (this_at : Int32) (this_open : Int32) (this_steps : Int32) (this_use : Int32) (this_bestNet : Int32) (this_bestMore : Int32) (this_leastApart : Int32) (this_found : Int32) (this_first : Int32) (this_leastPaid : Int32) (this_traced : Int32) (this_speaks : Int32) (this_isParted : Int32) (this_bits : Nat → Int32) (this_errors : Nat → Int32) (this_number : Nat → Int32) (this_s : Nat → Int32) (this_sizes : Nat → Int32) : va_W := [(a_this, .inr (12, [.ref a_this_s, .ref a_this_kept, .int this_images, .ref a_this_errors, .int this_at, .int this_open, .int this_steps, .int this_use, .ref a_this_step, .ref a_this_named, .ref a_this_pile, .ref a_this_told, .ref a_this_beside1, .ref a_this_row, .ref a_this_best, .int this_bestNet, .int this_bestMore, .ref a_this_worthOf, .int this_leastApart, .int this_found, .int this_first, .int this_leastPaid, .ref a_this_trace, .int this_traced, .int this_speaks, .int this_isParted, .ref a_this_bits, .ref a_this_sizes, .ref a_this_number, .ref a_this_aside])), (a_this_bits, .inl (gI G, 4, .inl this_bits)), (a_this_errors, .inl (gI G, 7, .inl this_errors)), (a_this_number, .inl (gI G, 96, .inl this_number)), (a_this_s, .inl (gI G, 374, .inl this_s)), (a_this_sizes, .inl (gI G, 4, .inl this_sizes))]
def f_X12_prices_30 (N : Nat) (x1 : Int32) (this_number : Nat → Int32) (this_sizes : Nat → Int32) (K : Int32 → (Nat → Int32) → Option (Int32 × (Nat → Int32) × (Nat → Int32))) : Nat → Int32 → (Nat → Int32) → Option (Int32 × (Nat → Int32) × (Nat → Int32))
  | 0, _, _ => none
  | n + 1, y2, this_s_v => (if vin x1 4 = true then (if (this_sizes x1.toNatClampNeg) ≤ y2 then (K y2 this_s_v) else (if (8 : Int32) ≤ y2 then (K y2 this_s_v) else (if vin (((24 : Int32) * x1) + y2) 96 = true then ((f_X12_in N (this_number (((24 : Int32) * x1) + y2).toNatClampNeg) (1 : Int32) (9999 : Int32)).bind fun r9 => (if r9 = 0 then (K y2 this_s_v) else (if vin (((24 : Int32) * x1) + y2) 96 = true then (if vin ((8 : Int32) + y2) 374 = true then (f_X12_prices_30 N x1 this_number this_sizes K n (y2 + (1 : Int32)) (upd this_s_v ((8 : Int32) + y2).toNatClampNeg (this_number (((24 : Int32) * x1) + y2).toNatClampNeg))) else none) else none))) else none))) else none)
def f_X12_prices (N : Nat) (p0 : Int32) (this_bits : Nat → Int32) (this_errors : Nat → Int32) (this_number : Nat → Int32) (this_s : Nat → Int32) (this_sizes : Nat → Int32) : Option (Int32 × (Nat → Int32) × (Nat → Int32)) := ((f_X12_isSheet N p0).bind fun r1 => (if r1 = 0 then ((f_X12_error N (1 : Int32) this_errors).bind fun r24 => (some (r24.1, r24.2, this_s))) else (if vin p0 4 = true then (if (this_bits p0.toNatClampNeg) = 0 then ((f_X12_error N (2 : Int32) this_errors).bind fun r23 => (some (r23.1, r23.2, this_s))) else (f_X12_prices_30 N p0 this_number this_sizes (fun v2_13 this_s_13 => (some (v2_13, this_errors, this_s_13))) N (0 : Int32) this_s)) else none)))
set_option maxRecDepth 100000 in
set_option maxHeartbeats 4000000 in
theorem c_X12_prices (l : Launch) (G : KG) (N : Nat) (a_this : Nat) (a_this_s : Nat) (a_this_kept : Nat) (a_this_errors : Nat) (a_this_step : Nat) (a_this_named : Nat) (a_this_pile : Nat) (a_this_told : Nat) (a_this_beside1 : Nat) (a_this_row : Nat) (a_this_best : Nat) (a_this_worthOf : Nat) (a_this_trace : Nat) (a_this_bits : Nat) (a_this_sizes : Nat) (a_this_number : Nat) (a_this_aside : Nat) (p0 : Int32) (this_images : Int32) (this_at : Int32) (this_open : Int32) (this_steps : Int32) (this_use : Int32) (this_bestNet : Int32) (this_bestMore : Int32) (this_leastApart : Int32) (this_found : Int32) (this_first : Int32) (this_leastPaid : Int32) (this_traced : Int32) (this_speaks : Int32) (this_isParted : Int32) (this_bits : Nat → Int32) (this_errors : Nat → Int32) (this_number : Nat → Int32) (this_s : Nat → Int32) (this_sizes : Nat → Int32)  (out : Int32 × (Nat → Int32) × (Nat → Int32)) (hf : f_X12_prices N p0 this_bits this_errors this_number this_s this_sizes = some out) : KM l G yX12_prices (kw yX12_prices cX12_prices 3 (some .int)) 2 42 [.ref a_this, .int p0] (k_X12_prices G a_this a_this_s a_this_kept a_this_errors a_this_step a_this_named a_this_pile a_this_told a_this_beside1 a_this_row a_this_best a_this_worthOf a_this_trace a_this_bits a_this_sizes a_this_number a_this_aside this_images this_at this_open this_steps this_use this_bestNet this_bestMore this_leastApart this_found this_first this_leastPaid this_traced this_speaks this_isParted this_bits this_errors this_number this_s this_sizes) (k_X12_prices G a_this a_this_s a_this_kept a_this_errors a_this_step a_this_named a_this_pile a_this_told a_this_beside1 a_this_row a_this_best a_this_worthOf a_this_trace a_this_bits a_this_sizes a_this_number a_this_aside this_images this_at this_open this_steps this_use this_bestNet this_bestMore this_leastApart this_found this_first this_leastPaid this_traced this_speaks this_isParted this_bits (out.2.1) this_number (out.2.2) this_sizes) (some (.int (out.1))) := by
  refine KM.of (by decide) (Nat.le_of_ble_eq_true rfl) ?_
  intro p e s m below meth c A ls args Q Fx0 hP hK hD hA hS hAm hQ hl
  obtain ⟨hx, hb, hr, hml, hts, hown, hlk, hnm⟩ := Fx0
  have hown : s.vm.findClass RX12 = some m.cls := hown
  have hl : lv_has ls 3 [(0, .ref a_this), (1, .int p0)] := hl
  have fl_46 := hts _ tw_1012
  have fl_49 := hts _ tw_1013
  have fl_52 := hts _ tw_1014
  have fl_7 := hts _ tw_986
  unfold f_X12_prices at hf
  refine lv_iload_n hx hb dX12_prices_0 rfl (lv_at hl 1 rfl) ?_
  obtain ⟨r1, hr1, hf⟩ := kb hf
  refine kS (As := [.int p0]) (rest := []) ⟨hx, hb, hml, hown, hts⟩ (c_X12_isSheet l G N p0 r1 hr1) (kcS 1 hts tw_1226 tw_92 tw_1224 tw_1225 hd_X12_isSheet ⟨Nat.le_of_ble_eq_true rfl, Nat.le_of_ble_eq_true rfl⟩) dX12_prices_1 hl.1 hK hAm hA hP hD hS [] rfl rfl rfl [] rfl rfl rfl (Nat.le_of_ble_eq_true rfl) ⟨Nat.le_refl _, Nat.le_refl _⟩ (fun H locs hP hD hS => ?_)
  have hP : va_P (gD G) vwCl (k_X12_prices G a_this a_this_s a_this_kept a_this_errors a_this_step a_this_named a_this_pile a_this_told a_this_beside1 a_this_row a_this_best a_this_worthOf a_this_trace a_this_bits a_this_sizes a_this_number a_this_aside this_images this_at this_open this_steps this_use this_bestNet this_bestMore this_leastApart this_found this_first this_leastPaid this_traced this_speaks this_isParted this_bits this_errors this_number this_s this_sizes) H := hP
  have hD : va_D A (k_X12_prices G a_this a_this_s a_this_kept a_this_errors a_this_step a_this_named a_this_pile a_this_told a_this_beside1 a_this_row a_this_best a_this_worthOf a_this_trace a_this_bits a_this_sizes a_this_number a_this_aside this_images this_at this_open this_steps this_use this_bestNet this_bestMore this_leastApart this_found this_first this_leastPaid this_traced this_speaks this_isParted this_bits this_errors this_number this_s this_sizes) := hD
  refine lv_if_ne (tgt := 13) hx hb dX12_prices_4 (by decide) (fun c2 => ?_) (fun c2 => ?_)
  · replace hf := kf c2 hf
    refine lv_aload_n hx hb dX12_prices_13 rfl (lv_at hl 0 rfl) ?_
    refine va_get (D := gD G) (ci := 12) (C := RX12) (T := TX12) (N := 30) hx hb hts hin_X12 hown hK hP 0 rfl rfl 26 (by decide) fl_46 (fun _ h9 => h9) rfl dX12_prices_14 ?_
    refine lv_iload_n hx hb dX12_prices_17 rfl (lv_at hl 1 rfl) ?_
    obtain ⟨g3, hf⟩ := kg hf
    refine va_iald hx hb hK hP 1 0 rfl rfl (vin_of g3) dX12_prices_18 ?_
    refine lv_if_ne (tgt := 28) hx hb dX12_prices_19 (by decide) (fun c4 => ?_) (fun c4 => ?_)
    · replace hf := kf c4 hf
      refine lv_iconst (v := (0 : Int32)) hx hb dX12_prices_28 (by decide) ?_
      refine lv_istore_n (lv' := [(2, .int (0 : Int32)), (0, .ref a_this), (1, .int p0)]) hx hb dX12_prices_29 rfl hl (by decide) rfl (fun ls hl => ?_)
      have L6 : ∀ (K : Int32 → (Nat → Int32) → Option (Int32 × (Nat → Int32) × (Nat → Int32))), (∀ (v2_6 : Int32) (this_s_6 : Nat → Int32) (H : Heap) (locs : List Loc), va_P (gD G) vwCl (k_X12_prices G a_this a_this_s a_this_kept a_this_errors a_this_step a_this_named a_this_pile a_this_told a_this_beside1 a_this_row a_this_best a_this_worthOf a_this_trace a_this_bits a_this_sizes a_this_number a_this_aside this_images this_at this_open this_steps this_use this_bestNet this_bestMore this_leastApart this_found this_first this_leastPaid this_traced this_speaks this_isParted this_bits this_errors this_number this_s_6 this_sizes) H → va_D A (k_X12_prices G a_this a_this_s a_this_kept a_this_errors a_this_step a_this_named a_this_pile a_this_told a_this_beside1 a_this_row a_this_best a_this_worthOf a_this_trace a_this_bits a_this_sizes a_this_number a_this_aside this_images this_at this_open this_steps this_use this_bestNet this_bestMore this_leastApart this_found this_first this_leastPaid this_traced this_speaks this_isParted this_bits this_errors this_number this_s_6 this_sizes) → va_S A s.heap H locs → ∀ (ls : Array Slot), lv_has ls 3 [(0, .ref a_this), (1, .int p0), (2, .int v2_6)] → K v2_6 this_s_6 = some out → W p l e (kR 2 0 0 42) s m args below meth c H locs 0 0 Q (F0 m 93 ls [])) → ∀ (n : Nat), ∀ (v2_6 : Int32) (this_s_6 : Nat → Int32) (H : Heap) (locs : List Loc), va_P (gD G) vwCl (k_X12_prices G a_this a_this_s a_this_kept a_this_errors a_this_step a_this_named a_this_pile a_this_told a_this_beside1 a_this_row a_this_best a_this_worthOf a_this_trace a_this_bits a_this_sizes a_this_number a_this_aside this_images this_at this_open this_steps this_use this_bestNet this_bestMore this_leastApart this_found this_first this_leastPaid this_traced this_speaks this_isParted this_bits this_errors this_number this_s_6 this_sizes) H → va_D A (k_X12_prices G a_this a_this_s a_this_kept a_this_errors a_this_step a_this_named a_this_pile a_this_told a_this_beside1 a_this_row a_this_best a_this_worthOf a_this_trace a_this_bits a_this_sizes a_this_number a_this_aside this_images this_at this_open this_steps this_use this_bestNet this_bestMore this_leastApart this_found this_first this_leastPaid this_traced this_speaks this_isParted this_bits this_errors this_number this_s_6 this_sizes) → va_S A s.heap H locs → ∀ (ls : Array Slot), lv_has ls 3 [(0, .ref a_this), (1, .int p0), (2, .int v2_6)] → f_X12_prices_30 N p0 this_number this_sizes K n v2_6 this_s_6 = some out → W p l e (kR 2 0 0 42) s m args below meth c H locs 0 0 Q (F0 m 30 ls []) := by
        intro K hK6 n
        induction n with
        | zero =>
          intro v2_6 this_s_6 H locs hP hD hS ls hl hf
          rw [f_X12_prices_30] at hf
          cases hf
        | succ n ih =>
          intro v2_6 this_s_6 H locs hP hD hS ls hl hf
          rw [f_X12_prices_30] at hf
          refine lv_iload_n hx hb dX12_prices_30 rfl (lv_at hl 2 rfl) ?_
          refine lv_aload_n hx hb dX12_prices_31 rfl (lv_at hl 0 rfl) ?_
          refine va_get (D := gD G) (ci := 12) (C := RX12) (T := TX12) (N := 30) hx hb hts hin_X12 hown hK hP 0 rfl rfl 27 (by decide) fl_49 (fun _ h9 => h9) rfl dX12_prices_32 ?_
          refine lv_iload_n hx hb dX12_prices_35 rfl (lv_at hl 1 rfl) ?_
          obtain ⟨g7, hf⟩ := kg hf
          refine va_iald hx hb hK hP 5 0 rfl rfl (vin_of g7) dX12_prices_36 ?_
          refine lv_icmp_ge (tgt := 93) hx hb dX12_prices_37 (by decide) (fun c8 => ?_) (fun c8 => ?_)
          · replace hf := kt c8 hf
            exact hK6 v2_6 this_s_6 _ _ hP hD hS ls (lv_sub hl [0, 1, 2] rfl) hf
          · replace hf := kf c8 hf
            refine lv_iload_n hx hb dX12_prices_40 rfl (lv_at hl 2 rfl) ?_
            refine lv_bipush (v := (8 : Int32)) hx hb dX12_prices_41 (by decide) ?_
            refine lv_icmp_ge (tgt := 93) hx hb dX12_prices_43 (by decide) (fun c9 => ?_) (fun c9 => ?_)
            · replace hf := kt c9 hf
              exact hK6 v2_6 this_s_6 _ _ hP hD hS ls (lv_sub hl [0, 1, 2] rfl) hf
            · replace hf := kf c9 hf
              refine lv_aload_n hx hb dX12_prices_46 rfl (lv_at hl 0 rfl) ?_
              refine va_get (D := gD G) (ci := 12) (C := RX12) (T := TX12) (N := 30) hx hb hts hin_X12 hown hK hP 0 rfl rfl 28 (by decide) fl_52 (fun _ h9 => h9) rfl dX12_prices_47 ?_
              refine lv_bipush (v := (24 : Int32)) hx hb dX12_prices_50 (by decide) ?_
              refine lv_iload_n hx hb dX12_prices_52 rfl (lv_at hl 1 rfl) ?_
              refine lv_imul hx hb dX12_prices_53 ?_
              refine lv_iload_n hx hb dX12_prices_54 rfl (lv_at hl 2 rfl) ?_
              refine lv_iadd hx hb dX12_prices_55 ?_
              obtain ⟨g10, hf⟩ := kg hf
              refine va_iald hx hb hK hP 3 0 rfl rfl (vin_of g10) dX12_prices_56 ?_
              refine lv_iconst (v := (1 : Int32)) hx hb dX12_prices_57 (by decide) ?_
              refine lv_sipush (v := (9999 : Int32)) hx hb dX12_prices_58 (by decide) ?_
              obtain ⟨r11, hr11, hf⟩ := kb hf
              refine kS (As := [.int (this_number (((24 : Int32) * p0) + v2_6).toNatClampNeg), .int (1 : Int32), .int (9999 : Int32)]) (rest := []) ⟨hx, hb, hml, hown, hts⟩ (c_X12_in l G N (this_number (((24 : Int32) * p0) + v2_6).toNatClampNeg) (1 : Int32) (9999 : Int32) r11 hr11) (kcS 3 hts tw_1083 tw_92 tw_1081 tw_1082 hd_X12_in ⟨Nat.le_of_ble_eq_true rfl, Nat.le_of_ble_eq_true rfl⟩) dX12_prices_61 hl.1 hK hAm hA hP hD hS [] rfl rfl rfl [] rfl rfl rfl (Nat.le_of_ble_eq_true rfl) ⟨Nat.le_refl _, Nat.le_refl _⟩ (fun H locs hP hD hS => ?_)
              have hP : va_P (gD G) vwCl (k_X12_prices G a_this a_this_s a_this_kept a_this_errors a_this_step a_this_named a_this_pile a_this_told a_this_beside1 a_this_row a_this_best a_this_worthOf a_this_trace a_this_bits a_this_sizes a_this_number a_this_aside this_images this_at this_open this_steps this_use this_bestNet this_bestMore this_leastApart this_found this_first this_leastPaid this_traced this_speaks this_isParted this_bits this_errors this_number this_s_6 this_sizes) H := hP
              have hD : va_D A (k_X12_prices G a_this a_this_s a_this_kept a_this_errors a_this_step a_this_named a_this_pile a_this_told a_this_beside1 a_this_row a_this_best a_this_worthOf a_this_trace a_this_bits a_this_sizes a_this_number a_this_aside this_images this_at this_open this_steps this_use this_bestNet this_bestMore this_leastApart this_found this_first this_leastPaid this_traced this_speaks this_isParted this_bits this_errors this_number this_s_6 this_sizes) := hD
              refine lv_if_eq (tgt := 93) hx hb dX12_prices_64 (by decide) (fun c12 => ?_) (fun c12 => ?_)
              · replace hf := kt c12 hf
                exact hK6 v2_6 this_s_6 _ _ hP hD hS ls (lv_sub hl [0, 1, 2] rfl) hf
              · replace hf := kf c12 hf
                refine lv_aload_n hx hb dX12_prices_67 rfl (lv_at hl 0 rfl) ?_
                refine va_get (D := gD G) (ci := 12) (C := RX12) (T := TX12) (N := 30) hx hb hts hin_X12 hown hK hP 0 rfl rfl 0 (by decide) fl_7 (fun _ h9 => h9) rfl dX12_prices_68 ?_
                refine lv_bipush (v := (8 : Int32)) hx hb dX12_prices_71 (by decide) ?_
                refine lv_iload_n hx hb dX12_prices_73 rfl (lv_at hl 2 rfl) ?_
                refine lv_iadd hx hb dX12_prices_74 ?_
                refine lv_aload_n hx hb dX12_prices_75 rfl (lv_at hl 0 rfl) ?_
                refine va_get (D := gD G) (ci := 12) (C := RX12) (T := TX12) (N := 30) hx hb hts hin_X12 hown hK hP 0 rfl rfl 28 (by decide) fl_52 (fun _ h9 => h9) rfl dX12_prices_76 ?_
                refine lv_bipush (v := (24 : Int32)) hx hb dX12_prices_79 (by decide) ?_
                refine lv_iload_n hx hb dX12_prices_81 rfl (lv_at hl 1 rfl) ?_
                refine lv_imul hx hb dX12_prices_82 ?_
                refine lv_iload_n hx hb dX12_prices_83 rfl (lv_at hl 2 rfl) ?_
                refine lv_iadd hx hb dX12_prices_84 ?_
                obtain ⟨g13, hf⟩ := kg hf
                refine va_iald hx hb hK hP 3 0 rfl rfl (vin_of g13) dX12_prices_85 ?_
                obtain ⟨g14, hf⟩ := kg hf
                refine va_iast hx hb hK hP hD hS 4 0 rfl rfl (vin_of g14) dX12_prices_86 (fun H locs hP hD hS => ?_)
                have hP : va_P (gD G) vwCl (k_X12_prices G a_this a_this_s a_this_kept a_this_errors a_this_step a_this_named a_this_pile a_this_told a_this_beside1 a_this_row a_this_best a_this_worthOf a_this_trace a_this_bits a_this_sizes a_this_number a_this_aside this_images this_at this_open this_steps this_use this_bestNet this_bestMore this_leastApart this_found this_first this_leastPaid this_traced this_speaks this_isParted this_bits this_errors this_number (upd this_s_6 ((8 : Int32) + v2_6).toNatClampNeg (this_number (((24 : Int32) * p0) + v2_6).toNatClampNeg)) this_sizes) H := hP
                have hD : va_D A (k_X12_prices G a_this a_this_s a_this_kept a_this_errors a_this_step a_this_named a_this_pile a_this_told a_this_beside1 a_this_row a_this_best a_this_worthOf a_this_trace a_this_bits a_this_sizes a_this_number a_this_aside this_images this_at this_open this_steps this_use this_bestNet this_bestMore this_leastApart this_found this_first this_leastPaid this_traced this_speaks this_isParted this_bits this_errors this_number (upd this_s_6 ((8 : Int32) + v2_6).toNatClampNeg (this_number (((24 : Int32) * p0) + v2_6).toNatClampNeg)) this_sizes) := hD
                refine lv_iinc (v := (v2_6 + (1 : Int32))) (lv' := [(2, .int (v2_6 + (1 : Int32))), (0, .ref a_this), (1, .int p0)]) hx hb dX12_prices_87 hl (k := 2) rfl rfl (by decide) rfl (fun ls hl => ?_)
                refine lv_goto (tgt := 30) hx hb dX12_prices_90 (by decide) ?_
                exact ih (v2_6 + (1 : Int32)) (upd this_s_6 ((8 : Int32) + v2_6).toNatClampNeg (this_number (((24 : Int32) * p0) + v2_6).toNatClampNeg)) _ _ hP hD hS ls (lv_sub hl [1, 2, 0] rfl) hf
      refine L6 _ (fun v2_5 this_s_5 H locs hP hD hS ls hl hf => ?_) N (0 : Int32) this_s _ _ hP hD hS ls (lv_sub hl [1, 2, 0] rfl) hf
      refine lv_iload_n hx hb dX12_prices_93 rfl (lv_at hl 2 rfl) ?_
      have ho := ks hf
      subst ho
      exact kiret hx hb hr hlk hP hD hS hQ dX12_prices_94
    · replace hf := kt c4 hf
      refine lv_aload_n hx hb dX12_prices_22 rfl (lv_at hl 0 rfl) ?_
      refine lv_iconst (v := (2 : Int32)) hx hb dX12_prices_23 (by decide) ?_
      obtain ⟨r15, hr15, hf⟩ := kb hf
      refine kV (As := [.int (2 : Int32)]) (rest := []) ⟨hx, hb, hml, hown, hts⟩ (c_X12_error l G N a_this a_this_s a_this_kept a_this_errors a_this_step a_this_named a_this_pile a_this_told a_this_beside1 a_this_row a_this_best a_this_worthOf a_this_trace a_this_bits a_this_sizes a_this_number a_this_aside (2 : Int32) this_images this_at this_open this_steps this_use this_bestNet this_bestMore this_leastApart this_found this_first this_leastPaid this_traced this_speaks this_isParted this_errors r15 hr15) (kcV 1 hts tw_1087 tw_92 tw_1084 tw_1086 tw_43 hd_X12_error ⟨Nat.le_of_ble_eq_true rfl, Nat.le_of_ble_eq_true rfl⟩) dX12_prices_24 hl.1 hK hAm hA hP hD hS 0 (ci := 12) rfl rfl rfl [0, 2] rfl rfl rfl [1] rfl rfl rfl (Nat.le_of_ble_eq_true rfl) ⟨Nat.le_refl _, Nat.le_refl _⟩ (fun H locs hP hD hS => ?_)
      have hP : va_P (gD G) vwCl (k_X12_prices G a_this a_this_s a_this_kept a_this_errors a_this_step a_this_named a_this_pile a_this_told a_this_beside1 a_this_row a_this_best a_this_worthOf a_this_trace a_this_bits a_this_sizes a_this_number a_this_aside this_images this_at this_open this_steps this_use this_bestNet this_bestMore this_leastApart this_found this_first this_leastPaid this_traced this_speaks this_isParted this_bits r15.2 this_number this_s this_sizes) H := hP
      have hD : va_D A (k_X12_prices G a_this a_this_s a_this_kept a_this_errors a_this_step a_this_named a_this_pile a_this_told a_this_beside1 a_this_row a_this_best a_this_worthOf a_this_trace a_this_bits a_this_sizes a_this_number a_this_aside this_images this_at this_open this_steps this_use this_bestNet this_bestMore this_leastApart this_found this_first this_leastPaid this_traced this_speaks this_isParted this_bits r15.2 this_number this_s this_sizes) := hD
      have ho := ks hf
      subst ho
      exact kiret hx hb hr hlk hP hD hS hQ dX12_prices_27
  · replace hf := kt c2 hf
    refine lv_aload_n hx hb dX12_prices_7 rfl (lv_at hl 0 rfl) ?_
    refine lv_iconst (v := (1 : Int32)) hx hb dX12_prices_8 (by decide) ?_
    obtain ⟨r16, hr16, hf⟩ := kb hf
    refine kV (As := [.int (1 : Int32)]) (rest := []) ⟨hx, hb, hml, hown, hts⟩ (c_X12_error l G N a_this a_this_s a_this_kept a_this_errors a_this_step a_this_named a_this_pile a_this_told a_this_beside1 a_this_row a_this_best a_this_worthOf a_this_trace a_this_bits a_this_sizes a_this_number a_this_aside (1 : Int32) this_images this_at this_open this_steps this_use this_bestNet this_bestMore this_leastApart this_found this_first this_leastPaid this_traced this_speaks this_isParted this_errors r16 hr16) (kcV 1 hts tw_1087 tw_92 tw_1084 tw_1086 tw_43 hd_X12_error ⟨Nat.le_of_ble_eq_true rfl, Nat.le_of_ble_eq_true rfl⟩) dX12_prices_9 hl.1 hK hAm hA hP hD hS 0 (ci := 12) rfl rfl rfl [0, 2] rfl rfl rfl [1] rfl rfl rfl (Nat.le_of_ble_eq_true rfl) ⟨Nat.le_refl _, Nat.le_refl _⟩ (fun H locs hP hD hS => ?_)
    have hP : va_P (gD G) vwCl (k_X12_prices G a_this a_this_s a_this_kept a_this_errors a_this_step a_this_named a_this_pile a_this_told a_this_beside1 a_this_row a_this_best a_this_worthOf a_this_trace a_this_bits a_this_sizes a_this_number a_this_aside this_images this_at this_open this_steps this_use this_bestNet this_bestMore this_leastApart this_found this_first this_leastPaid this_traced this_speaks this_isParted this_bits r16.2 this_number this_s this_sizes) H := hP
    have hD : va_D A (k_X12_prices G a_this a_this_s a_this_kept a_this_errors a_this_step a_this_named a_this_pile a_this_told a_this_beside1 a_this_row a_this_best a_this_worthOf a_this_trace a_this_bits a_this_sizes a_this_number a_this_aside this_images this_at this_open this_steps this_use this_bestNet this_bestMore this_leastApart this_found this_first this_leastPaid this_traced this_speaks this_isParted this_bits r16.2 this_number this_s this_sizes) := hD
    have ho := ks hf
    subst ho
    exact kiret hx hb hr hlk hP hD hS hQ dX12_prices_12
abbrev k_X12_image (G : KG) (a_this : Nat) (a_this_s : Nat) (a_this_kept : Nat) (a_this_errors : Nat) (a_this_step : Nat) (a_this_named : Nat) (a_this_pile : Nat) (a_this_told : Nat) (a_this_beside1 : Nat) (a_this_row : Nat) (a_this_best : Nat) (a_this_worthOf : Nat) (a_this_trace : Nat) (a_this_bits : Nat) (a_this_sizes : Nat) (a_this_number : Nat) (a_this_aside : Nat) (this_images : Int32) (this_at : Int32) (this_open : Int32) (this_steps : Int32) (this_use : Int32) (this_bestNet : Int32) (this_bestMore : Int32) (this_leastApart : Int32) (this_found : Int32) (this_first : Int32) (this_leastPaid : Int32) (this_traced : Int32) (this_speaks : Int32) (this_isParted : Int32) (this_kept : Nat → Int32) (this_s : Nat → Int32) : va_W := [(a_this, .inr (12, [.ref a_this_s, .ref a_this_kept, .int this_images, .ref a_this_errors, .int this_at, .int this_open, .int this_steps, .int this_use, .ref a_this_step, .ref a_this_named, .ref a_this_pile, .ref a_this_told, .ref a_this_beside1, .ref a_this_row, .ref a_this_best, .int this_bestNet, .int this_bestMore, .ref a_this_worthOf, .int this_leastApart, .int this_found, .int this_first, .int this_leastPaid, .ref a_this_trace, .int this_traced, .int this_speaks, .int this_isParted, .ref a_this_bits, .ref a_this_sizes, .ref a_this_number, .ref a_this_aside])), (a_this_kept, .inl (gI G, 374, .inl this_kept)), (a_this_s, .inl (gI G, 374, .inl this_s))]
def f_X12_image (N : Nat) (this_images : Int32) (this_kept : Nat → Int32) (this_s : Nat → Int32) : Option (Int32 × (Int32) × (Nat → Int32)) := ((f_X12_carry N this_s this_kept).bind fun r1 => (some ((this_images + (1 : Int32)), (this_images + (1 : Int32)), r1)))
set_option maxRecDepth 100000 in
set_option maxHeartbeats 4000000 in
theorem c_X12_image (l : Launch) (G : KG) (N : Nat) (a_this : Nat) (a_this_s : Nat) (a_this_kept : Nat) (a_this_errors : Nat) (a_this_step : Nat) (a_this_named : Nat) (a_this_pile : Nat) (a_this_told : Nat) (a_this_beside1 : Nat) (a_this_row : Nat) (a_this_best : Nat) (a_this_worthOf : Nat) (a_this_trace : Nat) (a_this_bits : Nat) (a_this_sizes : Nat) (a_this_number : Nat) (a_this_aside : Nat) (this_images : Int32) (this_at : Int32) (this_open : Int32) (this_steps : Int32) (this_use : Int32) (this_bestNet : Int32) (this_bestMore : Int32) (this_leastApart : Int32) (this_found : Int32) (this_first : Int32) (this_leastPaid : Int32) (this_traced : Int32) (this_speaks : Int32) (this_isParted : Int32) (this_kept : Nat → Int32) (this_s : Nat → Int32)  (out : Int32 × (Int32) × (Nat → Int32)) (hf : f_X12_image N this_images this_kept this_s = some out) : KM l G yX12_image (kw yX12_image cX12_image 1 (some .int)) 1 22 [.ref a_this] (k_X12_image G a_this a_this_s a_this_kept a_this_errors a_this_step a_this_named a_this_pile a_this_told a_this_beside1 a_this_row a_this_best a_this_worthOf a_this_trace a_this_bits a_this_sizes a_this_number a_this_aside this_images this_at this_open this_steps this_use this_bestNet this_bestMore this_leastApart this_found this_first this_leastPaid this_traced this_speaks this_isParted this_kept this_s) (k_X12_image G a_this a_this_s a_this_kept a_this_errors a_this_step a_this_named a_this_pile a_this_told a_this_beside1 a_this_row a_this_best a_this_worthOf a_this_trace a_this_bits a_this_sizes a_this_number a_this_aside (out.2.1) this_at this_open this_steps this_use this_bestNet this_bestMore this_leastApart this_found this_first this_leastPaid this_traced this_speaks this_isParted (out.2.2) this_s) (some (.int (out.1))) := by
  refine KM.of (by decide) (Nat.le_of_ble_eq_true rfl) ?_
  intro p e s m below meth c A ls args Q Fx0 hP hK hD hA hS hAm hQ hl
  obtain ⟨hx, hb, hr, hml, hts, hown, hlk, hnm⟩ := Fx0
  have hown : s.vm.findClass RX12 = some m.cls := hown
  have hl : lv_has ls 1 [(0, .ref a_this)] := hl
  have fl_7 := hts _ tw_986
  have fl_13 := hts _ tw_987
  have fl_269 := hts _ tw_988
  unfold f_X12_image at hf
  refine lv_aload_n hx hb dX12_image_0 rfl (lv_at hl 0 rfl) ?_
  refine va_get (D := gD G) (ci := 12) (C := RX12) (T := TX12) (N := 30) hx hb hts hin_X12 hown hK hP 0 rfl rfl 0 (by decide) fl_7 (fun _ h9 => h9) rfl dX12_image_1 ?_
  refine lv_aload_n hx hb dX12_image_4 rfl (lv_at hl 0 rfl) ?_
  refine va_get (D := gD G) (ci := 12) (C := RX12) (T := TX12) (N := 30) hx hb hts hin_X12 hown hK hP 0 rfl rfl 1 (by decide) fl_13 (fun _ h9 => h9) rfl dX12_image_5 ?_
  obtain ⟨r1, hr1, hf⟩ := kb hf
  refine kS (As := [.ref a_this_s, .ref a_this_kept]) (rest := []) ⟨hx, hb, hml, hown, hts⟩ (c_X12_carry l G N a_this_s a_this_kept this_s this_kept r1 hr1) (kcS 2 hts tw_1384 tw_92 tw_1382 tw_1383 hd_X12_carry ⟨Nat.le_of_ble_eq_true rfl, Nat.le_of_ble_eq_true rfl⟩) dX12_image_8 hl.1 hK hAm hA hP hD hS [2, 1] rfl rfl rfl [1] rfl rfl rfl (Nat.le_of_ble_eq_true rfl) ⟨Nat.le_refl _, Nat.le_refl _⟩ (fun H locs hP hD hS => ?_)
  have hP : va_P (gD G) vwCl (k_X12_image G a_this a_this_s a_this_kept a_this_errors a_this_step a_this_named a_this_pile a_this_told a_this_beside1 a_this_row a_this_best a_this_worthOf a_this_trace a_this_bits a_this_sizes a_this_number a_this_aside this_images this_at this_open this_steps this_use this_bestNet this_bestMore this_leastApart this_found this_first this_leastPaid this_traced this_speaks this_isParted r1 this_s) H := hP
  have hD : va_D A (k_X12_image G a_this a_this_s a_this_kept a_this_errors a_this_step a_this_named a_this_pile a_this_told a_this_beside1 a_this_row a_this_best a_this_worthOf a_this_trace a_this_bits a_this_sizes a_this_number a_this_aside this_images this_at this_open this_steps this_use this_bestNet this_bestMore this_leastApart this_found this_first this_leastPaid this_traced this_speaks this_isParted r1 this_s) := hD
  refine lv_aload_n hx hb dX12_image_11 rfl (lv_at hl 0 rfl) ?_
  refine lv_dup hx hb dX12_image_12 rfl ?_
  refine va_get (D := gD G) (ci := 12) (C := RX12) (T := TX12) (N := 30) hx hb hts hin_X12 hown hK hP 0 rfl rfl 2 (by decide) fl_269 (fun _ h9 => h9) rfl dX12_image_13 ?_
  refine lv_iconst (v := (1 : Int32)) hx hb dX12_image_16 (by decide) ?_
  refine lv_iadd hx hb dX12_image_17 ?_
  refine va_put (D := gD G) (ci := 12) (v := .int (this_images + (1 : Int32))) (ty := .int) (C := RX12) (T := TX12) (N := 30) hx hb hts hin_X12 tyX12 tyX12_ok nmX12 hown hK hP hD hS 0 rfl rfl 2 (by decide) fl_269 (fun _ h9 => h9) rfl (by decide +kernel) rfl rfl (Nat.le_of_ble_eq_true rfl) dX12_image_18 (fun H locs hP hD hS => ?_)
  have hP : va_P (gD G) vwCl (k_X12_image G a_this a_this_s a_this_kept a_this_errors a_this_step a_this_named a_this_pile a_this_told a_this_beside1 a_this_row a_this_best a_this_worthOf a_this_trace a_this_bits a_this_sizes a_this_number a_this_aside (this_images + (1 : Int32)) this_at this_open this_steps this_use this_bestNet this_bestMore this_leastApart this_found this_first this_leastPaid this_traced this_speaks this_isParted r1 this_s) H := hP
  have hD : va_D A (k_X12_image G a_this a_this_s a_this_kept a_this_errors a_this_step a_this_named a_this_pile a_this_told a_this_beside1 a_this_row a_this_best a_this_worthOf a_this_trace a_this_bits a_this_sizes a_this_number a_this_aside (this_images + (1 : Int32)) this_at this_open this_steps this_use this_bestNet this_bestMore this_leastApart this_found this_first this_leastPaid this_traced this_speaks this_isParted r1 this_s) := hD
  refine lv_aload_n hx hb dX12_image_21 rfl (lv_at hl 0 rfl) ?_
  refine va_get (D := gD G) (ci := 12) (C := RX12) (T := TX12) (N := 30) hx hb hts hin_X12 hown hK hP 0 rfl rfl 2 (by decide) fl_269 (fun _ h9 => h9) rfl dX12_image_22 ?_
  have ho := ks hf
  subst ho
  exact kiret hx hb hr hlk hP hD hS hQ dX12_image_25
abbrev k_X12_restore (G : KG) (a_this : Nat) (a_this_s : Nat) (a_this_kept : Nat) (a_this_errors : Nat) (a_this_step : Nat) (a_this_named : Nat) (a_this_pile : Nat) (a_this_told : Nat) (a_this_beside1 : Nat) (a_this_row : Nat) (a_this_best : Nat) (a_this_worthOf : Nat) (a_this_trace : Nat) (a_this_bits : Nat) (a_this_sizes : Nat) (a_this_number : Nat) (a_this_aside : Nat) (this_images : Int32) (this_at : Int32) (this_open : Int32) (this_steps : Int32) (this_use : Int32) (this_bestNet : Int32) (this_bestMore : Int32) (this_leastApart : Int32) (this_found : Int32) (this_first : Int32) (this_leastPaid : Int32) (this_traced : Int32) (this_speaks : Int32) (this_isParted : Int32) (this_errors : Nat → Int32) (this_kept : Nat → Int32) (this_s : Nat → Int32) : va_W := [(a_this, .inr (12, [.ref a_this_s, .ref a_this_kept, .int this_images, .ref a_this_errors, .int this_at, .int this_open, .int this_steps, .int this_use, .ref a_this_step, .ref a_this_named, .ref a_this_pile, .ref a_this_told, .ref a_this_beside1, .ref a_this_row, .ref a_this_best, .int this_bestNet, .int this_bestMore, .ref a_this_worthOf, .int this_leastApart, .int this_found, .int this_first, .int this_leastPaid, .ref a_this_trace, .int this_traced, .int this_speaks, .int this_isParted, .ref a_this_bits, .ref a_this_sizes, .ref a_this_number, .ref a_this_aside])), (a_this_errors, .inl (gI G, 7, .inl this_errors)), (a_this_kept, .inl (gI G, 374, .inl this_kept)), (a_this_s, .inl (gI G, 374, .inl this_s))]
def f_X12_restore (N : Nat) (this_images : Int32) (this_errors : Nat → Int32) (this_kept : Nat → Int32) (this_s : Nat → Int32) : Option (Int32 × (Nat → Int32) × (Nat → Int32)) := (if this_images = 0 then ((f_X12_error N (2 : Int32) this_errors).bind fun r3 => (some (r3.1, r3.2, this_s))) else ((f_X12_carry N this_kept this_s).bind fun r2 => (some ((r2 (0 : Int32).toNatClampNeg), this_errors, r2))))
set_option maxRecDepth 100000 in
set_option maxHeartbeats 4000000 in
theorem c_X12_restore (l : Launch) (G : KG) (N : Nat) (a_this : Nat) (a_this_s : Nat) (a_this_kept : Nat) (a_this_errors : Nat) (a_this_step : Nat) (a_this_named : Nat) (a_this_pile : Nat) (a_this_told : Nat) (a_this_beside1 : Nat) (a_this_row : Nat) (a_this_best : Nat) (a_this_worthOf : Nat) (a_this_trace : Nat) (a_this_bits : Nat) (a_this_sizes : Nat) (a_this_number : Nat) (a_this_aside : Nat) (this_images : Int32) (this_at : Int32) (this_open : Int32) (this_steps : Int32) (this_use : Int32) (this_bestNet : Int32) (this_bestMore : Int32) (this_leastApart : Int32) (this_found : Int32) (this_first : Int32) (this_leastPaid : Int32) (this_traced : Int32) (this_speaks : Int32) (this_isParted : Int32) (this_errors : Nat → Int32) (this_kept : Nat → Int32) (this_s : Nat → Int32)  (out : Int32 × (Nat → Int32) × (Nat → Int32)) (hf : f_X12_restore N this_images this_errors this_kept this_s = some out) : KM l G yX12_restore (kw yX12_restore cX12_restore 1 (some .int)) 1 22 [.ref a_this] (k_X12_restore G a_this a_this_s a_this_kept a_this_errors a_this_step a_this_named a_this_pile a_this_told a_this_beside1 a_this_row a_this_best a_this_worthOf a_this_trace a_this_bits a_this_sizes a_this_number a_this_aside this_images this_at this_open this_steps this_use this_bestNet this_bestMore this_leastApart this_found this_first this_leastPaid this_traced this_speaks this_isParted this_errors this_kept this_s) (k_X12_restore G a_this a_this_s a_this_kept a_this_errors a_this_step a_this_named a_this_pile a_this_told a_this_beside1 a_this_row a_this_best a_this_worthOf a_this_trace a_this_bits a_this_sizes a_this_number a_this_aside this_images this_at this_open this_steps this_use this_bestNet this_bestMore this_leastApart this_found this_first this_leastPaid this_traced this_speaks this_isParted (out.2.1) this_kept (out.2.2)) (some (.int (out.1))) := by
  refine KM.of (by decide) (Nat.le_of_ble_eq_true rfl) ?_
  intro p e s m below meth c A ls args Q Fx0 hP hK hD hA hS hAm hQ hl
  obtain ⟨hx, hb, hr, hml, hts, hown, hlk, hnm⟩ := Fx0
  have hown : s.vm.findClass RX12 = some m.cls := hown
  have hl : lv_has ls 1 [(0, .ref a_this)] := hl
  have fl_269 := hts _ tw_988
  have fl_13 := hts _ tw_987
  have fl_7 := hts _ tw_986
  unfold f_X12_restore at hf
  refine lv_aload_n hx hb dX12_restore_0 rfl (lv_at hl 0 rfl) ?_
  refine va_get (D := gD G) (ci := 12) (C := RX12) (T := TX12) (N := 30) hx hb hts hin_X12 hown hK hP 0 rfl rfl 2 (by decide) fl_269 (fun _ h9 => h9) rfl dX12_restore_1 ?_
  refine lv_if_ne (tgt := 13) hx hb dX12_restore_4 (by decide) (fun c1 => ?_) (fun c1 => ?_)
  · replace hf := kf c1 hf
    refine lv_aload_n hx hb dX12_restore_13 rfl (lv_at hl 0 rfl) ?_
    refine va_get (D := gD G) (ci := 12) (C := RX12) (T := TX12) (N := 30) hx hb hts hin_X12 hown hK hP 0 rfl rfl 1 (by decide) fl_13 (fun _ h9 => h9) rfl dX12_restore_14 ?_
    refine lv_aload_n hx hb dX12_restore_17 rfl (lv_at hl 0 rfl) ?_
    refine va_get (D := gD G) (ci := 12) (C := RX12) (T := TX12) (N := 30) hx hb hts hin_X12 hown hK hP 0 rfl rfl 0 (by decide) fl_7 (fun _ h9 => h9) rfl dX12_restore_18 ?_
    obtain ⟨r2, hr2, hf⟩ := kb hf
    refine kS (As := [.ref a_this_kept, .ref a_this_s]) (rest := []) ⟨hx, hb, hml, hown, hts⟩ (c_X12_carry l G N a_this_kept a_this_s this_kept this_s r2 hr2) (kcS 2 hts tw_1384 tw_92 tw_1382 tw_1383 hd_X12_carry ⟨Nat.le_of_ble_eq_true rfl, Nat.le_of_ble_eq_true rfl⟩) dX12_restore_21 hl.1 hK hAm hA hP hD hS [2, 3] rfl rfl rfl [1] rfl rfl rfl (Nat.le_of_ble_eq_true rfl) ⟨Nat.le_refl _, Nat.le_refl _⟩ (fun H locs hP hD hS => ?_)
    have hP : va_P (gD G) vwCl (k_X12_restore G a_this a_this_s a_this_kept a_this_errors a_this_step a_this_named a_this_pile a_this_told a_this_beside1 a_this_row a_this_best a_this_worthOf a_this_trace a_this_bits a_this_sizes a_this_number a_this_aside this_images this_at this_open this_steps this_use this_bestNet this_bestMore this_leastApart this_found this_first this_leastPaid this_traced this_speaks this_isParted this_errors this_kept r2) H := hP
    have hD : va_D A (k_X12_restore G a_this a_this_s a_this_kept a_this_errors a_this_step a_this_named a_this_pile a_this_told a_this_beside1 a_this_row a_this_best a_this_worthOf a_this_trace a_this_bits a_this_sizes a_this_number a_this_aside this_images this_at this_open this_steps this_use this_bestNet this_bestMore this_leastApart this_found this_first this_leastPaid this_traced this_speaks this_isParted this_errors this_kept r2) := hD
    refine lv_aload_n hx hb dX12_restore_24 rfl (lv_at hl 0 rfl) ?_
    refine va_get (D := gD G) (ci := 12) (C := RX12) (T := TX12) (N := 30) hx hb hts hin_X12 hown hK hP 0 rfl rfl 0 (by decide) fl_7 (fun _ h9 => h9) rfl dX12_restore_25 ?_
    refine lv_iconst (v := (0 : Int32)) hx hb dX12_restore_28 (by decide) ?_
    refine va_iald hx hb hK hP 3 0 rfl rfl (vin_of (by decide)) dX12_restore_29 ?_
    have ho := ks hf
    subst ho
    exact kiret hx hb hr hlk hP hD hS hQ dX12_restore_30
  · replace hf := kt c1 hf
    refine lv_aload_n hx hb dX12_restore_7 rfl (lv_at hl 0 rfl) ?_
    refine lv_iconst (v := (2 : Int32)) hx hb dX12_restore_8 (by decide) ?_
    obtain ⟨r3, hr3, hf⟩ := kb hf
    refine kV (As := [.int (2 : Int32)]) (rest := []) ⟨hx, hb, hml, hown, hts⟩ (c_X12_error l G N a_this a_this_s a_this_kept a_this_errors a_this_step a_this_named a_this_pile a_this_told a_this_beside1 a_this_row a_this_best a_this_worthOf a_this_trace a_this_bits a_this_sizes a_this_number a_this_aside (2 : Int32) this_images this_at this_open this_steps this_use this_bestNet this_bestMore this_leastApart this_found this_first this_leastPaid this_traced this_speaks this_isParted this_errors r3 hr3) (kcV 1 hts tw_1087 tw_92 tw_1084 tw_1086 tw_43 hd_X12_error ⟨Nat.le_of_ble_eq_true rfl, Nat.le_of_ble_eq_true rfl⟩) dX12_restore_9 hl.1 hK hAm hA hP hD hS 0 (ci := 12) rfl rfl rfl [0, 1] rfl rfl rfl [1] rfl rfl rfl (Nat.le_of_ble_eq_true rfl) ⟨Nat.le_refl _, Nat.le_refl _⟩ (fun H locs hP hD hS => ?_)
    have hP : va_P (gD G) vwCl (k_X12_restore G a_this a_this_s a_this_kept a_this_errors a_this_step a_this_named a_this_pile a_this_told a_this_beside1 a_this_row a_this_best a_this_worthOf a_this_trace a_this_bits a_this_sizes a_this_number a_this_aside this_images this_at this_open this_steps this_use this_bestNet this_bestMore this_leastApart this_found this_first this_leastPaid this_traced this_speaks this_isParted r3.2 this_kept this_s) H := hP
    have hD : va_D A (k_X12_restore G a_this a_this_s a_this_kept a_this_errors a_this_step a_this_named a_this_pile a_this_told a_this_beside1 a_this_row a_this_best a_this_worthOf a_this_trace a_this_bits a_this_sizes a_this_number a_this_aside this_images this_at this_open this_steps this_use this_bestNet this_bestMore this_leastApart this_found this_first this_leastPaid this_traced this_speaks this_isParted r3.2 this_kept this_s) := hD
    have ho := ks hf
    subst ho
    exact kiret hx hb hr hlk hP hD hS hQ dX12_restore_12
abbrev k_X12_tell (G : KG) (a_this : Nat) (a_this_s : Nat) (a_this_kept : Nat) (a_this_errors : Nat) (a_this_step : Nat) (a_this_named : Nat) (a_this_pile : Nat) (a_this_told : Nat) (a_this_beside1 : Nat) (a_this_row : Nat) (a_this_best : Nat) (a_this_worthOf : Nat) (a_this_trace : Nat) (a_this_bits : Nat) (a_this_sizes : Nat) (a_this_number : Nat) (a_this_aside : Nat) (this_images : Int32) (this_at : Int32) (this_open : Int32) (this_steps : Int32) (this_use : Int32) (this_bestNet : Int32) (this_bestMore : Int32) (this_leastApart : Int32) (this_found : Int32) (this_first : Int32) (this_leastPaid : Int32) (this_traced : Int32) (this_speaks : Int32) (this_isParted : Int32) (this_errors : Nat → Int32) (this_s : Nat → Int32) : va_W := [(a_this, .inr (12, [.ref a_this_s, .ref a_this_kept, .int this_images, .ref a_this_errors, .int this_at, .int this_open, .int this_steps, .int this_use, .ref a_this_step, .ref a_this_named, .ref a_this_pile, .ref a_this_told, .ref a_this_beside1, .ref a_this_row, .ref a_this_best, .int this_bestNet, .int this_bestMore, .ref a_this_worthOf, .int this_leastApart, .int this_found, .int this_first, .int this_leastPaid, .ref a_this_trace, .int this_traced, .int this_speaks, .int this_isParted, .ref a_this_bits, .ref a_this_sizes, .ref a_this_number, .ref a_this_aside])), (a_this_errors, .inl (gI G, 7, .inl this_errors)), (a_this_s, .inl (gI G, 374, .inl this_s))]
def f_X12_tell (N : Nat) (p0 : Int32) (this_errors : Nat → Int32) (this_s : Nat → Int32) : Option (Int32 × (Nat → Int32) × (Nat → Int32)) := (if (this_s (4 : Int32).toNatClampNeg) = (24 : Int32) then ((f_X12_error N (4 : Int32) this_errors).bind fun r3 => (some (r3.1, r3.2, this_s))) else (if vin ((350 : Int32) + (this_s (4 : Int32).toNatClampNeg)) 374 = true then (some (((upd (upd this_s ((350 : Int32) + (this_s (4 : Int32).toNatClampNeg)).toNatClampNeg p0) (4 : Int32).toNatClampNeg (((upd this_s ((350 : Int32) + (this_s (4 : Int32).toNatClampNeg)).toNatClampNeg p0) (4 : Int32).toNatClampNeg) + (1 : Int32))) (4 : Int32).toNatClampNeg), this_errors, (upd (upd this_s ((350 : Int32) + (this_s (4 : Int32).toNatClampNeg)).toNatClampNeg p0) (4 : Int32).toNatClampNeg (((upd this_s ((350 : Int32) + (this_s (4 : Int32).toNatClampNeg)).toNatClampNeg p0) (4 : Int32).toNatClampNeg) + (1 : Int32))))) else none))
set_option maxRecDepth 100000 in
set_option maxHeartbeats 4000000 in
theorem c_X12_tell (l : Launch) (G : KG) (N : Nat) (a_this : Nat) (a_this_s : Nat) (a_this_kept : Nat) (a_this_errors : Nat) (a_this_step : Nat) (a_this_named : Nat) (a_this_pile : Nat) (a_this_told : Nat) (a_this_beside1 : Nat) (a_this_row : Nat) (a_this_best : Nat) (a_this_worthOf : Nat) (a_this_trace : Nat) (a_this_bits : Nat) (a_this_sizes : Nat) (a_this_number : Nat) (a_this_aside : Nat) (p0 : Int32) (this_images : Int32) (this_at : Int32) (this_open : Int32) (this_steps : Int32) (this_use : Int32) (this_bestNet : Int32) (this_bestMore : Int32) (this_leastApart : Int32) (this_found : Int32) (this_first : Int32) (this_leastPaid : Int32) (this_traced : Int32) (this_speaks : Int32) (this_isParted : Int32) (this_errors : Nat → Int32) (this_s : Nat → Int32)  (out : Int32 × (Nat → Int32) × (Nat → Int32)) (hf : f_X12_tell N p0 this_errors this_s = some out) : KM l G yX12_tell (kw yX12_tell cX12_tell 2 (some .int)) 1 21 [.ref a_this, .int p0] (k_X12_tell G a_this a_this_s a_this_kept a_this_errors a_this_step a_this_named a_this_pile a_this_told a_this_beside1 a_this_row a_this_best a_this_worthOf a_this_trace a_this_bits a_this_sizes a_this_number a_this_aside this_images this_at this_open this_steps this_use this_bestNet this_bestMore this_leastApart this_found this_first this_leastPaid this_traced this_speaks this_isParted this_errors this_s) (k_X12_tell G a_this a_this_s a_this_kept a_this_errors a_this_step a_this_named a_this_pile a_this_told a_this_beside1 a_this_row a_this_best a_this_worthOf a_this_trace a_this_bits a_this_sizes a_this_number a_this_aside this_images this_at this_open this_steps this_use this_bestNet this_bestMore this_leastApart this_found this_first this_leastPaid this_traced this_speaks this_isParted (out.2.1) (out.2.2)) (some (.int (out.1))) := by
  refine KM.of (by decide) (Nat.le_of_ble_eq_true rfl) ?_
  intro p e s m below meth c A ls args Q Fx0 hP hK hD hA hS hAm hQ hl
  obtain ⟨hx, hb, hr, hml, hts, hown, hlk, hnm⟩ := Fx0
  have hown : s.vm.findClass RX12 = some m.cls := hown
  have hl : lv_has ls 2 [(0, .ref a_this), (1, .int p0)] := hl
  have fl_7 := hts _ tw_986
  unfold f_X12_tell at hf
  refine lv_aload_n hx hb dX12_tell_0 rfl (lv_at hl 0 rfl) ?_
  refine va_get (D := gD G) (ci := 12) (C := RX12) (T := TX12) (N := 30) hx hb hts hin_X12 hown hK hP 0 rfl rfl 0 (by decide) fl_7 (fun _ h9 => h9) rfl dX12_tell_1 ?_
  refine lv_iconst (v := (4 : Int32)) hx hb dX12_tell_4 (by decide) ?_
  refine va_iald hx hb hK hP 2 0 rfl rfl (vin_of (by decide)) dX12_tell_5 ?_
  refine lv_bipush (v := (24 : Int32)) hx hb dX12_tell_6 (by decide) ?_
  refine lv_icmp_ne (tgt := 17) hx hb dX12_tell_8 (by decide) (fun c1 => ?_) (fun c1 => ?_)
  · replace hf := kf c1 hf
    refine lv_aload_n hx hb dX12_tell_17 rfl (lv_at hl 0 rfl) ?_
    refine va_get (D := gD G) (ci := 12) (C := RX12) (T := TX12) (N := 30) hx hb hts hin_X12 hown hK hP 0 rfl rfl 0 (by decide) fl_7 (fun _ h9 => h9) rfl dX12_tell_18 ?_
    refine lv_sipush (v := (350 : Int32)) hx hb dX12_tell_21 (by decide) ?_
    refine lv_aload_n hx hb dX12_tell_24 rfl (lv_at hl 0 rfl) ?_
    refine va_get (D := gD G) (ci := 12) (C := RX12) (T := TX12) (N := 30) hx hb hts hin_X12 hown hK hP 0 rfl rfl 0 (by decide) fl_7 (fun _ h9 => h9) rfl dX12_tell_25 ?_
    refine lv_iconst (v := (4 : Int32)) hx hb dX12_tell_28 (by decide) ?_
    refine va_iald hx hb hK hP 2 0 rfl rfl (vin_of (by decide)) dX12_tell_29 ?_
    refine lv_iadd hx hb dX12_tell_30 ?_
    refine lv_iload_n hx hb dX12_tell_31 rfl (lv_at hl 1 rfl) ?_
    obtain ⟨g2, hf⟩ := kg hf
    refine va_iast hx hb hK hP hD hS 2 0 rfl rfl (vin_of g2) dX12_tell_32 (fun H locs hP hD hS => ?_)
    have hP : va_P (gD G) vwCl (k_X12_tell G a_this a_this_s a_this_kept a_this_errors a_this_step a_this_named a_this_pile a_this_told a_this_beside1 a_this_row a_this_best a_this_worthOf a_this_trace a_this_bits a_this_sizes a_this_number a_this_aside this_images this_at this_open this_steps this_use this_bestNet this_bestMore this_leastApart this_found this_first this_leastPaid this_traced this_speaks this_isParted this_errors (upd this_s ((350 : Int32) + (this_s (4 : Int32).toNatClampNeg)).toNatClampNeg p0)) H := hP
    have hD : va_D A (k_X12_tell G a_this a_this_s a_this_kept a_this_errors a_this_step a_this_named a_this_pile a_this_told a_this_beside1 a_this_row a_this_best a_this_worthOf a_this_trace a_this_bits a_this_sizes a_this_number a_this_aside this_images this_at this_open this_steps this_use this_bestNet this_bestMore this_leastApart this_found this_first this_leastPaid this_traced this_speaks this_isParted this_errors (upd this_s ((350 : Int32) + (this_s (4 : Int32).toNatClampNeg)).toNatClampNeg p0)) := hD
    refine lv_aload_n hx hb dX12_tell_33 rfl (lv_at hl 0 rfl) ?_
    refine va_get (D := gD G) (ci := 12) (C := RX12) (T := TX12) (N := 30) hx hb hts hin_X12 hown hK hP 0 rfl rfl 0 (by decide) fl_7 (fun _ h9 => h9) rfl dX12_tell_34 ?_
    refine lv_iconst (v := (4 : Int32)) hx hb dX12_tell_37 (by decide) ?_
    refine lv_dup2_11 hx hb dX12_tell_38 rfl rfl ?_
    refine va_iald hx hb hK hP 2 0 rfl rfl (vin_of (by decide)) dX12_tell_39 ?_
    refine lv_iconst (v := (1 : Int32)) hx hb dX12_tell_40 (by decide) ?_
    refine lv_iadd hx hb dX12_tell_41 ?_
    refine va_iast hx hb hK hP hD hS 2 0 rfl rfl (vin_of (by decide)) dX12_tell_42 (fun H locs hP hD hS => ?_)
    have hP : va_P (gD G) vwCl (k_X12_tell G a_this a_this_s a_this_kept a_this_errors a_this_step a_this_named a_this_pile a_this_told a_this_beside1 a_this_row a_this_best a_this_worthOf a_this_trace a_this_bits a_this_sizes a_this_number a_this_aside this_images this_at this_open this_steps this_use this_bestNet this_bestMore this_leastApart this_found this_first this_leastPaid this_traced this_speaks this_isParted this_errors (upd (upd this_s ((350 : Int32) + (this_s (4 : Int32).toNatClampNeg)).toNatClampNeg p0) (4 : Int32).toNatClampNeg (((upd this_s ((350 : Int32) + (this_s (4 : Int32).toNatClampNeg)).toNatClampNeg p0) (4 : Int32).toNatClampNeg) + (1 : Int32)))) H := hP
    have hD : va_D A (k_X12_tell G a_this a_this_s a_this_kept a_this_errors a_this_step a_this_named a_this_pile a_this_told a_this_beside1 a_this_row a_this_best a_this_worthOf a_this_trace a_this_bits a_this_sizes a_this_number a_this_aside this_images this_at this_open this_steps this_use this_bestNet this_bestMore this_leastApart this_found this_first this_leastPaid this_traced this_speaks this_isParted this_errors (upd (upd this_s ((350 : Int32) + (this_s (4 : Int32).toNatClampNeg)).toNatClampNeg p0) (4 : Int32).toNatClampNeg (((upd this_s ((350 : Int32) + (this_s (4 : Int32).toNatClampNeg)).toNatClampNeg p0) (4 : Int32).toNatClampNeg) + (1 : Int32)))) := hD
    refine lv_aload_n hx hb dX12_tell_43 rfl (lv_at hl 0 rfl) ?_
    refine va_get (D := gD G) (ci := 12) (C := RX12) (T := TX12) (N := 30) hx hb hts hin_X12 hown hK hP 0 rfl rfl 0 (by decide) fl_7 (fun _ h9 => h9) rfl dX12_tell_44 ?_
    refine lv_iconst (v := (4 : Int32)) hx hb dX12_tell_47 (by decide) ?_
    refine va_iald hx hb hK hP 2 0 rfl rfl (vin_of (by decide)) dX12_tell_48 ?_
    have ho := ks hf
    subst ho
    exact kiret hx hb hr hlk hP hD hS hQ dX12_tell_49
  · replace hf := kt c1 hf
    refine lv_aload_n hx hb dX12_tell_11 rfl (lv_at hl 0 rfl) ?_
    refine lv_iconst (v := (4 : Int32)) hx hb dX12_tell_12 (by decide) ?_
    obtain ⟨r3, hr3, hf⟩ := kb hf
    refine kV (As := [.int (4 : Int32)]) (rest := []) ⟨hx, hb, hml, hown, hts⟩ (c_X12_error l G N a_this a_this_s a_this_kept a_this_errors a_this_step a_this_named a_this_pile a_this_told a_this_beside1 a_this_row a_this_best a_this_worthOf a_this_trace a_this_bits a_this_sizes a_this_number a_this_aside (4 : Int32) this_images this_at this_open this_steps this_use this_bestNet this_bestMore this_leastApart this_found this_first this_leastPaid this_traced this_speaks this_isParted this_errors r3 hr3) (kcV 1 hts tw_1087 tw_92 tw_1084 tw_1086 tw_43 hd_X12_error ⟨Nat.le_of_ble_eq_true rfl, Nat.le_of_ble_eq_true rfl⟩) dX12_tell_13 hl.1 hK hAm hA hP hD hS 0 (ci := 12) rfl rfl rfl [0, 1] rfl rfl rfl [1] rfl rfl rfl (Nat.le_of_ble_eq_true rfl) ⟨Nat.le_refl _, Nat.le_refl _⟩ (fun H locs hP hD hS => ?_)
    have hP : va_P (gD G) vwCl (k_X12_tell G a_this a_this_s a_this_kept a_this_errors a_this_step a_this_named a_this_pile a_this_told a_this_beside1 a_this_row a_this_best a_this_worthOf a_this_trace a_this_bits a_this_sizes a_this_number a_this_aside this_images this_at this_open this_steps this_use this_bestNet this_bestMore this_leastApart this_found this_first this_leastPaid this_traced this_speaks this_isParted r3.2 this_s) H := hP
    have hD : va_D A (k_X12_tell G a_this a_this_s a_this_kept a_this_errors a_this_step a_this_named a_this_pile a_this_told a_this_beside1 a_this_row a_this_best a_this_worthOf a_this_trace a_this_bits a_this_sizes a_this_number a_this_aside this_images this_at this_open this_steps this_use this_bestNet this_bestMore this_leastApart this_found this_first this_leastPaid this_traced this_speaks this_isParted r3.2 this_s) := hD
    have ho := ks hf
    subst ho
    exact kiret hx hb hr hlk hP hD hS hQ dX12_tell_16
abbrev k_X12_check (G : KG) (a_this : Nat) (a_this_s : Nat) (a_this_kept : Nat) (a_this_errors : Nat) (a_this_step : Nat) (a_this_named : Nat) (a_this_pile : Nat) (a_this_told : Nat) (a_this_beside1 : Nat) (a_this_row : Nat) (a_this_best : Nat) (a_this_worthOf : Nat) (a_this_trace : Nat) (a_this_bits : Nat) (a_this_sizes : Nat) (a_this_number : Nat) (a_this_aside : Nat) (this_images : Int32) (this_at : Int32) (this_open : Int32) (this_steps : Int32) (this_use : Int32) (this_bestNet : Int32) (this_bestMore : Int32) (this_leastApart : Int32) (this_found : Int32) (this_first : Int32) (this_leastPaid : Int32) (this_traced : Int32) (this_speaks : Int32) (this_isParted : Int32) (this_errors : Nat → Int32) (this_named : Nat → Int32) (this_pile : Nat → Int32) (this_s : Nat → Int32) : va_W := [(a_this, .inr (12, [.ref a_this_s, .ref a_this_kept, .int this_images, .ref a_this_errors, .int this_at, .int this_open, .int this_steps, .int this_use, .ref a_this_step, .ref a_this_named, .ref a_this_pile, .ref a_this_told, .ref a_this_beside1, .ref a_this_row, .ref a_this_best, .int this_bestNet, .int this_bestMore, .ref a_this_worthOf, .int this_leastApart, .int this_found, .int this_first, .int this_leastPaid, .ref a_this_trace, .int this_traced, .int this_speaks, .int this_isParted, .ref a_this_bits, .ref a_this_sizes, .ref a_this_number, .ref a_this_aside])), (a_this_errors, .inl (gI G, 7, .inl this_errors)), (a_this_named, .inl (gI G, 128, .inl this_named)), (a_this_pile, .inl (gI G, 64, .inl this_pile)), (a_this_s, .inl (gI G, 374, .inl this_s))]
def f_X12_check_29 (N : Nat) (x1 : Int32) (x2 : Int32) (this_s : Nat → Int32) (K : Int32 → (Nat → Int32) → (Nat → Int32) → Option (Int32 × (Nat → Int32) × (Nat → Int32) × (Nat → Int32) × (Nat → Int32))) : Nat → Int32 → (Nat → Int32) → (Nat → Int32) → Option (Int32 × (Nat → Int32) × (Nat → Int32) × (Nat → Int32) × (Nat → Int32))
  | 0, _, _, _ => none
  | n + 1, y3, this_named_v, this_pile_v => (if x2 ≤ y3 then (K y3 this_named_v this_pile_v) else (if vin ((350 : Int32) + y3) 374 = true then ((f_X12_asked N x1 ((1 : Int32) + y3) (1 : Int32) this_named_v this_pile_v this_s).bind fun r5 => (if (this_s ((350 : Int32) + y3).toNatClampNeg) = r5.1 then (f_X12_check_29 N x1 x2 this_s K n (y3 + (1 : Int32)) r5.2.1 r5.2.2) else (K y3 r5.2.1 r5.2.2))) else none))
def f_X12_check (N : Nat) (p0 : Int32) (this_errors : Nat → Int32) (this_named : Nat → Int32) (this_pile : Nat → Int32) (this_s : Nat → Int32) : Option (Int32 × (Nat → Int32) × (Nat → Int32) × (Nat → Int32) × (Nat → Int32)) := ((f_X12_isTill N p0).bind fun r1 => (if r1 = 0 then ((f_X12_error N (1 : Int32) this_errors).bind fun r14 => (some (r14.1, r14.2, this_named, this_pile, (upd this_s (4 : Int32).toNatClampNeg (0 : Int32))))) else (f_X12_check_29 N p0 (this_s (4 : Int32).toNatClampNeg) (upd this_s (4 : Int32).toNatClampNeg (0 : Int32)) (fun v3_7 this_named_7 this_pile_7 => (if v3_7 = (this_s (4 : Int32).toNatClampNeg) then (some ((0 : Int32), this_errors, this_named_7, this_pile_7, (upd this_s (4 : Int32).toNatClampNeg (0 : Int32)))) else (some (((1 : Int32) + v3_7), this_errors, this_named_7, this_pile_7, (upd this_s (4 : Int32).toNatClampNeg (0 : Int32)))))) N (0 : Int32) this_named this_pile)))
set_option maxRecDepth 100000 in
set_option maxHeartbeats 4000000 in
theorem c_X12_check (l : Launch) (G : KG) (N : Nat) (a_this : Nat) (a_this_s : Nat) (a_this_kept : Nat) (a_this_errors : Nat) (a_this_step : Nat) (a_this_named : Nat) (a_this_pile : Nat) (a_this_told : Nat) (a_this_beside1 : Nat) (a_this_row : Nat) (a_this_best : Nat) (a_this_worthOf : Nat) (a_this_trace : Nat) (a_this_bits : Nat) (a_this_sizes : Nat) (a_this_number : Nat) (a_this_aside : Nat) (p0 : Int32) (this_images : Int32) (this_at : Int32) (this_open : Int32) (this_steps : Int32) (this_use : Int32) (this_bestNet : Int32) (this_bestMore : Int32) (this_leastApart : Int32) (this_found : Int32) (this_first : Int32) (this_leastPaid : Int32) (this_traced : Int32) (this_speaks : Int32) (this_isParted : Int32) (this_errors : Nat → Int32) (this_named : Nat → Int32) (this_pile : Nat → Int32) (this_s : Nat → Int32)  (out : Int32 × (Nat → Int32) × (Nat → Int32) × (Nat → Int32) × (Nat → Int32)) (hf : f_X12_check N p0 this_errors this_named this_pile this_s = some out) : KM l G yX12_check (kw yX12_check cX12_check 4 (some .int)) 3 73 [.ref a_this, .int p0] (k_X12_check G a_this a_this_s a_this_kept a_this_errors a_this_step a_this_named a_this_pile a_this_told a_this_beside1 a_this_row a_this_best a_this_worthOf a_this_trace a_this_bits a_this_sizes a_this_number a_this_aside this_images this_at this_open this_steps this_use this_bestNet this_bestMore this_leastApart this_found this_first this_leastPaid this_traced this_speaks this_isParted this_errors this_named this_pile this_s) (k_X12_check G a_this a_this_s a_this_kept a_this_errors a_this_step a_this_named a_this_pile a_this_told a_this_beside1 a_this_row a_this_best a_this_worthOf a_this_trace a_this_bits a_this_sizes a_this_number a_this_aside this_images this_at this_open this_steps this_use this_bestNet this_bestMore this_leastApart this_found this_first this_leastPaid this_traced this_speaks this_isParted (out.2.1) (out.2.2.1) (out.2.2.2.1) (out.2.2.2.2)) (some (.int (out.1))) := by
  refine KM.of (by decide) (Nat.le_of_ble_eq_true rfl) ?_
  intro p e s m below meth c A ls args Q Fx0 hP hK hD hA hS hAm hQ hl
  obtain ⟨hx, hb, hr, hml, hts, hown, hlk, hnm⟩ := Fx0
  have hown : s.vm.findClass RX12 = some m.cls := hown
  have hl : lv_has ls 4 [(0, .ref a_this), (1, .int p0)] := hl
  have fl_7 := hts _ tw_986
  unfold f_X12_check at hf
  refine lv_aload_n hx hb dX12_check_0 rfl (lv_at hl 0 rfl) ?_
  refine va_get (D := gD G) (ci := 12) (C := RX12) (T := TX12) (N := 30) hx hb hts hin_X12 hown hK hP 0 rfl rfl 0 (by decide) fl_7 (fun _ h9 => h9) rfl dX12_check_1 ?_
  refine lv_iconst (v := (4 : Int32)) hx hb dX12_check_4 (by decide) ?_
  refine va_iald hx hb hK hP 4 0 rfl rfl (vin_of (by decide)) dX12_check_5 ?_
  refine lv_istore_n (lv' := [(2, .int (this_s (4 : Int32).toNatClampNeg)), (0, .ref a_this), (1, .int p0)]) hx hb dX12_check_6 rfl hl (by decide) rfl (fun ls hl => ?_)
  refine lv_aload_n hx hb dX12_check_7 rfl (lv_at hl 1 rfl) ?_
  refine va_get (D := gD G) (ci := 12) (C := RX12) (T := TX12) (N := 30) hx hb hts hin_X12 hown hK hP 0 rfl rfl 0 (by decide) fl_7 (fun _ h9 => h9) rfl dX12_check_8 ?_
  refine lv_iconst (v := (4 : Int32)) hx hb dX12_check_11 (by decide) ?_
  refine lv_iconst (v := (0 : Int32)) hx hb dX12_check_12 (by decide) ?_
  refine va_iast hx hb hK hP hD hS 4 0 rfl rfl (vin_of (by decide)) dX12_check_13 (fun H locs hP hD hS => ?_)
  have hP : va_P (gD G) vwCl (k_X12_check G a_this a_this_s a_this_kept a_this_errors a_this_step a_this_named a_this_pile a_this_told a_this_beside1 a_this_row a_this_best a_this_worthOf a_this_trace a_this_bits a_this_sizes a_this_number a_this_aside this_images this_at this_open this_steps this_use this_bestNet this_bestMore this_leastApart this_found this_first this_leastPaid this_traced this_speaks this_isParted this_errors this_named this_pile (upd this_s (4 : Int32).toNatClampNeg (0 : Int32))) H := hP
  have hD : va_D A (k_X12_check G a_this a_this_s a_this_kept a_this_errors a_this_step a_this_named a_this_pile a_this_told a_this_beside1 a_this_row a_this_best a_this_worthOf a_this_trace a_this_bits a_this_sizes a_this_number a_this_aside this_images this_at this_open this_steps this_use this_bestNet this_bestMore this_leastApart this_found this_first this_leastPaid this_traced this_speaks this_isParted this_errors this_named this_pile (upd this_s (4 : Int32).toNatClampNeg (0 : Int32))) := hD
  refine lv_iload_n hx hb dX12_check_14 rfl (lv_at hl 2 rfl) ?_
  obtain ⟨r1, hr1, hf⟩ := kb hf
  refine kS (As := [.int p0]) (rest := []) ⟨hx, hb, hml, hown, hts⟩ (c_X12_isTill l G N p0 r1 hr1) (kcS 1 hts tw_1177 tw_92 tw_1175 tw_1176 hd_X12_isTill ⟨Nat.le_of_ble_eq_true rfl, Nat.le_of_ble_eq_true rfl⟩) dX12_check_15 hl.1 hK hAm hA hP hD hS [] rfl rfl rfl [] rfl rfl rfl (Nat.le_of_ble_eq_true rfl) ⟨Nat.le_refl _, Nat.le_refl _⟩ (fun H locs hP hD hS => ?_)
  have hP : va_P (gD G) vwCl (k_X12_check G a_this a_this_s a_this_kept a_this_errors a_this_step a_this_named a_this_pile a_this_told a_this_beside1 a_this_row a_this_best a_this_worthOf a_this_trace a_this_bits a_this_sizes a_this_number a_this_aside this_images this_at this_open this_steps this_use this_bestNet this_bestMore this_leastApart this_found this_first this_leastPaid this_traced this_speaks this_isParted this_errors this_named this_pile (upd this_s (4 : Int32).toNatClampNeg (0 : Int32))) H := hP
  have hD : va_D A (k_X12_check G a_this a_this_s a_this_kept a_this_errors a_this_step a_this_named a_this_pile a_this_told a_this_beside1 a_this_row a_this_best a_this_worthOf a_this_trace a_this_bits a_this_sizes a_this_number a_this_aside this_images this_at this_open this_steps this_use this_bestNet this_bestMore this_leastApart this_found this_first this_leastPaid this_traced this_speaks this_isParted this_errors this_named this_pile (upd this_s (4 : Int32).toNatClampNeg (0 : Int32))) := hD
  refine lv_if_ne (tgt := 27) hx hb dX12_check_18 (by decide) (fun c2 => ?_) (fun c2 => ?_)
  · replace hf := kf c2 hf
    refine lv_iconst (v := (0 : Int32)) hx hb dX12_check_27 (by decide) ?_
    refine lv_istore_n (lv' := [(3, .int (0 : Int32)), (2, .int (this_s (4 : Int32).toNatClampNeg)), (0, .ref a_this), (1, .int p0)]) hx hb dX12_check_28 rfl hl (by decide) rfl (fun ls hl => ?_)
    have L5 : ∀ (K : Int32 → (Nat → Int32) → (Nat → Int32) → Option (Int32 × (Nat → Int32) × (Nat → Int32) × (Nat → Int32) × (Nat → Int32))), (∀ (v3_5 : Int32) (this_named_5 : Nat → Int32) (this_pile_5 : Nat → Int32) (H : Heap) (locs : List Loc), va_P (gD G) vwCl (k_X12_check G a_this a_this_s a_this_kept a_this_errors a_this_step a_this_named a_this_pile a_this_told a_this_beside1 a_this_row a_this_best a_this_worthOf a_this_trace a_this_bits a_this_sizes a_this_number a_this_aside this_images this_at this_open this_steps this_use this_bestNet this_bestMore this_leastApart this_found this_first this_leastPaid this_traced this_speaks this_isParted this_errors this_named_5 this_pile_5 (upd this_s (4 : Int32).toNatClampNeg (0 : Int32))) H → va_D A (k_X12_check G a_this a_this_s a_this_kept a_this_errors a_this_step a_this_named a_this_pile a_this_told a_this_beside1 a_this_row a_this_best a_this_worthOf a_this_trace a_this_bits a_this_sizes a_this_number a_this_aside this_images this_at this_open this_steps this_use this_bestNet this_bestMore this_leastApart this_found this_first this_leastPaid this_traced this_speaks this_isParted this_errors this_named_5 this_pile_5 (upd this_s (4 : Int32).toNatClampNeg (0 : Int32))) → va_S A s.heap H locs → ∀ (ls : Array Slot), lv_has ls 4 [(0, .ref a_this), (1, .int p0), (2, .int (this_s (4 : Int32).toNatClampNeg)), (3, .int v3_5)] → K v3_5 this_named_5 this_pile_5 = some out → W p l e (kR 3 0 0 73) s m args below meth c H locs 0 0 Q (F0 m 62 ls [])) → ∀ (n : Nat), ∀ (v3_5 : Int32) (this_named_5 : Nat → Int32) (this_pile_5 : Nat → Int32) (H : Heap) (locs : List Loc), va_P (gD G) vwCl (k_X12_check G a_this a_this_s a_this_kept a_this_errors a_this_step a_this_named a_this_pile a_this_told a_this_beside1 a_this_row a_this_best a_this_worthOf a_this_trace a_this_bits a_this_sizes a_this_number a_this_aside this_images this_at this_open this_steps this_use this_bestNet this_bestMore this_leastApart this_found this_first this_leastPaid this_traced this_speaks this_isParted this_errors this_named_5 this_pile_5 (upd this_s (4 : Int32).toNatClampNeg (0 : Int32))) H → va_D A (k_X12_check G a_this a_this_s a_this_kept a_this_errors a_this_step a_this_named a_this_pile a_this_told a_this_beside1 a_this_row a_this_best a_this_worthOf a_this_trace a_this_bits a_this_sizes a_this_number a_this_aside this_images this_at this_open this_steps this_use this_bestNet this_bestMore this_leastApart this_found this_first this_leastPaid this_traced this_speaks this_isParted this_errors this_named_5 this_pile_5 (upd this_s (4 : Int32).toNatClampNeg (0 : Int32))) → va_S A s.heap H locs → ∀ (ls : Array Slot), lv_has ls 4 [(0, .ref a_this), (1, .int p0), (2, .int (this_s (4 : Int32).toNatClampNeg)), (3, .int v3_5)] → f_X12_check_29 N p0 (this_s (4 : Int32).toNatClampNeg) (upd this_s (4 : Int32).toNatClampNeg (0 : Int32)) K n v3_5 this_named_5 this_pile_5 = some out → W p l e (kR 3 0 0 73) s m args below meth c H locs 0 0 Q (F0 m 29 ls []) := by
      intro K hK5 n
      induction n with
      | zero =>
        intro v3_5 this_named_5 this_pile_5 H locs hP hD hS ls hl hf
        rw [f_X12_check_29] at hf
        cases hf
      | succ n ih =>
        intro v3_5 this_named_5 this_pile_5 H locs hP hD hS ls hl hf
        rw [f_X12_check_29] at hf
        refine lv_iload_n hx hb dX12_check_29 rfl (lv_at hl 3 rfl) ?_
        refine lv_iload_n hx hb dX12_check_30 rfl (lv_at hl 2 rfl) ?_
        refine lv_icmp_ge (tgt := 62) hx hb dX12_check_31 (by decide) (fun c6 => ?_) (fun c6 => ?_)
        · replace hf := kt c6 hf
          exact hK5 v3_5 this_named_5 this_pile_5 _ _ hP hD hS ls (lv_sub hl [0, 1, 2, 3] rfl) hf
        · replace hf := kf c6 hf
          refine lv_aload_n hx hb dX12_check_34 rfl (lv_at hl 0 rfl) ?_
          refine va_get (D := gD G) (ci := 12) (C := RX12) (T := TX12) (N := 30) hx hb hts hin_X12 hown hK hP 0 rfl rfl 0 (by decide) fl_7 (fun _ h9 => h9) rfl dX12_check_35 ?_
          refine lv_sipush (v := (350 : Int32)) hx hb dX12_check_38 (by decide) ?_
          refine lv_iload_n hx hb dX12_check_41 rfl (lv_at hl 3 rfl) ?_
          refine lv_iadd hx hb dX12_check_42 ?_
          obtain ⟨g7, hf⟩ := kg hf
          refine va_iald hx hb hK hP 4 0 rfl rfl (vin_of g7) dX12_check_43 ?_
          refine lv_aload_n hx hb dX12_check_44 rfl (lv_at hl 0 rfl) ?_
          refine lv_iload_n hx hb dX12_check_45 rfl (lv_at hl 1 rfl) ?_
          refine lv_iconst (v := (1 : Int32)) hx hb dX12_check_46 (by decide) ?_
          refine lv_iload_n hx hb dX12_check_47 rfl (lv_at hl 3 rfl) ?_
          refine lv_iadd hx hb dX12_check_48 ?_
          refine lv_iconst (v := (1 : Int32)) hx hb dX12_check_49 (by decide) ?_
          obtain ⟨r8, hr8, hf⟩ := kb hf
          refine kV (As := [.int p0, .int ((1 : Int32) + v3_5), .int (1 : Int32)]) (rest := [.int ((upd this_s (4 : Int32).toNatClampNeg (0 : Int32)) ((350 : Int32) + v3_5).toNatClampNeg)]) ⟨hx, hb, hml, hown, hts⟩ (c_X12_asked l G N a_this a_this_s a_this_kept a_this_errors a_this_step a_this_named a_this_pile a_this_told a_this_beside1 a_this_row a_this_best a_this_worthOf a_this_trace a_this_bits a_this_sizes a_this_number a_this_aside p0 ((1 : Int32) + v3_5) (1 : Int32) this_images this_at this_open this_steps this_use this_bestNet this_bestMore this_leastApart this_found this_first this_leastPaid this_traced this_speaks this_isParted this_named_5 this_pile_5 (upd this_s (4 : Int32).toNatClampNeg (0 : Int32)) r8 hr8) (kcV 3 hts tw_1212 tw_92 tw_1209 tw_1211 tw_60 hd_X12_asked ⟨Nat.le_of_ble_eq_true rfl, Nat.le_of_ble_eq_true rfl⟩) dX12_check_50 hl.1 hK hAm hA hP hD hS 0 (ci := 12) rfl rfl rfl [0, 2, 3, 4] rfl rfl rfl [1, 2] rfl rfl rfl (Nat.le_of_ble_eq_true rfl) ⟨Nat.le_refl _, Nat.le_refl _⟩ (fun H locs hP hD hS => ?_)
          have hP : va_P (gD G) vwCl (k_X12_check G a_this a_this_s a_this_kept a_this_errors a_this_step a_this_named a_this_pile a_this_told a_this_beside1 a_this_row a_this_best a_this_worthOf a_this_trace a_this_bits a_this_sizes a_this_number a_this_aside this_images this_at this_open this_steps this_use this_bestNet this_bestMore this_leastApart this_found this_first this_leastPaid this_traced this_speaks this_isParted this_errors r8.2.1 r8.2.2 (upd this_s (4 : Int32).toNatClampNeg (0 : Int32))) H := hP
          have hD : va_D A (k_X12_check G a_this a_this_s a_this_kept a_this_errors a_this_step a_this_named a_this_pile a_this_told a_this_beside1 a_this_row a_this_best a_this_worthOf a_this_trace a_this_bits a_this_sizes a_this_number a_this_aside this_images this_at this_open this_steps this_use this_bestNet this_bestMore this_leastApart this_found this_first this_leastPaid this_traced this_speaks this_isParted this_errors r8.2.1 r8.2.2 (upd this_s (4 : Int32).toNatClampNeg (0 : Int32))) := hD
          refine lv_icmp_ne (tgt := 62) hx hb dX12_check_53 (by decide) (fun c9 => ?_) (fun c9 => ?_)
          · replace hf := kf c9 hf
            exact hK5 v3_5 r8.2.1 r8.2.2 _ _ hP hD hS ls (lv_sub hl [0, 1, 2, 3] rfl) hf
          · replace hf := kt c9 hf
            refine lv_iinc (v := (v3_5 + (1 : Int32))) (lv' := [(3, .int (v3_5 + (1 : Int32))), (0, .ref a_this), (1, .int p0), (2, .int (this_s (4 : Int32).toNatClampNeg))]) hx hb dX12_check_56 hl (k := 3) rfl rfl (by decide) rfl (fun ls hl => ?_)
            refine lv_goto (tgt := 29) hx hb dX12_check_59 (by decide) ?_
            exact ih (v3_5 + (1 : Int32)) r8.2.1 r8.2.2 _ _ hP hD hS ls (lv_sub hl [1, 2, 3, 0] rfl) hf
    refine L5 _ (fun v3_3 this_named_3 this_pile_3 H locs hP hD hS ls hl hf => ?_) N (0 : Int32) this_named this_pile _ _ hP hD hS ls (lv_sub hl [2, 3, 1, 0] rfl) hf
    refine lv_iload_n hx hb dX12_check_62 rfl (lv_at hl 3 rfl) ?_
    refine lv_iload_n hx hb dX12_check_63 rfl (lv_at hl 2 rfl) ?_
    refine lv_icmp_ne (tgt := 71) hx hb dX12_check_64 (by decide) (fun c4 => ?_) (fun c4 => ?_)
    · replace hf := kf c4 hf
      refine lv_iconst (v := (1 : Int32)) hx hb dX12_check_71 (by decide) ?_
      refine lv_iload_n hx hb dX12_check_72 rfl (lv_at hl 3 rfl) ?_
      refine lv_iadd hx hb dX12_check_73 ?_
      have ho := ks hf
      subst ho
      exact kiret hx hb hr hlk hP hD hS hQ dX12_check_74
    · replace hf := kt c4 hf
      refine lv_iconst (v := (0 : Int32)) hx hb dX12_check_67 (by decide) ?_
      refine lv_goto (tgt := 74) hx hb dX12_check_68 (by decide) ?_
      have ho := ks hf
      subst ho
      exact kiret hx hb hr hlk hP hD hS hQ dX12_check_74
  · replace hf := kt c2 hf
    refine lv_aload_n hx hb dX12_check_21 rfl (lv_at hl 1 rfl) ?_
    refine lv_iconst (v := (1 : Int32)) hx hb dX12_check_22 (by decide) ?_
    obtain ⟨r10, hr10, hf⟩ := kb hf
    refine kV (As := [.int (1 : Int32)]) (rest := []) ⟨hx, hb, hml, hown, hts⟩ (c_X12_error l G N a_this a_this_s a_this_kept a_this_errors a_this_step a_this_named a_this_pile a_this_told a_this_beside1 a_this_row a_this_best a_this_worthOf a_this_trace a_this_bits a_this_sizes a_this_number a_this_aside (1 : Int32) this_images this_at this_open this_steps this_use this_bestNet this_bestMore this_leastApart this_found this_first this_leastPaid this_traced this_speaks this_isParted this_errors r10 hr10) (kcV 1 hts tw_1087 tw_92 tw_1084 tw_1086 tw_43 hd_X12_error ⟨Nat.le_of_ble_eq_true rfl, Nat.le_of_ble_eq_true rfl⟩) dX12_check_23 hl.1 hK hAm hA hP hD hS 0 (ci := 12) rfl rfl rfl [0, 1] rfl rfl rfl [1] rfl rfl rfl (Nat.le_of_ble_eq_true rfl) ⟨Nat.le_refl _, Nat.le_refl _⟩ (fun H locs hP hD hS => ?_)
    have hP : va_P (gD G) vwCl (k_X12_check G a_this a_this_s a_this_kept a_this_errors a_this_step a_this_named a_this_pile a_this_told a_this_beside1 a_this_row a_this_best a_this_worthOf a_this_trace a_this_bits a_this_sizes a_this_number a_this_aside this_images this_at this_open this_steps this_use this_bestNet this_bestMore this_leastApart this_found this_first this_leastPaid this_traced this_speaks this_isParted r10.2 this_named this_pile (upd this_s (4 : Int32).toNatClampNeg (0 : Int32))) H := hP
    have hD : va_D A (k_X12_check G a_this a_this_s a_this_kept a_this_errors a_this_step a_this_named a_this_pile a_this_told a_this_beside1 a_this_row a_this_best a_this_worthOf a_this_trace a_this_bits a_this_sizes a_this_number a_this_aside this_images this_at this_open this_steps this_use this_bestNet this_bestMore this_leastApart this_found this_first this_leastPaid this_traced this_speaks this_isParted r10.2 this_named this_pile (upd this_s (4 : Int32).toNatClampNeg (0 : Int32))) := hD
    have ho := ks hf
    subst ho
    exact kiret hx hb hr hlk hP hD hS hQ dX12_check_26
abbrev k_X12_count (G : KG) (a_this : Nat) (a_this_s : Nat) (a_this_kept : Nat) (a_this_errors : Nat) (a_this_step : Nat) (a_this_named : Nat) (a_this_pile : Nat) (a_this_told : Nat) (a_this_beside1 : Nat) (a_this_row : Nat) (a_this_best : Nat) (a_this_worthOf : Nat) (a_this_trace : Nat) (a_this_bits : Nat) (a_this_sizes : Nat) (a_this_number : Nat) (a_this_aside : Nat) (this_images : Int32) (this_at : Int32) (this_open : Int32) (this_steps : Int32) (this_use : Int32) (this_bestNet : Int32) (this_bestMore : Int32) (this_leastApart : Int32) (this_found : Int32) (this_first : Int32) (this_leastPaid : Int32) (this_traced : Int32) (this_speaks : Int32) (this_isParted : Int32) (this_errors : Nat → Int32) (this_s : Nat → Int32) : va_W := [(a_this, .inr (12, [.ref a_this_s, .ref a_this_kept, .int this_images, .ref a_this_errors, .int this_at, .int this_open, .int this_steps, .int this_use, .ref a_this_step, .ref a_this_named, .ref a_this_pile, .ref a_this_told, .ref a_this_beside1, .ref a_this_row, .ref a_this_best, .int this_bestNet, .int this_bestMore, .ref a_this_worthOf, .int this_leastApart, .int this_found, .int this_first, .int this_leastPaid, .ref a_this_trace, .int this_traced, .int this_speaks, .int this_isParted, .ref a_this_bits, .ref a_this_sizes, .ref a_this_number, .ref a_this_aside])), (a_this_errors, .inl (gI G, 7, .inl this_errors)), (a_this_s, .inl (gI G, 374, .inl this_s))]
def f_X12_count_4 (N : Nat) (this_s : Nat → Int32) (K : Int32 → Int32 → Option (Int32 × (Nat → Int32))) : Nat → Int32 → Int32 → Option (Int32 × (Nat → Int32))
  | 0, _, _ => none
  | n + 1, y2, y3 => (if (8 : Int32) ≤ y3 then (K y2 y3) else (if vin ((24 : Int32) + y3) 374 = true then (f_X12_count_4 N this_s K n (y2 + (this_s ((24 : Int32) + y3).toNatClampNeg)) (y3 + (1 : Int32))) else none))
def f_X12_count (N : Nat) (p0 : Int32) (this_traced : Int32) (this_errors : Nat → Int32) (this_s : Nat → Int32) : Option (Int32 × (Nat → Int32)) := (f_X12_count_4 N this_s (fun v2_3 v3_3 => (if p0 = (0 : Int32) then (some ((this_s (0 : Int32).toNatClampNeg), this_errors)) else (if p0 = (1 : Int32) then (some ((this_s (1 : Int32).toNatClampNeg), this_errors)) else (if p0 = (2 : Int32) then (some ((this_s (2 : Int32).toNatClampNeg), this_errors)) else (if p0 = (3 : Int32) then (some (v2_3, this_errors)) else (if p0 = (4 : Int32) then (some ((this_s (3 : Int32).toNatClampNeg), this_errors)) else (if p0 = (5 : Int32) then (some ((this_s (4 : Int32).toNatClampNeg), this_errors)) else (if p0 = (6 : Int32) then (some (this_traced, this_errors)) else (if p0 = (7 : Int32) then (some ((this_s (5 : Int32).toNatClampNeg), this_errors)) else ((f_X12_error N (1 : Int32) this_errors).bind fun r12 => (some (r12.1, r12.2)))))))))))) N (0 : Int32) (0 : Int32))
set_option maxRecDepth 100000 in
set_option maxHeartbeats 4000000 in
theorem c_X12_count (l : Launch) (G : KG) (N : Nat) (a_this : Nat) (a_this_s : Nat) (a_this_kept : Nat) (a_this_errors : Nat) (a_this_step : Nat) (a_this_named : Nat) (a_this_pile : Nat) (a_this_told : Nat) (a_this_beside1 : Nat) (a_this_row : Nat) (a_this_best : Nat) (a_this_worthOf : Nat) (a_this_trace : Nat) (a_this_bits : Nat) (a_this_sizes : Nat) (a_this_number : Nat) (a_this_aside : Nat) (p0 : Int32) (this_images : Int32) (this_at : Int32) (this_open : Int32) (this_steps : Int32) (this_use : Int32) (this_bestNet : Int32) (this_bestMore : Int32) (this_leastApart : Int32) (this_found : Int32) (this_first : Int32) (this_leastPaid : Int32) (this_traced : Int32) (this_speaks : Int32) (this_isParted : Int32) (this_errors : Nat → Int32) (this_s : Nat → Int32)  (out : Int32 × (Nat → Int32)) (hf : f_X12_count N p0 this_traced this_errors this_s = some out) : KM l G yX12_count (kw yX12_count cX12_count 4 (some .int)) 1 21 [.ref a_this, .int p0] (k_X12_count G a_this a_this_s a_this_kept a_this_errors a_this_step a_this_named a_this_pile a_this_told a_this_beside1 a_this_row a_this_best a_this_worthOf a_this_trace a_this_bits a_this_sizes a_this_number a_this_aside this_images this_at this_open this_steps this_use this_bestNet this_bestMore this_leastApart this_found this_first this_leastPaid this_traced this_speaks this_isParted this_errors this_s) (k_X12_count G a_this a_this_s a_this_kept a_this_errors a_this_step a_this_named a_this_pile a_this_told a_this_beside1 a_this_row a_this_best a_this_worthOf a_this_trace a_this_bits a_this_sizes a_this_number a_this_aside this_images this_at this_open this_steps this_use this_bestNet this_bestMore this_leastApart this_found this_first this_leastPaid this_traced this_speaks this_isParted (out.2) this_s) (some (.int (out.1))) := by
  refine KM.of (by decide) (Nat.le_of_ble_eq_true rfl) ?_
  intro p e s m below meth c A ls args Q Fx0 hP hK hD hA hS hAm hQ hl
  obtain ⟨hx, hb, hr, hml, hts, hown, hlk, hnm⟩ := Fx0
  have hown : s.vm.findClass RX12 = some m.cls := hown
  have hl : lv_has ls 4 [(0, .ref a_this), (1, .int p0)] := hl
  have fl_7 := hts _ tw_986
  have fl_236 := hts _ tw_1009
  unfold f_X12_count at hf
  refine lv_iconst (v := (0 : Int32)) hx hb dX12_count_0 (by decide) ?_
  refine lv_istore_n (lv' := [(2, .int (0 : Int32)), (0, .ref a_this), (1, .int p0)]) hx hb dX12_count_1 rfl hl (by decide) rfl (fun ls hl => ?_)
  refine lv_iconst (v := (0 : Int32)) hx hb dX12_count_2 (by decide) ?_
  refine lv_istore_n (lv' := [(3, .int (0 : Int32)), (2, .int (0 : Int32)), (0, .ref a_this), (1, .int p0)]) hx hb dX12_count_3 rfl hl (by decide) rfl (fun ls hl => ?_)
  have L12 : ∀ (K : Int32 → Int32 → Option (Int32 × (Nat → Int32))), (∀ (v2_12 : Int32) (v3_12 : Int32) (H : Heap) (locs : List Loc), va_P (gD G) vwCl (k_X12_count G a_this a_this_s a_this_kept a_this_errors a_this_step a_this_named a_this_pile a_this_told a_this_beside1 a_this_row a_this_best a_this_worthOf a_this_trace a_this_bits a_this_sizes a_this_number a_this_aside this_images this_at this_open this_steps this_use this_bestNet this_bestMore this_leastApart this_found this_first this_leastPaid this_traced this_speaks this_isParted this_errors this_s) H → va_D A (k_X12_count G a_this a_this_s a_this_kept a_this_errors a_this_step a_this_named a_this_pile a_this_told a_this_beside1 a_this_row a_this_best a_this_worthOf a_this_trace a_this_bits a_this_sizes a_this_number a_this_aside this_images this_at this_open this_steps this_use this_bestNet this_bestMore this_leastApart this_found this_first this_leastPaid this_traced this_speaks this_isParted this_errors this_s) → va_S A s.heap H locs → ∀ (ls : Array Slot), lv_has ls 4 [(0, .ref a_this), (1, .int p0), (2, .int v2_12), (3, .int v3_12)] → K v2_12 v3_12 = some out → W p l e (kR 1 0 0 21) s m args below meth c H locs 0 0 Q (F0 m 28 ls [])) → ∀ (n : Nat), ∀ (v2_12 : Int32) (v3_12 : Int32) (H : Heap) (locs : List Loc), va_P (gD G) vwCl (k_X12_count G a_this a_this_s a_this_kept a_this_errors a_this_step a_this_named a_this_pile a_this_told a_this_beside1 a_this_row a_this_best a_this_worthOf a_this_trace a_this_bits a_this_sizes a_this_number a_this_aside this_images this_at this_open this_steps this_use this_bestNet this_bestMore this_leastApart this_found this_first this_leastPaid this_traced this_speaks this_isParted this_errors this_s) H → va_D A (k_X12_count G a_this a_this_s a_this_kept a_this_errors a_this_step a_this_named a_this_pile a_this_told a_this_beside1 a_this_row a_this_best a_this_worthOf a_this_trace a_this_bits a_this_sizes a_this_number a_this_aside this_images this_at this_open this_steps this_use this_bestNet this_bestMore this_leastApart this_found this_first this_leastPaid this_traced this_speaks this_isParted this_errors this_s) → va_S A s.heap H locs → ∀ (ls : Array Slot), lv_has ls 4 [(0, .ref a_this), (1, .int p0), (2, .int v2_12), (3, .int v3_12)] → f_X12_count_4 N this_s K n v2_12 v3_12 = some out → W p l e (kR 1 0 0 21) s m args below meth c H locs 0 0 Q (F0 m 4 ls []) := by
    intro K hK12 n
    induction n with
    | zero =>
      intro v2_12 v3_12 H locs hP hD hS ls hl hf
      rw [f_X12_count_4] at hf
      cases hf
    | succ n ih =>
      intro v2_12 v3_12 H locs hP hD hS ls hl hf
      rw [f_X12_count_4] at hf
      refine lv_iload_n hx hb dX12_count_4 rfl (lv_at hl 3 rfl) ?_
      refine lv_bipush (v := (8 : Int32)) hx hb dX12_count_5 (by decide) ?_
      refine lv_icmp_ge (tgt := 28) hx hb dX12_count_7 (by decide) (fun c13 => ?_) (fun c13 => ?_)
      · replace hf := kt c13 hf
        exact hK12 v2_12 v3_12 _ _ hP hD hS ls (lv_sub hl [0, 1, 2, 3] rfl) hf
      · replace hf := kf c13 hf
        refine lv_iload_n hx hb dX12_count_10 rfl (lv_at hl 2 rfl) ?_
        refine lv_aload_n hx hb dX12_count_11 rfl (lv_at hl 0 rfl) ?_
        refine va_get (D := gD G) (ci := 12) (C := RX12) (T := TX12) (N := 30) hx hb hts hin_X12 hown hK hP 0 rfl rfl 0 (by decide) fl_7 (fun _ h9 => h9) rfl dX12_count_12 ?_
        refine lv_bipush (v := (24 : Int32)) hx hb dX12_count_15 (by decide) ?_
        refine lv_iload_n hx hb dX12_count_17 rfl (lv_at hl 3 rfl) ?_
        refine lv_iadd hx hb dX12_count_18 ?_
        obtain ⟨g14, hf⟩ := kg hf
        refine va_iald hx hb hK hP 2 0 rfl rfl (vin_of g14) dX12_count_19 ?_
        refine lv_iadd hx hb dX12_count_20 ?_
        refine lv_istore_n (lv' := [(2, .int (v2_12 + (this_s ((24 : Int32) + v3_12).toNatClampNeg))), (0, .ref a_this), (1, .int p0), (3, .int v3_12)]) hx hb dX12_count_21 rfl hl (by decide) rfl (fun ls hl => ?_)
        refine lv_iinc (v := (v3_12 + (1 : Int32))) (lv' := [(3, .int (v3_12 + (1 : Int32))), (2, .int (v2_12 + (this_s ((24 : Int32) + v3_12).toNatClampNeg))), (0, .ref a_this), (1, .int p0)]) hx hb dX12_count_22 hl (k := 3) rfl rfl (by decide) rfl (fun ls hl => ?_)
        refine lv_goto (tgt := 4) hx hb dX12_count_25 (by decide) ?_
        exact ih (v2_12 + (this_s ((24 : Int32) + v3_12).toNatClampNeg)) (v3_12 + (1 : Int32)) _ _ hP hD hS ls (lv_sub hl [2, 3, 1, 0] rfl) hf
  refine L12 _ (fun v2_1 v3_1 H locs hP hD hS ls hl hf => ?_) N (0 : Int32) (0 : Int32) _ _ hP hD hS ls (lv_sub hl [2, 3, 1, 0] rfl) hf
  refine lv_iload_n hx hb dX12_count_28 rfl (lv_at hl 1 rfl) ?_
  by_cases q2 : p0 = (0 : Int32)
  · replace hf := kt q2 hf
    refine lv_tableIn (off := 47) (tgt := 76) hx hb dX12_count_29 (by rw [q2]; decide) (by rw [q2]; decide) (by rw [q2]; rfl) (by decide) ?_
    refine lv_aload_n hx hb dX12_count_76 rfl (lv_at hl 0 rfl) ?_
    refine va_get (D := gD G) (ci := 12) (C := RX12) (T := TX12) (N := 30) hx hb hts hin_X12 hown hK hP 0 rfl rfl 0 (by decide) fl_7 (fun _ h9 => h9) rfl dX12_count_77 ?_
    refine lv_iconst (v := (0 : Int32)) hx hb dX12_count_80 (by decide) ?_
    refine va_iald hx hb hK hP 2 0 rfl rfl (vin_of (by decide)) dX12_count_81 ?_
    have ho := ks hf
    subst ho
    exact kiret hx hb hr hlk hP hD hS hQ dX12_count_82
  · replace hf := kf q2 hf
    by_cases q3 : p0 = (1 : Int32)
    · replace hf := kt q3 hf
      refine lv_tableIn (off := 54) (tgt := 83) hx hb dX12_count_29 (by rw [q3]; decide) (by rw [q3]; decide) (by rw [q3]; rfl) (by decide) ?_
      refine lv_aload_n hx hb dX12_count_83 rfl (lv_at hl 0 rfl) ?_
      refine va_get (D := gD G) (ci := 12) (C := RX12) (T := TX12) (N := 30) hx hb hts hin_X12 hown hK hP 0 rfl rfl 0 (by decide) fl_7 (fun _ h9 => h9) rfl dX12_count_84 ?_
      refine lv_iconst (v := (1 : Int32)) hx hb dX12_count_87 (by decide) ?_
      refine va_iald hx hb hK hP 2 0 rfl rfl (vin_of (by decide)) dX12_count_88 ?_
      have ho := ks hf
      subst ho
      exact kiret hx hb hr hlk hP hD hS hQ dX12_count_89
    · replace hf := kf q3 hf
      by_cases q4 : p0 = (2 : Int32)
      · replace hf := kt q4 hf
        refine lv_tableIn (off := 61) (tgt := 90) hx hb dX12_count_29 (by rw [q4]; decide) (by rw [q4]; decide) (by rw [q4]; rfl) (by decide) ?_
        refine lv_aload_n hx hb dX12_count_90 rfl (lv_at hl 0 rfl) ?_
        refine va_get (D := gD G) (ci := 12) (C := RX12) (T := TX12) (N := 30) hx hb hts hin_X12 hown hK hP 0 rfl rfl 0 (by decide) fl_7 (fun _ h9 => h9) rfl dX12_count_91 ?_
        refine lv_iconst (v := (2 : Int32)) hx hb dX12_count_94 (by decide) ?_
        refine va_iald hx hb hK hP 2 0 rfl rfl (vin_of (by decide)) dX12_count_95 ?_
        have ho := ks hf
        subst ho
        exact kiret hx hb hr hlk hP hD hS hQ dX12_count_96
      · replace hf := kf q4 hf
        by_cases q5 : p0 = (3 : Int32)
        · replace hf := kt q5 hf
          refine lv_tableIn (off := 68) (tgt := 97) hx hb dX12_count_29 (by rw [q5]; decide) (by rw [q5]; decide) (by rw [q5]; rfl) (by decide) ?_
          refine lv_iload_n hx hb dX12_count_97 rfl (lv_at hl 2 rfl) ?_
          have ho := ks hf
          subst ho
          exact kiret hx hb hr hlk hP hD hS hQ dX12_count_98
        · replace hf := kf q5 hf
          by_cases q6 : p0 = (4 : Int32)
          · replace hf := kt q6 hf
            refine lv_tableIn (off := 70) (tgt := 99) hx hb dX12_count_29 (by rw [q6]; decide) (by rw [q6]; decide) (by rw [q6]; rfl) (by decide) ?_
            refine lv_aload_n hx hb dX12_count_99 rfl (lv_at hl 0 rfl) ?_
            refine va_get (D := gD G) (ci := 12) (C := RX12) (T := TX12) (N := 30) hx hb hts hin_X12 hown hK hP 0 rfl rfl 0 (by decide) fl_7 (fun _ h9 => h9) rfl dX12_count_100 ?_
            refine lv_iconst (v := (3 : Int32)) hx hb dX12_count_103 (by decide) ?_
            refine va_iald hx hb hK hP 2 0 rfl rfl (vin_of (by decide)) dX12_count_104 ?_
            have ho := ks hf
            subst ho
            exact kiret hx hb hr hlk hP hD hS hQ dX12_count_105
          · replace hf := kf q6 hf
            by_cases q7 : p0 = (5 : Int32)
            · replace hf := kt q7 hf
              refine lv_tableIn (off := 77) (tgt := 106) hx hb dX12_count_29 (by rw [q7]; decide) (by rw [q7]; decide) (by rw [q7]; rfl) (by decide) ?_
              refine lv_aload_n hx hb dX12_count_106 rfl (lv_at hl 0 rfl) ?_
              refine va_get (D := gD G) (ci := 12) (C := RX12) (T := TX12) (N := 30) hx hb hts hin_X12 hown hK hP 0 rfl rfl 0 (by decide) fl_7 (fun _ h9 => h9) rfl dX12_count_107 ?_
              refine lv_iconst (v := (4 : Int32)) hx hb dX12_count_110 (by decide) ?_
              refine va_iald hx hb hK hP 2 0 rfl rfl (vin_of (by decide)) dX12_count_111 ?_
              have ho := ks hf
              subst ho
              exact kiret hx hb hr hlk hP hD hS hQ dX12_count_112
            · replace hf := kf q7 hf
              by_cases q8 : p0 = (6 : Int32)
              · replace hf := kt q8 hf
                refine lv_tableIn (off := 84) (tgt := 113) hx hb dX12_count_29 (by rw [q8]; decide) (by rw [q8]; decide) (by rw [q8]; rfl) (by decide) ?_
                refine lv_aload_n hx hb dX12_count_113 rfl (lv_at hl 0 rfl) ?_
                refine va_get (D := gD G) (ci := 12) (C := RX12) (T := TX12) (N := 30) hx hb hts hin_X12 hown hK hP 0 rfl rfl 23 (by decide) fl_236 (fun _ h9 => h9) rfl dX12_count_114 ?_
                have ho := ks hf
                subst ho
                exact kiret hx hb hr hlk hP hD hS hQ dX12_count_117
              · replace hf := kf q8 hf
                by_cases q9 : p0 = (7 : Int32)
                · replace hf := kt q9 hf
                  refine lv_tableIn (off := 89) (tgt := 118) hx hb dX12_count_29 (by rw [q9]; decide) (by rw [q9]; decide) (by rw [q9]; rfl) (by decide) ?_
                  refine lv_aload_n hx hb dX12_count_118 rfl (lv_at hl 0 rfl) ?_
                  refine va_get (D := gD G) (ci := 12) (C := RX12) (T := TX12) (N := 30) hx hb hts hin_X12 hown hK hP 0 rfl rfl 0 (by decide) fl_7 (fun _ h9 => h9) rfl dX12_count_119 ?_
                  refine lv_iconst (v := (5 : Int32)) hx hb dX12_count_122 (by decide) ?_
                  refine va_iald hx hb hK hP 2 0 rfl rfl (vin_of (by decide)) dX12_count_123 ?_
                  have ho := ks hf
                  subst ho
                  exact kiret hx hb hr hlk hP hD hS hQ dX12_count_124
                · replace hf := kf q9 hf
                  have nq2 : (p0).toInt ≠ 0 := fun z => q2 (Int32.toInt_inj.mp (z.trans (by decide)))
                  have nq3 : (p0).toInt ≠ 1 := fun z => q3 (Int32.toInt_inj.mp (z.trans (by decide)))
                  have nq4 : (p0).toInt ≠ 2 := fun z => q4 (Int32.toInt_inj.mp (z.trans (by decide)))
                  have nq5 : (p0).toInt ≠ 3 := fun z => q5 (Int32.toInt_inj.mp (z.trans (by decide)))
                  have nq6 : (p0).toInt ≠ 4 := fun z => q6 (Int32.toInt_inj.mp (z.trans (by decide)))
                  have nq7 : (p0).toInt ≠ 5 := fun z => q7 (Int32.toInt_inj.mp (z.trans (by decide)))
                  have nq8 : (p0).toInt ≠ 6 := fun z => q8 (Int32.toInt_inj.mp (z.trans (by decide)))
                  have nq9 : (p0).toInt ≠ 7 := fun z => q9 (Int32.toInt_inj.mp (z.trans (by decide)))
                  have z11 : (p0).toInt < 0 ∨ 7 < (p0).toInt := by omega
                  refine lv_tableOut (tgt := 125) hx hb dX12_count_29 z11 (by decide) ?_
                  refine lv_aload_n hx hb dX12_count_125 rfl (lv_at hl 0 rfl) ?_
                  refine lv_iconst (v := (1 : Int32)) hx hb dX12_count_126 (by decide) ?_
                  obtain ⟨r10, hr10, hf⟩ := kb hf
                  refine kV (As := [.int (1 : Int32)]) (rest := []) ⟨hx, hb, hml, hown, hts⟩ (c_X12_error l G N a_this a_this_s a_this_kept a_this_errors a_this_step a_this_named a_this_pile a_this_told a_this_beside1 a_this_row a_this_best a_this_worthOf a_this_trace a_this_bits a_this_sizes a_this_number a_this_aside (1 : Int32) this_images this_at this_open this_steps this_use this_bestNet this_bestMore this_leastApart this_found this_first this_leastPaid this_traced this_speaks this_isParted this_errors r10 hr10) (kcV 1 hts tw_1087 tw_92 tw_1084 tw_1086 tw_43 hd_X12_error ⟨Nat.le_of_ble_eq_true rfl, Nat.le_of_ble_eq_true rfl⟩) dX12_count_127 hl.1 hK hAm hA hP hD hS 0 (ci := 12) rfl rfl rfl [0, 1] rfl rfl rfl [1] rfl rfl rfl (Nat.le_of_ble_eq_true rfl) ⟨Nat.le_refl _, Nat.le_refl _⟩ (fun H locs hP hD hS => ?_)
                  have hP : va_P (gD G) vwCl (k_X12_count G a_this a_this_s a_this_kept a_this_errors a_this_step a_this_named a_this_pile a_this_told a_this_beside1 a_this_row a_this_best a_this_worthOf a_this_trace a_this_bits a_this_sizes a_this_number a_this_aside this_images this_at this_open this_steps this_use this_bestNet this_bestMore this_leastApart this_found this_first this_leastPaid this_traced this_speaks this_isParted r10.2 this_s) H := hP
                  have hD : va_D A (k_X12_count G a_this a_this_s a_this_kept a_this_errors a_this_step a_this_named a_this_pile a_this_told a_this_beside1 a_this_row a_this_best a_this_worthOf a_this_trace a_this_bits a_this_sizes a_this_number a_this_aside this_images this_at this_open this_steps this_use this_bestNet this_bestMore this_leastApart this_found this_first this_leastPaid this_traced this_speaks this_isParted r10.2 this_s) := hD
                  have ho := ks hf
                  subst ho
                  exact kiret hx hb hr hlk hP hD hS hQ dX12_count_130
abbrev k_X12_told (G : KG) (a_this : Nat) (a_this_s : Nat) (a_this_kept : Nat) (a_this_errors : Nat) (a_this_step : Nat) (a_this_named : Nat) (a_this_pile : Nat) (a_this_told : Nat) (a_this_beside1 : Nat) (a_this_row : Nat) (a_this_best : Nat) (a_this_worthOf : Nat) (a_this_trace : Nat) (a_this_bits : Nat) (a_this_sizes : Nat) (a_this_number : Nat) (a_this_aside : Nat) (this_images : Int32) (this_at : Int32) (this_open : Int32) (this_steps : Int32) (this_use : Int32) (this_bestNet : Int32) (this_bestMore : Int32) (this_leastApart : Int32) (this_found : Int32) (this_first : Int32) (this_leastPaid : Int32) (this_traced : Int32) (this_speaks : Int32) (this_isParted : Int32) (this_errors : Nat → Int32) : va_W := [(a_this, .inr (12, [.ref a_this_s, .ref a_this_kept, .int this_images, .ref a_this_errors, .int this_at, .int this_open, .int this_steps, .int this_use, .ref a_this_step, .ref a_this_named, .ref a_this_pile, .ref a_this_told, .ref a_this_beside1, .ref a_this_row, .ref a_this_best, .int this_bestNet, .int this_bestMore, .ref a_this_worthOf, .int this_leastApart, .int this_found, .int this_first, .int this_leastPaid, .ref a_this_trace, .int this_traced, .int this_speaks, .int this_isParted, .ref a_this_bits, .ref a_this_sizes, .ref a_this_number, .ref a_this_aside])), (a_this_errors, .inl (gI G, 7, .inl this_errors))]
def f_X12_told (N : Nat) (p0 : Int32) (this_errors : Nat → Int32) : Option (Int32 × (Nat → Int32)) := ((f_X12_in N p0 (1 : Int32) (6 : Int32)).bind fun r1 => (if r1 = 0 then ((f_X12_error N (1 : Int32) this_errors).bind fun r3 => (some (r3.1, r3.2))) else (if vin p0 7 = true then (some ((this_errors p0.toNatClampNeg), this_errors)) else none)))
set_option maxRecDepth 100000 in
set_option maxHeartbeats 4000000 in
theorem c_X12_told (l : Launch) (G : KG) (N : Nat) (a_this : Nat) (a_this_s : Nat) (a_this_kept : Nat) (a_this_errors : Nat) (a_this_step : Nat) (a_this_named : Nat) (a_this_pile : Nat) (a_this_told : Nat) (a_this_beside1 : Nat) (a_this_row : Nat) (a_this_best : Nat) (a_this_worthOf : Nat) (a_this_trace : Nat) (a_this_bits : Nat) (a_this_sizes : Nat) (a_this_number : Nat) (a_this_aside : Nat) (p0 : Int32) (this_images : Int32) (this_at : Int32) (this_open : Int32) (this_steps : Int32) (this_use : Int32) (this_bestNet : Int32) (this_bestMore : Int32) (this_leastApart : Int32) (this_found : Int32) (this_first : Int32) (this_leastPaid : Int32) (this_traced : Int32) (this_speaks : Int32) (this_isParted : Int32) (this_errors : Nat → Int32)  (out : Int32 × (Nat → Int32)) (hf : f_X12_told N p0 this_errors = some out) : KM l G yX12_told (kw yX12_told cX12_told 2 (some .int)) 1 22 [.ref a_this, .int p0] (k_X12_told G a_this a_this_s a_this_kept a_this_errors a_this_step a_this_named a_this_pile a_this_told a_this_beside1 a_this_row a_this_best a_this_worthOf a_this_trace a_this_bits a_this_sizes a_this_number a_this_aside this_images this_at this_open this_steps this_use this_bestNet this_bestMore this_leastApart this_found this_first this_leastPaid this_traced this_speaks this_isParted this_errors) (k_X12_told G a_this a_this_s a_this_kept a_this_errors a_this_step a_this_named a_this_pile a_this_told a_this_beside1 a_this_row a_this_best a_this_worthOf a_this_trace a_this_bits a_this_sizes a_this_number a_this_aside this_images this_at this_open this_steps this_use this_bestNet this_bestMore this_leastApart this_found this_first this_leastPaid this_traced this_speaks this_isParted (out.2)) (some (.int (out.1))) := by
  refine KM.of (by decide) (Nat.le_of_ble_eq_true rfl) ?_
  intro p e s m below meth c A ls args Q Fx0 hP hK hD hA hS hAm hQ hl
  obtain ⟨hx, hb, hr, hml, hts, hown, hlk, hnm⟩ := Fx0
  have hown : s.vm.findClass RX12 = some m.cls := hown
  have hl : lv_has ls 2 [(0, .ref a_this), (1, .int p0)] := hl
  have fl_16 := hts _ tw_989
  unfold f_X12_told at hf
  refine lv_iload_n hx hb dX12_told_0 rfl (lv_at hl 1 rfl) ?_
  refine lv_iconst (v := (1 : Int32)) hx hb dX12_told_1 (by decide) ?_
  refine lv_bipush (v := (6 : Int32)) hx hb dX12_told_2 (by decide) ?_
  obtain ⟨r1, hr1, hf⟩ := kb hf
  refine kS (As := [.int p0, .int (1 : Int32), .int (6 : Int32)]) (rest := []) ⟨hx, hb, hml, hown, hts⟩ (c_X12_in l G N p0 (1 : Int32) (6 : Int32) r1 hr1) (kcS 3 hts tw_1083 tw_92 tw_1081 tw_1082 hd_X12_in ⟨Nat.le_of_ble_eq_true rfl, Nat.le_of_ble_eq_true rfl⟩) dX12_told_4 hl.1 hK hAm hA hP hD hS [] rfl rfl rfl [] rfl rfl rfl (Nat.le_of_ble_eq_true rfl) ⟨Nat.le_refl _, Nat.le_refl _⟩ (fun H locs hP hD hS => ?_)
  have hP : va_P (gD G) vwCl (k_X12_told G a_this a_this_s a_this_kept a_this_errors a_this_step a_this_named a_this_pile a_this_told a_this_beside1 a_this_row a_this_best a_this_worthOf a_this_trace a_this_bits a_this_sizes a_this_number a_this_aside this_images this_at this_open this_steps this_use this_bestNet this_bestMore this_leastApart this_found this_first this_leastPaid this_traced this_speaks this_isParted this_errors) H := hP
  have hD : va_D A (k_X12_told G a_this a_this_s a_this_kept a_this_errors a_this_step a_this_named a_this_pile a_this_told a_this_beside1 a_this_row a_this_best a_this_worthOf a_this_trace a_this_bits a_this_sizes a_this_number a_this_aside this_images this_at this_open this_steps this_use this_bestNet this_bestMore this_leastApart this_found this_first this_leastPaid this_traced this_speaks this_isParted this_errors) := hD
  refine lv_if_eq (tgt := 19) hx hb dX12_told_7 (by decide) (fun c2 => ?_) (fun c2 => ?_)
  · replace hf := kt c2 hf
    refine lv_aload_n hx hb dX12_told_19 rfl (lv_at hl 0 rfl) ?_
    refine lv_iconst (v := (1 : Int32)) hx hb dX12_told_20 (by decide) ?_
    obtain ⟨r3, hr3, hf⟩ := kb hf
    refine kV (As := [.int (1 : Int32)]) (rest := []) ⟨hx, hb, hml, hown, hts⟩ (c_X12_error l G N a_this a_this_s a_this_kept a_this_errors a_this_step a_this_named a_this_pile a_this_told a_this_beside1 a_this_row a_this_best a_this_worthOf a_this_trace a_this_bits a_this_sizes a_this_number a_this_aside (1 : Int32) this_images this_at this_open this_steps this_use this_bestNet this_bestMore this_leastApart this_found this_first this_leastPaid this_traced this_speaks this_isParted this_errors r3 hr3) (kcV 1 hts tw_1087 tw_92 tw_1084 tw_1086 tw_43 hd_X12_error ⟨Nat.le_of_ble_eq_true rfl, Nat.le_of_ble_eq_true rfl⟩) dX12_told_21 hl.1 hK hAm hA hP hD hS 0 (ci := 12) rfl rfl rfl [0, 1] rfl rfl rfl [1] rfl rfl rfl (Nat.le_of_ble_eq_true rfl) ⟨Nat.le_refl _, Nat.le_refl _⟩ (fun H locs hP hD hS => ?_)
    have hP : va_P (gD G) vwCl (k_X12_told G a_this a_this_s a_this_kept a_this_errors a_this_step a_this_named a_this_pile a_this_told a_this_beside1 a_this_row a_this_best a_this_worthOf a_this_trace a_this_bits a_this_sizes a_this_number a_this_aside this_images this_at this_open this_steps this_use this_bestNet this_bestMore this_leastApart this_found this_first this_leastPaid this_traced this_speaks this_isParted r3.2) H := hP
    have hD : va_D A (k_X12_told G a_this a_this_s a_this_kept a_this_errors a_this_step a_this_named a_this_pile a_this_told a_this_beside1 a_this_row a_this_best a_this_worthOf a_this_trace a_this_bits a_this_sizes a_this_number a_this_aside this_images this_at this_open this_steps this_use this_bestNet this_bestMore this_leastApart this_found this_first this_leastPaid this_traced this_speaks this_isParted r3.2) := hD
    have ho := ks hf
    subst ho
    exact kiret hx hb hr hlk hP hD hS hQ dX12_told_24
  · replace hf := kf c2 hf
    refine lv_aload_n hx hb dX12_told_10 rfl (lv_at hl 0 rfl) ?_
    refine va_get (D := gD G) (ci := 12) (C := RX12) (T := TX12) (N := 30) hx hb hts hin_X12 hown hK hP 0 rfl rfl 3 (by decide) fl_16 (fun _ h9 => h9) rfl dX12_told_11 ?_
    refine lv_iload_n hx hb dX12_told_14 rfl (lv_at hl 1 rfl) ?_
    obtain ⟨g4, hf⟩ := kg hf
    refine va_iald hx hb hK hP 1 0 rfl rfl (vin_of g4) dX12_told_15 ?_
    refine lv_goto (tgt := 24) hx hb dX12_told_16 (by decide) ?_
    have ho := ks hf
    subst ho
    exact kiret hx hb hr hlk hP hD hS hQ dX12_told_24
abbrev k_X12_lacks (G : KG) (a_this : Nat) (a_this_s : Nat) (a_this_kept : Nat) (a_this_errors : Nat) (a_this_step : Nat) (a_this_named : Nat) (a_this_pile : Nat) (a_this_told : Nat) (a_this_beside1 : Nat) (a_this_row : Nat) (a_this_best : Nat) (a_this_worthOf : Nat) (a_this_trace : Nat) (a_this_bits : Nat) (a_this_sizes : Nat) (a_this_number : Nat) (a_this_aside : Nat) (this_images : Int32) (this_at : Int32) (this_open : Int32) (this_steps : Int32) (this_use : Int32) (this_bestNet : Int32) (this_bestMore : Int32) (this_leastApart : Int32) (this_found : Int32) (this_first : Int32) (this_leastPaid : Int32) (this_traced : Int32) (this_speaks : Int32) (this_isParted : Int32) (this_bits : Nat → Int32) (this_number : Nat → Int32) (this_sizes : Nat → Int32) (this_told : Nat → Int32) : va_W := [(a_this, .inr (12, [.ref a_this_s, .ref a_this_kept, .int this_images, .ref a_this_errors, .int this_at, .int this_open, .int this_steps, .int this_use, .ref a_this_step, .ref a_this_named, .ref a_this_pile, .ref a_this_told, .ref a_this_beside1, .ref a_this_row, .ref a_this_best, .int this_bestNet, .int this_bestMore, .ref a_this_worthOf, .int this_leastApart, .int this_found, .int this_first, .int this_leastPaid, .ref a_this_trace, .int this_traced, .int this_speaks, .int this_isParted, .ref a_this_bits, .ref a_this_sizes, .ref a_this_number, .ref a_this_aside])), (a_this_bits, .inl (gI G, 4, .inl this_bits)), (a_this_number, .inl (gI G, 96, .inl this_number)), (a_this_sizes, .inl (gI G, 4, .inl this_sizes)), (a_this_told, .inl (gI G, 8, .inl this_told))]
def f_X12_lacks (N : Nat) (p0 : Int32) (p1 : Int32) (p2 : Int32) (p3 : Int32) (this_bits : Nat → Int32) (this_number : Nat → Int32) (this_sizes : Nat → Int32) (this_told : Nat → Int32) : Option (Int32 × (Nat → Int32)) := ((f_X12_isSheet N p0).bind fun r1 => (if r1 = 0 then (some ((1 : Int32), this_told)) else ((f_X12_isTill N p1).bind fun r3 => (if r3 = 0 then (some ((1 : Int32), this_told)) else (if p2 = 0 then (some ((1 : Int32), this_told)) else ((f_X12_tells N p0 p3 this_told this_bits this_number this_sizes).bind fun r6 => (some (r6.1, r6.2))))))))
set_option maxRecDepth 100000 in
set_option maxHeartbeats 4000000 in
theorem c_X12_lacks (l : Launch) (G : KG) (N : Nat) (a_this : Nat) (a_this_s : Nat) (a_this_kept : Nat) (a_this_errors : Nat) (a_this_step : Nat) (a_this_named : Nat) (a_this_pile : Nat) (a_this_told : Nat) (a_this_beside1 : Nat) (a_this_row : Nat) (a_this_best : Nat) (a_this_worthOf : Nat) (a_this_trace : Nat) (a_this_bits : Nat) (a_this_sizes : Nat) (a_this_number : Nat) (a_this_aside : Nat) (p0 : Int32) (p1 : Int32) (p2 : Int32) (p3 : Int32) (this_images : Int32) (this_at : Int32) (this_open : Int32) (this_steps : Int32) (this_use : Int32) (this_bestNet : Int32) (this_bestMore : Int32) (this_leastApart : Int32) (this_found : Int32) (this_first : Int32) (this_leastPaid : Int32) (this_traced : Int32) (this_speaks : Int32) (this_isParted : Int32) (this_bits : Nat → Int32) (this_number : Nat → Int32) (this_sizes : Nat → Int32) (this_told : Nat → Int32)  (out : Int32 × (Nat → Int32)) (hf : f_X12_lacks N p0 p1 p2 p3 this_bits this_number this_sizes this_told = some out) : KM l G yX12_lacks (kw yX12_lacks cX12_lacks 5 (some .int)) 2 46 [.ref a_this, .int p0, .int p1, .int p2, .int p3] (k_X12_lacks G a_this a_this_s a_this_kept a_this_errors a_this_step a_this_named a_this_pile a_this_told a_this_beside1 a_this_row a_this_best a_this_worthOf a_this_trace a_this_bits a_this_sizes a_this_number a_this_aside this_images this_at this_open this_steps this_use this_bestNet this_bestMore this_leastApart this_found this_first this_leastPaid this_traced this_speaks this_isParted this_bits this_number this_sizes this_told) (k_X12_lacks G a_this a_this_s a_this_kept a_this_errors a_this_step a_this_named a_this_pile a_this_told a_this_beside1 a_this_row a_this_best a_this_worthOf a_this_trace a_this_bits a_this_sizes a_this_number a_this_aside this_images this_at this_open this_steps this_use this_bestNet this_bestMore this_leastApart this_found this_first this_leastPaid this_traced this_speaks this_isParted this_bits this_number this_sizes (out.2)) (some (.int (out.1))) := by
  refine KM.of (by decide) (Nat.le_of_ble_eq_true rfl) ?_
  intro p e s m below meth c A ls args Q Fx0 hP hK hD hA hS hAm hQ hl
  obtain ⟨hx, hb, hr, hml, hts, hown, hlk, hnm⟩ := Fx0
  have hown : s.vm.findClass RX12 = some m.cls := hown
  have hl : lv_has ls 5 [(0, .ref a_this), (1, .int p0), (2, .int p1), (3, .int p2), (4, .int p3)] := hl
  have fl_28 := hts _ tw_997
  unfold f_X12_lacks at hf
  refine lv_iload_n hx hb dX12_lacks_0 rfl (lv_at hl 1 rfl) ?_
  obtain ⟨r1, hr1, hf⟩ := kb hf
  refine kS (As := [.int p0]) (rest := []) ⟨hx, hb, hml, hown, hts⟩ (c_X12_isSheet l G N p0 r1 hr1) (kcS 1 hts tw_1226 tw_92 tw_1224 tw_1225 hd_X12_isSheet ⟨Nat.le_of_ble_eq_true rfl, Nat.le_of_ble_eq_true rfl⟩) dX12_lacks_1 hl.1 hK hAm hA hP hD hS [] rfl rfl rfl [] rfl rfl rfl (Nat.le_of_ble_eq_true rfl) ⟨Nat.le_refl _, Nat.le_refl _⟩ (fun H locs hP hD hS => ?_)
  have hP : va_P (gD G) vwCl (k_X12_lacks G a_this a_this_s a_this_kept a_this_errors a_this_step a_this_named a_this_pile a_this_told a_this_beside1 a_this_row a_this_best a_this_worthOf a_this_trace a_this_bits a_this_sizes a_this_number a_this_aside this_images this_at this_open this_steps this_use this_bestNet this_bestMore this_leastApart this_found this_first this_leastPaid this_traced this_speaks this_isParted this_bits this_number this_sizes this_told) H := hP
  have hD : va_D A (k_X12_lacks G a_this a_this_s a_this_kept a_this_errors a_this_step a_this_named a_this_pile a_this_told a_this_beside1 a_this_row a_this_best a_this_worthOf a_this_trace a_this_bits a_this_sizes a_this_number a_this_aside this_images this_at this_open this_steps this_use this_bestNet this_bestMore this_leastApart this_found this_first this_leastPaid this_traced this_speaks this_isParted this_bits this_number this_sizes this_told) := hD
  refine lv_if_eq (tgt := 32) hx hb dX12_lacks_4 (by decide) (fun c2 => ?_) (fun c2 => ?_)
  · replace hf := kt c2 hf
    refine lv_iconst (v := (1 : Int32)) hx hb dX12_lacks_32 (by decide) ?_
    have ho := ks hf
    subst ho
    exact kiret hx hb hr hlk hP hD hS hQ dX12_lacks_33
  · replace hf := kf c2 hf
    refine lv_iload_n hx hb dX12_lacks_7 rfl (lv_at hl 2 rfl) ?_
    obtain ⟨r3, hr3, hf⟩ := kb hf
    refine kS (As := [.int p1]) (rest := []) ⟨hx, hb, hml, hown, hts⟩ (c_X12_isTill l G N p1 r3 hr3) (kcS 1 hts tw_1177 tw_92 tw_1175 tw_1176 hd_X12_isTill ⟨Nat.le_of_ble_eq_true rfl, Nat.le_of_ble_eq_true rfl⟩) dX12_lacks_8 hl.1 hK hAm hA hP hD hS [] rfl rfl rfl [] rfl rfl rfl (Nat.le_of_ble_eq_true rfl) ⟨Nat.le_refl _, Nat.le_refl _⟩ (fun H locs hP hD hS => ?_)
    have hP : va_P (gD G) vwCl (k_X12_lacks G a_this a_this_s a_this_kept a_this_errors a_this_step a_this_named a_this_pile a_this_told a_this_beside1 a_this_row a_this_best a_this_worthOf a_this_trace a_this_bits a_this_sizes a_this_number a_this_aside this_images this_at this_open this_steps this_use this_bestNet this_bestMore this_leastApart this_found this_first this_leastPaid this_traced this_speaks this_isParted this_bits this_number this_sizes this_told) H := hP
    have hD : va_D A (k_X12_lacks G a_this a_this_s a_this_kept a_this_errors a_this_step a_this_named a_this_pile a_this_told a_this_beside1 a_this_row a_this_best a_this_worthOf a_this_trace a_this_bits a_this_sizes a_this_number a_this_aside this_images this_at this_open this_steps this_use this_bestNet this_bestMore this_leastApart this_found this_first this_leastPaid this_traced this_speaks this_isParted this_bits this_number this_sizes this_told) := hD
    refine lv_if_eq (tgt := 32) hx hb dX12_lacks_11 (by decide) (fun c4 => ?_) (fun c4 => ?_)
    · replace hf := kt c4 hf
      refine lv_iconst (v := (1 : Int32)) hx hb dX12_lacks_32 (by decide) ?_
      have ho := ks hf
      subst ho
      exact kiret hx hb hr hlk hP hD hS hQ dX12_lacks_33
    · replace hf := kf c4 hf
      refine lv_iload_n hx hb dX12_lacks_14 rfl (lv_at hl 3 rfl) ?_
      refine lv_if_eq (tgt := 32) hx hb dX12_lacks_15 (by decide) (fun c5 => ?_) (fun c5 => ?_)
      · replace hf := kt c5 hf
        refine lv_iconst (v := (1 : Int32)) hx hb dX12_lacks_32 (by decide) ?_
        have ho := ks hf
        subst ho
        exact kiret hx hb hr hlk hP hD hS hQ dX12_lacks_33
      · replace hf := kf c5 hf
        refine lv_aload_n hx hb dX12_lacks_18 rfl (lv_at hl 0 rfl) ?_
        refine lv_iload_n hx hb dX12_lacks_19 rfl (lv_at hl 1 rfl) ?_
        refine lv_aload_n hx hb dX12_lacks_20 rfl (lv_at hl 0 rfl) ?_
        refine va_get (D := gD G) (ci := 12) (C := RX12) (T := TX12) (N := 30) hx hb hts hin_X12 hown hK hP 0 rfl rfl 11 (by decide) fl_28 (fun _ h9 => h9) rfl dX12_lacks_21 ?_
        refine lv_iload hx hb dX12_lacks_24 (lv_at hl 4 rfl) ?_
        obtain ⟨r6, hr6, hf⟩ := kb hf
        refine kV (As := [.int p0, .ref a_this_told, .int p3]) (rest := []) ⟨hx, hb, hml, hown, hts⟩ (c_X12_tells l G N a_this_told a_this a_this_s a_this_kept a_this_errors a_this_step a_this_named a_this_pile a_this_told a_this_beside1 a_this_row a_this_best a_this_worthOf a_this_trace a_this_bits a_this_sizes a_this_number a_this_aside p0 p3 this_told this_images this_at this_open this_steps this_use this_bestNet this_bestMore this_leastApart this_found this_first this_leastPaid this_traced this_speaks this_isParted this_bits this_number this_sizes r6 hr6) (kcV 3 hts tw_1230 tw_92 tw_1227 tw_1229 tw_62 hd_X12_tells ⟨Nat.le_of_ble_eq_true rfl, Nat.le_of_ble_eq_true rfl⟩) dX12_lacks_26 hl.1 hK hAm hA hP hD hS 0 (ci := 12) rfl rfl rfl [4, 0, 1, 2, 3] rfl rfl rfl [0] rfl rfl rfl (Nat.le_of_ble_eq_true rfl) ⟨Nat.le_refl _, Nat.le_refl _⟩ (fun H locs hP hD hS => ?_)
        have hP : va_P (gD G) vwCl (k_X12_lacks G a_this a_this_s a_this_kept a_this_errors a_this_step a_this_named a_this_pile a_this_told a_this_beside1 a_this_row a_this_best a_this_worthOf a_this_trace a_this_bits a_this_sizes a_this_number a_this_aside this_images this_at this_open this_steps this_use this_bestNet this_bestMore this_leastApart this_found this_first this_leastPaid this_traced this_speaks this_isParted this_bits this_number this_sizes r6.2) H := hP
        have hD : va_D A (k_X12_lacks G a_this a_this_s a_this_kept a_this_errors a_this_step a_this_named a_this_pile a_this_told a_this_beside1 a_this_row a_this_best a_this_worthOf a_this_trace a_this_bits a_this_sizes a_this_number a_this_aside this_images this_at this_open this_steps this_use this_bestNet this_bestMore this_leastApart this_found this_first this_leastPaid this_traced this_speaks this_isParted this_bits this_number this_sizes r6.2) := hD
        refine lv_goto (tgt := 33) hx hb dX12_lacks_29 (by decide) ?_
        have ho := ks hf
        subst ho
        exact kiret hx hb hr hlk hP hD hS hQ dX12_lacks_33
abbrev k_X12_basket (G : KG) (a_this : Nat) (a_this_s : Nat) (a_this_kept : Nat) (a_this_errors : Nat) (a_this_step : Nat) (a_this_named : Nat) (a_this_pile : Nat) (a_this_told : Nat) (a_this_beside1 : Nat) (a_this_row : Nat) (a_this_best : Nat) (a_this_worthOf : Nat) (a_this_trace : Nat) (a_this_bits : Nat) (a_this_sizes : Nat) (a_this_number : Nat) (a_this_aside : Nat) (this_images : Int32) (this_at : Int32) (this_open : Int32) (this_steps : Int32) (this_use : Int32) (this_bestNet : Int32) (this_bestMore : Int32) (this_leastApart : Int32) (this_found : Int32) (this_first : Int32) (this_leastPaid : Int32) (this_traced : Int32) (this_speaks : Int32) (this_isParted : Int32) (this_bits : Nat → Int32) (this_errors : Nat → Int32) (this_number : Nat → Int32) (this_s : Nat → Int32) (this_sizes : Nat → Int32) (this_told : Nat → Int32) : va_W := [(a_this, .inr (12, [.ref a_this_s, .ref a_this_kept, .int this_images, .ref a_this_errors, .int this_at, .int this_open, .int this_steps, .int this_use, .ref a_this_step, .ref a_this_named, .ref a_this_pile, .ref a_this_told, .ref a_this_beside1, .ref a_this_row, .ref a_this_best, .int this_bestNet, .int this_bestMore, .ref a_this_worthOf, .int this_leastApart, .int this_found, .int this_first, .int this_leastPaid, .ref a_this_trace, .int this_traced, .int this_speaks, .int this_isParted, .ref a_this_bits, .ref a_this_sizes, .ref a_this_number, .ref a_this_aside])), (a_this_bits, .inl (gI G, 4, .inl this_bits)), (a_this_errors, .inl (gI G, 7, .inl this_errors)), (a_this_number, .inl (gI G, 96, .inl this_number)), (a_this_s, .inl (gI G, 374, .inl this_s)), (a_this_sizes, .inl (gI G, 4, .inl this_sizes)), (a_this_told, .inl (gI G, 8, .inl this_told))]
def f_X12_basket (N : Nat) (p0 : Int32) (p1 : Int32) (this_bits : Nat → Int32) (this_errors : Nat → Int32) (this_number : Nat → Int32) (this_s : Nat → Int32) (this_sizes : Nat → Int32) (this_told : Nat → Int32) : Option (Int32 × (Nat → Int32) × (Nat → Int32)) := ((f_X12_in N p1 (0 : Int32) (2 : Int32)).bind fun r1 => ((f_X12_lacks N p0 (0 : Int32) r1 (30 : Int32) this_bits this_number this_sizes this_told).bind fun r2 => (if r2.1 ≤ 0 then (if p1 = 0 then ((f_X12_many N r2.2).bind fun r8 => (some (r8, this_errors, r2.2))) else (if p1 = (1 : Int32) then ((f_X12_sumOf N r2.2 this_s).bind fun r7 => (some (r7, this_errors, r2.2))) else ((f_X12_costOf N r2.2 this_s).bind fun r6 => (some (r6, this_errors, r2.2))))) else ((f_X12_error N r2.1 this_errors).bind fun r9 => (some (r9.1, r9.2, r2.2))))))
set_option maxRecDepth 100000 in
set_option maxHeartbeats 4000000 in
theorem c_X12_basket (l : Launch) (G : KG) (N : Nat) (a_this : Nat) (a_this_s : Nat) (a_this_kept : Nat) (a_this_errors : Nat) (a_this_step : Nat) (a_this_named : Nat) (a_this_pile : Nat) (a_this_told : Nat) (a_this_beside1 : Nat) (a_this_row : Nat) (a_this_best : Nat) (a_this_worthOf : Nat) (a_this_trace : Nat) (a_this_bits : Nat) (a_this_sizes : Nat) (a_this_number : Nat) (a_this_aside : Nat) (p0 : Int32) (p1 : Int32) (this_images : Int32) (this_at : Int32) (this_open : Int32) (this_steps : Int32) (this_use : Int32) (this_bestNet : Int32) (this_bestMore : Int32) (this_leastApart : Int32) (this_found : Int32) (this_first : Int32) (this_leastPaid : Int32) (this_traced : Int32) (this_speaks : Int32) (this_isParted : Int32) (this_bits : Nat → Int32) (this_errors : Nat → Int32) (this_number : Nat → Int32) (this_s : Nat → Int32) (this_sizes : Nat → Int32) (this_told : Nat → Int32)  (out : Int32 × (Nat → Int32) × (Nat → Int32)) (hf : f_X12_basket N p0 p1 this_bits this_errors this_number this_s this_sizes this_told = some out) : KM l G yX12_basket (kw yX12_basket cX12_basket 4 (some .int)) 3 70 [.ref a_this, .int p0, .int p1] (k_X12_basket G a_this a_this_s a_this_kept a_this_errors a_this_step a_this_named a_this_pile a_this_told a_this_beside1 a_this_row a_this_best a_this_worthOf a_this_trace a_this_bits a_this_sizes a_this_number a_this_aside this_images this_at this_open this_steps this_use this_bestNet this_bestMore this_leastApart this_found this_first this_leastPaid this_traced this_speaks this_isParted this_bits this_errors this_number this_s this_sizes this_told) (k_X12_basket G a_this a_this_s a_this_kept a_this_errors a_this_step a_this_named a_this_pile a_this_told a_this_beside1 a_this_row a_this_best a_this_worthOf a_this_trace a_this_bits a_this_sizes a_this_number a_this_aside this_images this_at this_open this_steps this_use this_bestNet this_bestMore this_leastApart this_found this_first this_leastPaid this_traced this_speaks this_isParted this_bits (out.2.1) this_number this_s this_sizes (out.2.2)) (some (.int (out.1))) := by
  refine KM.of (by decide) (Nat.le_of_ble_eq_true rfl) ?_
  intro p e s m below meth c A ls args Q Fx0 hP hK hD hA hS hAm hQ hl
  obtain ⟨hx, hb, hr, hml, hts, hown, hlk, hnm⟩ := Fx0
  have hown : s.vm.findClass RX12 = some m.cls := hown
  have hl : lv_has ls 4 [(0, .ref a_this), (1, .int p0), (2, .int p1)] := hl
  have fl_28 := hts _ tw_997
  unfold f_X12_basket at hf
  refine lv_aload_n hx hb dX12_basket_0 rfl (lv_at hl 0 rfl) ?_
  refine lv_iload_n hx hb dX12_basket_1 rfl (lv_at hl 1 rfl) ?_
  refine lv_iconst (v := (0 : Int32)) hx hb dX12_basket_2 (by decide) ?_
  refine lv_iload_n hx hb dX12_basket_3 rfl (lv_at hl 2 rfl) ?_
  refine lv_iconst (v := (0 : Int32)) hx hb dX12_basket_4 (by decide) ?_
  refine lv_iconst (v := (2 : Int32)) hx hb dX12_basket_5 (by decide) ?_
  obtain ⟨r1, hr1, hf⟩ := kb hf
  refine kS (As := [.int p1, .int (0 : Int32), .int (2 : Int32)]) (rest := [.int (0 : Int32), .int p0, .ref a_this]) ⟨hx, hb, hml, hown, hts⟩ (c_X12_in l G N p1 (0 : Int32) (2 : Int32) r1 hr1) (kcS 3 hts tw_1083 tw_92 tw_1081 tw_1082 hd_X12_in ⟨Nat.le_of_ble_eq_true rfl, Nat.le_of_ble_eq_true rfl⟩) dX12_basket_6 hl.1 hK hAm hA hP hD hS [] rfl rfl rfl [] rfl rfl rfl (Nat.le_of_ble_eq_true rfl) ⟨Nat.le_refl _, Nat.le_refl _⟩ (fun H locs hP hD hS => ?_)
  have hP : va_P (gD G) vwCl (k_X12_basket G a_this a_this_s a_this_kept a_this_errors a_this_step a_this_named a_this_pile a_this_told a_this_beside1 a_this_row a_this_best a_this_worthOf a_this_trace a_this_bits a_this_sizes a_this_number a_this_aside this_images this_at this_open this_steps this_use this_bestNet this_bestMore this_leastApart this_found this_first this_leastPaid this_traced this_speaks this_isParted this_bits this_errors this_number this_s this_sizes this_told) H := hP
  have hD : va_D A (k_X12_basket G a_this a_this_s a_this_kept a_this_errors a_this_step a_this_named a_this_pile a_this_told a_this_beside1 a_this_row a_this_best a_this_worthOf a_this_trace a_this_bits a_this_sizes a_this_number a_this_aside this_images this_at this_open this_steps this_use this_bestNet this_bestMore this_leastApart this_found this_first this_leastPaid this_traced this_speaks this_isParted this_bits this_errors this_number this_s this_sizes this_told) := hD
  refine lv_bipush (v := (30 : Int32)) hx hb dX12_basket_9 (by decide) ?_
  obtain ⟨r2, hr2, hf⟩ := kb hf
  refine kV (As := [.int p0, .int (0 : Int32), .int r1, .int (30 : Int32)]) (rest := []) ⟨hx, hb, hml, hown, hts⟩ (c_X12_lacks l G N a_this a_this_s a_this_kept a_this_errors a_this_step a_this_named a_this_pile a_this_told a_this_beside1 a_this_row a_this_best a_this_worthOf a_this_trace a_this_bits a_this_sizes a_this_number a_this_aside p0 (0 : Int32) r1 (30 : Int32) this_images this_at this_open this_steps this_use this_bestNet this_bestMore this_leastApart this_found this_first this_leastPaid this_traced this_speaks this_isParted this_bits this_number this_sizes this_told r2 hr2) (kcV 4 hts tw_1223 tw_92 tw_1220 tw_1222 tw_61 hd_X12_lacks ⟨Nat.le_of_ble_eq_true rfl, Nat.le_of_ble_eq_true rfl⟩) dX12_basket_11 hl.1 hK hAm hA hP hD hS 0 (ci := 12) rfl rfl rfl [0, 1, 3, 5, 6] rfl rfl rfl [4] rfl rfl rfl (Nat.le_of_ble_eq_true rfl) ⟨Nat.le_refl _, Nat.le_refl _⟩ (fun H locs hP hD hS => ?_)
  have hP : va_P (gD G) vwCl (k_X12_basket G a_this a_this_s a_this_kept a_this_errors a_this_step a_this_named a_this_pile a_this_told a_this_beside1 a_this_row a_this_best a_this_worthOf a_this_trace a_this_bits a_this_sizes a_this_number a_this_aside this_images this_at this_open this_steps this_use this_bestNet this_bestMore this_leastApart this_found this_first this_leastPaid this_traced this_speaks this_isParted this_bits this_errors this_number this_s this_sizes r2.2) H := hP
  have hD : va_D A (k_X12_basket G a_this a_this_s a_this_kept a_this_errors a_this_step a_this_named a_this_pile a_this_told a_this_beside1 a_this_row a_this_best a_this_worthOf a_this_trace a_this_bits a_this_sizes a_this_number a_this_aside this_images this_at this_open this_steps this_use this_bestNet this_bestMore this_leastApart this_found this_first this_leastPaid this_traced this_speaks this_isParted this_bits this_errors this_number this_s this_sizes r2.2) := hD
  refine lv_istore_n (lv' := [(3, .int r2.1), (0, .ref a_this), (1, .int p0), (2, .int p1)]) hx hb dX12_basket_14 rfl hl (by decide) rfl (fun ls hl => ?_)
  refine lv_iload_n hx hb dX12_basket_15 rfl (lv_at hl 0 rfl) ?_
  refine lv_if_le (tgt := 25) hx hb dX12_basket_16 (by decide) (fun c3 => ?_) (fun c3 => ?_)
  · replace hf := kt c3 hf
    refine lv_iload_n hx hb dX12_basket_25 rfl (lv_at hl 3 rfl) ?_
    refine lv_if_ne (tgt := 39) hx hb dX12_basket_26 (by decide) (fun c4 => ?_) (fun c4 => ?_)
    · replace hf := kf c4 hf
      refine lv_iload_n hx hb dX12_basket_39 rfl (lv_at hl 3 rfl) ?_
      refine lv_iconst (v := (1 : Int32)) hx hb dX12_basket_40 (by decide) ?_
      refine lv_icmp_ne (tgt := 55) hx hb dX12_basket_41 (by decide) (fun c5 => ?_) (fun c5 => ?_)
      · replace hf := kf c5 hf
        refine lv_aload_n hx hb dX12_basket_55 rfl (lv_at hl 1 rfl) ?_
        refine lv_aload_n hx hb dX12_basket_56 rfl (lv_at hl 1 rfl) ?_
        refine va_get (D := gD G) (ci := 12) (C := RX12) (T := TX12) (N := 30) hx hb hts hin_X12 hown hK hP 0 rfl rfl 11 (by decide) fl_28 (fun _ h9 => h9) rfl dX12_basket_57 ?_
        obtain ⟨r6, hr6, hf⟩ := kb hf
        refine kV (As := [.ref a_this_told]) (rest := []) ⟨hx, hb, hml, hown, hts⟩ (c_X12_costOf l G N a_this_told a_this a_this_s a_this_kept a_this_errors a_this_step a_this_named a_this_pile a_this_told a_this_beside1 a_this_row a_this_best a_this_worthOf a_this_trace a_this_bits a_this_sizes a_this_number a_this_aside r2.2 this_images this_at this_open this_steps this_use this_bestNet this_bestMore this_leastApart this_found this_first this_leastPaid this_traced this_speaks this_isParted this_s r6 hr6) (kcV 1 hts tw_1241 tw_92 tw_1238 tw_1240 tw_64 hd_X12_costOf ⟨Nat.le_of_ble_eq_true rfl, Nat.le_of_ble_eq_true rfl⟩) dX12_basket_60 hl.1 hK hAm hA hP hD hS 0 (ci := 12) rfl rfl rfl [6, 0, 4] rfl rfl rfl [] rfl rfl rfl (Nat.le_of_ble_eq_true rfl) ⟨Nat.le_refl _, Nat.le_refl _⟩ (fun H locs hP hD hS => ?_)
        have hP : va_P (gD G) vwCl (k_X12_basket G a_this a_this_s a_this_kept a_this_errors a_this_step a_this_named a_this_pile a_this_told a_this_beside1 a_this_row a_this_best a_this_worthOf a_this_trace a_this_bits a_this_sizes a_this_number a_this_aside this_images this_at this_open this_steps this_use this_bestNet this_bestMore this_leastApart this_found this_first this_leastPaid this_traced this_speaks this_isParted this_bits this_errors this_number this_s this_sizes r2.2) H := hP
        have hD : va_D A (k_X12_basket G a_this a_this_s a_this_kept a_this_errors a_this_step a_this_named a_this_pile a_this_told a_this_beside1 a_this_row a_this_best a_this_worthOf a_this_trace a_this_bits a_this_sizes a_this_number a_this_aside this_images this_at this_open this_steps this_use this_bestNet this_bestMore this_leastApart this_found this_first this_leastPaid this_traced this_speaks this_isParted this_bits this_errors this_number this_s this_sizes r2.2) := hD
        have ho := ks hf
        subst ho
        exact kiret hx hb hr hlk hP hD hS hQ dX12_basket_63
      · replace hf := kt c5 hf
        refine lv_aload_n hx hb dX12_basket_44 rfl (lv_at hl 1 rfl) ?_
        refine lv_aload_n hx hb dX12_basket_45 rfl (lv_at hl 1 rfl) ?_
        refine va_get (D := gD G) (ci := 12) (C := RX12) (T := TX12) (N := 30) hx hb hts hin_X12 hown hK hP 0 rfl rfl 11 (by decide) fl_28 (fun _ h9 => h9) rfl dX12_basket_46 ?_
        obtain ⟨r7, hr7, hf⟩ := kb hf
        refine kV (As := [.ref a_this_told]) (rest := []) ⟨hx, hb, hml, hown, hts⟩ (c_X12_sumOf l G N a_this_told a_this a_this_s a_this_kept a_this_errors a_this_step a_this_named a_this_pile a_this_told a_this_beside1 a_this_row a_this_best a_this_worthOf a_this_trace a_this_bits a_this_sizes a_this_number a_this_aside r2.2 this_images this_at this_open this_steps this_use this_bestNet this_bestMore this_leastApart this_found this_first this_leastPaid this_traced this_speaks this_isParted this_s r7 hr7) (kcV 1 hts tw_1237 tw_92 tw_1234 tw_1236 tw_63 hd_X12_sumOf ⟨Nat.le_of_ble_eq_true rfl, Nat.le_of_ble_eq_true rfl⟩) dX12_basket_49 hl.1 hK hAm hA hP hD hS 0 (ci := 12) rfl rfl rfl [6, 0, 4] rfl rfl rfl [] rfl rfl rfl (Nat.le_of_ble_eq_true rfl) ⟨Nat.le_refl _, Nat.le_refl _⟩ (fun H locs hP hD hS => ?_)
        have hP : va_P (gD G) vwCl (k_X12_basket G a_this a_this_s a_this_kept a_this_errors a_this_step a_this_named a_this_pile a_this_told a_this_beside1 a_this_row a_this_best a_this_worthOf a_this_trace a_this_bits a_this_sizes a_this_number a_this_aside this_images this_at this_open this_steps this_use this_bestNet this_bestMore this_leastApart this_found this_first this_leastPaid this_traced this_speaks this_isParted this_bits this_errors this_number this_s this_sizes r2.2) H := hP
        have hD : va_D A (k_X12_basket G a_this a_this_s a_this_kept a_this_errors a_this_step a_this_named a_this_pile a_this_told a_this_beside1 a_this_row a_this_best a_this_worthOf a_this_trace a_this_bits a_this_sizes a_this_number a_this_aside this_images this_at this_open this_steps this_use this_bestNet this_bestMore this_leastApart this_found this_first this_leastPaid this_traced this_speaks this_isParted this_bits this_errors this_number this_s this_sizes r2.2) := hD
        refine lv_goto (tgt := 63) hx hb dX12_basket_52 (by decide) ?_
        have ho := ks hf
        subst ho
        exact kiret hx hb hr hlk hP hD hS hQ dX12_basket_63
    · replace hf := kt c4 hf
      refine lv_aload_n hx hb dX12_basket_29 rfl (lv_at hl 1 rfl) ?_
      refine va_get (D := gD G) (ci := 12) (C := RX12) (T := TX12) (N := 30) hx hb hts hin_X12 hown hK hP 0 rfl rfl 11 (by decide) fl_28 (fun _ h9 => h9) rfl dX12_basket_30 ?_
      obtain ⟨r8, hr8, hf⟩ := kb hf
      refine kS (As := [.ref a_this_told]) (rest := []) ⟨hx, hb, hml, hown, hts⟩ (c_X12_many l G N a_this_told r2.2 r8 hr8) (kcS 1 hts tw_1233 tw_92 tw_1231 tw_1232 hd_X12_many ⟨Nat.le_of_ble_eq_true rfl, Nat.le_of_ble_eq_true rfl⟩) dX12_basket_33 hl.1 hK hAm hA hP hD hS [6] rfl rfl rfl [] rfl rfl rfl (Nat.le_of_ble_eq_true rfl) ⟨Nat.le_refl _, Nat.le_refl _⟩ (fun H locs hP hD hS => ?_)
      have hP : va_P (gD G) vwCl (k_X12_basket G a_this a_this_s a_this_kept a_this_errors a_this_step a_this_named a_this_pile a_this_told a_this_beside1 a_this_row a_this_best a_this_worthOf a_this_trace a_this_bits a_this_sizes a_this_number a_this_aside this_images this_at this_open this_steps this_use this_bestNet this_bestMore this_leastApart this_found this_first this_leastPaid this_traced this_speaks this_isParted this_bits this_errors this_number this_s this_sizes r2.2) H := hP
      have hD : va_D A (k_X12_basket G a_this a_this_s a_this_kept a_this_errors a_this_step a_this_named a_this_pile a_this_told a_this_beside1 a_this_row a_this_best a_this_worthOf a_this_trace a_this_bits a_this_sizes a_this_number a_this_aside this_images this_at this_open this_steps this_use this_bestNet this_bestMore this_leastApart this_found this_first this_leastPaid this_traced this_speaks this_isParted this_bits this_errors this_number this_s this_sizes r2.2) := hD
      refine lv_goto (tgt := 63) hx hb dX12_basket_36 (by decide) ?_
      have ho := ks hf
      subst ho
      exact kiret hx hb hr hlk hP hD hS hQ dX12_basket_63
  · replace hf := kf c3 hf
    refine lv_aload_n hx hb dX12_basket_19 rfl (lv_at hl 1 rfl) ?_
    refine lv_iload_n hx hb dX12_basket_20 rfl (lv_at hl 0 rfl) ?_
    obtain ⟨r9, hr9, hf⟩ := kb hf
    refine kV (As := [.int r2.1]) (rest := []) ⟨hx, hb, hml, hown, hts⟩ (c_X12_error l G N a_this a_this_s a_this_kept a_this_errors a_this_step a_this_named a_this_pile a_this_told a_this_beside1 a_this_row a_this_best a_this_worthOf a_this_trace a_this_bits a_this_sizes a_this_number a_this_aside r2.1 this_images this_at this_open this_steps this_use this_bestNet this_bestMore this_leastApart this_found this_first this_leastPaid this_traced this_speaks this_isParted this_errors r9 hr9) (kcV 1 hts tw_1087 tw_92 tw_1084 tw_1086 tw_43 hd_X12_error ⟨Nat.le_of_ble_eq_true rfl, Nat.le_of_ble_eq_true rfl⟩) dX12_basket_21 hl.1 hK hAm hA hP hD hS 0 (ci := 12) rfl rfl rfl [0, 2] rfl rfl rfl [1] rfl rfl rfl (Nat.le_of_ble_eq_true rfl) ⟨Nat.le_refl _, Nat.le_refl _⟩ (fun H locs hP hD hS => ?_)
    have hP : va_P (gD G) vwCl (k_X12_basket G a_this a_this_s a_this_kept a_this_errors a_this_step a_this_named a_this_pile a_this_told a_this_beside1 a_this_row a_this_best a_this_worthOf a_this_trace a_this_bits a_this_sizes a_this_number a_this_aside this_images this_at this_open this_steps this_use this_bestNet this_bestMore this_leastApart this_found this_first this_leastPaid this_traced this_speaks this_isParted this_bits r9.2 this_number this_s this_sizes r2.2) H := hP
    have hD : va_D A (k_X12_basket G a_this a_this_s a_this_kept a_this_errors a_this_step a_this_named a_this_pile a_this_told a_this_beside1 a_this_row a_this_best a_this_worthOf a_this_trace a_this_bits a_this_sizes a_this_number a_this_aside this_images this_at this_open this_steps this_use this_bestNet this_bestMore this_leastApart this_found this_first this_leastPaid this_traced this_speaks this_isParted this_bits r9.2 this_number this_s this_sizes r2.2) := hD
    have ho := ks hf
    subst ho
    exact kiret hx hb hr hlk hP hD hS hQ dX12_basket_24
abbrev k_X12_pays (G : KG) (a_this : Nat) (a_this_s : Nat) (a_this_kept : Nat) (a_this_errors : Nat) (a_this_step : Nat) (a_this_named : Nat) (a_this_pile : Nat) (a_this_told : Nat) (a_this_beside1 : Nat) (a_this_row : Nat) (a_this_best : Nat) (a_this_worthOf : Nat) (a_this_trace : Nat) (a_this_bits : Nat) (a_this_sizes : Nat) (a_this_number : Nat) (a_this_aside : Nat) (this_images : Int32) (this_at : Int32) (this_open : Int32) (this_steps : Int32) (this_use : Int32) (this_bestNet : Int32) (this_bestMore : Int32) (this_leastApart : Int32) (this_found : Int32) (this_first : Int32) (this_leastPaid : Int32) (this_traced : Int32) (this_speaks : Int32) (this_isParted : Int32) (this_bits : Nat → Int32) (this_errors : Nat → Int32) (this_named : Nat → Int32) (this_number : Nat → Int32) (this_pile : Nat → Int32) (this_s : Nat → Int32) (this_sizes : Nat → Int32) (this_told : Nat → Int32) : va_W := [(a_this, .inr (12, [.ref a_this_s, .ref a_this_kept, .int this_images, .ref a_this_errors, .int this_at, .int this_open, .int this_steps, .int this_use, .ref a_this_step, .ref a_this_named, .ref a_this_pile, .ref a_this_told, .ref a_this_beside1, .ref a_this_row, .ref a_this_best, .int this_bestNet, .int this_bestMore, .ref a_this_worthOf, .int this_leastApart, .int this_found, .int this_first, .int this_leastPaid, .ref a_this_trace, .int this_traced, .int this_speaks, .int this_isParted, .ref a_this_bits, .ref a_this_sizes, .ref a_this_number, .ref a_this_aside])), (a_this_bits, .inl (gI G, 4, .inl this_bits)), (a_this_errors, .inl (gI G, 7, .inl this_errors)), (a_this_named, .inl (gI G, 128, .inl this_named)), (a_this_number, .inl (gI G, 96, .inl this_number)), (a_this_pile, .inl (gI G, 64, .inl this_pile)), (a_this_s, .inl (gI G, 374, .inl this_s)), (a_this_sizes, .inl (gI G, 4, .inl this_sizes)), (a_this_told, .inl (gI G, 8, .inl this_told))]
def f_X12_pays (N : Nat) (p0 : Int32) (p1 : Int32) (this_bits : Nat → Int32) (this_errors : Nat → Int32) (this_named : Nat → Int32) (this_number : Nat → Int32) (this_pile : Nat → Int32) (this_s : Nat → Int32) (this_sizes : Nat → Int32) (this_told : Nat → Int32) : Option (Int32 × (Nat → Int32) × (Nat → Int32) × (Nat → Int32) × (Nat → Int32)) := ((f_X12_lacks N p0 p1 (1 : Int32) (30 : Int32) this_bits this_number this_sizes this_told).bind fun r1 => (if r1.1 ≤ 0 then ((f_X12_paid N p1 r1.2 this_named this_pile this_s).bind fun r3 => (some (r3.1, this_errors, r3.2.1, r3.2.2, r1.2))) else ((f_X12_error N r1.1 this_errors).bind fun r4 => (some (r4.1, r4.2, this_named, this_pile, r1.2)))))
set_option maxRecDepth 100000 in
set_option maxHeartbeats 4000000 in
theorem c_X12_pays (l : Launch) (G : KG) (N : Nat) (a_this : Nat) (a_this_s : Nat) (a_this_kept : Nat) (a_this_errors : Nat) (a_this_step : Nat) (a_this_named : Nat) (a_this_pile : Nat) (a_this_told : Nat) (a_this_beside1 : Nat) (a_this_row : Nat) (a_this_best : Nat) (a_this_worthOf : Nat) (a_this_trace : Nat) (a_this_bits : Nat) (a_this_sizes : Nat) (a_this_number : Nat) (a_this_aside : Nat) (p0 : Int32) (p1 : Int32) (this_images : Int32) (this_at : Int32) (this_open : Int32) (this_steps : Int32) (this_use : Int32) (this_bestNet : Int32) (this_bestMore : Int32) (this_leastApart : Int32) (this_found : Int32) (this_first : Int32) (this_leastPaid : Int32) (this_traced : Int32) (this_speaks : Int32) (this_isParted : Int32) (this_bits : Nat → Int32) (this_errors : Nat → Int32) (this_named : Nat → Int32) (this_number : Nat → Int32) (this_pile : Nat → Int32) (this_s : Nat → Int32) (this_sizes : Nat → Int32) (this_told : Nat → Int32)  (out : Int32 × (Nat → Int32) × (Nat → Int32) × (Nat → Int32) × (Nat → Int32)) (hf : f_X12_pays N p0 p1 this_bits this_errors this_named this_number this_pile this_s this_sizes this_told = some out) : KM l G yX12_pays (kw yX12_pays cX12_pays 4 (some .int)) 4 95 [.ref a_this, .int p0, .int p1] (k_X12_pays G a_this a_this_s a_this_kept a_this_errors a_this_step a_this_named a_this_pile a_this_told a_this_beside1 a_this_row a_this_best a_this_worthOf a_this_trace a_this_bits a_this_sizes a_this_number a_this_aside this_images this_at this_open this_steps this_use this_bestNet this_bestMore this_leastApart this_found this_first this_leastPaid this_traced this_speaks this_isParted this_bits this_errors this_named this_number this_pile this_s this_sizes this_told) (k_X12_pays G a_this a_this_s a_this_kept a_this_errors a_this_step a_this_named a_this_pile a_this_told a_this_beside1 a_this_row a_this_best a_this_worthOf a_this_trace a_this_bits a_this_sizes a_this_number a_this_aside this_images this_at this_open this_steps this_use this_bestNet this_bestMore this_leastApart this_found this_first this_leastPaid this_traced this_speaks this_isParted this_bits (out.2.1) (out.2.2.1) this_number (out.2.2.2.1) this_s this_sizes (out.2.2.2.2)) (some (.int (out.1))) := by
  refine KM.of (by decide) (Nat.le_of_ble_eq_true rfl) ?_
  intro p e s m below meth c A ls args Q Fx0 hP hK hD hA hS hAm hQ hl
  obtain ⟨hx, hb, hr, hml, hts, hown, hlk, hnm⟩ := Fx0
  have hown : s.vm.findClass RX12 = some m.cls := hown
  have hl : lv_has ls 4 [(0, .ref a_this), (1, .int p0), (2, .int p1)] := hl
  have fl_28 := hts _ tw_997
  unfold f_X12_pays at hf
  refine lv_aload_n hx hb dX12_pays_0 rfl (lv_at hl 0 rfl) ?_
  refine lv_iload_n hx hb dX12_pays_1 rfl (lv_at hl 1 rfl) ?_
  refine lv_iload_n hx hb dX12_pays_2 rfl (lv_at hl 2 rfl) ?_
  refine lv_iconst (v := (1 : Int32)) hx hb dX12_pays_3 (by decide) ?_
  refine lv_bipush (v := (30 : Int32)) hx hb dX12_pays_4 (by decide) ?_
  obtain ⟨r1, hr1, hf⟩ := kb hf
  refine kV (As := [.int p0, .int p1, .int (1 : Int32), .int (30 : Int32)]) (rest := []) ⟨hx, hb, hml, hown, hts⟩ (c_X12_lacks l G N a_this a_this_s a_this_kept a_this_errors a_this_step a_this_named a_this_pile a_this_told a_this_beside1 a_this_row a_this_best a_this_worthOf a_this_trace a_this_bits a_this_sizes a_this_number a_this_aside p0 p1 (1 : Int32) (30 : Int32) this_images this_at this_open this_steps this_use this_bestNet this_bestMore this_leastApart this_found this_first this_leastPaid this_traced this_speaks this_isParted this_bits this_number this_sizes this_told r1 hr1) (kcV 4 hts tw_1223 tw_92 tw_1220 tw_1222 tw_61 hd_X12_lacks ⟨Nat.le_of_ble_eq_true rfl, Nat.le_of_ble_eq_true rfl⟩) dX12_pays_6 hl.1 hK hAm hA hP hD hS 0 (ci := 12) rfl rfl rfl [0, 1, 4, 7, 8] rfl rfl rfl [4] rfl rfl rfl (Nat.le_of_ble_eq_true rfl) ⟨Nat.le_refl _, Nat.le_refl _⟩ (fun H locs hP hD hS => ?_)
  have hP : va_P (gD G) vwCl (k_X12_pays G a_this a_this_s a_this_kept a_this_errors a_this_step a_this_named a_this_pile a_this_told a_this_beside1 a_this_row a_this_best a_this_worthOf a_this_trace a_this_bits a_this_sizes a_this_number a_this_aside this_images this_at this_open this_steps this_use this_bestNet this_bestMore this_leastApart this_found this_first this_leastPaid this_traced this_speaks this_isParted this_bits this_errors this_named this_number this_pile this_s this_sizes r1.2) H := hP
  have hD : va_D A (k_X12_pays G a_this a_this_s a_this_kept a_this_errors a_this_step a_this_named a_this_pile a_this_told a_this_beside1 a_this_row a_this_best a_this_worthOf a_this_trace a_this_bits a_this_sizes a_this_number a_this_aside this_images this_at this_open this_steps this_use this_bestNet this_bestMore this_leastApart this_found this_first this_leastPaid this_traced this_speaks this_isParted this_bits this_errors this_named this_number this_pile this_s this_sizes r1.2) := hD
  refine lv_istore_n (lv' := [(3, .int r1.1), (0, .ref a_this), (1, .int p0), (2, .int p1)]) hx hb dX12_pays_9 rfl hl (by decide) rfl (fun ls hl => ?_)
  refine lv_iload_n hx hb dX12_pays_10 rfl (lv_at hl 0 rfl) ?_
  refine lv_if_le (tgt := 22) hx hb dX12_pays_11 (by decide) (fun c2 => ?_) (fun c2 => ?_)
  · replace hf := kt c2 hf
    refine lv_aload_n hx hb dX12_pays_22 rfl (lv_at hl 1 rfl) ?_
    refine lv_iload_n hx hb dX12_pays_23 rfl (lv_at hl 3 rfl) ?_
    refine lv_aload_n hx hb dX12_pays_24 rfl (lv_at hl 1 rfl) ?_
    refine va_get (D := gD G) (ci := 12) (C := RX12) (T := TX12) (N := 30) hx hb hts hin_X12 hown hK hP 0 rfl rfl 11 (by decide) fl_28 (fun _ h9 => h9) rfl dX12_pays_25 ?_
    obtain ⟨r3, hr3, hf⟩ := kb hf
    refine kV (As := [.int p1, .ref a_this_told]) (rest := []) ⟨hx, hb, hml, hown, hts⟩ (c_X12_paid l G N a_this_told a_this a_this_s a_this_kept a_this_errors a_this_step a_this_named a_this_pile a_this_told a_this_beside1 a_this_row a_this_best a_this_worthOf a_this_trace a_this_bits a_this_sizes a_this_number a_this_aside p1 r1.2 this_images this_at this_open this_steps this_use this_bestNet this_bestMore this_leastApart this_found this_first this_leastPaid this_traced this_speaks this_isParted this_named this_pile this_s r3 hr3) (kcV 2 hts tw_1249 tw_92 tw_1246 tw_1248 tw_65 hd_X12_paid ⟨Nat.le_of_ble_eq_true rfl, Nat.le_of_ble_eq_true rfl⟩) dX12_pays_28 hl.1 hK hAm hA hP hD hS 0 (ci := 12) rfl rfl rfl [8, 0, 3, 5, 6] rfl rfl rfl [2, 3] rfl rfl rfl (Nat.le_of_ble_eq_true rfl) ⟨Nat.le_refl _, Nat.le_refl _⟩ (fun H locs hP hD hS => ?_)
    have hP : va_P (gD G) vwCl (k_X12_pays G a_this a_this_s a_this_kept a_this_errors a_this_step a_this_named a_this_pile a_this_told a_this_beside1 a_this_row a_this_best a_this_worthOf a_this_trace a_this_bits a_this_sizes a_this_number a_this_aside this_images this_at this_open this_steps this_use this_bestNet this_bestMore this_leastApart this_found this_first this_leastPaid this_traced this_speaks this_isParted this_bits this_errors r3.2.1 this_number r3.2.2 this_s this_sizes r1.2) H := hP
    have hD : va_D A (k_X12_pays G a_this a_this_s a_this_kept a_this_errors a_this_step a_this_named a_this_pile a_this_told a_this_beside1 a_this_row a_this_best a_this_worthOf a_this_trace a_this_bits a_this_sizes a_this_number a_this_aside this_images this_at this_open this_steps this_use this_bestNet this_bestMore this_leastApart this_found this_first this_leastPaid this_traced this_speaks this_isParted this_bits this_errors r3.2.1 this_number r3.2.2 this_s this_sizes r1.2) := hD
    have ho := ks hf
    subst ho
    exact kiret hx hb hr hlk hP hD hS hQ dX12_pays_31
  · replace hf := kf c2 hf
    refine lv_aload_n hx hb dX12_pays_14 rfl (lv_at hl 1 rfl) ?_
    refine lv_iload_n hx hb dX12_pays_15 rfl (lv_at hl 0 rfl) ?_
    obtain ⟨r4, hr4, hf⟩ := kb hf
    refine kV (As := [.int r1.1]) (rest := []) ⟨hx, hb, hml, hown, hts⟩ (c_X12_error l G N a_this a_this_s a_this_kept a_this_errors a_this_step a_this_named a_this_pile a_this_told a_this_beside1 a_this_row a_this_best a_this_worthOf a_this_trace a_this_bits a_this_sizes a_this_number a_this_aside r1.1 this_images this_at this_open this_steps this_use this_bestNet this_bestMore this_leastApart this_found this_first this_leastPaid this_traced this_speaks this_isParted this_errors r4 hr4) (kcV 1 hts tw_1087 tw_92 tw_1084 tw_1086 tw_43 hd_X12_error ⟨Nat.le_of_ble_eq_true rfl, Nat.le_of_ble_eq_true rfl⟩) dX12_pays_16 hl.1 hK hAm hA hP hD hS 0 (ci := 12) rfl rfl rfl [0, 2] rfl rfl rfl [1] rfl rfl rfl (Nat.le_of_ble_eq_true rfl) ⟨Nat.le_refl _, Nat.le_refl _⟩ (fun H locs hP hD hS => ?_)
    have hP : va_P (gD G) vwCl (k_X12_pays G a_this a_this_s a_this_kept a_this_errors a_this_step a_this_named a_this_pile a_this_told a_this_beside1 a_this_row a_this_best a_this_worthOf a_this_trace a_this_bits a_this_sizes a_this_number a_this_aside this_images this_at this_open this_steps this_use this_bestNet this_bestMore this_leastApart this_found this_first this_leastPaid this_traced this_speaks this_isParted this_bits r4.2 this_named this_number this_pile this_s this_sizes r1.2) H := hP
    have hD : va_D A (k_X12_pays G a_this a_this_s a_this_kept a_this_errors a_this_step a_this_named a_this_pile a_this_told a_this_beside1 a_this_row a_this_best a_this_worthOf a_this_trace a_this_bits a_this_sizes a_this_number a_this_aside this_images this_at this_open this_steps this_use this_bestNet this_bestMore this_leastApart this_found this_first this_leastPaid this_traced this_speaks this_isParted this_bits r4.2 this_named this_number this_pile this_s this_sizes r1.2) := hD
    refine lv_goto (tgt := 31) hx hb dX12_pays_19 (by decide) ?_
    have ho := ks hf
    subst ho
    exact kiret hx hb hr hlk hP hD hS hQ dX12_pays_31
abbrev k_X12_go (G : KG) (a_this : Nat) (a_this_s : Nat) (a_this_kept : Nat) (a_this_errors : Nat) (a_this_step : Nat) (a_this_named : Nat) (a_this_pile : Nat) (a_this_told : Nat) (a_this_beside1 : Nat) (a_this_row : Nat) (a_this_best : Nat) (a_this_worthOf : Nat) (a_this_trace : Nat) (a_this_bits : Nat) (a_this_sizes : Nat) (a_this_number : Nat) (a_this_aside : Nat) (this_images : Int32) (this_at : Int32) (this_open : Int32) (this_steps : Int32) (this_use : Int32) (this_bestNet : Int32) (this_bestMore : Int32) (this_leastApart : Int32) (this_found : Int32) (this_first : Int32) (this_leastPaid : Int32) (this_traced : Int32) (this_speaks : Int32) (this_isParted : Int32) (this_bits : Nat → Int32) (this_errors : Nat → Int32) (this_named : Nat → Int32) (this_number : Nat → Int32) (this_pile : Nat → Int32) (this_s : Nat → Int32) (this_sizes : Nat → Int32) (this_told : Nat → Int32) : va_W := [(a_this, .inr (12, [.ref a_this_s, .ref a_this_kept, .int this_images, .ref a_this_errors, .int this_at, .int this_open, .int this_steps, .int this_use, .ref a_this_step, .ref a_this_named, .ref a_this_pile, .ref a_this_told, .ref a_this_beside1, .ref a_this_row, .ref a_this_best, .int this_bestNet, .int this_bestMore, .ref a_this_worthOf, .int this_leastApart, .int this_found, .int this_first, .int this_leastPaid, .ref a_this_trace, .int this_traced, .int this_speaks, .int this_isParted, .ref a_this_bits, .ref a_this_sizes, .ref a_this_number, .ref a_this_aside])), (a_this_bits, .inl (gI G, 4, .inl this_bits)), (a_this_errors, .inl (gI G, 7, .inl this_errors)), (a_this_named, .inl (gI G, 128, .inl this_named)), (a_this_number, .inl (gI G, 96, .inl this_number)), (a_this_pile, .inl (gI G, 64, .inl this_pile)), (a_this_s, .inl (gI G, 374, .inl this_s)), (a_this_sizes, .inl (gI G, 4, .inl this_sizes)), (a_this_told, .inl (gI G, 8, .inl this_told))]
def f_X12_go (N : Nat) (p0 : Int32) (p1 : Int32) (this_bits : Nat → Int32) (this_errors : Nat → Int32) (this_named : Nat → Int32) (this_number : Nat → Int32) (this_pile : Nat → Int32) (this_s : Nat → Int32) (this_sizes : Nat → Int32) (this_told : Nat → Int32) : Option (Int32 × (Nat → Int32) × (Nat → Int32) × (Nat → Int32) × (Nat → Int32) × (Nat → Int32)) := ((f_X12_lacks N p0 p1 (1 : Int32) (30 : Int32) this_bits this_number this_sizes this_told).bind fun r1 => (if r1.1 = 0 then ((f_X12_isInStock N r1.2 this_s).bind fun r6 => (if r6 = 0 then (if (3 : Int32) ≤ 0 then ((f_X12_goes N p1 r1.2 this_named this_pile this_s).bind fun r12 => (some (r12.1, this_errors, r12.2.1, r12.2.2.1, r12.2.2.2, r1.2))) else ((f_X12_error N (3 : Int32) this_errors).bind fun r13 => (some (r13.1, r13.2, this_named, this_pile, this_s, r1.2)))) else (if r1.1 ≤ 0 then ((f_X12_goes N p1 r1.2 this_named this_pile this_s).bind fun r9 => (some (r9.1, this_errors, r9.2.1, r9.2.2.1, r9.2.2.2, r1.2))) else ((f_X12_error N r1.1 this_errors).bind fun r10 => (some (r10.1, r10.2, this_named, this_pile, this_s, r1.2)))))) else (if r1.1 ≤ 0 then ((f_X12_goes N p1 r1.2 this_named this_pile this_s).bind fun r4 => (some (r4.1, this_errors, r4.2.1, r4.2.2.1, r4.2.2.2, r1.2))) else ((f_X12_error N r1.1 this_errors).bind fun r5 => (some (r5.1, r5.2, this_named, this_pile, this_s, r1.2))))))
set_option maxRecDepth 100000 in
set_option maxHeartbeats 4000000 in
theorem c_X12_go (l : Launch) (G : KG) (N : Nat) (a_this : Nat) (a_this_s : Nat) (a_this_kept : Nat) (a_this_errors : Nat) (a_this_step : Nat) (a_this_named : Nat) (a_this_pile : Nat) (a_this_told : Nat) (a_this_beside1 : Nat) (a_this_row : Nat) (a_this_best : Nat) (a_this_worthOf : Nat) (a_this_trace : Nat) (a_this_bits : Nat) (a_this_sizes : Nat) (a_this_number : Nat) (a_this_aside : Nat) (p0 : Int32) (p1 : Int32) (this_images : Int32) (this_at : Int32) (this_open : Int32) (this_steps : Int32) (this_use : Int32) (this_bestNet : Int32) (this_bestMore : Int32) (this_leastApart : Int32) (this_found : Int32) (this_first : Int32) (this_leastPaid : Int32) (this_traced : Int32) (this_speaks : Int32) (this_isParted : Int32) (this_bits : Nat → Int32) (this_errors : Nat → Int32) (this_named : Nat → Int32) (this_number : Nat → Int32) (this_pile : Nat → Int32) (this_s : Nat → Int32) (this_sizes : Nat → Int32) (this_told : Nat → Int32)  (out : Int32 × (Nat → Int32) × (Nat → Int32) × (Nat → Int32) × (Nat → Int32) × (Nat → Int32)) (hf : f_X12_go N p0 p1 this_bits this_errors this_named this_number this_pile this_s this_sizes this_told = some out) : KM l G yX12_go (kw yX12_go cX12_go 4 (some .int)) 5 119 [.ref a_this, .int p0, .int p1] (k_X12_go G a_this a_this_s a_this_kept a_this_errors a_this_step a_this_named a_this_pile a_this_told a_this_beside1 a_this_row a_this_best a_this_worthOf a_this_trace a_this_bits a_this_sizes a_this_number a_this_aside this_images this_at this_open this_steps this_use this_bestNet this_bestMore this_leastApart this_found this_first this_leastPaid this_traced this_speaks this_isParted this_bits this_errors this_named this_number this_pile this_s this_sizes this_told) (k_X12_go G a_this a_this_s a_this_kept a_this_errors a_this_step a_this_named a_this_pile a_this_told a_this_beside1 a_this_row a_this_best a_this_worthOf a_this_trace a_this_bits a_this_sizes a_this_number a_this_aside this_images this_at this_open this_steps this_use this_bestNet this_bestMore this_leastApart this_found this_first this_leastPaid this_traced this_speaks this_isParted this_bits (out.2.1) (out.2.2.1) this_number (out.2.2.2.1) (out.2.2.2.2.1) this_sizes (out.2.2.2.2.2)) (some (.int (out.1))) := by
  refine KM.of (by decide) (Nat.le_of_ble_eq_true rfl) ?_
  intro p e s m below meth c A ls args Q Fx0 hP hK hD hA hS hAm hQ hl
  obtain ⟨hx, hb, hr, hml, hts, hown, hlk, hnm⟩ := Fx0
  have hown : s.vm.findClass RX12 = some m.cls := hown
  have hl : lv_has ls 4 [(0, .ref a_this), (1, .int p0), (2, .int p1)] := hl
  have fl_28 := hts _ tw_997
  unfold f_X12_go at hf
  refine lv_aload_n hx hb dX12_go_0 rfl (lv_at hl 0 rfl) ?_
  refine lv_iload_n hx hb dX12_go_1 rfl (lv_at hl 1 rfl) ?_
  refine lv_iload_n hx hb dX12_go_2 rfl (lv_at hl 2 rfl) ?_
  refine lv_iconst (v := (1 : Int32)) hx hb dX12_go_3 (by decide) ?_
  refine lv_bipush (v := (30 : Int32)) hx hb dX12_go_4 (by decide) ?_
  obtain ⟨r1, hr1, hf⟩ := kb hf
  refine kV (As := [.int p0, .int p1, .int (1 : Int32), .int (30 : Int32)]) (rest := []) ⟨hx, hb, hml, hown, hts⟩ (c_X12_lacks l G N a_this a_this_s a_this_kept a_this_errors a_this_step a_this_named a_this_pile a_this_told a_this_beside1 a_this_row a_this_best a_this_worthOf a_this_trace a_this_bits a_this_sizes a_this_number a_this_aside p0 p1 (1 : Int32) (30 : Int32) this_images this_at this_open this_steps this_use this_bestNet this_bestMore this_leastApart this_found this_first this_leastPaid this_traced this_speaks this_isParted this_bits this_number this_sizes this_told r1 hr1) (kcV 4 hts tw_1223 tw_92 tw_1220 tw_1222 tw_61 hd_X12_lacks ⟨Nat.le_of_ble_eq_true rfl, Nat.le_of_ble_eq_true rfl⟩) dX12_go_6 hl.1 hK hAm hA hP hD hS 0 (ci := 12) rfl rfl rfl [0, 1, 4, 7, 8] rfl rfl rfl [4] rfl rfl rfl (Nat.le_of_ble_eq_true rfl) ⟨Nat.le_refl _, Nat.le_refl _⟩ (fun H locs hP hD hS => ?_)
  have hP : va_P (gD G) vwCl (k_X12_go G a_this a_this_s a_this_kept a_this_errors a_this_step a_this_named a_this_pile a_this_told a_this_beside1 a_this_row a_this_best a_this_worthOf a_this_trace a_this_bits a_this_sizes a_this_number a_this_aside this_images this_at this_open this_steps this_use this_bestNet this_bestMore this_leastApart this_found this_first this_leastPaid this_traced this_speaks this_isParted this_bits this_errors this_named this_number this_pile this_s this_sizes r1.2) H := hP
  have hD : va_D A (k_X12_go G a_this a_this_s a_this_kept a_this_errors a_this_step a_this_named a_this_pile a_this_told a_this_beside1 a_this_row a_this_best a_this_worthOf a_this_trace a_this_bits a_this_sizes a_this_number a_this_aside this_images this_at this_open this_steps this_use this_bestNet this_bestMore this_leastApart this_found this_first this_leastPaid this_traced this_speaks this_isParted this_bits this_errors this_named this_number this_pile this_s this_sizes r1.2) := hD
  refine lv_istore_n (lv' := [(3, .int r1.1), (0, .ref a_this), (1, .int p0), (2, .int p1)]) hx hb dX12_go_9 rfl hl (by decide) rfl (fun ls hl => ?_)
  refine lv_iload_n hx hb dX12_go_10 rfl (lv_at hl 0 rfl) ?_
  refine lv_if_ne (tgt := 27) hx hb dX12_go_11 (by decide) (fun c2 => ?_) (fun c2 => ?_)
  · replace hf := kf c2 hf
    refine lv_iload_n hx hb dX12_go_27 rfl (lv_at hl 0 rfl) ?_
    refine lv_if_le (tgt := 39) hx hb dX12_go_28 (by decide) (fun c3 => ?_) (fun c3 => ?_)
    · replace hf := kt c3 hf
      refine lv_aload_n hx hb dX12_go_39 rfl (lv_at hl 1 rfl) ?_
      refine lv_iload_n hx hb dX12_go_40 rfl (lv_at hl 3 rfl) ?_
      refine lv_aload_n hx hb dX12_go_41 rfl (lv_at hl 1 rfl) ?_
      refine va_get (D := gD G) (ci := 12) (C := RX12) (T := TX12) (N := 30) hx hb hts hin_X12 hown hK hP 0 rfl rfl 11 (by decide) fl_28 (fun _ h9 => h9) rfl dX12_go_42 ?_
      obtain ⟨r4, hr4, hf⟩ := kb hf
      refine kV (As := [.int p1, .ref a_this_told]) (rest := []) ⟨hx, hb, hml, hown, hts⟩ (c_X12_goes l G N a_this_told a_this a_this_s a_this_kept a_this_errors a_this_step a_this_named a_this_pile a_this_told a_this_beside1 a_this_row a_this_best a_this_worthOf a_this_trace a_this_bits a_this_sizes a_this_number a_this_aside p1 r1.2 this_images this_at this_open this_steps this_use this_bestNet this_bestMore this_leastApart this_found this_first this_leastPaid this_traced this_speaks this_isParted this_named this_pile this_s r4 hr4) (kcV 2 hts tw_1261 tw_92 tw_1258 tw_1260 tw_67 hd_X12_goes ⟨Nat.le_of_ble_eq_true rfl, Nat.le_of_ble_eq_true rfl⟩) dX12_go_45 hl.1 hK hAm hA hP hD hS 0 (ci := 12) rfl rfl rfl [8, 0, 3, 5, 6] rfl rfl rfl [2, 3, 4] rfl rfl rfl (Nat.le_of_ble_eq_true rfl) ⟨Nat.le_refl _, Nat.le_refl _⟩ (fun H locs hP hD hS => ?_)
      have hP : va_P (gD G) vwCl (k_X12_go G a_this a_this_s a_this_kept a_this_errors a_this_step a_this_named a_this_pile a_this_told a_this_beside1 a_this_row a_this_best a_this_worthOf a_this_trace a_this_bits a_this_sizes a_this_number a_this_aside this_images this_at this_open this_steps this_use this_bestNet this_bestMore this_leastApart this_found this_first this_leastPaid this_traced this_speaks this_isParted this_bits this_errors r4.2.1 this_number r4.2.2.1 r4.2.2.2 this_sizes r1.2) H := hP
      have hD : va_D A (k_X12_go G a_this a_this_s a_this_kept a_this_errors a_this_step a_this_named a_this_pile a_this_told a_this_beside1 a_this_row a_this_best a_this_worthOf a_this_trace a_this_bits a_this_sizes a_this_number a_this_aside this_images this_at this_open this_steps this_use this_bestNet this_bestMore this_leastApart this_found this_first this_leastPaid this_traced this_speaks this_isParted this_bits this_errors r4.2.1 this_number r4.2.2.1 r4.2.2.2 this_sizes r1.2) := hD
      have ho := ks hf
      subst ho
      exact kiret hx hb hr hlk hP hD hS hQ dX12_go_48
    · replace hf := kf c3 hf
      refine lv_aload_n hx hb dX12_go_31 rfl (lv_at hl 1 rfl) ?_
      refine lv_iload_n hx hb dX12_go_32 rfl (lv_at hl 0 rfl) ?_
      obtain ⟨r5, hr5, hf⟩ := kb hf
      refine kV (As := [.int r1.1]) (rest := []) ⟨hx, hb, hml, hown, hts⟩ (c_X12_error l G N a_this a_this_s a_this_kept a_this_errors a_this_step a_this_named a_this_pile a_this_told a_this_beside1 a_this_row a_this_best a_this_worthOf a_this_trace a_this_bits a_this_sizes a_this_number a_this_aside r1.1 this_images this_at this_open this_steps this_use this_bestNet this_bestMore this_leastApart this_found this_first this_leastPaid this_traced this_speaks this_isParted this_errors r5 hr5) (kcV 1 hts tw_1087 tw_92 tw_1084 tw_1086 tw_43 hd_X12_error ⟨Nat.le_of_ble_eq_true rfl, Nat.le_of_ble_eq_true rfl⟩) dX12_go_33 hl.1 hK hAm hA hP hD hS 0 (ci := 12) rfl rfl rfl [0, 2] rfl rfl rfl [1] rfl rfl rfl (Nat.le_of_ble_eq_true rfl) ⟨Nat.le_refl _, Nat.le_refl _⟩ (fun H locs hP hD hS => ?_)
      have hP : va_P (gD G) vwCl (k_X12_go G a_this a_this_s a_this_kept a_this_errors a_this_step a_this_named a_this_pile a_this_told a_this_beside1 a_this_row a_this_best a_this_worthOf a_this_trace a_this_bits a_this_sizes a_this_number a_this_aside this_images this_at this_open this_steps this_use this_bestNet this_bestMore this_leastApart this_found this_first this_leastPaid this_traced this_speaks this_isParted this_bits r5.2 this_named this_number this_pile this_s this_sizes r1.2) H := hP
      have hD : va_D A (k_X12_go G a_this a_this_s a_this_kept a_this_errors a_this_step a_this_named a_this_pile a_this_told a_this_beside1 a_this_row a_this_best a_this_worthOf a_this_trace a_this_bits a_this_sizes a_this_number a_this_aside this_images this_at this_open this_steps this_use this_bestNet this_bestMore this_leastApart this_found this_first this_leastPaid this_traced this_speaks this_isParted this_bits r5.2 this_named this_number this_pile this_s this_sizes r1.2) := hD
      refine lv_goto (tgt := 48) hx hb dX12_go_36 (by decide) ?_
      have ho := ks hf
      subst ho
      exact kiret hx hb hr hlk hP hD hS hQ dX12_go_48
  · replace hf := kt c2 hf
    refine lv_aload_n hx hb dX12_go_14 rfl (lv_at hl 1 rfl) ?_
    refine lv_aload_n hx hb dX12_go_15 rfl (lv_at hl 1 rfl) ?_
    refine va_get (D := gD G) (ci := 12) (C := RX12) (T := TX12) (N := 30) hx hb hts hin_X12 hown hK hP 0 rfl rfl 11 (by decide) fl_28 (fun _ h9 => h9) rfl dX12_go_16 ?_
    obtain ⟨r6, hr6, hf⟩ := kb hf
    refine kV (As := [.ref a_this_told]) (rest := []) ⟨hx, hb, hml, hown, hts⟩ (c_X12_isInStock l G N a_this_told a_this a_this_s a_this_kept a_this_errors a_this_step a_this_named a_this_pile a_this_told a_this_beside1 a_this_row a_this_best a_this_worthOf a_this_trace a_this_bits a_this_sizes a_this_number a_this_aside r1.2 this_images this_at this_open this_steps this_use this_bestNet this_bestMore this_leastApart this_found this_first this_leastPaid this_traced this_speaks this_isParted this_s r6 hr6) (kcV 1 hts tw_1257 tw_92 tw_1254 tw_1256 tw_66 hd_X12_isInStock ⟨Nat.le_of_ble_eq_true rfl, Nat.le_of_ble_eq_true rfl⟩) dX12_go_19 hl.1 hK hAm hA hP hD hS 0 (ci := 12) rfl rfl rfl [8, 0, 6] rfl rfl rfl [] rfl rfl rfl (Nat.le_of_ble_eq_true rfl) ⟨Nat.le_refl _, Nat.le_refl _⟩ (fun H locs hP hD hS => ?_)
    have hP : va_P (gD G) vwCl (k_X12_go G a_this a_this_s a_this_kept a_this_errors a_this_step a_this_named a_this_pile a_this_told a_this_beside1 a_this_row a_this_best a_this_worthOf a_this_trace a_this_bits a_this_sizes a_this_number a_this_aside this_images this_at this_open this_steps this_use this_bestNet this_bestMore this_leastApart this_found this_first this_leastPaid this_traced this_speaks this_isParted this_bits this_errors this_named this_number this_pile this_s this_sizes r1.2) H := hP
    have hD : va_D A (k_X12_go G a_this a_this_s a_this_kept a_this_errors a_this_step a_this_named a_this_pile a_this_told a_this_beside1 a_this_row a_this_best a_this_worthOf a_this_trace a_this_bits a_this_sizes a_this_number a_this_aside this_images this_at this_open this_steps this_use this_bestNet this_bestMore this_leastApart this_found this_first this_leastPaid this_traced this_speaks this_isParted this_bits this_errors this_named this_number this_pile this_s this_sizes r1.2) := hD
    refine lv_if_ne (tgt := 27) hx hb dX12_go_22 (by decide) (fun c7 => ?_) (fun c7 => ?_)
    · replace hf := kf c7 hf
      refine lv_iload_n hx hb dX12_go_27 rfl (lv_at hl 0 rfl) ?_
      refine lv_if_le (tgt := 39) hx hb dX12_go_28 (by decide) (fun c8 => ?_) (fun c8 => ?_)
      · replace hf := kt c8 hf
        refine lv_aload_n hx hb dX12_go_39 rfl (lv_at hl 1 rfl) ?_
        refine lv_iload_n hx hb dX12_go_40 rfl (lv_at hl 3 rfl) ?_
        refine lv_aload_n hx hb dX12_go_41 rfl (lv_at hl 1 rfl) ?_
        refine va_get (D := gD G) (ci := 12) (C := RX12) (T := TX12) (N := 30) hx hb hts hin_X12 hown hK hP 0 rfl rfl 11 (by decide) fl_28 (fun _ h9 => h9) rfl dX12_go_42 ?_
        obtain ⟨r9, hr9, hf⟩ := kb hf
        refine kV (As := [.int p1, .ref a_this_told]) (rest := []) ⟨hx, hb, hml, hown, hts⟩ (c_X12_goes l G N a_this_told a_this a_this_s a_this_kept a_this_errors a_this_step a_this_named a_this_pile a_this_told a_this_beside1 a_this_row a_this_best a_this_worthOf a_this_trace a_this_bits a_this_sizes a_this_number a_this_aside p1 r1.2 this_images this_at this_open this_steps this_use this_bestNet this_bestMore this_leastApart this_found this_first this_leastPaid this_traced this_speaks this_isParted this_named this_pile this_s r9 hr9) (kcV 2 hts tw_1261 tw_92 tw_1258 tw_1260 tw_67 hd_X12_goes ⟨Nat.le_of_ble_eq_true rfl, Nat.le_of_ble_eq_true rfl⟩) dX12_go_45 hl.1 hK hAm hA hP hD hS 0 (ci := 12) rfl rfl rfl [8, 0, 3, 5, 6] rfl rfl rfl [2, 3, 4] rfl rfl rfl (Nat.le_of_ble_eq_true rfl) ⟨Nat.le_refl _, Nat.le_refl _⟩ (fun H locs hP hD hS => ?_)
        have hP : va_P (gD G) vwCl (k_X12_go G a_this a_this_s a_this_kept a_this_errors a_this_step a_this_named a_this_pile a_this_told a_this_beside1 a_this_row a_this_best a_this_worthOf a_this_trace a_this_bits a_this_sizes a_this_number a_this_aside this_images this_at this_open this_steps this_use this_bestNet this_bestMore this_leastApart this_found this_first this_leastPaid this_traced this_speaks this_isParted this_bits this_errors r9.2.1 this_number r9.2.2.1 r9.2.2.2 this_sizes r1.2) H := hP
        have hD : va_D A (k_X12_go G a_this a_this_s a_this_kept a_this_errors a_this_step a_this_named a_this_pile a_this_told a_this_beside1 a_this_row a_this_best a_this_worthOf a_this_trace a_this_bits a_this_sizes a_this_number a_this_aside this_images this_at this_open this_steps this_use this_bestNet this_bestMore this_leastApart this_found this_first this_leastPaid this_traced this_speaks this_isParted this_bits this_errors r9.2.1 this_number r9.2.2.1 r9.2.2.2 this_sizes r1.2) := hD
        have ho := ks hf
        subst ho
        exact kiret hx hb hr hlk hP hD hS hQ dX12_go_48
      · replace hf := kf c8 hf
        refine lv_aload_n hx hb dX12_go_31 rfl (lv_at hl 1 rfl) ?_
        refine lv_iload_n hx hb dX12_go_32 rfl (lv_at hl 0 rfl) ?_
        obtain ⟨r10, hr10, hf⟩ := kb hf
        refine kV (As := [.int r1.1]) (rest := []) ⟨hx, hb, hml, hown, hts⟩ (c_X12_error l G N a_this a_this_s a_this_kept a_this_errors a_this_step a_this_named a_this_pile a_this_told a_this_beside1 a_this_row a_this_best a_this_worthOf a_this_trace a_this_bits a_this_sizes a_this_number a_this_aside r1.1 this_images this_at this_open this_steps this_use this_bestNet this_bestMore this_leastApart this_found this_first this_leastPaid this_traced this_speaks this_isParted this_errors r10 hr10) (kcV 1 hts tw_1087 tw_92 tw_1084 tw_1086 tw_43 hd_X12_error ⟨Nat.le_of_ble_eq_true rfl, Nat.le_of_ble_eq_true rfl⟩) dX12_go_33 hl.1 hK hAm hA hP hD hS 0 (ci := 12) rfl rfl rfl [0, 2] rfl rfl rfl [1] rfl rfl rfl (Nat.le_of_ble_eq_true rfl) ⟨Nat.le_refl _, Nat.le_refl _⟩ (fun H locs hP hD hS => ?_)
        have hP : va_P (gD G) vwCl (k_X12_go G a_this a_this_s a_this_kept a_this_errors a_this_step a_this_named a_this_pile a_this_told a_this_beside1 a_this_row a_this_best a_this_worthOf a_this_trace a_this_bits a_this_sizes a_this_number a_this_aside this_images this_at this_open this_steps this_use this_bestNet this_bestMore this_leastApart this_found this_first this_leastPaid this_traced this_speaks this_isParted this_bits r10.2 this_named this_number this_pile this_s this_sizes r1.2) H := hP
        have hD : va_D A (k_X12_go G a_this a_this_s a_this_kept a_this_errors a_this_step a_this_named a_this_pile a_this_told a_this_beside1 a_this_row a_this_best a_this_worthOf a_this_trace a_this_bits a_this_sizes a_this_number a_this_aside this_images this_at this_open this_steps this_use this_bestNet this_bestMore this_leastApart this_found this_first this_leastPaid this_traced this_speaks this_isParted this_bits r10.2 this_named this_number this_pile this_s this_sizes r1.2) := hD
        refine lv_goto (tgt := 48) hx hb dX12_go_36 (by decide) ?_
        have ho := ks hf
        subst ho
        exact kiret hx hb hr hlk hP hD hS hQ dX12_go_48
    · replace hf := kt c7 hf
      refine lv_iconst (v := (3 : Int32)) hx hb dX12_go_25 (by decide) ?_
      refine lv_istore_n (lv' := [(3, .int (3 : Int32)), (0, .ref a_this), (1, .int p0), (2, .int p1)]) hx hb dX12_go_26 rfl hl (by decide) rfl (fun ls hl => ?_)
      refine lv_iload_n hx hb dX12_go_27 rfl (lv_at hl 0 rfl) ?_
      refine lv_if_le (tgt := 39) hx hb dX12_go_28 (by decide) (fun c11 => ?_) (fun c11 => ?_)
      · replace hf := kt c11 hf
        refine lv_aload_n hx hb dX12_go_39 rfl (lv_at hl 1 rfl) ?_
        refine lv_iload_n hx hb dX12_go_40 rfl (lv_at hl 3 rfl) ?_
        refine lv_aload_n hx hb dX12_go_41 rfl (lv_at hl 1 rfl) ?_
        refine va_get (D := gD G) (ci := 12) (C := RX12) (T := TX12) (N := 30) hx hb hts hin_X12 hown hK hP 0 rfl rfl 11 (by decide) fl_28 (fun _ h9 => h9) rfl dX12_go_42 ?_
        obtain ⟨r12, hr12, hf⟩ := kb hf
        refine kV (As := [.int p1, .ref a_this_told]) (rest := []) ⟨hx, hb, hml, hown, hts⟩ (c_X12_goes l G N a_this_told a_this a_this_s a_this_kept a_this_errors a_this_step a_this_named a_this_pile a_this_told a_this_beside1 a_this_row a_this_best a_this_worthOf a_this_trace a_this_bits a_this_sizes a_this_number a_this_aside p1 r1.2 this_images this_at this_open this_steps this_use this_bestNet this_bestMore this_leastApart this_found this_first this_leastPaid this_traced this_speaks this_isParted this_named this_pile this_s r12 hr12) (kcV 2 hts tw_1261 tw_92 tw_1258 tw_1260 tw_67 hd_X12_goes ⟨Nat.le_of_ble_eq_true rfl, Nat.le_of_ble_eq_true rfl⟩) dX12_go_45 hl.1 hK hAm hA hP hD hS 0 (ci := 12) rfl rfl rfl [8, 0, 3, 5, 6] rfl rfl rfl [2, 3, 4] rfl rfl rfl (Nat.le_of_ble_eq_true rfl) ⟨Nat.le_refl _, Nat.le_refl _⟩ (fun H locs hP hD hS => ?_)
        have hP : va_P (gD G) vwCl (k_X12_go G a_this a_this_s a_this_kept a_this_errors a_this_step a_this_named a_this_pile a_this_told a_this_beside1 a_this_row a_this_best a_this_worthOf a_this_trace a_this_bits a_this_sizes a_this_number a_this_aside this_images this_at this_open this_steps this_use this_bestNet this_bestMore this_leastApart this_found this_first this_leastPaid this_traced this_speaks this_isParted this_bits this_errors r12.2.1 this_number r12.2.2.1 r12.2.2.2 this_sizes r1.2) H := hP
        have hD : va_D A (k_X12_go G a_this a_this_s a_this_kept a_this_errors a_this_step a_this_named a_this_pile a_this_told a_this_beside1 a_this_row a_this_best a_this_worthOf a_this_trace a_this_bits a_this_sizes a_this_number a_this_aside this_images this_at this_open this_steps this_use this_bestNet this_bestMore this_leastApart this_found this_first this_leastPaid this_traced this_speaks this_isParted this_bits this_errors r12.2.1 this_number r12.2.2.1 r12.2.2.2 this_sizes r1.2) := hD
        have ho := ks hf
        subst ho
        exact kiret hx hb hr hlk hP hD hS hQ dX12_go_48
      · replace hf := kf c11 hf
        refine lv_aload_n hx hb dX12_go_31 rfl (lv_at hl 1 rfl) ?_
        refine lv_iload_n hx hb dX12_go_32 rfl (lv_at hl 0 rfl) ?_
        obtain ⟨r13, hr13, hf⟩ := kb hf
        refine kV (As := [.int (3 : Int32)]) (rest := []) ⟨hx, hb, hml, hown, hts⟩ (c_X12_error l G N a_this a_this_s a_this_kept a_this_errors a_this_step a_this_named a_this_pile a_this_told a_this_beside1 a_this_row a_this_best a_this_worthOf a_this_trace a_this_bits a_this_sizes a_this_number a_this_aside (3 : Int32) this_images this_at this_open this_steps this_use this_bestNet this_bestMore this_leastApart this_found this_first this_leastPaid this_traced this_speaks this_isParted this_errors r13 hr13) (kcV 1 hts tw_1087 tw_92 tw_1084 tw_1086 tw_43 hd_X12_error ⟨Nat.le_of_ble_eq_true rfl, Nat.le_of_ble_eq_true rfl⟩) dX12_go_33 hl.1 hK hAm hA hP hD hS 0 (ci := 12) rfl rfl rfl [0, 2] rfl rfl rfl [1] rfl rfl rfl (Nat.le_of_ble_eq_true rfl) ⟨Nat.le_refl _, Nat.le_refl _⟩ (fun H locs hP hD hS => ?_)
        have hP : va_P (gD G) vwCl (k_X12_go G a_this a_this_s a_this_kept a_this_errors a_this_step a_this_named a_this_pile a_this_told a_this_beside1 a_this_row a_this_best a_this_worthOf a_this_trace a_this_bits a_this_sizes a_this_number a_this_aside this_images this_at this_open this_steps this_use this_bestNet this_bestMore this_leastApart this_found this_first this_leastPaid this_traced this_speaks this_isParted this_bits r13.2 this_named this_number this_pile this_s this_sizes r1.2) H := hP
        have hD : va_D A (k_X12_go G a_this a_this_s a_this_kept a_this_errors a_this_step a_this_named a_this_pile a_this_told a_this_beside1 a_this_row a_this_best a_this_worthOf a_this_trace a_this_bits a_this_sizes a_this_number a_this_aside this_images this_at this_open this_steps this_use this_bestNet this_bestMore this_leastApart this_found this_first this_leastPaid this_traced this_speaks this_isParted this_bits r13.2 this_named this_number this_pile this_s this_sizes r1.2) := hD
        refine lv_goto (tgt := 48) hx hb dX12_go_36 (by decide) ?_
        have ho := ks hf
        subst ho
        exact kiret hx hb hr hlk hP hD hS hQ dX12_go_48
abbrev k_X12_together (G : KG) (a_this : Nat) (a_this_s : Nat) (a_this_kept : Nat) (a_this_errors : Nat) (a_this_step : Nat) (a_this_named : Nat) (a_this_pile : Nat) (a_this_told : Nat) (a_this_beside1 : Nat) (a_this_row : Nat) (a_this_best : Nat) (a_this_worthOf : Nat) (a_this_trace : Nat) (a_this_bits : Nat) (a_this_sizes : Nat) (a_this_number : Nat) (a_this_aside : Nat) (this_images : Int32) (this_at : Int32) (this_open : Int32) (this_steps : Int32) (this_use : Int32) (this_bestNet : Int32) (this_bestMore : Int32) (this_leastApart : Int32) (this_found : Int32) (this_first : Int32) (this_leastPaid : Int32) (this_traced : Int32) (this_speaks : Int32) (this_isParted : Int32) (this_beside1 : Nat → Int32) (this_bits : Nat → Int32) (this_errors : Nat → Int32) (this_named : Nat → Int32) (this_number : Nat → Int32) (this_pile : Nat → Int32) (this_row : Nat → Int32) (this_s : Nat → Int32) (this_sizes : Nat → Int32) (this_told : Nat → Int32) : va_W := [(a_this, .inr (12, [.ref a_this_s, .ref a_this_kept, .int this_images, .ref a_this_errors, .int this_at, .int this_open, .int this_steps, .int this_use, .ref a_this_step, .ref a_this_named, .ref a_this_pile, .ref a_this_told, .ref a_this_beside1, .ref a_this_row, .ref a_this_best, .int this_bestNet, .int this_bestMore, .ref a_this_worthOf, .int this_leastApart, .int this_found, .int this_first, .int this_leastPaid, .ref a_this_trace, .int this_traced, .int this_speaks, .int this_isParted, .ref a_this_bits, .ref a_this_sizes, .ref a_this_number, .ref a_this_aside])), (a_this_beside1, .inl (gI G, 8, .inl this_beside1)), (a_this_bits, .inl (gI G, 4, .inl this_bits)), (a_this_errors, .inl (gI G, 7, .inl this_errors)), (a_this_named, .inl (gI G, 128, .inl this_named)), (a_this_number, .inl (gI G, 96, .inl this_number)), (a_this_pile, .inl (gI G, 64, .inl this_pile)), (a_this_row, .inl (gI G, 8, .inl this_row)), (a_this_s, .inl (gI G, 374, .inl this_s)), (a_this_sizes, .inl (gI G, 4, .inl this_sizes)), (a_this_told, .inl (gI G, 8, .inl this_told))]
def f_X12_together_122 (N : Nat) (this_beside1 : Nat → Int32) (this_told : Nat → Int32) (K : Int32 → (Nat → Int32) → Option (Int32 × (Nat → Int32) × (Nat → Int32) × (Nat → Int32) × (Nat → Int32) × (Nat → Int32) × (Nat → Int32))) : Nat → Int32 → (Nat → Int32) → Option (Int32 × (Nat → Int32) × (Nat → Int32) × (Nat → Int32) × (Nat → Int32) × (Nat → Int32) × (Nat → Int32))
  | 0, _, _ => none
  | n + 1, y5, this_row_v => (if (8 : Int32) ≤ y5 then (K y5 this_row_v) else (if vin y5 8 = true then (if vin y5 8 = true then (if vin y5 8 = true then (f_X12_together_122 N this_beside1 this_told K n (y5 + (1 : Int32)) (upd this_row_v y5.toNatClampNeg ((this_told y5.toNatClampNeg) + (this_beside1 y5.toNatClampNeg)))) else none) else none) else none))
def f_X12_together_j107 (N : Nat) (x3 : Int32) (x4 : Int32) (this_beside1 : Nat → Int32) (this_errors : Nat → Int32) (this_named : Nat → Int32) (this_pile : Nat → Int32) (this_row : Nat → Int32) (this_s : Nat → Int32) (this_told : Nat → Int32) : Option (Int32 × (Nat → Int32) × (Nat → Int32) × (Nat → Int32) × (Nat → Int32) × (Nat → Int32) × (Nat → Int32)) := (if x4 ≤ 0 then (f_X12_together_122 N this_beside1 this_told (fun v5_6 this_row_6 => ((f_X12_paid N x3 this_told this_named this_pile this_s).bind fun r7 => ((f_X12_paid N x3 this_beside1 r7.2.1 r7.2.2 this_s).bind fun r8 => ((f_X12_paid N x3 this_row_6 r8.2.1 r8.2.2 this_s).bind fun r9 => (some (((r7.1 + r8.1) - r9.1), this_beside1, this_errors, r9.2.1, r9.2.2, this_row_6, this_told)))))) N (0 : Int32) this_row) else ((f_X12_error N x4 this_errors).bind fun r15 => (some (r15.1, this_beside1, r15.2, this_named, this_pile, this_row, this_told))))
def f_X12_together_j79 (N : Nat) (x3 : Int32) (x4 : Int32) (this_beside1 : Nat → Int32) (this_errors : Nat → Int32) (this_named : Nat → Int32) (this_pile : Nat → Int32) (this_row : Nat → Int32) (this_s : Nat → Int32) (this_told : Nat → Int32) : Option (Int32 × (Nat → Int32) × (Nat → Int32) × (Nat → Int32) × (Nat → Int32) × (Nat → Int32) × (Nat → Int32)) := (if x4 = 0 then ((f_X12_many N this_told).bind fun r17 => ((f_X12_many N this_beside1).bind fun r18 => (if (r17 + r18) ≤ (30 : Int32) then (f_X12_together_j107 N x3 x4 this_beside1 this_errors this_named this_pile this_row this_s this_told) else (f_X12_together_j107 N x3 (4 : Int32) this_beside1 this_errors this_named this_pile this_row this_s this_told)))) else (f_X12_together_j107 N x3 x4 this_beside1 this_errors this_named this_pile this_row this_s this_told))
def f_X12_together (N : Nat) (p0 : Int32) (p1 : Int32) (p2 : Int32) (this_beside1 : Nat → Int32) (this_bits : Nat → Int32) (this_errors : Nat → Int32) (this_named : Nat → Int32) (this_number : Nat → Int32) (this_pile : Nat → Int32) (this_row : Nat → Int32) (this_s : Nat → Int32) (this_sizes : Nat → Int32) (this_told : Nat → Int32) : Option (Int32 × (Nat → Int32) × (Nat → Int32) × (Nat → Int32) × (Nat → Int32) × (Nat → Int32) × (Nat → Int32)) := ((f_X12_isSheet N p1).bind fun r20 => ((f_X12_lacks N p0 p2 r20 (99 : Int32) this_bits this_number this_sizes this_told).bind fun r21 => (if r21.1 = 0 then ((f_X12_tells N p1 (99 : Int32) this_beside1 this_bits this_number this_sizes).bind fun r23 => (if r23.1 = (2 : Int32) then (f_X12_together_j79 N p2 r23.1 r23.2 this_errors this_named this_pile this_row this_s r21.2) else (if r21.1 = 0 then (f_X12_together_j79 N p2 r23.1 r23.2 this_errors this_named this_pile this_row this_s r21.2) else (f_X12_together_j79 N p2 r21.1 r23.2 this_errors this_named this_pile this_row this_s r21.2)))) else (if r21.1 = (1 : Int32) then ((f_X12_isSheet N p0).bind fun r27 => (if r27 = 0 then (f_X12_together_j79 N p2 r21.1 this_beside1 this_errors this_named this_pile this_row this_s r21.2) else ((f_X12_isSheet N p1).bind fun r29 => (if r29 = 0 then (f_X12_together_j79 N p2 r21.1 this_beside1 this_errors this_named this_pile this_row this_s r21.2) else ((f_X12_isTill N p2).bind fun r31 => (if r31 = 0 then (f_X12_together_j79 N p2 r21.1 this_beside1 this_errors this_named this_pile this_row this_s r21.2) else ((f_X12_tells N p1 (99 : Int32) this_beside1 this_bits this_number this_sizes).bind fun r33 => (if r33.1 = (2 : Int32) then (f_X12_together_j79 N p2 r33.1 r33.2 this_errors this_named this_pile this_row this_s r21.2) else (if r21.1 = 0 then (f_X12_together_j79 N p2 r33.1 r33.2 this_errors this_named this_pile this_row this_s r21.2) else (f_X12_together_j79 N p2 r21.1 r33.2 this_errors this_named this_pile this_row this_s r21.2)))))))))) else (f_X12_together_j79 N p2 r21.1 this_beside1 this_errors this_named this_pile this_row this_s r21.2)))))
set_option maxRecDepth 100000 in
set_option maxHeartbeats 4000000 in
theorem c_X12_together (l : Launch) (G : KG) (N : Nat) (a_this : Nat) (a_this_s : Nat) (a_this_kept : Nat) (a_this_errors : Nat) (a_this_step : Nat) (a_this_named : Nat) (a_this_pile : Nat) (a_this_told : Nat) (a_this_beside1 : Nat) (a_this_row : Nat) (a_this_best : Nat) (a_this_worthOf : Nat) (a_this_trace : Nat) (a_this_bits : Nat) (a_this_sizes : Nat) (a_this_number : Nat) (a_this_aside : Nat) (p0 : Int32) (p1 : Int32) (p2 : Int32) (this_images : Int32) (this_at : Int32) (this_open : Int32) (this_steps : Int32) (this_use : Int32) (this_bestNet : Int32) (this_bestMore : Int32) (this_leastApart : Int32) (this_found : Int32) (this_first : Int32) (this_leastPaid : Int32) (this_traced : Int32) (this_speaks : Int32) (this_isParted : Int32) (this_beside1 : Nat → Int32) (this_bits : Nat → Int32) (this_errors : Nat → Int32) (this_named : Nat → Int32) (this_number : Nat → Int32) (this_pile : Nat → Int32) (this_row : Nat → Int32) (this_s : Nat → Int32) (this_sizes : Nat → Int32) (this_told : Nat → Int32)  (out : Int32 × (Nat → Int32) × (Nat → Int32) × (Nat → Int32) × (Nat → Int32) × (Nat → Int32) × (Nat → Int32)) (hf : f_X12_together N p0 p1 p2 this_beside1 this_bits this_errors this_named this_number this_pile this_row this_s this_sizes this_told = some out) : KM l G yX12_together (kw yX12_together cX12_together 6 (some .int)) 4 95 [.ref a_this, .int p0, .int p1, .int p2] (k_X12_together G a_this a_this_s a_this_kept a_this_errors a_this_step a_this_named a_this_pile a_this_told a_this_beside1 a_this_row a_this_best a_this_worthOf a_this_trace a_this_bits a_this_sizes a_this_number a_this_aside this_images this_at this_open this_steps this_use this_bestNet this_bestMore this_leastApart this_found this_first this_leastPaid this_traced this_speaks this_isParted this_beside1 this_bits this_errors this_named this_number this_pile this_row this_s this_sizes this_told) (k_X12_together G a_this a_this_s a_this_kept a_this_errors a_this_step a_this_named a_this_pile a_this_told a_this_beside1 a_this_row a_this_best a_this_worthOf a_this_trace a_this_bits a_this_sizes a_this_number a_this_aside this_images this_at this_open this_steps this_use this_bestNet this_bestMore this_leastApart this_found this_first this_leastPaid this_traced this_speaks this_isParted (out.2.1) this_bits (out.2.2.1) (out.2.2.2.1) this_number (out.2.2.2.2.1) (out.2.2.2.2.2.1) this_s this_sizes (out.2.2.2.2.2.2)) (some (.int (out.1))) := by
  refine KM.of (by decide) (Nat.le_of_ble_eq_true rfl) ?_
  intro p e s m below meth c A ls args Q Fx0 hP hK hD hA hS hAm hQ hl
  obtain ⟨hx, hb, hr, hml, hts, hown, hlk, hnm⟩ := Fx0
  have hown : s.vm.findClass RX12 = some m.cls := hown
  have hl : lv_has ls 6 [(0, .ref a_this), (1, .int p0), (2, .int p1), (3, .int p2)] := hl
  have fl_28 := hts _ tw_997
  have fl_31 := hts _ tw_998
  have fl_34 := hts _ tw_999
  unfold f_X12_together at hf
  have J107 : ∀ (x1_1 : Int32) (x2_1 : Int32) (x3_1 : Int32) (x4_1 : Int32) (this_beside1_1 : Nat → Int32) (this_errors_1 : Nat → Int32) (this_named_1 : Nat → Int32) (this_pile_1 : Nat → Int32) (this_row_1 : Nat → Int32) (this_told_1 : Nat → Int32) (H : Heap) (locs : List Loc), va_P (gD G) vwCl (k_X12_together G a_this a_this_s a_this_kept a_this_errors a_this_step a_this_named a_this_pile a_this_told a_this_beside1 a_this_row a_this_best a_this_worthOf a_this_trace a_this_bits a_this_sizes a_this_number a_this_aside this_images this_at this_open this_steps this_use this_bestNet this_bestMore this_leastApart this_found this_first this_leastPaid this_traced this_speaks this_isParted this_beside1_1 this_bits this_errors_1 this_named_1 this_number this_pile_1 this_row_1 this_s this_sizes this_told_1) H → va_D A (k_X12_together G a_this a_this_s a_this_kept a_this_errors a_this_step a_this_named a_this_pile a_this_told a_this_beside1 a_this_row a_this_best a_this_worthOf a_this_trace a_this_bits a_this_sizes a_this_number a_this_aside this_images this_at this_open this_steps this_use this_bestNet this_bestMore this_leastApart this_found this_first this_leastPaid this_traced this_speaks this_isParted this_beside1_1 this_bits this_errors_1 this_named_1 this_number this_pile_1 this_row_1 this_s this_sizes this_told_1) → va_S A s.heap H locs → ∀ (ls : Array Slot), lv_has ls 6 [(0, .ref a_this), (1, .int x1_1), (2, .int x2_1), (3, .int x3_1), (4, .int x4_1)] → f_X12_together_j107 N x3_1 x4_1 this_beside1_1 this_errors_1 this_named_1 this_pile_1 this_row_1 this_s this_told_1 = some out → W p l e (kR 4 0 0 95) s m args below meth c H locs 0 0 Q (F0 m 107 ls []) := by
    intro x1_1 x2_1 x3_1 x4_1 this_beside1_1 this_errors_1 this_named_1 this_pile_1 this_row_1 this_told_1 H locs hP hD hS ls hl hf
    rw [f_X12_together_j107] at hf
    refine lv_iload hx hb dX12_together_107 (lv_at hl 4 rfl) ?_
    refine lv_if_le (tgt := 119) hx hb dX12_together_109 (by decide) (fun c2 => ?_) (fun c2 => ?_)
    · replace hf := kt c2 hf
      refine lv_iconst (v := (0 : Int32)) hx hb dX12_together_119 (by decide) ?_
      refine lv_istore (lv' := [(5, .int (0 : Int32)), (0, .ref a_this), (1, .int x1_1), (2, .int x2_1), (3, .int x3_1), (4, .int x4_1)]) hx hb dX12_together_120 hl (by decide) rfl (fun ls hl => ?_)
      have L7 : ∀ (K : Int32 → (Nat → Int32) → Option (Int32 × (Nat → Int32) × (Nat → Int32) × (Nat → Int32) × (Nat → Int32) × (Nat → Int32) × (Nat → Int32))), (∀ (v5_7 : Int32) (this_row_7 : Nat → Int32) (H : Heap) (locs : List Loc), va_P (gD G) vwCl (k_X12_together G a_this a_this_s a_this_kept a_this_errors a_this_step a_this_named a_this_pile a_this_told a_this_beside1 a_this_row a_this_best a_this_worthOf a_this_trace a_this_bits a_this_sizes a_this_number a_this_aside this_images this_at this_open this_steps this_use this_bestNet this_bestMore this_leastApart this_found this_first this_leastPaid this_traced this_speaks this_isParted this_beside1_1 this_bits this_errors_1 this_named_1 this_number this_pile_1 this_row_7 this_s this_sizes this_told_1) H → va_D A (k_X12_together G a_this a_this_s a_this_kept a_this_errors a_this_step a_this_named a_this_pile a_this_told a_this_beside1 a_this_row a_this_best a_this_worthOf a_this_trace a_this_bits a_this_sizes a_this_number a_this_aside this_images this_at this_open this_steps this_use this_bestNet this_bestMore this_leastApart this_found this_first this_leastPaid this_traced this_speaks this_isParted this_beside1_1 this_bits this_errors_1 this_named_1 this_number this_pile_1 this_row_7 this_s this_sizes this_told_1) → va_S A s.heap H locs → ∀ (ls : Array Slot), lv_has ls 6 [(0, .ref a_this), (1, .int x1_1), (2, .int x2_1), (3, .int x3_1), (4, .int x4_1), (5, .int v5_7)] → K v5_7 this_row_7 = some out → W p l e (kR 4 0 0 95) s m args below meth c H locs 0 0 Q (F0 m 157 ls [])) → ∀ (n : Nat), ∀ (v5_7 : Int32) (this_row_7 : Nat → Int32) (H : Heap) (locs : List Loc), va_P (gD G) vwCl (k_X12_together G a_this a_this_s a_this_kept a_this_errors a_this_step a_this_named a_this_pile a_this_told a_this_beside1 a_this_row a_this_best a_this_worthOf a_this_trace a_this_bits a_this_sizes a_this_number a_this_aside this_images this_at this_open this_steps this_use this_bestNet this_bestMore this_leastApart this_found this_first this_leastPaid this_traced this_speaks this_isParted this_beside1_1 this_bits this_errors_1 this_named_1 this_number this_pile_1 this_row_7 this_s this_sizes this_told_1) H → va_D A (k_X12_together G a_this a_this_s a_this_kept a_this_errors a_this_step a_this_named a_this_pile a_this_told a_this_beside1 a_this_row a_this_best a_this_worthOf a_this_trace a_this_bits a_this_sizes a_this_number a_this_aside this_images this_at this_open this_steps this_use this_bestNet this_bestMore this_leastApart this_found this_first this_leastPaid this_traced this_speaks this_isParted this_beside1_1 this_bits this_errors_1 this_named_1 this_number this_pile_1 this_row_7 this_s this_sizes this_told_1) → va_S A s.heap H locs → ∀ (ls : Array Slot), lv_has ls 6 [(0, .ref a_this), (1, .int x1_1), (2, .int x2_1), (3, .int x3_1), (4, .int x4_1), (5, .int v5_7)] → f_X12_together_122 N this_beside1_1 this_told_1 K n v5_7 this_row_7 = some out → W p l e (kR 4 0 0 95) s m args below meth c H locs 0 0 Q (F0 m 122 ls []) := by
        intro K hK7 n
        induction n with
        | zero =>
          intro v5_7 this_row_7 H locs hP hD hS ls hl hf
          rw [f_X12_together_122] at hf
          cases hf
        | succ n ih =>
          intro v5_7 this_row_7 H locs hP hD hS ls hl hf
          rw [f_X12_together_122] at hf
          refine lv_iload hx hb dX12_together_122 (lv_at hl 5 rfl) ?_
          refine lv_bipush (v := (8 : Int32)) hx hb dX12_together_124 (by decide) ?_
          refine lv_icmp_ge (tgt := 157) hx hb dX12_together_126 (by decide) (fun c8 => ?_) (fun c8 => ?_)
          · replace hf := kt c8 hf
            exact hK7 v5_7 this_row_7 _ _ hP hD hS ls (lv_sub hl [0, 1, 2, 3, 4, 5] rfl) hf
          · replace hf := kf c8 hf
            refine lv_aload_n hx hb dX12_together_129 rfl (lv_at hl 0 rfl) ?_
            refine va_get (D := gD G) (ci := 12) (C := RX12) (T := TX12) (N := 30) hx hb hts hin_X12 hown hK hP 0 rfl rfl 13 (by decide) fl_34 (fun _ h9 => h9) rfl dX12_together_130 ?_
            refine lv_iload hx hb dX12_together_133 (lv_at hl 5 rfl) ?_
            refine lv_aload_n hx hb dX12_together_135 rfl (lv_at hl 0 rfl) ?_
            refine va_get (D := gD G) (ci := 12) (C := RX12) (T := TX12) (N := 30) hx hb hts hin_X12 hown hK hP 0 rfl rfl 11 (by decide) fl_28 (fun _ h9 => h9) rfl dX12_together_136 ?_
            refine lv_iload hx hb dX12_together_139 (lv_at hl 5 rfl) ?_
            obtain ⟨g9, hf⟩ := kg hf
            refine va_iald hx hb hK hP 10 0 rfl rfl (vin_of g9) dX12_together_141 ?_
            refine lv_aload_n hx hb dX12_together_142 rfl (lv_at hl 0 rfl) ?_
            refine va_get (D := gD G) (ci := 12) (C := RX12) (T := TX12) (N := 30) hx hb hts hin_X12 hown hK hP 0 rfl rfl 12 (by decide) fl_31 (fun _ h9 => h9) rfl dX12_together_143 ?_
            refine lv_iload hx hb dX12_together_146 (lv_at hl 5 rfl) ?_
            obtain ⟨g10, hf⟩ := kg hf
            refine va_iald hx hb hK hP 1 0 rfl rfl (vin_of g10) dX12_together_148 ?_
            refine lv_iadd hx hb dX12_together_149 ?_
            obtain ⟨g11, hf⟩ := kg hf
            refine va_iast hx hb hK hP hD hS 7 0 rfl rfl (vin_of g11) dX12_together_150 (fun H locs hP hD hS => ?_)
            have hP : va_P (gD G) vwCl (k_X12_together G a_this a_this_s a_this_kept a_this_errors a_this_step a_this_named a_this_pile a_this_told a_this_beside1 a_this_row a_this_best a_this_worthOf a_this_trace a_this_bits a_this_sizes a_this_number a_this_aside this_images this_at this_open this_steps this_use this_bestNet this_bestMore this_leastApart this_found this_first this_leastPaid this_traced this_speaks this_isParted this_beside1_1 this_bits this_errors_1 this_named_1 this_number this_pile_1 (upd this_row_7 v5_7.toNatClampNeg ((this_told_1 v5_7.toNatClampNeg) + (this_beside1_1 v5_7.toNatClampNeg))) this_s this_sizes this_told_1) H := hP
            have hD : va_D A (k_X12_together G a_this a_this_s a_this_kept a_this_errors a_this_step a_this_named a_this_pile a_this_told a_this_beside1 a_this_row a_this_best a_this_worthOf a_this_trace a_this_bits a_this_sizes a_this_number a_this_aside this_images this_at this_open this_steps this_use this_bestNet this_bestMore this_leastApart this_found this_first this_leastPaid this_traced this_speaks this_isParted this_beside1_1 this_bits this_errors_1 this_named_1 this_number this_pile_1 (upd this_row_7 v5_7.toNatClampNeg ((this_told_1 v5_7.toNatClampNeg) + (this_beside1_1 v5_7.toNatClampNeg))) this_s this_sizes this_told_1) := hD
            refine lv_iinc (v := (v5_7 + (1 : Int32))) (lv' := [(5, .int (v5_7 + (1 : Int32))), (0, .ref a_this), (1, .int x1_1), (2, .int x2_1), (3, .int x3_1), (4, .int x4_1)]) hx hb dX12_together_151 hl (k := 5) rfl rfl (by decide) rfl (fun ls hl => ?_)
            refine lv_goto (tgt := 122) hx hb dX12_together_154 (by decide) ?_
            exact ih (v5_7 + (1 : Int32)) (upd this_row_7 v5_7.toNatClampNeg ((this_told_1 v5_7.toNatClampNeg) + (this_beside1_1 v5_7.toNatClampNeg))) _ _ hP hD hS ls (lv_sub hl [1, 2, 3, 4, 5, 0] rfl) hf
      refine L7 _ (fun v5_3 this_row_3 H locs hP hD hS ls hl hf => ?_) N (0 : Int32) this_row_1 _ _ hP hD hS ls (lv_sub hl [1, 2, 3, 4, 5, 0] rfl) hf
      refine lv_aload_n hx hb dX12_together_157 rfl (lv_at hl 0 rfl) ?_
      refine lv_iload_n hx hb dX12_together_158 rfl (lv_at hl 3 rfl) ?_
      refine lv_aload_n hx hb dX12_together_159 rfl (lv_at hl 0 rfl) ?_
      refine va_get (D := gD G) (ci := 12) (C := RX12) (T := TX12) (N := 30) hx hb hts hin_X12 hown hK hP 0 rfl rfl 11 (by decide) fl_28 (fun _ h9 => h9) rfl dX12_together_160 ?_
      obtain ⟨r4, hr4, hf⟩ := kb hf
      refine kV (As := [.int x3_1, .ref a_this_told]) (rest := []) ⟨hx, hb, hml, hown, hts⟩ (c_X12_paid l G N a_this_told a_this a_this_s a_this_kept a_this_errors a_this_step a_this_named a_this_pile a_this_told a_this_beside1 a_this_row a_this_best a_this_worthOf a_this_trace a_this_bits a_this_sizes a_this_number a_this_aside x3_1 this_told_1 this_images this_at this_open this_steps this_use this_bestNet this_bestMore this_leastApart this_found this_first this_leastPaid this_traced this_speaks this_isParted this_named_1 this_pile_1 this_s r4 hr4) (kcV 2 hts tw_1249 tw_92 tw_1246 tw_1248 tw_65 hd_X12_paid ⟨Nat.le_of_ble_eq_true rfl, Nat.le_of_ble_eq_true rfl⟩) dX12_together_163 hl.1 hK hAm hA hP hD hS 0 (ci := 12) rfl rfl rfl [10, 0, 4, 6, 8] rfl rfl rfl [2, 3] rfl rfl rfl (Nat.le_of_ble_eq_true rfl) ⟨Nat.le_refl _, Nat.le_refl _⟩ (fun H locs hP hD hS => ?_)
      have hP : va_P (gD G) vwCl (k_X12_together G a_this a_this_s a_this_kept a_this_errors a_this_step a_this_named a_this_pile a_this_told a_this_beside1 a_this_row a_this_best a_this_worthOf a_this_trace a_this_bits a_this_sizes a_this_number a_this_aside this_images this_at this_open this_steps this_use this_bestNet this_bestMore this_leastApart this_found this_first this_leastPaid this_traced this_speaks this_isParted this_beside1_1 this_bits this_errors_1 r4.2.1 this_number r4.2.2 this_row_3 this_s this_sizes this_told_1) H := hP
      have hD : va_D A (k_X12_together G a_this a_this_s a_this_kept a_this_errors a_this_step a_this_named a_this_pile a_this_told a_this_beside1 a_this_row a_this_best a_this_worthOf a_this_trace a_this_bits a_this_sizes a_this_number a_this_aside this_images this_at this_open this_steps this_use this_bestNet this_bestMore this_leastApart this_found this_first this_leastPaid this_traced this_speaks this_isParted this_beside1_1 this_bits this_errors_1 r4.2.1 this_number r4.2.2 this_row_3 this_s this_sizes this_told_1) := hD
      refine lv_aload_n hx hb dX12_together_166 rfl (lv_at hl 0 rfl) ?_
      refine lv_iload_n hx hb dX12_together_167 rfl (lv_at hl 3 rfl) ?_
      refine lv_aload_n hx hb dX12_together_168 rfl (lv_at hl 0 rfl) ?_
      refine va_get (D := gD G) (ci := 12) (C := RX12) (T := TX12) (N := 30) hx hb hts hin_X12 hown hK hP 0 rfl rfl 12 (by decide) fl_31 (fun _ h9 => h9) rfl dX12_together_169 ?_
      obtain ⟨r5, hr5, hf⟩ := kb hf
      refine kV (As := [.int x3_1, .ref a_this_beside1]) (rest := [.int r4.1]) ⟨hx, hb, hml, hown, hts⟩ (c_X12_paid l G N a_this_beside1 a_this a_this_s a_this_kept a_this_errors a_this_step a_this_named a_this_pile a_this_told a_this_beside1 a_this_row a_this_best a_this_worthOf a_this_trace a_this_bits a_this_sizes a_this_number a_this_aside x3_1 this_beside1_1 this_images this_at this_open this_steps this_use this_bestNet this_bestMore this_leastApart this_found this_first this_leastPaid this_traced this_speaks this_isParted r4.2.1 r4.2.2 this_s r5 hr5) (kcV 2 hts tw_1249 tw_92 tw_1246 tw_1248 tw_65 hd_X12_paid ⟨Nat.le_of_ble_eq_true rfl, Nat.le_of_ble_eq_true rfl⟩) dX12_together_172 hl.1 hK hAm hA hP hD hS 0 (ci := 12) rfl rfl rfl [1, 0, 4, 6, 8] rfl rfl rfl [2, 3] rfl rfl rfl (Nat.le_of_ble_eq_true rfl) ⟨Nat.le_refl _, Nat.le_refl _⟩ (fun H locs hP hD hS => ?_)
      have hP : va_P (gD G) vwCl (k_X12_together G a_this a_this_s a_this_kept a_this_errors a_this_step a_this_named a_this_pile a_this_told a_this_beside1 a_this_row a_this_best a_this_worthOf a_this_trace a_this_bits a_this_sizes a_this_number a_this_aside this_images this_at this_open this_steps this_use this_bestNet this_bestMore this_leastApart this_found this_first this_leastPaid this_traced this_speaks this_isParted this_beside1_1 this_bits this_errors_1 r5.2.1 this_number r5.2.2 this_row_3 this_s this_sizes this_told_1) H := hP
      have hD : va_D A (k_X12_together G a_this a_this_s a_this_kept a_this_errors a_this_step a_this_named a_this_pile a_this_told a_this_beside1 a_this_row a_this_best a_this_worthOf a_this_trace a_this_bits a_this_sizes a_this_number a_this_aside this_images this_at this_open this_steps this_use this_bestNet this_bestMore this_leastApart this_found this_first this_leastPaid this_traced this_speaks this_isParted this_beside1_1 this_bits this_errors_1 r5.2.1 this_number r5.2.2 this_row_3 this_s this_sizes this_told_1) := hD
      refine lv_iadd hx hb dX12_together_175 ?_
      refine lv_aload_n hx hb dX12_together_176 rfl (lv_at hl 0 rfl) ?_
      refine lv_iload_n hx hb dX12_together_177 rfl (lv_at hl 3 rfl) ?_
      refine lv_aload_n hx hb dX12_together_178 rfl (lv_at hl 0 rfl) ?_
      refine va_get (D := gD G) (ci := 12) (C := RX12) (T := TX12) (N := 30) hx hb hts hin_X12 hown hK hP 0 rfl rfl 13 (by decide) fl_34 (fun _ h9 => h9) rfl dX12_together_179 ?_
      obtain ⟨r6, hr6, hf⟩ := kb hf
      refine kV (As := [.int x3_1, .ref a_this_row]) (rest := [.int (r4.1 + r5.1)]) ⟨hx, hb, hml, hown, hts⟩ (c_X12_paid l G N a_this_row a_this a_this_s a_this_kept a_this_errors a_this_step a_this_named a_this_pile a_this_told a_this_beside1 a_this_row a_this_best a_this_worthOf a_this_trace a_this_bits a_this_sizes a_this_number a_this_aside x3_1 this_row_3 this_images this_at this_open this_steps this_use this_bestNet this_bestMore this_leastApart this_found this_first this_leastPaid this_traced this_speaks this_isParted r5.2.1 r5.2.2 this_s r6 hr6) (kcV 2 hts tw_1249 tw_92 tw_1246 tw_1248 tw_65 hd_X12_paid ⟨Nat.le_of_ble_eq_true rfl, Nat.le_of_ble_eq_true rfl⟩) dX12_together_182 hl.1 hK hAm hA hP hD hS 0 (ci := 12) rfl rfl rfl [7, 0, 4, 6, 8] rfl rfl rfl [2, 3] rfl rfl rfl (Nat.le_of_ble_eq_true rfl) ⟨Nat.le_refl _, Nat.le_refl _⟩ (fun H locs hP hD hS => ?_)
      have hP : va_P (gD G) vwCl (k_X12_together G a_this a_this_s a_this_kept a_this_errors a_this_step a_this_named a_this_pile a_this_told a_this_beside1 a_this_row a_this_best a_this_worthOf a_this_trace a_this_bits a_this_sizes a_this_number a_this_aside this_images this_at this_open this_steps this_use this_bestNet this_bestMore this_leastApart this_found this_first this_leastPaid this_traced this_speaks this_isParted this_beside1_1 this_bits this_errors_1 r6.2.1 this_number r6.2.2 this_row_3 this_s this_sizes this_told_1) H := hP
      have hD : va_D A (k_X12_together G a_this a_this_s a_this_kept a_this_errors a_this_step a_this_named a_this_pile a_this_told a_this_beside1 a_this_row a_this_best a_this_worthOf a_this_trace a_this_bits a_this_sizes a_this_number a_this_aside this_images this_at this_open this_steps this_use this_bestNet this_bestMore this_leastApart this_found this_first this_leastPaid this_traced this_speaks this_isParted this_beside1_1 this_bits this_errors_1 r6.2.1 this_number r6.2.2 this_row_3 this_s this_sizes this_told_1) := hD
      refine lv_isub hx hb dX12_together_185 ?_
      have ho := ks hf
      subst ho
      exact kiret hx hb hr hlk hP hD hS hQ dX12_together_186
    · replace hf := kf c2 hf
      refine lv_aload_n hx hb dX12_together_112 rfl (lv_at hl 0 rfl) ?_
      refine lv_iload hx hb dX12_together_113 (lv_at hl 4 rfl) ?_
      obtain ⟨r12, hr12, hf⟩ := kb hf
      refine kV (As := [.int x4_1]) (rest := []) ⟨hx, hb, hml, hown, hts⟩ (c_X12_error l G N a_this a_this_s a_this_kept a_this_errors a_this_step a_this_named a_this_pile a_this_told a_this_beside1 a_this_row a_this_best a_this_worthOf a_this_trace a_this_bits a_this_sizes a_this_number a_this_aside x4_1 this_images this_at this_open this_steps this_use this_bestNet this_bestMore this_leastApart this_found this_first this_leastPaid this_traced this_speaks this_isParted this_errors_1 r12 hr12) (kcV 1 hts tw_1087 tw_92 tw_1084 tw_1086 tw_43 hd_X12_error ⟨Nat.le_of_ble_eq_true rfl, Nat.le_of_ble_eq_true rfl⟩) dX12_together_115 hl.1 hK hAm hA hP hD hS 0 (ci := 12) rfl rfl rfl [0, 3] rfl rfl rfl [1] rfl rfl rfl (Nat.le_of_ble_eq_true rfl) ⟨Nat.le_refl _, Nat.le_refl _⟩ (fun H locs hP hD hS => ?_)
      have hP : va_P (gD G) vwCl (k_X12_together G a_this a_this_s a_this_kept a_this_errors a_this_step a_this_named a_this_pile a_this_told a_this_beside1 a_this_row a_this_best a_this_worthOf a_this_trace a_this_bits a_this_sizes a_this_number a_this_aside this_images this_at this_open this_steps this_use this_bestNet this_bestMore this_leastApart this_found this_first this_leastPaid this_traced this_speaks this_isParted this_beside1_1 this_bits r12.2 this_named_1 this_number this_pile_1 this_row_1 this_s this_sizes this_told_1) H := hP
      have hD : va_D A (k_X12_together G a_this a_this_s a_this_kept a_this_errors a_this_step a_this_named a_this_pile a_this_told a_this_beside1 a_this_row a_this_best a_this_worthOf a_this_trace a_this_bits a_this_sizes a_this_number a_this_aside this_images this_at this_open this_steps this_use this_bestNet this_bestMore this_leastApart this_found this_first this_leastPaid this_traced this_speaks this_isParted this_beside1_1 this_bits r12.2 this_named_1 this_number this_pile_1 this_row_1 this_s this_sizes this_told_1) := hD
      have ho := ks hf
      subst ho
      exact kiret hx hb hr hlk hP hD hS hQ dX12_together_118
  have J79 : ∀ (x1_13 : Int32) (x2_13 : Int32) (x3_13 : Int32) (x4_13 : Int32) (this_beside1_13 : Nat → Int32) (this_errors_13 : Nat → Int32) (this_named_13 : Nat → Int32) (this_pile_13 : Nat → Int32) (this_row_13 : Nat → Int32) (this_told_13 : Nat → Int32) (H : Heap) (locs : List Loc), va_P (gD G) vwCl (k_X12_together G a_this a_this_s a_this_kept a_this_errors a_this_step a_this_named a_this_pile a_this_told a_this_beside1 a_this_row a_this_best a_this_worthOf a_this_trace a_this_bits a_this_sizes a_this_number a_this_aside this_images this_at this_open this_steps this_use this_bestNet this_bestMore this_leastApart this_found this_first this_leastPaid this_traced this_speaks this_isParted this_beside1_13 this_bits this_errors_13 this_named_13 this_number this_pile_13 this_row_13 this_s this_sizes this_told_13) H → va_D A (k_X12_together G a_this a_this_s a_this_kept a_this_errors a_this_step a_this_named a_this_pile a_this_told a_this_beside1 a_this_row a_this_best a_this_worthOf a_this_trace a_this_bits a_this_sizes a_this_number a_this_aside this_images this_at this_open this_steps this_use this_bestNet this_bestMore this_leastApart this_found this_first this_leastPaid this_traced this_speaks this_isParted this_beside1_13 this_bits this_errors_13 this_named_13 this_number this_pile_13 this_row_13 this_s this_sizes this_told_13) → va_S A s.heap H locs → ∀ (ls : Array Slot), lv_has ls 6 [(0, .ref a_this), (1, .int x1_13), (2, .int x2_13), (3, .int x3_13), (4, .int x4_13)] → f_X12_together_j79 N x3_13 x4_13 this_beside1_13 this_errors_13 this_named_13 this_pile_13 this_row_13 this_s this_told_13 = some out → W p l e (kR 4 0 0 95) s m args below meth c H locs 0 0 Q (F0 m 79 ls []) := by
    intro x1_13 x2_13 x3_13 x4_13 this_beside1_13 this_errors_13 this_named_13 this_pile_13 this_row_13 this_told_13 H locs hP hD hS ls hl hf
    rw [f_X12_together_j79] at hf
    refine lv_iload hx hb dX12_together_79 (lv_at hl 4 rfl) ?_
    refine lv_if_ne (tgt := 107) hx hb dX12_together_81 (by decide) (fun c14 => ?_) (fun c14 => ?_)
    · replace hf := kf c14 hf
      exact J107 x1_13 x2_13 x3_13 x4_13 this_beside1_13 this_errors_13 this_named_13 this_pile_13 this_row_13 this_told_13 _ _ hP hD hS ls (lv_sub hl [0, 1, 2, 3, 4] rfl) hf
    · replace hf := kt c14 hf
      refine lv_aload_n hx hb dX12_together_84 rfl (lv_at hl 0 rfl) ?_
      refine va_get (D := gD G) (ci := 12) (C := RX12) (T := TX12) (N := 30) hx hb hts hin_X12 hown hK hP 0 rfl rfl 11 (by decide) fl_28 (fun _ h9 => h9) rfl dX12_together_85 ?_
      obtain ⟨r15, hr15, hf⟩ := kb hf
      refine kS (As := [.ref a_this_told]) (rest := []) ⟨hx, hb, hml, hown, hts⟩ (c_X12_many l G N a_this_told this_told_13 r15 hr15) (kcS 1 hts tw_1233 tw_92 tw_1231 tw_1232 hd_X12_many ⟨Nat.le_of_ble_eq_true rfl, Nat.le_of_ble_eq_true rfl⟩) dX12_together_88 hl.1 hK hAm hA hP hD hS [10] rfl rfl rfl [] rfl rfl rfl (Nat.le_of_ble_eq_true rfl) ⟨Nat.le_refl _, Nat.le_refl _⟩ (fun H locs hP hD hS => ?_)
      have hP : va_P (gD G) vwCl (k_X12_together G a_this a_this_s a_this_kept a_this_errors a_this_step a_this_named a_this_pile a_this_told a_this_beside1 a_this_row a_this_best a_this_worthOf a_this_trace a_this_bits a_this_sizes a_this_number a_this_aside this_images this_at this_open this_steps this_use this_bestNet this_bestMore this_leastApart this_found this_first this_leastPaid this_traced this_speaks this_isParted this_beside1_13 this_bits this_errors_13 this_named_13 this_number this_pile_13 this_row_13 this_s this_sizes this_told_13) H := hP
      have hD : va_D A (k_X12_together G a_this a_this_s a_this_kept a_this_errors a_this_step a_this_named a_this_pile a_this_told a_this_beside1 a_this_row a_this_best a_this_worthOf a_this_trace a_this_bits a_this_sizes a_this_number a_this_aside this_images this_at this_open this_steps this_use this_bestNet this_bestMore this_leastApart this_found this_first this_leastPaid this_traced this_speaks this_isParted this_beside1_13 this_bits this_errors_13 this_named_13 this_number this_pile_13 this_row_13 this_s this_sizes this_told_13) := hD
      refine lv_aload_n hx hb dX12_together_91 rfl (lv_at hl 0 rfl) ?_
      refine va_get (D := gD G) (ci := 12) (C := RX12) (T := TX12) (N := 30) hx hb hts hin_X12 hown hK hP 0 rfl rfl 12 (by decide) fl_31 (fun _ h9 => h9) rfl dX12_together_92 ?_
      obtain ⟨r16, hr16, hf⟩ := kb hf
      refine kS (As := [.ref a_this_beside1]) (rest := [.int r15]) ⟨hx, hb, hml, hown, hts⟩ (c_X12_many l G N a_this_beside1 this_beside1_13 r16 hr16) (kcS 1 hts tw_1233 tw_92 tw_1231 tw_1232 hd_X12_many ⟨Nat.le_of_ble_eq_true rfl, Nat.le_of_ble_eq_true rfl⟩) dX12_together_95 hl.1 hK hAm hA hP hD hS [1] rfl rfl rfl [] rfl rfl rfl (Nat.le_of_ble_eq_true rfl) ⟨Nat.le_refl _, Nat.le_refl _⟩ (fun H locs hP hD hS => ?_)
      have hP : va_P (gD G) vwCl (k_X12_together G a_this a_this_s a_this_kept a_this_errors a_this_step a_this_named a_this_pile a_this_told a_this_beside1 a_this_row a_this_best a_this_worthOf a_this_trace a_this_bits a_this_sizes a_this_number a_this_aside this_images this_at this_open this_steps this_use this_bestNet this_bestMore this_leastApart this_found this_first this_leastPaid this_traced this_speaks this_isParted this_beside1_13 this_bits this_errors_13 this_named_13 this_number this_pile_13 this_row_13 this_s this_sizes this_told_13) H := hP
      have hD : va_D A (k_X12_together G a_this a_this_s a_this_kept a_this_errors a_this_step a_this_named a_this_pile a_this_told a_this_beside1 a_this_row a_this_best a_this_worthOf a_this_trace a_this_bits a_this_sizes a_this_number a_this_aside this_images this_at this_open this_steps this_use this_bestNet this_bestMore this_leastApart this_found this_first this_leastPaid this_traced this_speaks this_isParted this_beside1_13 this_bits this_errors_13 this_named_13 this_number this_pile_13 this_row_13 this_s this_sizes this_told_13) := hD
      refine lv_iadd hx hb dX12_together_98 ?_
      refine lv_bipush (v := (30 : Int32)) hx hb dX12_together_99 (by decide) ?_
      refine lv_icmp_le (tgt := 107) hx hb dX12_together_101 (by decide) (fun c17 => ?_) (fun c17 => ?_)
      · replace hf := kt c17 hf
        exact J107 x1_13 x2_13 x3_13 x4_13 this_beside1_13 this_errors_13 this_named_13 this_pile_13 this_row_13 this_told_13 _ _ hP hD hS ls (lv_sub hl [0, 1, 2, 3, 4] rfl) hf
      · replace hf := kf c17 hf
        refine lv_iconst (v := (4 : Int32)) hx hb dX12_together_104 (by decide) ?_
        refine lv_istore (lv' := [(4, .int (4 : Int32)), (0, .ref a_this), (1, .int x1_13), (2, .int x2_13), (3, .int x3_13)]) hx hb dX12_together_105 hl (by decide) rfl (fun ls hl => ?_)
        exact J107 x1_13 x2_13 x3_13 (4 : Int32) this_beside1_13 this_errors_13 this_named_13 this_pile_13 this_row_13 this_told_13 _ _ hP hD hS ls (lv_sub hl [1, 2, 3, 4, 0] rfl) hf
  refine lv_aload_n hx hb dX12_together_0 rfl (lv_at hl 0 rfl) ?_
  refine lv_iload_n hx hb dX12_together_1 rfl (lv_at hl 1 rfl) ?_
  refine lv_iload_n hx hb dX12_together_2 rfl (lv_at hl 3 rfl) ?_
  refine lv_iload_n hx hb dX12_together_3 rfl (lv_at hl 2 rfl) ?_
  obtain ⟨r18, hr18, hf⟩ := kb hf
  refine kS (As := [.int p1]) (rest := [.int p2, .int p0, .ref a_this]) ⟨hx, hb, hml, hown, hts⟩ (c_X12_isSheet l G N p1 r18 hr18) (kcS 1 hts tw_1226 tw_92 tw_1224 tw_1225 hd_X12_isSheet ⟨Nat.le_of_ble_eq_true rfl, Nat.le_of_ble_eq_true rfl⟩) dX12_together_4 hl.1 hK hAm hA hP hD hS [] rfl rfl rfl [] rfl rfl rfl (Nat.le_of_ble_eq_true rfl) ⟨Nat.le_refl _, Nat.le_refl _⟩ (fun H locs hP hD hS => ?_)
  have hP : va_P (gD G) vwCl (k_X12_together G a_this a_this_s a_this_kept a_this_errors a_this_step a_this_named a_this_pile a_this_told a_this_beside1 a_this_row a_this_best a_this_worthOf a_this_trace a_this_bits a_this_sizes a_this_number a_this_aside this_images this_at this_open this_steps this_use this_bestNet this_bestMore this_leastApart this_found this_first this_leastPaid this_traced this_speaks this_isParted this_beside1 this_bits this_errors this_named this_number this_pile this_row this_s this_sizes this_told) H := hP
  have hD : va_D A (k_X12_together G a_this a_this_s a_this_kept a_this_errors a_this_step a_this_named a_this_pile a_this_told a_this_beside1 a_this_row a_this_best a_this_worthOf a_this_trace a_this_bits a_this_sizes a_this_number a_this_aside this_images this_at this_open this_steps this_use this_bestNet this_bestMore this_leastApart this_found this_first this_leastPaid this_traced this_speaks this_isParted this_beside1 this_bits this_errors this_named this_number this_pile this_row this_s this_sizes this_told) := hD
  refine lv_bipush (v := (99 : Int32)) hx hb dX12_together_7 (by decide) ?_
  obtain ⟨r19, hr19, hf⟩ := kb hf
  refine kV (As := [.int p0, .int p2, .int r18, .int (99 : Int32)]) (rest := []) ⟨hx, hb, hml, hown, hts⟩ (c_X12_lacks l G N a_this a_this_s a_this_kept a_this_errors a_this_step a_this_named a_this_pile a_this_told a_this_beside1 a_this_row a_this_best a_this_worthOf a_this_trace a_this_bits a_this_sizes a_this_number a_this_aside p0 p2 r18 (99 : Int32) this_images this_at this_open this_steps this_use this_bestNet this_bestMore this_leastApart this_found this_first this_leastPaid this_traced this_speaks this_isParted this_bits this_number this_sizes this_told r19 hr19) (kcV 4 hts tw_1223 tw_92 tw_1220 tw_1222 tw_61 hd_X12_lacks ⟨Nat.le_of_ble_eq_true rfl, Nat.le_of_ble_eq_true rfl⟩) dX12_together_9 hl.1 hK hAm hA hP hD hS 0 (ci := 12) rfl rfl rfl [0, 2, 5, 9, 10] rfl rfl rfl [4] rfl rfl rfl (Nat.le_of_ble_eq_true rfl) ⟨Nat.le_refl _, Nat.le_refl _⟩ (fun H locs hP hD hS => ?_)
  have hP : va_P (gD G) vwCl (k_X12_together G a_this a_this_s a_this_kept a_this_errors a_this_step a_this_named a_this_pile a_this_told a_this_beside1 a_this_row a_this_best a_this_worthOf a_this_trace a_this_bits a_this_sizes a_this_number a_this_aside this_images this_at this_open this_steps this_use this_bestNet this_bestMore this_leastApart this_found this_first this_leastPaid this_traced this_speaks this_isParted this_beside1 this_bits this_errors this_named this_number this_pile this_row this_s this_sizes r19.2) H := hP
  have hD : va_D A (k_X12_together G a_this a_this_s a_this_kept a_this_errors a_this_step a_this_named a_this_pile a_this_told a_this_beside1 a_this_row a_this_best a_this_worthOf a_this_trace a_this_bits a_this_sizes a_this_number a_this_aside this_images this_at this_open this_steps this_use this_bestNet this_bestMore this_leastApart this_found this_first this_leastPaid this_traced this_speaks this_isParted this_beside1 this_bits this_errors this_named this_number this_pile this_row this_s this_sizes r19.2) := hD
  refine lv_istore (lv' := [(4, .int r19.1), (0, .ref a_this), (1, .int p0), (2, .int p1), (3, .int p2)]) hx hb dX12_together_12 hl (by decide) rfl (fun ls hl => ?_)
  refine lv_iload hx hb dX12_together_14 (lv_at hl 0 rfl) ?_
  refine lv_if_eq (tgt := 46) hx hb dX12_together_16 (by decide) (fun c20 => ?_) (fun c20 => ?_)
  · replace hf := kt c20 hf
    refine lv_aload_n hx hb dX12_together_46 rfl (lv_at hl 1 rfl) ?_
    refine lv_iload_n hx hb dX12_together_47 rfl (lv_at hl 3 rfl) ?_
    refine lv_aload_n hx hb dX12_together_48 rfl (lv_at hl 1 rfl) ?_
    refine va_get (D := gD G) (ci := 12) (C := RX12) (T := TX12) (N := 30) hx hb hts hin_X12 hown hK hP 0 rfl rfl 12 (by decide) fl_31 (fun _ h9 => h9) rfl dX12_together_49 ?_
    refine lv_bipush (v := (99 : Int32)) hx hb dX12_together_52 (by decide) ?_
    obtain ⟨r21, hr21, hf⟩ := kb hf
    refine kV (As := [.int p1, .ref a_this_beside1, .int (99 : Int32)]) (rest := []) ⟨hx, hb, hml, hown, hts⟩ (c_X12_tells l G N a_this_beside1 a_this a_this_s a_this_kept a_this_errors a_this_step a_this_named a_this_pile a_this_told a_this_beside1 a_this_row a_this_best a_this_worthOf a_this_trace a_this_bits a_this_sizes a_this_number a_this_aside p1 (99 : Int32) this_beside1 this_images this_at this_open this_steps this_use this_bestNet this_bestMore this_leastApart this_found this_first this_leastPaid this_traced this_speaks this_isParted this_bits this_number this_sizes r21 hr21) (kcV 3 hts tw_1230 tw_92 tw_1227 tw_1229 tw_62 hd_X12_tells ⟨Nat.le_of_ble_eq_true rfl, Nat.le_of_ble_eq_true rfl⟩) dX12_together_54 hl.1 hK hAm hA hP hD hS 0 (ci := 12) rfl rfl rfl [1, 0, 2, 5, 9] rfl rfl rfl [0] rfl rfl rfl (Nat.le_of_ble_eq_true rfl) ⟨Nat.le_refl _, Nat.le_refl _⟩ (fun H locs hP hD hS => ?_)
    have hP : va_P (gD G) vwCl (k_X12_together G a_this a_this_s a_this_kept a_this_errors a_this_step a_this_named a_this_pile a_this_told a_this_beside1 a_this_row a_this_best a_this_worthOf a_this_trace a_this_bits a_this_sizes a_this_number a_this_aside this_images this_at this_open this_steps this_use this_bestNet this_bestMore this_leastApart this_found this_first this_leastPaid this_traced this_speaks this_isParted r21.2 this_bits this_errors this_named this_number this_pile this_row this_s this_sizes r19.2) H := hP
    have hD : va_D A (k_X12_together G a_this a_this_s a_this_kept a_this_errors a_this_step a_this_named a_this_pile a_this_told a_this_beside1 a_this_row a_this_best a_this_worthOf a_this_trace a_this_bits a_this_sizes a_this_number a_this_aside this_images this_at this_open this_steps this_use this_bestNet this_bestMore this_leastApart this_found this_first this_leastPaid this_traced this_speaks this_isParted r21.2 this_bits this_errors this_named this_number this_pile this_row this_s this_sizes r19.2) := hD
    refine lv_istore (lv' := [(5, .int r21.1), (4, .int r19.1), (0, .ref a_this), (1, .int p0), (2, .int p1), (3, .int p2)]) hx hb dX12_together_57 hl (by decide) rfl (fun ls hl => ?_)
    refine lv_iload hx hb dX12_together_59 (lv_at hl 0 rfl) ?_
    refine lv_iconst (v := (2 : Int32)) hx hb dX12_together_61 (by decide) ?_
    refine lv_icmp_eq (tgt := 70) hx hb dX12_together_62 (by decide) (fun c22 => ?_) (fun c22 => ?_)
    · replace hf := kt c22 hf
      refine lv_iload hx hb dX12_together_70 (lv_at hl 0 rfl) ?_
      refine lv_goto (tgt := 77) hx hb dX12_together_72 (by decide) ?_
      refine lv_istore (lv' := [(4, .int r21.1), (5, .int r21.1), (0, .ref a_this), (1, .int p0), (2, .int p1), (3, .int p2)]) hx hb dX12_together_77 hl (by decide) rfl (fun ls hl => ?_)
      exact J79 p0 p1 p2 r21.1 r21.2 this_errors this_named this_pile this_row r19.2 _ _ hP hD hS ls (lv_sub hl [2, 3, 4, 5, 0] rfl) hf
    · replace hf := kf c22 hf
      refine lv_iload hx hb dX12_together_65 (lv_at hl 1 rfl) ?_
      refine lv_if_ne (tgt := 75) hx hb dX12_together_67 (by decide) (fun c23 => ?_) (fun c23 => ?_)
      · replace hf := kf c23 hf
        refine lv_iload hx hb dX12_together_75 (lv_at hl 1 rfl) ?_
        refine lv_istore (lv' := [(4, .int r19.1), (5, .int r21.1), (0, .ref a_this), (1, .int p0), (2, .int p1), (3, .int p2)]) hx hb dX12_together_77 hl (by decide) rfl (fun ls hl => ?_)
        exact J79 p0 p1 p2 r19.1 r21.2 this_errors this_named this_pile this_row r19.2 _ _ hP hD hS ls (lv_sub hl [2, 3, 4, 5, 0] rfl) hf
      · replace hf := kt c23 hf
        refine lv_iload hx hb dX12_together_70 (lv_at hl 0 rfl) ?_
        refine lv_goto (tgt := 77) hx hb dX12_together_72 (by decide) ?_
        refine lv_istore (lv' := [(4, .int r21.1), (5, .int r21.1), (0, .ref a_this), (1, .int p0), (2, .int p1), (3, .int p2)]) hx hb dX12_together_77 hl (by decide) rfl (fun ls hl => ?_)
        exact J79 p0 p1 p2 r21.1 r21.2 this_errors this_named this_pile this_row r19.2 _ _ hP hD hS ls (lv_sub hl [2, 3, 4, 5, 0] rfl) hf
  · replace hf := kf c20 hf
    refine lv_iload hx hb dX12_together_19 (lv_at hl 0 rfl) ?_
    refine lv_iconst (v := (1 : Int32)) hx hb dX12_together_21 (by decide) ?_
    refine lv_icmp_ne (tgt := 79) hx hb dX12_together_22 (by decide) (fun c24 => ?_) (fun c24 => ?_)
    · replace hf := kf c24 hf
      exact J79 p0 p1 p2 r19.1 this_beside1 this_errors this_named this_pile this_row r19.2 _ _ hP hD hS ls (lv_sub hl [1, 2, 3, 4, 0] rfl) hf
    · replace hf := kt c24 hf
      refine lv_iload_n hx hb dX12_together_25 rfl (lv_at hl 2 rfl) ?_
      obtain ⟨r25, hr25, hf⟩ := kb hf
      refine kS (As := [.int p0]) (rest := []) ⟨hx, hb, hml, hown, hts⟩ (c_X12_isSheet l G N p0 r25 hr25) (kcS 1 hts tw_1226 tw_92 tw_1224 tw_1225 hd_X12_isSheet ⟨Nat.le_of_ble_eq_true rfl, Nat.le_of_ble_eq_true rfl⟩) dX12_together_26 hl.1 hK hAm hA hP hD hS [] rfl rfl rfl [] rfl rfl rfl (Nat.le_of_ble_eq_true rfl) ⟨Nat.le_refl _, Nat.le_refl _⟩ (fun H locs hP hD hS => ?_)
      have hP : va_P (gD G) vwCl (k_X12_together G a_this a_this_s a_this_kept a_this_errors a_this_step a_this_named a_this_pile a_this_told a_this_beside1 a_this_row a_this_best a_this_worthOf a_this_trace a_this_bits a_this_sizes a_this_number a_this_aside this_images this_at this_open this_steps this_use this_bestNet this_bestMore this_leastApart this_found this_first this_leastPaid this_traced this_speaks this_isParted this_beside1 this_bits this_errors this_named this_number this_pile this_row this_s this_sizes r19.2) H := hP
      have hD : va_D A (k_X12_together G a_this a_this_s a_this_kept a_this_errors a_this_step a_this_named a_this_pile a_this_told a_this_beside1 a_this_row a_this_best a_this_worthOf a_this_trace a_this_bits a_this_sizes a_this_number a_this_aside this_images this_at this_open this_steps this_use this_bestNet this_bestMore this_leastApart this_found this_first this_leastPaid this_traced this_speaks this_isParted this_beside1 this_bits this_errors this_named this_number this_pile this_row this_s this_sizes r19.2) := hD
      refine lv_if_eq (tgt := 79) hx hb dX12_together_29 (by decide) (fun c26 => ?_) (fun c26 => ?_)
      · replace hf := kt c26 hf
        exact J79 p0 p1 p2 r19.1 this_beside1 this_errors this_named this_pile this_row r19.2 _ _ hP hD hS ls (lv_sub hl [1, 2, 3, 4, 0] rfl) hf
      · replace hf := kf c26 hf
        refine lv_iload_n hx hb dX12_together_32 rfl (lv_at hl 3 rfl) ?_
        obtain ⟨r27, hr27, hf⟩ := kb hf
        refine kS (As := [.int p1]) (rest := []) ⟨hx, hb, hml, hown, hts⟩ (c_X12_isSheet l G N p1 r27 hr27) (kcS 1 hts tw_1226 tw_92 tw_1224 tw_1225 hd_X12_isSheet ⟨Nat.le_of_ble_eq_true rfl, Nat.le_of_ble_eq_true rfl⟩) dX12_together_33 hl.1 hK hAm hA hP hD hS [] rfl rfl rfl [] rfl rfl rfl (Nat.le_of_ble_eq_true rfl) ⟨Nat.le_refl _, Nat.le_refl _⟩ (fun H locs hP hD hS => ?_)
        have hP : va_P (gD G) vwCl (k_X12_together G a_this a_this_s a_this_kept a_this_errors a_this_step a_this_named a_this_pile a_this_told a_this_beside1 a_this_row a_this_best a_this_worthOf a_this_trace a_this_bits a_this_sizes a_this_number a_this_aside this_images this_at this_open this_steps this_use this_bestNet this_bestMore this_leastApart this_found this_first this_leastPaid this_traced this_speaks this_isParted this_beside1 this_bits this_errors this_named this_number this_pile this_row this_s this_sizes r19.2) H := hP
        have hD : va_D A (k_X12_together G a_this a_this_s a_this_kept a_this_errors a_this_step a_this_named a_this_pile a_this_told a_this_beside1 a_this_row a_this_best a_this_worthOf a_this_trace a_this_bits a_this_sizes a_this_number a_this_aside this_images this_at this_open this_steps this_use this_bestNet this_bestMore this_leastApart this_found this_first this_leastPaid this_traced this_speaks this_isParted this_beside1 this_bits this_errors this_named this_number this_pile this_row this_s this_sizes r19.2) := hD
        refine lv_if_eq (tgt := 79) hx hb dX12_together_36 (by decide) (fun c28 => ?_) (fun c28 => ?_)
        · replace hf := kt c28 hf
          exact J79 p0 p1 p2 r19.1 this_beside1 this_errors this_named this_pile this_row r19.2 _ _ hP hD hS ls (lv_sub hl [1, 2, 3, 4, 0] rfl) hf
        · replace hf := kf c28 hf
          refine lv_iload_n hx hb dX12_together_39 rfl (lv_at hl 4 rfl) ?_
          obtain ⟨r29, hr29, hf⟩ := kb hf
          refine kS (As := [.int p2]) (rest := []) ⟨hx, hb, hml, hown, hts⟩ (c_X12_isTill l G N p2 r29 hr29) (kcS 1 hts tw_1177 tw_92 tw_1175 tw_1176 hd_X12_isTill ⟨Nat.le_of_ble_eq_true rfl, Nat.le_of_ble_eq_true rfl⟩) dX12_together_40 hl.1 hK hAm hA hP hD hS [] rfl rfl rfl [] rfl rfl rfl (Nat.le_of_ble_eq_true rfl) ⟨Nat.le_refl _, Nat.le_refl _⟩ (fun H locs hP hD hS => ?_)
          have hP : va_P (gD G) vwCl (k_X12_together G a_this a_this_s a_this_kept a_this_errors a_this_step a_this_named a_this_pile a_this_told a_this_beside1 a_this_row a_this_best a_this_worthOf a_this_trace a_this_bits a_this_sizes a_this_number a_this_aside this_images this_at this_open this_steps this_use this_bestNet this_bestMore this_leastApart this_found this_first this_leastPaid this_traced this_speaks this_isParted this_beside1 this_bits this_errors this_named this_number this_pile this_row this_s this_sizes r19.2) H := hP
          have hD : va_D A (k_X12_together G a_this a_this_s a_this_kept a_this_errors a_this_step a_this_named a_this_pile a_this_told a_this_beside1 a_this_row a_this_best a_this_worthOf a_this_trace a_this_bits a_this_sizes a_this_number a_this_aside this_images this_at this_open this_steps this_use this_bestNet this_bestMore this_leastApart this_found this_first this_leastPaid this_traced this_speaks this_isParted this_beside1 this_bits this_errors this_named this_number this_pile this_row this_s this_sizes r19.2) := hD
          refine lv_if_eq (tgt := 79) hx hb dX12_together_43 (by decide) (fun c30 => ?_) (fun c30 => ?_)
          · replace hf := kt c30 hf
            exact J79 p0 p1 p2 r19.1 this_beside1 this_errors this_named this_pile this_row r19.2 _ _ hP hD hS ls (lv_sub hl [1, 2, 3, 4, 0] rfl) hf
          · replace hf := kf c30 hf
            refine lv_aload_n hx hb dX12_together_46 rfl (lv_at hl 1 rfl) ?_
            refine lv_iload_n hx hb dX12_together_47 rfl (lv_at hl 3 rfl) ?_
            refine lv_aload_n hx hb dX12_together_48 rfl (lv_at hl 1 rfl) ?_
            refine va_get (D := gD G) (ci := 12) (C := RX12) (T := TX12) (N := 30) hx hb hts hin_X12 hown hK hP 0 rfl rfl 12 (by decide) fl_31 (fun _ h9 => h9) rfl dX12_together_49 ?_
            refine lv_bipush (v := (99 : Int32)) hx hb dX12_together_52 (by decide) ?_
            obtain ⟨r31, hr31, hf⟩ := kb hf
            refine kV (As := [.int p1, .ref a_this_beside1, .int (99 : Int32)]) (rest := []) ⟨hx, hb, hml, hown, hts⟩ (c_X12_tells l G N a_this_beside1 a_this a_this_s a_this_kept a_this_errors a_this_step a_this_named a_this_pile a_this_told a_this_beside1 a_this_row a_this_best a_this_worthOf a_this_trace a_this_bits a_this_sizes a_this_number a_this_aside p1 (99 : Int32) this_beside1 this_images this_at this_open this_steps this_use this_bestNet this_bestMore this_leastApart this_found this_first this_leastPaid this_traced this_speaks this_isParted this_bits this_number this_sizes r31 hr31) (kcV 3 hts tw_1230 tw_92 tw_1227 tw_1229 tw_62 hd_X12_tells ⟨Nat.le_of_ble_eq_true rfl, Nat.le_of_ble_eq_true rfl⟩) dX12_together_54 hl.1 hK hAm hA hP hD hS 0 (ci := 12) rfl rfl rfl [1, 0, 2, 5, 9] rfl rfl rfl [0] rfl rfl rfl (Nat.le_of_ble_eq_true rfl) ⟨Nat.le_refl _, Nat.le_refl _⟩ (fun H locs hP hD hS => ?_)
            have hP : va_P (gD G) vwCl (k_X12_together G a_this a_this_s a_this_kept a_this_errors a_this_step a_this_named a_this_pile a_this_told a_this_beside1 a_this_row a_this_best a_this_worthOf a_this_trace a_this_bits a_this_sizes a_this_number a_this_aside this_images this_at this_open this_steps this_use this_bestNet this_bestMore this_leastApart this_found this_first this_leastPaid this_traced this_speaks this_isParted r31.2 this_bits this_errors this_named this_number this_pile this_row this_s this_sizes r19.2) H := hP
            have hD : va_D A (k_X12_together G a_this a_this_s a_this_kept a_this_errors a_this_step a_this_named a_this_pile a_this_told a_this_beside1 a_this_row a_this_best a_this_worthOf a_this_trace a_this_bits a_this_sizes a_this_number a_this_aside this_images this_at this_open this_steps this_use this_bestNet this_bestMore this_leastApart this_found this_first this_leastPaid this_traced this_speaks this_isParted r31.2 this_bits this_errors this_named this_number this_pile this_row this_s this_sizes r19.2) := hD
            refine lv_istore (lv' := [(5, .int r31.1), (4, .int r19.1), (0, .ref a_this), (1, .int p0), (2, .int p1), (3, .int p2)]) hx hb dX12_together_57 hl (by decide) rfl (fun ls hl => ?_)
            refine lv_iload hx hb dX12_together_59 (lv_at hl 0 rfl) ?_
            refine lv_iconst (v := (2 : Int32)) hx hb dX12_together_61 (by decide) ?_
            refine lv_icmp_eq (tgt := 70) hx hb dX12_together_62 (by decide) (fun c32 => ?_) (fun c32 => ?_)
            · replace hf := kt c32 hf
              refine lv_iload hx hb dX12_together_70 (lv_at hl 0 rfl) ?_
              refine lv_goto (tgt := 77) hx hb dX12_together_72 (by decide) ?_
              refine lv_istore (lv' := [(4, .int r31.1), (5, .int r31.1), (0, .ref a_this), (1, .int p0), (2, .int p1), (3, .int p2)]) hx hb dX12_together_77 hl (by decide) rfl (fun ls hl => ?_)
              exact J79 p0 p1 p2 r31.1 r31.2 this_errors this_named this_pile this_row r19.2 _ _ hP hD hS ls (lv_sub hl [2, 3, 4, 5, 0] rfl) hf
            · replace hf := kf c32 hf
              refine lv_iload hx hb dX12_together_65 (lv_at hl 1 rfl) ?_
              refine lv_if_ne (tgt := 75) hx hb dX12_together_67 (by decide) (fun c33 => ?_) (fun c33 => ?_)
              · replace hf := kf c33 hf
                refine lv_iload hx hb dX12_together_75 (lv_at hl 1 rfl) ?_
                refine lv_istore (lv' := [(4, .int r19.1), (5, .int r31.1), (0, .ref a_this), (1, .int p0), (2, .int p1), (3, .int p2)]) hx hb dX12_together_77 hl (by decide) rfl (fun ls hl => ?_)
                exact J79 p0 p1 p2 r19.1 r31.2 this_errors this_named this_pile this_row r19.2 _ _ hP hD hS ls (lv_sub hl [2, 3, 4, 5, 0] rfl) hf
              · replace hf := kt c33 hf
                refine lv_iload hx hb dX12_together_70 (lv_at hl 0 rfl) ?_
                refine lv_goto (tgt := 77) hx hb dX12_together_72 (by decide) ?_
                refine lv_istore (lv' := [(4, .int r31.1), (5, .int r31.1), (0, .ref a_this), (1, .int p0), (2, .int p1), (3, .int p2)]) hx hb dX12_together_77 hl (by decide) rfl (fun ls hl => ?_)
                exact J79 p0 p1 p2 r31.1 r31.2 this_errors this_named this_pile this_row r19.2 _ _ hP hD hS ls (lv_sub hl [2, 3, 4, 5, 0] rfl) hf
abbrev k_X12_worth (G : KG) (a_this : Nat) (a_this_s : Nat) (a_this_kept : Nat) (a_this_errors : Nat) (a_this_step : Nat) (a_this_named : Nat) (a_this_pile : Nat) (a_this_told : Nat) (a_this_beside1 : Nat) (a_this_row : Nat) (a_this_best : Nat) (a_this_worthOf : Nat) (a_this_trace : Nat) (a_this_bits : Nat) (a_this_sizes : Nat) (a_this_number : Nat) (a_this_aside : Nat) (this_images : Int32) (this_at : Int32) (this_open : Int32) (this_steps : Int32) (this_use : Int32) (this_bestNet : Int32) (this_bestMore : Int32) (this_leastApart : Int32) (this_found : Int32) (this_first : Int32) (this_leastPaid : Int32) (this_traced : Int32) (this_speaks : Int32) (this_isParted : Int32) (this_bits : Nat → Int32) (this_errors : Nat → Int32) (this_named : Nat → Int32) (this_number : Nat → Int32) (this_pile : Nat → Int32) (this_s : Nat → Int32) (this_sizes : Nat → Int32) (this_told : Nat → Int32) : va_W := [(a_this, .inr (12, [.ref a_this_s, .ref a_this_kept, .int this_images, .ref a_this_errors, .int this_at, .int this_open, .int this_steps, .int this_use, .ref a_this_step, .ref a_this_named, .ref a_this_pile, .ref a_this_told, .ref a_this_beside1, .ref a_this_row, .ref a_this_best, .int this_bestNet, .int this_bestMore, .ref a_this_worthOf, .int this_leastApart, .int this_found, .int this_first, .int this_leastPaid, .ref a_this_trace, .int this_traced, .int this_speaks, .int this_isParted, .ref a_this_bits, .ref a_this_sizes, .ref a_this_number, .ref a_this_aside])), (a_this_bits, .inl (gI G, 4, .inl this_bits)), (a_this_errors, .inl (gI G, 7, .inl this_errors)), (a_this_named, .inl (gI G, 128, .inl this_named)), (a_this_number, .inl (gI G, 96, .inl this_number)), (a_this_pile, .inl (gI G, 64, .inl this_pile)), (a_this_s, .inl (gI G, 374, .inl this_s)), (a_this_sizes, .inl (gI G, 4, .inl this_sizes)), (a_this_told, .inl (gI G, 8, .inl this_told))]
def f_X12_worth (N : Nat) (p0 : Int32) (p1 : Int32) (p2 : Int32) (this_bits : Nat → Int32) (this_errors : Nat → Int32) (this_named : Nat → Int32) (this_number : Nat → Int32) (this_pile : Nat → Int32) (this_s : Nat → Int32) (this_sizes : Nat → Int32) (this_told : Nat → Int32) : Option (Int32 × (Nat → Int32) × (Nat → Int32) × (Nat → Int32) × (Nat → Int32)) := ((f_X12_isThing N p2).bind fun r1 => ((f_X12_lacks N p0 p1 r1 (29 : Int32) this_bits this_number this_sizes this_told).bind fun r2 => (if r2.1 ≤ 0 then ((f_X12_paid N p1 r2.2 this_named this_pile this_s).bind fun r4 => (if vin p2 8 = true then (if vin p2 8 = true then ((f_X12_paid N p1 (upd r2.2 p2.toNatClampNeg ((r2.2 p2.toNatClampNeg) + (1 : Int32))) r4.2.1 r4.2.2 this_s).bind fun r7 => (some ((r4.1 - r7.1), this_errors, r7.2.1, r7.2.2, (upd r2.2 p2.toNatClampNeg ((r2.2 p2.toNatClampNeg) + (1 : Int32)))))) else none) else none)) else ((f_X12_error N r2.1 this_errors).bind fun r8 => (some (r8.1, r8.2, this_named, this_pile, r2.2))))))
set_option maxRecDepth 100000 in
set_option maxHeartbeats 4000000 in
theorem c_X12_worth (l : Launch) (G : KG) (N : Nat) (a_this : Nat) (a_this_s : Nat) (a_this_kept : Nat) (a_this_errors : Nat) (a_this_step : Nat) (a_this_named : Nat) (a_this_pile : Nat) (a_this_told : Nat) (a_this_beside1 : Nat) (a_this_row : Nat) (a_this_best : Nat) (a_this_worthOf : Nat) (a_this_trace : Nat) (a_this_bits : Nat) (a_this_sizes : Nat) (a_this_number : Nat) (a_this_aside : Nat) (p0 : Int32) (p1 : Int32) (p2 : Int32) (this_images : Int32) (this_at : Int32) (this_open : Int32) (this_steps : Int32) (this_use : Int32) (this_bestNet : Int32) (this_bestMore : Int32) (this_leastApart : Int32) (this_found : Int32) (this_first : Int32) (this_leastPaid : Int32) (this_traced : Int32) (this_speaks : Int32) (this_isParted : Int32) (this_bits : Nat → Int32) (this_errors : Nat → Int32) (this_named : Nat → Int32) (this_number : Nat → Int32) (this_pile : Nat → Int32) (this_s : Nat → Int32) (this_sizes : Nat → Int32) (this_told : Nat → Int32)  (out : Int32 × (Nat → Int32) × (Nat → Int32) × (Nat → Int32) × (Nat → Int32)) (hf : f_X12_worth N p0 p1 p2 this_bits this_errors this_named this_number this_pile this_s this_sizes this_told = some out) : KM l G yX12_worth (kw yX12_worth cX12_worth 6 (some .int)) 4 95 [.ref a_this, .int p0, .int p1, .int p2] (k_X12_worth G a_this a_this_s a_this_kept a_this_errors a_this_step a_this_named a_this_pile a_this_told a_this_beside1 a_this_row a_this_best a_this_worthOf a_this_trace a_this_bits a_this_sizes a_this_number a_this_aside this_images this_at this_open this_steps this_use this_bestNet this_bestMore this_leastApart this_found this_first this_leastPaid this_traced this_speaks this_isParted this_bits this_errors this_named this_number this_pile this_s this_sizes this_told) (k_X12_worth G a_this a_this_s a_this_kept a_this_errors a_this_step a_this_named a_this_pile a_this_told a_this_beside1 a_this_row a_this_best a_this_worthOf a_this_trace a_this_bits a_this_sizes a_this_number a_this_aside this_images this_at this_open this_steps this_use this_bestNet this_bestMore this_leastApart this_found this_first this_leastPaid this_traced this_speaks this_isParted this_bits (out.2.1) (out.2.2.1) this_number (out.2.2.2.1) this_s this_sizes (out.2.2.2.2)) (some (.int (out.1))) := by
  refine KM.of (by decide) (Nat.le_of_ble_eq_true rfl) ?_
  intro p e s m below meth c A ls args Q Fx0 hP hK hD hA hS hAm hQ hl
  obtain ⟨hx, hb, hr, hml, hts, hown, hlk, hnm⟩ := Fx0
  have hown : s.vm.findClass RX12 = some m.cls := hown
  have hl : lv_has ls 6 [(0, .ref a_this), (1, .int p0), (2, .int p1), (3, .int p2)] := hl
  have fl_28 := hts _ tw_997
  unfold f_X12_worth at hf
  refine lv_aload_n hx hb dX12_worth_0 rfl (lv_at hl 0 rfl) ?_
  refine lv_iload_n hx hb dX12_worth_1 rfl (lv_at hl 1 rfl) ?_
  refine lv_iload_n hx hb dX12_worth_2 rfl (lv_at hl 2 rfl) ?_
  refine lv_iload_n hx hb dX12_worth_3 rfl (lv_at hl 3 rfl) ?_
  obtain ⟨r1, hr1, hf⟩ := kb hf
  refine kS (As := [.int p2]) (rest := [.int p1, .int p0, .ref a_this]) ⟨hx, hb, hml, hown, hts⟩ (c_X12_isThing l G N p2 r1 hr1) (kcS 1 hts tw_1148 tw_92 tw_1146 tw_1147 hd_X12_isThing ⟨Nat.le_of_ble_eq_true rfl, Nat.le_of_ble_eq_true rfl⟩) dX12_worth_4 hl.1 hK hAm hA hP hD hS [] rfl rfl rfl [] rfl rfl rfl (Nat.le_of_ble_eq_true rfl) ⟨Nat.le_refl _, Nat.le_refl _⟩ (fun H locs hP hD hS => ?_)
  have hP : va_P (gD G) vwCl (k_X12_worth G a_this a_this_s a_this_kept a_this_errors a_this_step a_this_named a_this_pile a_this_told a_this_beside1 a_this_row a_this_best a_this_worthOf a_this_trace a_this_bits a_this_sizes a_this_number a_this_aside this_images this_at this_open this_steps this_use this_bestNet this_bestMore this_leastApart this_found this_first this_leastPaid this_traced this_speaks this_isParted this_bits this_errors this_named this_number this_pile this_s this_sizes this_told) H := hP
  have hD : va_D A (k_X12_worth G a_this a_this_s a_this_kept a_this_errors a_this_step a_this_named a_this_pile a_this_told a_this_beside1 a_this_row a_this_best a_this_worthOf a_this_trace a_this_bits a_this_sizes a_this_number a_this_aside this_images this_at this_open this_steps this_use this_bestNet this_bestMore this_leastApart this_found this_first this_leastPaid this_traced this_speaks this_isParted this_bits this_errors this_named this_number this_pile this_s this_sizes this_told) := hD
  refine lv_bipush (v := (29 : Int32)) hx hb dX12_worth_7 (by decide) ?_
  obtain ⟨r2, hr2, hf⟩ := kb hf
  refine kV (As := [.int p0, .int p1, .int r1, .int (29 : Int32)]) (rest := []) ⟨hx, hb, hml, hown, hts⟩ (c_X12_lacks l G N a_this a_this_s a_this_kept a_this_errors a_this_step a_this_named a_this_pile a_this_told a_this_beside1 a_this_row a_this_best a_this_worthOf a_this_trace a_this_bits a_this_sizes a_this_number a_this_aside p0 p1 r1 (29 : Int32) this_images this_at this_open this_steps this_use this_bestNet this_bestMore this_leastApart this_found this_first this_leastPaid this_traced this_speaks this_isParted this_bits this_number this_sizes this_told r2 hr2) (kcV 4 hts tw_1223 tw_92 tw_1220 tw_1222 tw_61 hd_X12_lacks ⟨Nat.le_of_ble_eq_true rfl, Nat.le_of_ble_eq_true rfl⟩) dX12_worth_9 hl.1 hK hAm hA hP hD hS 0 (ci := 12) rfl rfl rfl [0, 1, 4, 7, 8] rfl rfl rfl [4] rfl rfl rfl (Nat.le_of_ble_eq_true rfl) ⟨Nat.le_refl _, Nat.le_refl _⟩ (fun H locs hP hD hS => ?_)
  have hP : va_P (gD G) vwCl (k_X12_worth G a_this a_this_s a_this_kept a_this_errors a_this_step a_this_named a_this_pile a_this_told a_this_beside1 a_this_row a_this_best a_this_worthOf a_this_trace a_this_bits a_this_sizes a_this_number a_this_aside this_images this_at this_open this_steps this_use this_bestNet this_bestMore this_leastApart this_found this_first this_leastPaid this_traced this_speaks this_isParted this_bits this_errors this_named this_number this_pile this_s this_sizes r2.2) H := hP
  have hD : va_D A (k_X12_worth G a_this a_this_s a_this_kept a_this_errors a_this_step a_this_named a_this_pile a_this_told a_this_beside1 a_this_row a_this_best a_this_worthOf a_this_trace a_this_bits a_this_sizes a_this_number a_this_aside this_images this_at this_open this_steps this_use this_bestNet this_bestMore this_leastApart this_found this_first this_leastPaid this_traced this_speaks this_isParted this_bits this_errors this_named this_number this_pile this_s this_sizes r2.2) := hD
  refine lv_istore (lv' := [(4, .int r2.1), (0, .ref a_this), (1, .int p0), (2, .int p1), (3, .int p2)]) hx hb dX12_worth_12 hl (by decide) rfl (fun ls hl => ?_)
  refine lv_iload hx hb dX12_worth_14 (lv_at hl 0 rfl) ?_
  refine lv_if_le (tgt := 26) hx hb dX12_worth_16 (by decide) (fun c3 => ?_) (fun c3 => ?_)
  · replace hf := kt c3 hf
    refine lv_aload_n hx hb dX12_worth_26 rfl (lv_at hl 1 rfl) ?_
    refine lv_iload_n hx hb dX12_worth_27 rfl (lv_at hl 3 rfl) ?_
    refine lv_aload_n hx hb dX12_worth_28 rfl (lv_at hl 1 rfl) ?_
    refine va_get (D := gD G) (ci := 12) (C := RX12) (T := TX12) (N := 30) hx hb hts hin_X12 hown hK hP 0 rfl rfl 11 (by decide) fl_28 (fun _ h9 => h9) rfl dX12_worth_29 ?_
    obtain ⟨r4, hr4, hf⟩ := kb hf
    refine kV (As := [.int p1, .ref a_this_told]) (rest := []) ⟨hx, hb, hml, hown, hts⟩ (c_X12_paid l G N a_this_told a_this a_this_s a_this_kept a_this_errors a_this_step a_this_named a_this_pile a_this_told a_this_beside1 a_this_row a_this_best a_this_worthOf a_this_trace a_this_bits a_this_sizes a_this_number a_this_aside p1 r2.2 this_images this_at this_open this_steps this_use this_bestNet this_bestMore this_leastApart this_found this_first this_leastPaid this_traced this_speaks this_isParted this_named this_pile this_s r4 hr4) (kcV 2 hts tw_1249 tw_92 tw_1246 tw_1248 tw_65 hd_X12_paid ⟨Nat.le_of_ble_eq_true rfl, Nat.le_of_ble_eq_true rfl⟩) dX12_worth_32 hl.1 hK hAm hA hP hD hS 0 (ci := 12) rfl rfl rfl [8, 0, 3, 5, 6] rfl rfl rfl [2, 3] rfl rfl rfl (Nat.le_of_ble_eq_true rfl) ⟨Nat.le_refl _, Nat.le_refl _⟩ (fun H locs hP hD hS => ?_)
    have hP : va_P (gD G) vwCl (k_X12_worth G a_this a_this_s a_this_kept a_this_errors a_this_step a_this_named a_this_pile a_this_told a_this_beside1 a_this_row a_this_best a_this_worthOf a_this_trace a_this_bits a_this_sizes a_this_number a_this_aside this_images this_at this_open this_steps this_use this_bestNet this_bestMore this_leastApart this_found this_first this_leastPaid this_traced this_speaks this_isParted this_bits this_errors r4.2.1 this_number r4.2.2 this_s this_sizes r2.2) H := hP
    have hD : va_D A (k_X12_worth G a_this a_this_s a_this_kept a_this_errors a_this_step a_this_named a_this_pile a_this_told a_this_beside1 a_this_row a_this_best a_this_worthOf a_this_trace a_this_bits a_this_sizes a_this_number a_this_aside this_images this_at this_open this_steps this_use this_bestNet this_bestMore this_leastApart this_found this_first this_leastPaid this_traced this_speaks this_isParted this_bits this_errors r4.2.1 this_number r4.2.2 this_s this_sizes r2.2) := hD
    refine lv_istore (lv' := [(5, .int r4.1), (4, .int r2.1), (0, .ref a_this), (1, .int p0), (2, .int p1), (3, .int p2)]) hx hb dX12_worth_35 hl (by decide) rfl (fun ls hl => ?_)
    refine lv_aload_n hx hb dX12_worth_37 rfl (lv_at hl 2 rfl) ?_
    refine va_get (D := gD G) (ci := 12) (C := RX12) (T := TX12) (N := 30) hx hb hts hin_X12 hown hK hP 0 rfl rfl 11 (by decide) fl_28 (fun _ h9 => h9) rfl dX12_worth_38 ?_
    refine lv_iload_n hx hb dX12_worth_41 rfl (lv_at hl 5 rfl) ?_
    refine lv_dup2_11 hx hb dX12_worth_42 rfl rfl ?_
    obtain ⟨g5, hf⟩ := kg hf
    refine va_iald hx hb hK hP 8 0 rfl rfl (vin_of g5) dX12_worth_43 ?_
    refine lv_iconst (v := (1 : Int32)) hx hb dX12_worth_44 (by decide) ?_
    refine lv_iadd hx hb dX12_worth_45 ?_
    obtain ⟨g6, hf⟩ := kg hf
    refine va_iast hx hb hK hP hD hS 8 0 rfl rfl (vin_of g6) dX12_worth_46 (fun H locs hP hD hS => ?_)
    have hP : va_P (gD G) vwCl (k_X12_worth G a_this a_this_s a_this_kept a_this_errors a_this_step a_this_named a_this_pile a_this_told a_this_beside1 a_this_row a_this_best a_this_worthOf a_this_trace a_this_bits a_this_sizes a_this_number a_this_aside this_images this_at this_open this_steps this_use this_bestNet this_bestMore this_leastApart this_found this_first this_leastPaid this_traced this_speaks this_isParted this_bits this_errors r4.2.1 this_number r4.2.2 this_s this_sizes (upd r2.2 p2.toNatClampNeg ((r2.2 p2.toNatClampNeg) + (1 : Int32)))) H := hP
    have hD : va_D A (k_X12_worth G a_this a_this_s a_this_kept a_this_errors a_this_step a_this_named a_this_pile a_this_told a_this_beside1 a_this_row a_this_best a_this_worthOf a_this_trace a_this_bits a_this_sizes a_this_number a_this_aside this_images this_at this_open this_steps this_use this_bestNet this_bestMore this_leastApart this_found this_first this_leastPaid this_traced this_speaks this_isParted this_bits this_errors r4.2.1 this_number r4.2.2 this_s this_sizes (upd r2.2 p2.toNatClampNeg ((r2.2 p2.toNatClampNeg) + (1 : Int32)))) := hD
    refine lv_iload hx hb dX12_worth_47 (lv_at hl 0 rfl) ?_
    refine lv_aload_n hx hb dX12_worth_49 rfl (lv_at hl 2 rfl) ?_
    refine lv_iload_n hx hb dX12_worth_50 rfl (lv_at hl 4 rfl) ?_
    refine lv_aload_n hx hb dX12_worth_51 rfl (lv_at hl 2 rfl) ?_
    refine va_get (D := gD G) (ci := 12) (C := RX12) (T := TX12) (N := 30) hx hb hts hin_X12 hown hK hP 0 rfl rfl 11 (by decide) fl_28 (fun _ h9 => h9) rfl dX12_worth_52 ?_
    obtain ⟨r7, hr7, hf⟩ := kb hf
    refine kV (As := [.int p1, .ref a_this_told]) (rest := [.int r4.1]) ⟨hx, hb, hml, hown, hts⟩ (c_X12_paid l G N a_this_told a_this a_this_s a_this_kept a_this_errors a_this_step a_this_named a_this_pile a_this_told a_this_beside1 a_this_row a_this_best a_this_worthOf a_this_trace a_this_bits a_this_sizes a_this_number a_this_aside p1 (upd r2.2 p2.toNatClampNeg ((r2.2 p2.toNatClampNeg) + (1 : Int32))) this_images this_at this_open this_steps this_use this_bestNet this_bestMore this_leastApart this_found this_first this_leastPaid this_traced this_speaks this_isParted r4.2.1 r4.2.2 this_s r7 hr7) (kcV 2 hts tw_1249 tw_92 tw_1246 tw_1248 tw_65 hd_X12_paid ⟨Nat.le_of_ble_eq_true rfl, Nat.le_of_ble_eq_true rfl⟩) dX12_worth_55 hl.1 hK hAm hA hP hD hS 0 (ci := 12) rfl rfl rfl [8, 0, 3, 5, 6] rfl rfl rfl [2, 3] rfl rfl rfl (Nat.le_of_ble_eq_true rfl) ⟨Nat.le_refl _, Nat.le_refl _⟩ (fun H locs hP hD hS => ?_)
    have hP : va_P (gD G) vwCl (k_X12_worth G a_this a_this_s a_this_kept a_this_errors a_this_step a_this_named a_this_pile a_this_told a_this_beside1 a_this_row a_this_best a_this_worthOf a_this_trace a_this_bits a_this_sizes a_this_number a_this_aside this_images this_at this_open this_steps this_use this_bestNet this_bestMore this_leastApart this_found this_first this_leastPaid this_traced this_speaks this_isParted this_bits this_errors r7.2.1 this_number r7.2.2 this_s this_sizes (upd r2.2 p2.toNatClampNeg ((r2.2 p2.toNatClampNeg) + (1 : Int32)))) H := hP
    have hD : va_D A (k_X12_worth G a_this a_this_s a_this_kept a_this_errors a_this_step a_this_named a_this_pile a_this_told a_this_beside1 a_this_row a_this_best a_this_worthOf a_this_trace a_this_bits a_this_sizes a_this_number a_this_aside this_images this_at this_open this_steps this_use this_bestNet this_bestMore this_leastApart this_found this_first this_leastPaid this_traced this_speaks this_isParted this_bits this_errors r7.2.1 this_number r7.2.2 this_s this_sizes (upd r2.2 p2.toNatClampNeg ((r2.2 p2.toNatClampNeg) + (1 : Int32)))) := hD
    refine lv_isub hx hb dX12_worth_58 ?_
    have ho := ks hf
    subst ho
    exact kiret hx hb hr hlk hP hD hS hQ dX12_worth_59
  · replace hf := kf c3 hf
    refine lv_aload_n hx hb dX12_worth_19 rfl (lv_at hl 1 rfl) ?_
    refine lv_iload hx hb dX12_worth_20 (lv_at hl 0 rfl) ?_
    obtain ⟨r8, hr8, hf⟩ := kb hf
    refine kV (As := [.int r2.1]) (rest := []) ⟨hx, hb, hml, hown, hts⟩ (c_X12_error l G N a_this a_this_s a_this_kept a_this_errors a_this_step a_this_named a_this_pile a_this_told a_this_beside1 a_this_row a_this_best a_this_worthOf a_this_trace a_this_bits a_this_sizes a_this_number a_this_aside r2.1 this_images this_at this_open this_steps this_use this_bestNet this_bestMore this_leastApart this_found this_first this_leastPaid this_traced this_speaks this_isParted this_errors r8 hr8) (kcV 1 hts tw_1087 tw_92 tw_1084 tw_1086 tw_43 hd_X12_error ⟨Nat.le_of_ble_eq_true rfl, Nat.le_of_ble_eq_true rfl⟩) dX12_worth_22 hl.1 hK hAm hA hP hD hS 0 (ci := 12) rfl rfl rfl [0, 2] rfl rfl rfl [1] rfl rfl rfl (Nat.le_of_ble_eq_true rfl) ⟨Nat.le_refl _, Nat.le_refl _⟩ (fun H locs hP hD hS => ?_)
    have hP : va_P (gD G) vwCl (k_X12_worth G a_this a_this_s a_this_kept a_this_errors a_this_step a_this_named a_this_pile a_this_told a_this_beside1 a_this_row a_this_best a_this_worthOf a_this_trace a_this_bits a_this_sizes a_this_number a_this_aside this_images this_at this_open this_steps this_use this_bestNet this_bestMore this_leastApart this_found this_first this_leastPaid this_traced this_speaks this_isParted this_bits r8.2 this_named this_number this_pile this_s this_sizes r2.2) H := hP
    have hD : va_D A (k_X12_worth G a_this a_this_s a_this_kept a_this_errors a_this_step a_this_named a_this_pile a_this_told a_this_beside1 a_this_row a_this_best a_this_worthOf a_this_trace a_this_bits a_this_sizes a_this_number a_this_aside this_images this_at this_open this_steps this_use this_bestNet this_bestMore this_leastApart this_found this_first this_leastPaid this_traced this_speaks this_isParted this_bits r8.2 this_named this_number this_pile this_s this_sizes r2.2) := hD
    have ho := ks hf
    subst ho
    exact kiret hx hb hr hlk hP hD hS hQ dX12_worth_25
abbrev k_X12_erring (G : KG) (a_this : Nat) (a_this_s : Nat) (a_this_kept : Nat) (a_this_errors : Nat) (a_this_step : Nat) (a_this_named : Nat) (a_this_pile : Nat) (a_this_told : Nat) (a_this_beside1 : Nat) (a_this_row : Nat) (a_this_best : Nat) (a_this_worthOf : Nat) (a_this_trace : Nat) (a_this_bits : Nat) (a_this_sizes : Nat) (a_this_number : Nat) (a_this_aside : Nat) (this_images : Int32) (this_at : Int32) (this_open : Int32) (this_steps : Int32) (this_use : Int32) (this_bestNet : Int32) (this_bestMore : Int32) (this_leastApart : Int32) (this_found : Int32) (this_first : Int32) (this_leastPaid : Int32) (this_traced : Int32) (this_speaks : Int32) (this_isParted : Int32) (this_bits : Nat → Int32) (this_errors : Nat → Int32) (this_named : Nat → Int32) (this_number : Nat → Int32) (this_pile : Nat → Int32) (this_s : Nat → Int32) (this_sizes : Nat → Int32) (this_told : Nat → Int32) : va_W := [(a_this, .inr (12, [.ref a_this_s, .ref a_this_kept, .int this_images, .ref a_this_errors, .int this_at, .int this_open, .int this_steps, .int this_use, .ref a_this_step, .ref a_this_named, .ref a_this_pile, .ref a_this_told, .ref a_this_beside1, .ref a_this_row, .ref a_this_best, .int this_bestNet, .int this_bestMore, .ref a_this_worthOf, .int this_leastApart, .int this_found, .int this_first, .int this_leastPaid, .ref a_this_trace, .int this_traced, .int this_speaks, .int this_isParted, .ref a_this_bits, .ref a_this_sizes, .ref a_this_number, .ref a_this_aside])), (a_this_bits, .inl (gI G, 4, .inl this_bits)), (a_this_errors, .inl (gI G, 7, .inl this_errors)), (a_this_named, .inl (gI G, 128, .inl this_named)), (a_this_number, .inl (gI G, 96, .inl this_number)), (a_this_pile, .inl (gI G, 64, .inl this_pile)), (a_this_s, .inl (gI G, 374, .inl this_s)), (a_this_sizes, .inl (gI G, 4, .inl this_sizes)), (a_this_told, .inl (gI G, 8, .inl this_told))]
def f_X12_erring_j42 (N : Nat) (x1 : Int32) (x2 : Int32) (x3 : Int32) (x4 : Int32) (t0 : Int32) (this_bits : Nat → Int32) (this_errors : Nat → Int32) (this_named : Nat → Int32) (this_number : Nat → Int32) (this_pile : Nat → Int32) (this_s : Nat → Int32) (this_sizes : Nat → Int32) (this_told : Nat → Int32) : Option (Int64 × (Nat → Int32) × (Nat → Int32) × (Nat → Int32) × (Nat → Int32)) := ((f_X12_lacks N x1 x2 t0 (30 : Int32) this_bits this_number this_sizes this_told).bind fun r1 => (if r1.1 ≤ 0 then ((f_X12_paid N x2 r1.2 this_named this_pile this_s).bind fun r3 => ((f_X12_many N r1.2).bind fun r4 => (if r4 = 0 then ((f_X12_divisor N (0 : Int32) (16 : Int32)).bind fun r15 => (if x4 = 0 then (if ¬ r15 = 0 then (some (((0 : Int32) / r15).toInt64, this_errors, r3.2.1, r3.2.2, r1.2)) else none) else (if ¬ r15 = 0 then (some (((16 : Int32) / r15).toInt64, this_errors, r3.2.1, r3.2.2, r1.2)) else none))) else (if r3.1 ≤ 0 then ((f_X12_divisor N ((((16 : Int32) * r3.1) + (x3 / (17 : Int32))) - (0 : Int32)) (16 : Int32)).bind fun r7 => (if x4 = 0 then (if ¬ r7 = 0 then (some ((((((16 : Int32) * r3.1) + (x3 / (17 : Int32))) - (0 : Int32)) / r7).toInt64, this_errors, r3.2.1, r3.2.2, r1.2)) else none) else (if ¬ r7 = 0 then (some (((16 : Int32) / r7).toInt64, this_errors, r3.2.1, r3.2.2, r1.2)) else none))) else ((f_X12_divisor N ((((16 : Int32) * r3.1) + (x3 / (17 : Int32))) - (x3 - x3 / (17 : Int32) * (17 : Int32))) (16 : Int32)).bind fun r11 => (if x4 = 0 then (if ¬ r11 = 0 then (some ((((((16 : Int32) * r3.1) + (x3 / (17 : Int32))) - (x3 - x3 / (17 : Int32) * (17 : Int32))) / r11).toInt64, this_errors, r3.2.1, r3.2.2, r1.2)) else none) else (if ¬ r11 = 0 then (some (((16 : Int32) / r11).toInt64, this_errors, r3.2.1, r3.2.2, r1.2)) else none))))))) else ((f_X12_error N r1.1 this_errors).bind fun r19 => (some (r19.1.toInt64, r19.2, this_named, this_pile, r1.2)))))
def f_X12_erring (N : Nat) (p0 : Int32) (p1 : Int32) (p2 : Int32) (p3 : Int32) (this_bits : Nat → Int32) (this_errors : Nat → Int32) (this_named : Nat → Int32) (this_number : Nat → Int32) (this_pile : Nat → Int32) (this_s : Nat → Int32) (this_sizes : Nat → Int32) (this_told : Nat → Int32) : Option (Int64 × (Nat → Int32) × (Nat → Int32) × (Nat → Int32) × (Nat → Int32)) := (if p2 < 0 then (f_X12_erring_j42 N p0 p1 p2 p3 (0 : Int32) this_bits this_errors this_named this_number this_pile this_s this_sizes this_told) else (if (16 : Int32) < (p2 / (17 : Int32)) then (f_X12_erring_j42 N p0 p1 p2 p3 (0 : Int32) this_bits this_errors this_named this_number this_pile this_s this_sizes this_told) else (if (16 : Int32) < ((p2 / (17 : Int32)) + (p2 - p2 / (17 : Int32) * (17 : Int32))) then (f_X12_erring_j42 N p0 p1 p2 p3 (0 : Int32) this_bits this_errors this_named this_number this_pile this_s this_sizes this_told) else ((f_X12_in N p3 (0 : Int32) (1 : Int32)).bind fun r23 => (if r23 = 0 then (f_X12_erring_j42 N p0 p1 p2 p3 (0 : Int32) this_bits this_errors this_named this_number this_pile this_s this_sizes this_told) else (f_X12_erring_j42 N p0 p1 p2 p3 (1 : Int32) this_bits this_errors this_named this_number this_pile this_s this_sizes this_told))))))
set_option maxRecDepth 100000 in
set_option maxHeartbeats 4000000 in
theorem c_X12_erring (l : Launch) (G : KG) (N : Nat) (a_this : Nat) (a_this_s : Nat) (a_this_kept : Nat) (a_this_errors : Nat) (a_this_step : Nat) (a_this_named : Nat) (a_this_pile : Nat) (a_this_told : Nat) (a_this_beside1 : Nat) (a_this_row : Nat) (a_this_best : Nat) (a_this_worthOf : Nat) (a_this_trace : Nat) (a_this_bits : Nat) (a_this_sizes : Nat) (a_this_number : Nat) (a_this_aside : Nat) (p0 : Int32) (p1 : Int32) (p2 : Int32) (p3 : Int32) (this_images : Int32) (this_at : Int32) (this_open : Int32) (this_steps : Int32) (this_use : Int32) (this_bestNet : Int32) (this_bestMore : Int32) (this_leastApart : Int32) (this_found : Int32) (this_first : Int32) (this_leastPaid : Int32) (this_traced : Int32) (this_speaks : Int32) (this_isParted : Int32) (this_bits : Nat → Int32) (this_errors : Nat → Int32) (this_named : Nat → Int32) (this_number : Nat → Int32) (this_pile : Nat → Int32) (this_s : Nat → Int32) (this_sizes : Nat → Int32) (this_told : Nat → Int32)  (out : Int64 × (Nat → Int32) × (Nat → Int32) × (Nat → Int32) × (Nat → Int32)) (hf : f_X12_erring N p0 p1 p2 p3 this_bits this_errors this_named this_number this_pile this_s this_sizes this_told = some out) : KM l G yX12_erring (kw yX12_erring cX12_erring 10 (some .long)) 4 95 [.ref a_this, .int p0, .int p1, .int p2, .int p3] (k_X12_erring G a_this a_this_s a_this_kept a_this_errors a_this_step a_this_named a_this_pile a_this_told a_this_beside1 a_this_row a_this_best a_this_worthOf a_this_trace a_this_bits a_this_sizes a_this_number a_this_aside this_images this_at this_open this_steps this_use this_bestNet this_bestMore this_leastApart this_found this_first this_leastPaid this_traced this_speaks this_isParted this_bits this_errors this_named this_number this_pile this_s this_sizes this_told) (k_X12_erring G a_this a_this_s a_this_kept a_this_errors a_this_step a_this_named a_this_pile a_this_told a_this_beside1 a_this_row a_this_best a_this_worthOf a_this_trace a_this_bits a_this_sizes a_this_number a_this_aside this_images this_at this_open this_steps this_use this_bestNet this_bestMore this_leastApart this_found this_first this_leastPaid this_traced this_speaks this_isParted this_bits (out.2.1) (out.2.2.1) this_number (out.2.2.2.1) this_s this_sizes (out.2.2.2.2)) (some (.long (out.1))) := by
  refine KM.of (by decide) (Nat.le_of_ble_eq_true rfl) ?_
  intro p e s m below meth c A ls args Q Fx0 hP hK hD hA hS hAm hQ hl
  obtain ⟨hx, hb, hr, hml, hts, hown, hlk, hnm⟩ := Fx0
  have hown : s.vm.findClass RX12 = some m.cls := hown
  have hl : lv_has ls 10 [(0, .ref a_this), (1, .int p0), (2, .int p1), (3, .int p2), (4, .int p3)] := hl
  have fl_28 := hts _ tw_997
  unfold f_X12_erring at hf
  have J42 : ∀ (x1_1 : Int32) (x2_1 : Int32) (x3_1 : Int32) (x4_1 : Int32) (t0_1 : Int32) (this_errors_1 : Nat → Int32) (this_named_1 : Nat → Int32) (this_pile_1 : Nat → Int32) (this_told_1 : Nat → Int32) (H : Heap) (locs : List Loc), va_P (gD G) vwCl (k_X12_erring G a_this a_this_s a_this_kept a_this_errors a_this_step a_this_named a_this_pile a_this_told a_this_beside1 a_this_row a_this_best a_this_worthOf a_this_trace a_this_bits a_this_sizes a_this_number a_this_aside this_images this_at this_open this_steps this_use this_bestNet this_bestMore this_leastApart this_found this_first this_leastPaid this_traced this_speaks this_isParted this_bits this_errors_1 this_named_1 this_number this_pile_1 this_s this_sizes this_told_1) H → va_D A (k_X12_erring G a_this a_this_s a_this_kept a_this_errors a_this_step a_this_named a_this_pile a_this_told a_this_beside1 a_this_row a_this_best a_this_worthOf a_this_trace a_this_bits a_this_sizes a_this_number a_this_aside this_images this_at this_open this_steps this_use this_bestNet this_bestMore this_leastApart this_found this_first this_leastPaid this_traced this_speaks this_isParted this_bits this_errors_1 this_named_1 this_number this_pile_1 this_s this_sizes this_told_1) → va_S A s.heap H locs → ∀ (ls : Array Slot), lv_has ls 10 [(0, .ref a_this), (1, .int x1_1), (2, .int x2_1), (3, .int x3_1), (4, .int x4_1)] → f_X12_erring_j42 N x1_1 x2_1 x3_1 x4_1 t0_1 this_bits this_errors_1 this_named_1 this_number this_pile_1 this_s this_sizes this_told_1 = some out → W p l e (kR 4 0 0 95) s m args below meth c H locs 0 0 Q (F0 m 42 ls [.int t0_1]) := by
    intro x1_1 x2_1 x3_1 x4_1 t0_1 this_errors_1 this_named_1 this_pile_1 this_told_1 H locs hP hD hS ls hl hf
    rw [f_X12_erring_j42] at hf
    refine lv_istore (lv' := [(5, .int t0_1), (0, .ref a_this), (1, .int x1_1), (2, .int x2_1), (3, .int x3_1), (4, .int x4_1)]) hx hb dX12_erring_42 hl (by decide) rfl (fun ls hl => ?_)
    refine lv_aload_n hx hb dX12_erring_44 rfl (lv_at hl 1 rfl) ?_
    refine lv_iload_n hx hb dX12_erring_45 rfl (lv_at hl 2 rfl) ?_
    refine lv_iload_n hx hb dX12_erring_46 rfl (lv_at hl 3 rfl) ?_
    refine lv_iload hx hb dX12_erring_47 (lv_at hl 0 rfl) ?_
    refine lv_bipush (v := (30 : Int32)) hx hb dX12_erring_49 (by decide) ?_
    obtain ⟨r2, hr2, hf⟩ := kb hf
    refine kV (As := [.int x1_1, .int x2_1, .int t0_1, .int (30 : Int32)]) (rest := []) ⟨hx, hb, hml, hown, hts⟩ (c_X12_lacks l G N a_this a_this_s a_this_kept a_this_errors a_this_step a_this_named a_this_pile a_this_told a_this_beside1 a_this_row a_this_best a_this_worthOf a_this_trace a_this_bits a_this_sizes a_this_number a_this_aside x1_1 x2_1 t0_1 (30 : Int32) this_images this_at this_open this_steps this_use this_bestNet this_bestMore this_leastApart this_found this_first this_leastPaid this_traced this_speaks this_isParted this_bits this_number this_sizes this_told_1 r2 hr2) (kcV 4 hts tw_1223 tw_92 tw_1220 tw_1222 tw_61 hd_X12_lacks ⟨Nat.le_of_ble_eq_true rfl, Nat.le_of_ble_eq_true rfl⟩) dX12_erring_51 hl.1 hK hAm hA hP hD hS 0 (ci := 12) rfl rfl rfl [0, 1, 4, 7, 8] rfl rfl rfl [4] rfl rfl rfl (Nat.le_of_ble_eq_true rfl) ⟨Nat.le_refl _, Nat.le_refl _⟩ (fun H locs hP hD hS => ?_)
    have hP : va_P (gD G) vwCl (k_X12_erring G a_this a_this_s a_this_kept a_this_errors a_this_step a_this_named a_this_pile a_this_told a_this_beside1 a_this_row a_this_best a_this_worthOf a_this_trace a_this_bits a_this_sizes a_this_number a_this_aside this_images this_at this_open this_steps this_use this_bestNet this_bestMore this_leastApart this_found this_first this_leastPaid this_traced this_speaks this_isParted this_bits this_errors_1 this_named_1 this_number this_pile_1 this_s this_sizes r2.2) H := hP
    have hD : va_D A (k_X12_erring G a_this a_this_s a_this_kept a_this_errors a_this_step a_this_named a_this_pile a_this_told a_this_beside1 a_this_row a_this_best a_this_worthOf a_this_trace a_this_bits a_this_sizes a_this_number a_this_aside this_images this_at this_open this_steps this_use this_bestNet this_bestMore this_leastApart this_found this_first this_leastPaid this_traced this_speaks this_isParted this_bits this_errors_1 this_named_1 this_number this_pile_1 this_s this_sizes r2.2) := hD
    refine lv_istore (lv' := [(6, .int r2.1), (5, .int t0_1), (0, .ref a_this), (1, .int x1_1), (2, .int x2_1), (3, .int x3_1), (4, .int x4_1)]) hx hb dX12_erring_54 hl (by decide) rfl (fun ls hl => ?_)
    refine lv_iload hx hb dX12_erring_56 (lv_at hl 0 rfl) ?_
    refine lv_if_le (tgt := 69) hx hb dX12_erring_58 (by decide) (fun c3 => ?_) (fun c3 => ?_)
    · replace hf := kt c3 hf
      refine lv_aload_n hx hb dX12_erring_69 rfl (lv_at hl 2 rfl) ?_
      refine lv_iload_n hx hb dX12_erring_70 rfl (lv_at hl 4 rfl) ?_
      refine lv_aload_n hx hb dX12_erring_71 rfl (lv_at hl 2 rfl) ?_
      refine va_get (D := gD G) (ci := 12) (C := RX12) (T := TX12) (N := 30) hx hb hts hin_X12 hown hK hP 0 rfl rfl 11 (by decide) fl_28 (fun _ h9 => h9) rfl dX12_erring_72 ?_
      obtain ⟨r4, hr4, hf⟩ := kb hf
      refine kV (As := [.int x2_1, .ref a_this_told]) (rest := []) ⟨hx, hb, hml, hown, hts⟩ (c_X12_paid l G N a_this_told a_this a_this_s a_this_kept a_this_errors a_this_step a_this_named a_this_pile a_this_told a_this_beside1 a_this_row a_this_best a_this_worthOf a_this_trace a_this_bits a_this_sizes a_this_number a_this_aside x2_1 r2.2 this_images this_at this_open this_steps this_use this_bestNet this_bestMore this_leastApart this_found this_first this_leastPaid this_traced this_speaks this_isParted this_named_1 this_pile_1 this_s r4 hr4) (kcV 2 hts tw_1249 tw_92 tw_1246 tw_1248 tw_65 hd_X12_paid ⟨Nat.le_of_ble_eq_true rfl, Nat.le_of_ble_eq_true rfl⟩) dX12_erring_75 hl.1 hK hAm hA hP hD hS 0 (ci := 12) rfl rfl rfl [8, 0, 3, 5, 6] rfl rfl rfl [2, 3] rfl rfl rfl (Nat.le_of_ble_eq_true rfl) ⟨Nat.le_refl _, Nat.le_refl _⟩ (fun H locs hP hD hS => ?_)
      have hP : va_P (gD G) vwCl (k_X12_erring G a_this a_this_s a_this_kept a_this_errors a_this_step a_this_named a_this_pile a_this_told a_this_beside1 a_this_row a_this_best a_this_worthOf a_this_trace a_this_bits a_this_sizes a_this_number a_this_aside this_images this_at this_open this_steps this_use this_bestNet this_bestMore this_leastApart this_found this_first this_leastPaid this_traced this_speaks this_isParted this_bits this_errors_1 r4.2.1 this_number r4.2.2 this_s this_sizes r2.2) H := hP
      have hD : va_D A (k_X12_erring G a_this a_this_s a_this_kept a_this_errors a_this_step a_this_named a_this_pile a_this_told a_this_beside1 a_this_row a_this_best a_this_worthOf a_this_trace a_this_bits a_this_sizes a_this_number a_this_aside this_images this_at this_open this_steps this_use this_bestNet this_bestMore this_leastApart this_found this_first this_leastPaid this_traced this_speaks this_isParted this_bits this_errors_1 r4.2.1 this_number r4.2.2 this_s this_sizes r2.2) := hD
      refine lv_istore (lv' := [(7, .int r4.1), (6, .int r2.1), (5, .int t0_1), (0, .ref a_this), (1, .int x1_1), (2, .int x2_1), (3, .int x3_1), (4, .int x4_1)]) hx hb dX12_erring_78 hl (by decide) rfl (fun ls hl => ?_)
      refine lv_aload_n hx hb dX12_erring_80 rfl (lv_at hl 3 rfl) ?_
      refine va_get (D := gD G) (ci := 12) (C := RX12) (T := TX12) (N := 30) hx hb hts hin_X12 hown hK hP 0 rfl rfl 11 (by decide) fl_28 (fun _ h9 => h9) rfl dX12_erring_81 ?_
      obtain ⟨r5, hr5, hf⟩ := kb hf
      refine kS (As := [.ref a_this_told]) (rest := []) ⟨hx, hb, hml, hown, hts⟩ (c_X12_many l G N a_this_told r2.2 r5 hr5) (kcS 1 hts tw_1233 tw_92 tw_1231 tw_1232 hd_X12_many ⟨Nat.le_of_ble_eq_true rfl, Nat.le_of_ble_eq_true rfl⟩) dX12_erring_84 hl.1 hK hAm hA hP hD hS [8] rfl rfl rfl [] rfl rfl rfl (Nat.le_of_ble_eq_true rfl) ⟨Nat.le_refl _, Nat.le_refl _⟩ (fun H locs hP hD hS => ?_)
      have hP : va_P (gD G) vwCl (k_X12_erring G a_this a_this_s a_this_kept a_this_errors a_this_step a_this_named a_this_pile a_this_told a_this_beside1 a_this_row a_this_best a_this_worthOf a_this_trace a_this_bits a_this_sizes a_this_number a_this_aside this_images this_at this_open this_steps this_use this_bestNet this_bestMore this_leastApart this_found this_first this_leastPaid this_traced this_speaks this_isParted this_bits this_errors_1 r4.2.1 this_number r4.2.2 this_s this_sizes r2.2) H := hP
      have hD : va_D A (k_X12_erring G a_this a_this_s a_this_kept a_this_errors a_this_step a_this_named a_this_pile a_this_told a_this_beside1 a_this_row a_this_best a_this_worthOf a_this_trace a_this_bits a_this_sizes a_this_number a_this_aside this_images this_at this_open this_steps this_use this_bestNet this_bestMore this_leastApart this_found this_first this_leastPaid this_traced this_speaks this_isParted this_bits this_errors_1 r4.2.1 this_number r4.2.2 this_s this_sizes r2.2) := hD
      refine lv_if_ne (tgt := 94) hx hb dX12_erring_87 (by decide) (fun c6 => ?_) (fun c6 => ?_)
      · replace hf := kf c6 hf
        refine lv_bipush (v := (16 : Int32)) hx hb dX12_erring_94 (by decide) ?_
        refine lv_iload hx hb dX12_erring_96 (lv_at hl 0 rfl) ?_
        refine lv_imul hx hb dX12_erring_98 ?_
        refine lv_iload_n hx hb dX12_erring_99 rfl (lv_at hl 6 rfl) ?_
        refine lv_bipush (v := (17 : Int32)) hx hb dX12_erring_100 (by decide) ?_
        refine lv_idiv hx hb dX12_erring_102 (by decide) ?_
        refine lv_iadd hx hb dX12_erring_103 ?_
        refine lv_iload hx hb dX12_erring_104 (lv_at hl 0 rfl) ?_
        refine lv_if_le (tgt := 116) hx hb dX12_erring_106 (by decide) (fun c7 => ?_) (fun c7 => ?_)
        · replace hf := kt c7 hf
          refine lv_iconst (v := (0 : Int32)) hx hb dX12_erring_116 (by decide) ?_
          refine lv_isub hx hb dX12_erring_117 ?_
          refine lv_istore (lv' := [(8, .int ((((16 : Int32) * r4.1) + (x3_1 / (17 : Int32))) - (0 : Int32))), (7, .int r4.1), (6, .int r2.1), (5, .int t0_1), (0, .ref a_this), (1, .int x1_1), (2, .int x2_1), (3, .int x3_1), (4, .int x4_1)]) hx hb dX12_erring_118 hl (by decide) rfl (fun ls hl => ?_)
          refine lv_iload hx hb dX12_erring_120 (lv_at hl 0 rfl) ?_
          refine lv_bipush (v := (16 : Int32)) hx hb dX12_erring_122 (by decide) ?_
          obtain ⟨r8, hr8, hf⟩ := kb hf
          refine kS (As := [.int ((((16 : Int32) * r4.1) + (x3_1 / (17 : Int32))) - (0 : Int32)), .int (16 : Int32)]) (rest := []) ⟨hx, hb, hml, hown, hts⟩ (c_X12_divisor l G N ((((16 : Int32) * r4.1) + (x3_1 / (17 : Int32))) - (0 : Int32)) (16 : Int32) r8 hr8) (kcS 2 hts tw_1326 tw_92 tw_1324 tw_1325 hd_X12_divisor ⟨Nat.le_of_ble_eq_true rfl, Nat.le_of_ble_eq_true rfl⟩) dX12_erring_124 hl.1 hK hAm hA hP hD hS [] rfl rfl rfl [] rfl rfl rfl (Nat.le_of_ble_eq_true rfl) ⟨Nat.le_refl _, Nat.le_refl _⟩ (fun H locs hP hD hS => ?_)
          have hP : va_P (gD G) vwCl (k_X12_erring G a_this a_this_s a_this_kept a_this_errors a_this_step a_this_named a_this_pile a_this_told a_this_beside1 a_this_row a_this_best a_this_worthOf a_this_trace a_this_bits a_this_sizes a_this_number a_this_aside this_images this_at this_open this_steps this_use this_bestNet this_bestMore this_leastApart this_found this_first this_leastPaid this_traced this_speaks this_isParted this_bits this_errors_1 r4.2.1 this_number r4.2.2 this_s this_sizes r2.2) H := hP
          have hD : va_D A (k_X12_erring G a_this a_this_s a_this_kept a_this_errors a_this_step a_this_named a_this_pile a_this_told a_this_beside1 a_this_row a_this_best a_this_worthOf a_this_trace a_this_bits a_this_sizes a_this_number a_this_aside this_images this_at this_open this_steps this_use this_bestNet this_bestMore this_leastApart this_found this_first this_leastPaid this_traced this_speaks this_isParted this_bits this_errors_1 r4.2.1 this_number r4.2.2 this_s this_sizes r2.2) := hD
          refine lv_istore (lv' := [(9, .int r8), (8, .int ((((16 : Int32) * r4.1) + (x3_1 / (17 : Int32))) - (0 : Int32))), (7, .int r4.1), (6, .int r2.1), (5, .int t0_1), (0, .ref a_this), (1, .int x1_1), (2, .int x2_1), (3, .int x3_1), (4, .int x4_1)]) hx hb dX12_erring_127 hl (by decide) rfl (fun ls hl => ?_)
          refine lv_iload hx hb dX12_erring_129 (lv_at hl 9 rfl) ?_
          refine lv_if_ne (tgt := 143) hx hb dX12_erring_131 (by decide) (fun c9 => ?_) (fun c9 => ?_)
          · replace hf := kf c9 hf
            refine lv_bipush (v := (16 : Int32)) hx hb dX12_erring_143 (by decide) ?_
            refine lv_iload hx hb dX12_erring_145 (lv_at hl 0 rfl) ?_
            obtain ⟨g10, hf⟩ := kg hf
            refine lv_idiv hx hb dX12_erring_147 g10 ?_
            refine lv_i2l (v := ((16 : Int32) / r8).toInt64) hx hb dX12_erring_148 rfl ?_
            have ho := ks hf
            subst ho
            exact klret hx hb hr hlk hP hD hS hQ dX12_erring_149
          · replace hf := kt c9 hf
            refine lv_iload hx hb dX12_erring_134 (lv_at hl 1 rfl) ?_
            refine lv_iload hx hb dX12_erring_136 (lv_at hl 0 rfl) ?_
            obtain ⟨g11, hf⟩ := kg hf
            refine lv_idiv hx hb dX12_erring_138 g11 ?_
            refine lv_i2l (v := (((((16 : Int32) * r4.1) + (x3_1 / (17 : Int32))) - (0 : Int32)) / r8).toInt64) hx hb dX12_erring_139 rfl ?_
            refine lv_goto (tgt := 149) hx hb dX12_erring_140 (by decide) ?_
            have ho := ks hf
            subst ho
            exact klret hx hb hr hlk hP hD hS hQ dX12_erring_149
        · replace hf := kf c7 hf
          refine lv_iload_n hx hb dX12_erring_109 rfl (lv_at hl 6 rfl) ?_
          refine lv_bipush (v := (17 : Int32)) hx hb dX12_erring_110 (by decide) ?_
          refine lv_irem hx hb dX12_erring_112 (by decide) ?_
          refine lv_goto (tgt := 117) hx hb dX12_erring_113 (by decide) ?_
          refine lv_isub hx hb dX12_erring_117 ?_
          refine lv_istore (lv' := [(8, .int ((((16 : Int32) * r4.1) + (x3_1 / (17 : Int32))) - (x3_1 - x3_1 / (17 : Int32) * (17 : Int32)))), (7, .int r4.1), (6, .int r2.1), (5, .int t0_1), (0, .ref a_this), (1, .int x1_1), (2, .int x2_1), (3, .int x3_1), (4, .int x4_1)]) hx hb dX12_erring_118 hl (by decide) rfl (fun ls hl => ?_)
          refine lv_iload hx hb dX12_erring_120 (lv_at hl 0 rfl) ?_
          refine lv_bipush (v := (16 : Int32)) hx hb dX12_erring_122 (by decide) ?_
          obtain ⟨r12, hr12, hf⟩ := kb hf
          refine kS (As := [.int ((((16 : Int32) * r4.1) + (x3_1 / (17 : Int32))) - (x3_1 - x3_1 / (17 : Int32) * (17 : Int32))), .int (16 : Int32)]) (rest := []) ⟨hx, hb, hml, hown, hts⟩ (c_X12_divisor l G N ((((16 : Int32) * r4.1) + (x3_1 / (17 : Int32))) - (x3_1 - x3_1 / (17 : Int32) * (17 : Int32))) (16 : Int32) r12 hr12) (kcS 2 hts tw_1326 tw_92 tw_1324 tw_1325 hd_X12_divisor ⟨Nat.le_of_ble_eq_true rfl, Nat.le_of_ble_eq_true rfl⟩) dX12_erring_124 hl.1 hK hAm hA hP hD hS [] rfl rfl rfl [] rfl rfl rfl (Nat.le_of_ble_eq_true rfl) ⟨Nat.le_refl _, Nat.le_refl _⟩ (fun H locs hP hD hS => ?_)
          have hP : va_P (gD G) vwCl (k_X12_erring G a_this a_this_s a_this_kept a_this_errors a_this_step a_this_named a_this_pile a_this_told a_this_beside1 a_this_row a_this_best a_this_worthOf a_this_trace a_this_bits a_this_sizes a_this_number a_this_aside this_images this_at this_open this_steps this_use this_bestNet this_bestMore this_leastApart this_found this_first this_leastPaid this_traced this_speaks this_isParted this_bits this_errors_1 r4.2.1 this_number r4.2.2 this_s this_sizes r2.2) H := hP
          have hD : va_D A (k_X12_erring G a_this a_this_s a_this_kept a_this_errors a_this_step a_this_named a_this_pile a_this_told a_this_beside1 a_this_row a_this_best a_this_worthOf a_this_trace a_this_bits a_this_sizes a_this_number a_this_aside this_images this_at this_open this_steps this_use this_bestNet this_bestMore this_leastApart this_found this_first this_leastPaid this_traced this_speaks this_isParted this_bits this_errors_1 r4.2.1 this_number r4.2.2 this_s this_sizes r2.2) := hD
          refine lv_istore (lv' := [(9, .int r12), (8, .int ((((16 : Int32) * r4.1) + (x3_1 / (17 : Int32))) - (x3_1 - x3_1 / (17 : Int32) * (17 : Int32)))), (7, .int r4.1), (6, .int r2.1), (5, .int t0_1), (0, .ref a_this), (1, .int x1_1), (2, .int x2_1), (3, .int x3_1), (4, .int x4_1)]) hx hb dX12_erring_127 hl (by decide) rfl (fun ls hl => ?_)
          refine lv_iload hx hb dX12_erring_129 (lv_at hl 9 rfl) ?_
          refine lv_if_ne (tgt := 143) hx hb dX12_erring_131 (by decide) (fun c13 => ?_) (fun c13 => ?_)
          · replace hf := kf c13 hf
            refine lv_bipush (v := (16 : Int32)) hx hb dX12_erring_143 (by decide) ?_
            refine lv_iload hx hb dX12_erring_145 (lv_at hl 0 rfl) ?_
            obtain ⟨g14, hf⟩ := kg hf
            refine lv_idiv hx hb dX12_erring_147 g14 ?_
            refine lv_i2l (v := ((16 : Int32) / r12).toInt64) hx hb dX12_erring_148 rfl ?_
            have ho := ks hf
            subst ho
            exact klret hx hb hr hlk hP hD hS hQ dX12_erring_149
          · replace hf := kt c13 hf
            refine lv_iload hx hb dX12_erring_134 (lv_at hl 1 rfl) ?_
            refine lv_iload hx hb dX12_erring_136 (lv_at hl 0 rfl) ?_
            obtain ⟨g15, hf⟩ := kg hf
            refine lv_idiv hx hb dX12_erring_138 g15 ?_
            refine lv_i2l (v := (((((16 : Int32) * r4.1) + (x3_1 / (17 : Int32))) - (x3_1 - x3_1 / (17 : Int32) * (17 : Int32))) / r12).toInt64) hx hb dX12_erring_139 rfl ?_
            refine lv_goto (tgt := 149) hx hb dX12_erring_140 (by decide) ?_
            have ho := ks hf
            subst ho
            exact klret hx hb hr hlk hP hD hS hQ dX12_erring_149
      · replace hf := kt c6 hf
        refine lv_iconst (v := (0 : Int32)) hx hb dX12_erring_90 (by decide) ?_
        refine lv_goto (tgt := 118) hx hb dX12_erring_91 (by decide) ?_
        refine lv_istore (lv' := [(8, .int (0 : Int32)), (7, .int r4.1), (6, .int r2.1), (5, .int t0_1), (0, .ref a_this), (1, .int x1_1), (2, .int x2_1), (3, .int x3_1), (4, .int x4_1)]) hx hb dX12_erring_118 hl (by decide) rfl (fun ls hl => ?_)
        refine lv_iload hx hb dX12_erring_120 (lv_at hl 0 rfl) ?_
        refine lv_bipush (v := (16 : Int32)) hx hb dX12_erring_122 (by decide) ?_
        obtain ⟨r16, hr16, hf⟩ := kb hf
        refine kS (As := [.int (0 : Int32), .int (16 : Int32)]) (rest := []) ⟨hx, hb, hml, hown, hts⟩ (c_X12_divisor l G N (0 : Int32) (16 : Int32) r16 hr16) (kcS 2 hts tw_1326 tw_92 tw_1324 tw_1325 hd_X12_divisor ⟨Nat.le_of_ble_eq_true rfl, Nat.le_of_ble_eq_true rfl⟩) dX12_erring_124 hl.1 hK hAm hA hP hD hS [] rfl rfl rfl [] rfl rfl rfl (Nat.le_of_ble_eq_true rfl) ⟨Nat.le_refl _, Nat.le_refl _⟩ (fun H locs hP hD hS => ?_)
        have hP : va_P (gD G) vwCl (k_X12_erring G a_this a_this_s a_this_kept a_this_errors a_this_step a_this_named a_this_pile a_this_told a_this_beside1 a_this_row a_this_best a_this_worthOf a_this_trace a_this_bits a_this_sizes a_this_number a_this_aside this_images this_at this_open this_steps this_use this_bestNet this_bestMore this_leastApart this_found this_first this_leastPaid this_traced this_speaks this_isParted this_bits this_errors_1 r4.2.1 this_number r4.2.2 this_s this_sizes r2.2) H := hP
        have hD : va_D A (k_X12_erring G a_this a_this_s a_this_kept a_this_errors a_this_step a_this_named a_this_pile a_this_told a_this_beside1 a_this_row a_this_best a_this_worthOf a_this_trace a_this_bits a_this_sizes a_this_number a_this_aside this_images this_at this_open this_steps this_use this_bestNet this_bestMore this_leastApart this_found this_first this_leastPaid this_traced this_speaks this_isParted this_bits this_errors_1 r4.2.1 this_number r4.2.2 this_s this_sizes r2.2) := hD
        refine lv_istore (lv' := [(9, .int r16), (8, .int (0 : Int32)), (7, .int r4.1), (6, .int r2.1), (5, .int t0_1), (0, .ref a_this), (1, .int x1_1), (2, .int x2_1), (3, .int x3_1), (4, .int x4_1)]) hx hb dX12_erring_127 hl (by decide) rfl (fun ls hl => ?_)
        refine lv_iload hx hb dX12_erring_129 (lv_at hl 9 rfl) ?_
        refine lv_if_ne (tgt := 143) hx hb dX12_erring_131 (by decide) (fun c17 => ?_) (fun c17 => ?_)
        · replace hf := kf c17 hf
          refine lv_bipush (v := (16 : Int32)) hx hb dX12_erring_143 (by decide) ?_
          refine lv_iload hx hb dX12_erring_145 (lv_at hl 0 rfl) ?_
          obtain ⟨g18, hf⟩ := kg hf
          refine lv_idiv hx hb dX12_erring_147 g18 ?_
          refine lv_i2l (v := ((16 : Int32) / r16).toInt64) hx hb dX12_erring_148 rfl ?_
          have ho := ks hf
          subst ho
          exact klret hx hb hr hlk hP hD hS hQ dX12_erring_149
        · replace hf := kt c17 hf
          refine lv_iload hx hb dX12_erring_134 (lv_at hl 1 rfl) ?_
          refine lv_iload hx hb dX12_erring_136 (lv_at hl 0 rfl) ?_
          obtain ⟨g19, hf⟩ := kg hf
          refine lv_idiv hx hb dX12_erring_138 g19 ?_
          refine lv_i2l (v := ((0 : Int32) / r16).toInt64) hx hb dX12_erring_139 rfl ?_
          refine lv_goto (tgt := 149) hx hb dX12_erring_140 (by decide) ?_
          have ho := ks hf
          subst ho
          exact klret hx hb hr hlk hP hD hS hQ dX12_erring_149
    · replace hf := kf c3 hf
      refine lv_aload_n hx hb dX12_erring_61 rfl (lv_at hl 2 rfl) ?_
      refine lv_iload hx hb dX12_erring_62 (lv_at hl 0 rfl) ?_
      obtain ⟨r20, hr20, hf⟩ := kb hf
      refine kV (As := [.int r2.1]) (rest := []) ⟨hx, hb, hml, hown, hts⟩ (c_X12_error l G N a_this a_this_s a_this_kept a_this_errors a_this_step a_this_named a_this_pile a_this_told a_this_beside1 a_this_row a_this_best a_this_worthOf a_this_trace a_this_bits a_this_sizes a_this_number a_this_aside r2.1 this_images this_at this_open this_steps this_use this_bestNet this_bestMore this_leastApart this_found this_first this_leastPaid this_traced this_speaks this_isParted this_errors_1 r20 hr20) (kcV 1 hts tw_1087 tw_92 tw_1084 tw_1086 tw_43 hd_X12_error ⟨Nat.le_of_ble_eq_true rfl, Nat.le_of_ble_eq_true rfl⟩) dX12_erring_64 hl.1 hK hAm hA hP hD hS 0 (ci := 12) rfl rfl rfl [0, 2] rfl rfl rfl [1] rfl rfl rfl (Nat.le_of_ble_eq_true rfl) ⟨Nat.le_refl _, Nat.le_refl _⟩ (fun H locs hP hD hS => ?_)
      have hP : va_P (gD G) vwCl (k_X12_erring G a_this a_this_s a_this_kept a_this_errors a_this_step a_this_named a_this_pile a_this_told a_this_beside1 a_this_row a_this_best a_this_worthOf a_this_trace a_this_bits a_this_sizes a_this_number a_this_aside this_images this_at this_open this_steps this_use this_bestNet this_bestMore this_leastApart this_found this_first this_leastPaid this_traced this_speaks this_isParted this_bits r20.2 this_named_1 this_number this_pile_1 this_s this_sizes r2.2) H := hP
      have hD : va_D A (k_X12_erring G a_this a_this_s a_this_kept a_this_errors a_this_step a_this_named a_this_pile a_this_told a_this_beside1 a_this_row a_this_best a_this_worthOf a_this_trace a_this_bits a_this_sizes a_this_number a_this_aside this_images this_at this_open this_steps this_use this_bestNet this_bestMore this_leastApart this_found this_first this_leastPaid this_traced this_speaks this_isParted this_bits r20.2 this_named_1 this_number this_pile_1 this_s this_sizes r2.2) := hD
      refine lv_i2l (v := r20.1.toInt64) hx hb dX12_erring_67 rfl ?_
      have ho := ks hf
      subst ho
      exact klret hx hb hr hlk hP hD hS hQ dX12_erring_68
  refine lv_iload_n hx hb dX12_erring_0 rfl (lv_at hl 3 rfl) ?_
  refine lv_if_lt (tgt := 41) hx hb dX12_erring_1 (by decide) (fun c21 => ?_) (fun c21 => ?_)
  · replace hf := kt c21 hf
    refine lv_iconst (v := (0 : Int32)) hx hb dX12_erring_41 (by decide) ?_
    exact J42 p0 p1 p2 p3 (0 : Int32) this_errors this_named this_pile this_told _ _ hP hD hS ls (lv_sub hl [0, 1, 2, 3, 4] rfl) hf
  · replace hf := kf c21 hf
    refine lv_iload_n hx hb dX12_erring_4 rfl (lv_at hl 3 rfl) ?_
    refine lv_bipush (v := (17 : Int32)) hx hb dX12_erring_5 (by decide) ?_
    refine lv_idiv hx hb dX12_erring_7 (by decide) ?_
    refine lv_bipush (v := (16 : Int32)) hx hb dX12_erring_8 (by decide) ?_
    refine lv_icmp_gt (tgt := 41) hx hb dX12_erring_10 (by decide) (fun c22 => ?_) (fun c22 => ?_)
    · replace hf := kt c22 hf
      refine lv_iconst (v := (0 : Int32)) hx hb dX12_erring_41 (by decide) ?_
      exact J42 p0 p1 p2 p3 (0 : Int32) this_errors this_named this_pile this_told _ _ hP hD hS ls (lv_sub hl [0, 1, 2, 3, 4] rfl) hf
    · replace hf := kf c22 hf
      refine lv_iload_n hx hb dX12_erring_13 rfl (lv_at hl 3 rfl) ?_
      refine lv_bipush (v := (17 : Int32)) hx hb dX12_erring_14 (by decide) ?_
      refine lv_idiv hx hb dX12_erring_16 (by decide) ?_
      refine lv_iload_n hx hb dX12_erring_17 rfl (lv_at hl 3 rfl) ?_
      refine lv_bipush (v := (17 : Int32)) hx hb dX12_erring_18 (by decide) ?_
      refine lv_irem hx hb dX12_erring_20 (by decide) ?_
      refine lv_iadd hx hb dX12_erring_21 ?_
      refine lv_bipush (v := (16 : Int32)) hx hb dX12_erring_22 (by decide) ?_
      refine lv_icmp_gt (tgt := 41) hx hb dX12_erring_24 (by decide) (fun c23 => ?_) (fun c23 => ?_)
      · replace hf := kt c23 hf
        refine lv_iconst (v := (0 : Int32)) hx hb dX12_erring_41 (by decide) ?_
        exact J42 p0 p1 p2 p3 (0 : Int32) this_errors this_named this_pile this_told _ _ hP hD hS ls (lv_sub hl [0, 1, 2, 3, 4] rfl) hf
      · replace hf := kf c23 hf
        refine lv_iload hx hb dX12_erring_27 (lv_at hl 4 rfl) ?_
        refine lv_iconst (v := (0 : Int32)) hx hb dX12_erring_29 (by decide) ?_
        refine lv_iconst (v := (1 : Int32)) hx hb dX12_erring_30 (by decide) ?_
        obtain ⟨r24, hr24, hf⟩ := kb hf
        refine kS (As := [.int p3, .int (0 : Int32), .int (1 : Int32)]) (rest := []) ⟨hx, hb, hml, hown, hts⟩ (c_X12_in l G N p3 (0 : Int32) (1 : Int32) r24 hr24) (kcS 3 hts tw_1083 tw_92 tw_1081 tw_1082 hd_X12_in ⟨Nat.le_of_ble_eq_true rfl, Nat.le_of_ble_eq_true rfl⟩) dX12_erring_31 hl.1 hK hAm hA hP hD hS [] rfl rfl rfl [] rfl rfl rfl (Nat.le_of_ble_eq_true rfl) ⟨Nat.le_refl _, Nat.le_refl _⟩ (fun H locs hP hD hS => ?_)
        have hP : va_P (gD G) vwCl (k_X12_erring G a_this a_this_s a_this_kept a_this_errors a_this_step a_this_named a_this_pile a_this_told a_this_beside1 a_this_row a_this_best a_this_worthOf a_this_trace a_this_bits a_this_sizes a_this_number a_this_aside this_images this_at this_open this_steps this_use this_bestNet this_bestMore this_leastApart this_found this_first this_leastPaid this_traced this_speaks this_isParted this_bits this_errors this_named this_number this_pile this_s this_sizes this_told) H := hP
        have hD : va_D A (k_X12_erring G a_this a_this_s a_this_kept a_this_errors a_this_step a_this_named a_this_pile a_this_told a_this_beside1 a_this_row a_this_best a_this_worthOf a_this_trace a_this_bits a_this_sizes a_this_number a_this_aside this_images this_at this_open this_steps this_use this_bestNet this_bestMore this_leastApart this_found this_first this_leastPaid this_traced this_speaks this_isParted this_bits this_errors this_named this_number this_pile this_s this_sizes this_told) := hD
        refine lv_if_eq (tgt := 41) hx hb dX12_erring_34 (by decide) (fun c25 => ?_) (fun c25 => ?_)
        · replace hf := kt c25 hf
          refine lv_iconst (v := (0 : Int32)) hx hb dX12_erring_41 (by decide) ?_
          exact J42 p0 p1 p2 p3 (0 : Int32) this_errors this_named this_pile this_told _ _ hP hD hS ls (lv_sub hl [0, 1, 2, 3, 4] rfl) hf
        · replace hf := kf c25 hf
          refine lv_iconst (v := (1 : Int32)) hx hb dX12_erring_37 (by decide) ?_
          refine lv_goto (tgt := 42) hx hb dX12_erring_38 (by decide) ?_
          exact J42 p0 p1 p2 p3 (1 : Int32) this_errors this_named this_pile this_told _ _ hP hD hS ls (lv_sub hl [0, 1, 2, 3, 4] rfl) hf
