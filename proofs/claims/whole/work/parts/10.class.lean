abbrev k_X11_seed (G : KG) (a_this : Nat) (a_this_shop : Nat) (a_this_kept : Nat) (a_this_sheetBits : Nat) (a_this_sheetLengths : Nat) (a_this_sheetNumbers : Nat) (a_this_trace : Nat) (a_this_errors : Nat) (a_this_one : Nat) (a_this_second : Nat) (a_this_extra : Nat) (a_this_room : Nat) (a_this_values : Nat) (a_this_best : Nat) (a_this_shop_goods : Nat) (a_this_shop_tills : Nat) (a_this_shop_tape : Nat) (a_this_shop_paysLaw : Nat) (a_this_shop_valuesLaw : Nat) (a_this_shop_waiting : Nat) (this_imaged : Int32) (this_images : Int32) (this_bestPaid : Int32) (this_bestNet : Int32) (this_shop_takings : Int32) (this_shop_costs : Int32) (this_shop_goes : Int32) (this_shop_z : Int32) (this_shop_fed : Int32) (this_shop_waits : Int32) : va_W := [(a_this, .inr (11, [.ref a_this_shop, .ref a_this_kept, .int this_imaged, .int this_images, .ref a_this_sheetBits, .ref a_this_sheetLengths, .ref a_this_sheetNumbers, .ref a_this_trace, .ref a_this_errors, .ref a_this_one, .ref a_this_second, .ref a_this_extra, .ref a_this_room, .ref a_this_values, .ref a_this_best, .int this_bestPaid, .int this_bestNet])), (a_this_shop, .inr (7, [.ref a_this_shop_goods, .ref a_this_shop_tills, .int this_shop_takings, .int this_shop_costs, .int this_shop_goes, .int this_shop_z, .ref a_this_shop_tape, .int this_shop_fed, .ref a_this_shop_paysLaw, .ref a_this_shop_valuesLaw, .ref a_this_shop_waiting, .int this_shop_waits]))]
def f_X11_seed (N : Nat) (p0 : Int32) (this_shop_z : Int32) : Option (Int32 × (Int32)) := (some (this_shop_z, p0))
set_option maxRecDepth 100000 in
set_option maxHeartbeats 4000000 in
theorem c_X11_seed (l : Launch) (G : KG) (N : Nat) (a_this : Nat) (a_this_shop : Nat) (a_this_kept : Nat) (a_this_sheetBits : Nat) (a_this_sheetLengths : Nat) (a_this_sheetNumbers : Nat) (a_this_trace : Nat) (a_this_errors : Nat) (a_this_one : Nat) (a_this_second : Nat) (a_this_extra : Nat) (a_this_room : Nat) (a_this_values : Nat) (a_this_best : Nat) (a_this_shop_goods : Nat) (a_this_shop_tills : Nat) (a_this_shop_tape : Nat) (a_this_shop_paysLaw : Nat) (a_this_shop_valuesLaw : Nat) (a_this_shop_waiting : Nat) (p0 : Int32) (this_imaged : Int32) (this_images : Int32) (this_bestPaid : Int32) (this_bestNet : Int32) (this_shop_takings : Int32) (this_shop_costs : Int32) (this_shop_goes : Int32) (this_shop_z : Int32) (this_shop_fed : Int32) (this_shop_waits : Int32)  (out : Int32 × (Int32)) (hf : f_X11_seed N p0 this_shop_z = some out) : KM l G yX11_seed (kw yX11_seed cX11_seed 3 (some .int)) 0 0 [.ref a_this, .int p0] (k_X11_seed G a_this a_this_shop a_this_kept a_this_sheetBits a_this_sheetLengths a_this_sheetNumbers a_this_trace a_this_errors a_this_one a_this_second a_this_extra a_this_room a_this_values a_this_best a_this_shop_goods a_this_shop_tills a_this_shop_tape a_this_shop_paysLaw a_this_shop_valuesLaw a_this_shop_waiting this_imaged this_images this_bestPaid this_bestNet this_shop_takings this_shop_costs this_shop_goes this_shop_z this_shop_fed this_shop_waits) (k_X11_seed G a_this a_this_shop a_this_kept a_this_sheetBits a_this_sheetLengths a_this_sheetNumbers a_this_trace a_this_errors a_this_one a_this_second a_this_extra a_this_room a_this_values a_this_best a_this_shop_goods a_this_shop_tills a_this_shop_tape a_this_shop_paysLaw a_this_shop_valuesLaw a_this_shop_waiting this_imaged this_images this_bestPaid this_bestNet this_shop_takings this_shop_costs this_shop_goes (out.2) this_shop_fed this_shop_waits) (some (.int (out.1))) := by
  refine KM.of (by decide) (Nat.le_of_ble_eq_true rfl) ?_
  intro p e s m below meth c A ls args Q Fx0 hP hK hD hA hS hAm hQ hl
  obtain ⟨hx, hb, hr, hml, hts, hown, hlk, hnm⟩ := Fx0
  have hown : s.vm.findClass RX11 = some m.cls := hown
  have hl : lv_has ls 3 [(0, .ref a_this), (1, .int p0)] := hl
  have fl_10 := hts _ tw_333
  have fl_193 := va_Nw.use (A := args) rfl (hAm.1 _ nw_X11_193 rfl)
  unfold f_X11_seed at hf
  refine lv_aload_n hx hb dX11_seed_0 rfl (lv_at hl 0 rfl) ?_
  refine va_get (D := gD G) (ci := 11) (C := RX11) (T := TX11) (N := 17) hx hb hts hin_X11 hown hK hP 0 rfl rfl 0 (by decide) fl_10 (fun _ h9 => h9) rfl dX11_seed_1 ?_
  refine va_getN (D := gD G) (ci := 7) (C := RX7) (T := TX7) (N := 12) hx hb hts hin_X7 hown hK hP 1 rfl rfl 5 (by decide) fl_193 (fun _ h9 => h9) rfl dX11_seed_4 ?_
  refine lv_istore_n (lv' := [(2, .int this_shop_z), (0, .ref a_this), (1, .int p0)]) hx hb dX11_seed_7 rfl hl (by decide) rfl (fun ls hl => ?_)
  refine lv_aload_n hx hb dX11_seed_8 rfl (lv_at hl 1 rfl) ?_
  refine va_get (D := gD G) (ci := 11) (C := RX11) (T := TX11) (N := 17) hx hb hts hin_X11 hown hK hP 0 rfl rfl 0 (by decide) fl_10 (fun _ h9 => h9) rfl dX11_seed_9 ?_
  refine lv_iload_n hx hb dX11_seed_12 rfl (lv_at hl 2 rfl) ?_
  refine va_putN (D := gD G) (ci := 7) (v := .int p0) (ty := .int) (C := RX7) (T := TX7) (N := 12) hx hb hts hin_X7 tyX7 tyX7_ok nmX7 hown hK hP hD hS 1 rfl rfl 5 (by decide) fl_193 (fun _ h9 => h9) rfl (by decide +kernel) rfl rfl (Nat.le_of_ble_eq_true rfl) dX11_seed_13 (fun H locs hP hD hS => ?_)
  have hP : va_P (gD G) vwCl (k_X11_seed G a_this a_this_shop a_this_kept a_this_sheetBits a_this_sheetLengths a_this_sheetNumbers a_this_trace a_this_errors a_this_one a_this_second a_this_extra a_this_room a_this_values a_this_best a_this_shop_goods a_this_shop_tills a_this_shop_tape a_this_shop_paysLaw a_this_shop_valuesLaw a_this_shop_waiting this_imaged this_images this_bestPaid this_bestNet this_shop_takings this_shop_costs this_shop_goes p0 this_shop_fed this_shop_waits) H := hP
  have hD : va_D A (k_X11_seed G a_this a_this_shop a_this_kept a_this_sheetBits a_this_sheetLengths a_this_sheetNumbers a_this_trace a_this_errors a_this_one a_this_second a_this_extra a_this_room a_this_values a_this_best a_this_shop_goods a_this_shop_tills a_this_shop_tape a_this_shop_paysLaw a_this_shop_valuesLaw a_this_shop_waiting this_imaged this_images this_bestPaid this_bestNet this_shop_takings this_shop_costs this_shop_goes p0 this_shop_fed this_shop_waits) := hD
  refine lv_iload_n hx hb dX11_seed_16 rfl (lv_at hl 0 rfl) ?_
  have ho := ks hf
  subst ho
  exact kiret hx hb hr hlk hP hD hS hQ dX11_seed_17
abbrev k_X11_within (G : KG) : va_W := []
def f_X11_within (N : Nat) (p0 : Int32) (p1 : Int32) (p2 : Int32) : Option (Int32) := (if p0 < p1 then (some (0 : Int32)) else (if p2 < p0 then (some (0 : Int32)) else (some (1 : Int32))))
set_option maxRecDepth 100000 in
set_option maxHeartbeats 4000000 in
theorem c_X11_within (l : Launch) (G : KG) (N : Nat) (p0 : Int32) (p1 : Int32) (p2 : Int32)  (out : Int32) (hf : f_X11_within N p0 p1 p2 = some out) : KM l G yX11_within (kw yX11_within cX11_within 3 (some .boolean)) 0 0 [.int p0, .int p1, .int p2] (k_X11_within G) (k_X11_within G) (some (.int out)) := by
  refine KM.of (by decide) (Nat.le_of_ble_eq_true rfl) ?_
  intro p e s m below meth c A ls args Q Fx0 hP hK hD hA hS hAm hQ hl
  obtain ⟨hx, hb, hr, hml, hts, hown, hlk, hnm⟩ := Fx0
  have hown : s.vm.findClass RX11 = some m.cls := hown
  have hl : lv_has ls 3 [(0, .int p0), (1, .int p1), (2, .int p2)] := hl
  unfold f_X11_within at hf
  refine lv_iload_n hx hb dX11_within_0 rfl (lv_at hl 0 rfl) ?_
  refine lv_iload_n hx hb dX11_within_1 rfl (lv_at hl 1 rfl) ?_
  refine lv_icmp_lt (tgt := 14) hx hb dX11_within_2 (by decide) (fun c1 => ?_) (fun c1 => ?_)
  · replace hf := kt c1 hf
    refine lv_iconst (v := (0 : Int32)) hx hb dX11_within_14 (by decide) ?_
    have ho := ks hf
    subst ho
    exact kzret hx hb hr (Or.inl rfl) hlk hP hD hS hQ dX11_within_15
  · replace hf := kf c1 hf
    refine lv_iload_n hx hb dX11_within_5 rfl (lv_at hl 0 rfl) ?_
    refine lv_iload_n hx hb dX11_within_6 rfl (lv_at hl 2 rfl) ?_
    refine lv_icmp_gt (tgt := 14) hx hb dX11_within_7 (by decide) (fun c2 => ?_) (fun c2 => ?_)
    · replace hf := kt c2 hf
      refine lv_iconst (v := (0 : Int32)) hx hb dX11_within_14 (by decide) ?_
      have ho := ks hf
      subst ho
      exact kzret hx hb hr (Or.inl rfl) hlk hP hD hS hQ dX11_within_15
    · replace hf := kf c2 hf
      refine lv_iconst (v := (1 : Int32)) hx hb dX11_within_10 (by decide) ?_
      refine lv_goto (tgt := 15) hx hb dX11_within_11 (by decide) ?_
      have ho := ks hf
      subst ho
      exact kzret hx hb hr (Or.inr rfl) hlk hP hD hS hQ dX11_within_15
abbrev k_X11_held (G : KG) : va_W := []
def f_X11_held (N : Nat) (p0 : Int32) (p1 : Int32) : Option (Int32) := (some (if (0 : Int32) < (if p1 < p0 then p1 else p0) then (if p1 < p0 then p1 else p0) else (0 : Int32)))
set_option maxRecDepth 100000 in
set_option maxHeartbeats 4000000 in
theorem c_X11_held (l : Launch) (G : KG) (N : Nat) (p0 : Int32) (p1 : Int32)  (out : Int32) (hf : f_X11_held N p0 p1 = some out) : KM l G yX11_held (kw yX11_held cX11_held 2 (some .int)) 1 21 [.int p0, .int p1] (k_X11_held G) (k_X11_held G) (some (.int out)) := by
  refine KM.of (by decide) (Nat.le_of_ble_eq_true rfl) ?_
  intro p e s m below meth c A ls args Q Fx0 hP hK hD hA hS hAm hQ hl
  obtain ⟨hx, hb, hr, hml, hts, hown, hlk, hnm⟩ := Fx0
  have hown : s.vm.findClass RX11 = some m.cls := hown
  have hl : lv_has ls 2 [(0, .int p0), (1, .int p1)] := hl
  unfold f_X11_held at hf
  refine lv_iconst (v := (0 : Int32)) hx hb dX11_held_0 (by decide) ?_
  refine lv_iload_n hx hb dX11_held_1 rfl (lv_at hl 0 rfl) ?_
  refine lv_iload_n hx hb dX11_held_2 rfl (lv_at hl 1 rfl) ?_
  refine va_mmin hx hb (hml.trans hl.1.symm) hown (hts _ tw_432) (hts _ tw_433) (hts _ tw_93) (hts _ tw_434) (Nat.le_of_ble_eq_true rfl) (Nat.le_of_ble_eq_true rfl) (Nat.zero_le _) (Nat.zero_le _) dX11_held_3 ?_
  refine va_mmax hx hb (hml.trans hl.1.symm) hown (hts _ tw_435) (hts _ tw_436) (hts _ tw_93) (hts _ tw_437) (Nat.le_of_ble_eq_true rfl) (Nat.le_of_ble_eq_true rfl) (Nat.zero_le _) (Nat.zero_le _) dX11_held_6 ?_
  have ho := ks hf
  subst ho
  exact kiret hx hb hr hlk hP hD hS hQ dX11_held_9
abbrev k_X11_isThing (G : KG) : va_W := []
def f_X11_isThing (N : Nat) (p0 : Int32) : Option (Int32) := ((f_X11_within N p0 (0 : Int32) (7 : Int32)).bind fun r1 => (if r1 = 0 ∨ r1 = 1 then (some r1) else none))
set_option maxRecDepth 100000 in
set_option maxHeartbeats 4000000 in
theorem c_X11_isThing (l : Launch) (G : KG) (N : Nat) (p0 : Int32)  (out : Int32) (hf : f_X11_isThing N p0 = some out) : KM l G yX11_isThing (kw yX11_isThing cX11_isThing 1 (some .boolean)) 1 22 [.int p0] (k_X11_isThing G) (k_X11_isThing G) (some (.int out)) := by
  refine KM.of (by decide) (Nat.le_of_ble_eq_true rfl) ?_
  intro p e s m below meth c A ls args Q Fx0 hP hK hD hA hS hAm hQ hl
  obtain ⟨hx, hb, hr, hml, hts, hown, hlk, hnm⟩ := Fx0
  have hown : s.vm.findClass RX11 = some m.cls := hown
  have hl : lv_has ls 1 [(0, .int p0)] := hl
  unfold f_X11_isThing at hf
  refine lv_iload_n hx hb dX11_isThing_0 rfl (lv_at hl 0 rfl) ?_
  refine lv_iconst (v := (0 : Int32)) hx hb dX11_isThing_1 (by decide) ?_
  refine lv_bipush (v := (7 : Int32)) hx hb dX11_isThing_2 (by decide) ?_
  obtain ⟨r1, hr1, hf⟩ := kb hf
  refine kS (As := [.int p0, .int (0 : Int32), .int (7 : Int32)]) (rest := []) ⟨hx, hb, hml, hown, hts⟩ (c_X11_within l G N p0 (0 : Int32) (7 : Int32) r1 hr1) (kcS 3 hts tw_394 tw_80 tw_392 tw_393 hd_X11_within ⟨Nat.le_of_ble_eq_true rfl, Nat.le_of_ble_eq_true rfl⟩) dX11_isThing_4 hl.1 hK hAm hA hP hD hS [] rfl rfl rfl [] rfl rfl rfl (Nat.le_of_ble_eq_true rfl) ⟨Nat.le_refl _, Nat.le_refl _⟩ (fun H locs hP hD hS => ?_)
  have hP : va_P (gD G) vwCl (k_X11_isThing G) H := hP
  have hD : va_D A (k_X11_isThing G) := hD
  obtain ⟨g2, hf⟩ := kg hf
  have ho := ks hf
  subst ho
  exact kzret hx hb hr g2 hlk hP hD hS hQ dX11_isThing_7
abbrev k_X11_isTill (G : KG) : va_W := []
def f_X11_isTill (N : Nat) (p0 : Int32) : Option (Int32) := ((f_X11_within N p0 (0 : Int32) (3 : Int32)).bind fun r1 => (if r1 = 0 ∨ r1 = 1 then (some r1) else none))
set_option maxRecDepth 100000 in
set_option maxHeartbeats 4000000 in
theorem c_X11_isTill (l : Launch) (G : KG) (N : Nat) (p0 : Int32)  (out : Int32) (hf : f_X11_isTill N p0 = some out) : KM l G yX11_isTill (kw yX11_isTill cX11_isTill 1 (some .boolean)) 1 22 [.int p0] (k_X11_isTill G) (k_X11_isTill G) (some (.int out)) := by
  refine KM.of (by decide) (Nat.le_of_ble_eq_true rfl) ?_
  intro p e s m below meth c A ls args Q Fx0 hP hK hD hA hS hAm hQ hl
  obtain ⟨hx, hb, hr, hml, hts, hown, hlk, hnm⟩ := Fx0
  have hown : s.vm.findClass RX11 = some m.cls := hown
  have hl : lv_has ls 1 [(0, .int p0)] := hl
  unfold f_X11_isTill at hf
  refine lv_iload_n hx hb dX11_isTill_0 rfl (lv_at hl 0 rfl) ?_
  refine lv_iconst (v := (0 : Int32)) hx hb dX11_isTill_1 (by decide) ?_
  refine lv_iconst (v := (3 : Int32)) hx hb dX11_isTill_2 (by decide) ?_
  obtain ⟨r1, hr1, hf⟩ := kb hf
  refine kS (As := [.int p0, .int (0 : Int32), .int (3 : Int32)]) (rest := []) ⟨hx, hb, hml, hown, hts⟩ (c_X11_within l G N p0 (0 : Int32) (3 : Int32) r1 hr1) (kcS 3 hts tw_394 tw_80 tw_392 tw_393 hd_X11_within ⟨Nat.le_of_ble_eq_true rfl, Nat.le_of_ble_eq_true rfl⟩) dX11_isTill_3 hl.1 hK hAm hA hP hD hS [] rfl rfl rfl [] rfl rfl rfl (Nat.le_of_ble_eq_true rfl) ⟨Nat.le_refl _, Nat.le_refl _⟩ (fun H locs hP hD hS => ?_)
  have hP : va_P (gD G) vwCl (k_X11_isTill G) H := hP
  have hD : va_D A (k_X11_isTill G) := hD
  obtain ⟨g2, hf⟩ := kg hf
  have ho := ks hf
  subst ho
  exact kzret hx hb hr g2 hlk hP hD hS hQ dX11_isTill_6
abbrev k_X11_isSheet (G : KG) : va_W := []
def f_X11_isSheet (N : Nat) (p0 : Int32) : Option (Int32) := ((f_X11_within N p0 (0 : Int32) (3 : Int32)).bind fun r1 => (if r1 = 0 ∨ r1 = 1 then (some r1) else none))
set_option maxRecDepth 100000 in
set_option maxHeartbeats 4000000 in
theorem c_X11_isSheet (l : Launch) (G : KG) (N : Nat) (p0 : Int32)  (out : Int32) (hf : f_X11_isSheet N p0 = some out) : KM l G yX11_isSheet (kw yX11_isSheet cX11_isSheet 1 (some .boolean)) 1 22 [.int p0] (k_X11_isSheet G) (k_X11_isSheet G) (some (.int out)) := by
  refine KM.of (by decide) (Nat.le_of_ble_eq_true rfl) ?_
  intro p e s m below meth c A ls args Q Fx0 hP hK hD hA hS hAm hQ hl
  obtain ⟨hx, hb, hr, hml, hts, hown, hlk, hnm⟩ := Fx0
  have hown : s.vm.findClass RX11 = some m.cls := hown
  have hl : lv_has ls 1 [(0, .int p0)] := hl
  unfold f_X11_isSheet at hf
  refine lv_iload_n hx hb dX11_isSheet_0 rfl (lv_at hl 0 rfl) ?_
  refine lv_iconst (v := (0 : Int32)) hx hb dX11_isSheet_1 (by decide) ?_
  refine lv_iconst (v := (3 : Int32)) hx hb dX11_isSheet_2 (by decide) ?_
  obtain ⟨r1, hr1, hf⟩ := kb hf
  refine kS (As := [.int p0, .int (0 : Int32), .int (3 : Int32)]) (rest := []) ⟨hx, hb, hml, hown, hts⟩ (c_X11_within l G N p0 (0 : Int32) (3 : Int32) r1 hr1) (kcS 3 hts tw_394 tw_80 tw_392 tw_393 hd_X11_within ⟨Nat.le_of_ble_eq_true rfl, Nat.le_of_ble_eq_true rfl⟩) dX11_isSheet_3 hl.1 hK hAm hA hP hD hS [] rfl rfl rfl [] rfl rfl rfl (Nat.le_of_ble_eq_true rfl) ⟨Nat.le_refl _, Nat.le_refl _⟩ (fun H locs hP hD hS => ?_)
  have hP : va_P (gD G) vwCl (k_X11_isSheet G) H := hP
  have hD : va_D A (k_X11_isSheet G) := hD
  obtain ⟨g2, hf⟩ := kg hf
  have ho := ks hf
  subst ho
  exact kzret hx hb hr g2 hlk hP hD hS hQ dX11_isSheet_6
abbrev k_X11_isGood (G : KG) : va_W := []
def f_X11_isGood (N : Nat) (p0 : Int32) (p1 : Int32) : Option (Int32) := (if vin p0 3 = true then (if vin p0 3 = true then ((f_X11_within N p1 (xsLeast.getD p0.toNatClampNeg 0) (xsMost.getD p0.toNatClampNeg 0)).bind fun r3 => (if r3 = 0 ∨ r3 = 1 then (some r3) else none)) else none) else none)
set_option maxRecDepth 100000 in
set_option maxHeartbeats 4000000 in
theorem c_X11_isGood (l : Launch) (G : KG) (N : Nat) (p0 : Int32) (p1 : Int32)  (out : Int32) (hf : f_X11_isGood N p0 p1 = some out) : KM l G yX11_isGood (kw yX11_isGood cX11_isGood 2 (some .boolean)) 1 22 [.int p0, .int p1] (k_X11_isGood G) (k_X11_isGood G) (some (.int out)) := by
  refine KM.of (by decide) (Nat.le_of_ble_eq_true rfl) ?_
  intro p e s m below meth c A ls args Q Fx0 hP hK hD hA hS hAm hQ hl
  obtain ⟨hx, hb, hr, hml, hts, hown, hlk, hnm⟩ := Fx0
  have hown : s.vm.findClass RX11 = some m.cls := hown
  have hl : lv_has ls 2 [(0, .int p0), (1, .int p1)] := hl
  have fl_300 := hts _ tw_398
  have hz_least := hAm.2.2.1
  have fl_303 := hts _ tw_400
  have hz_most := hAm.2.2.2.1
  unfold f_X11_isGood at hf
  refine lv_iload_n hx hb dX11_isGood_0 rfl (lv_at hl 1 rfl) ?_
  refine va_gets hx hb hz_least.1 hS hown fl_300 (fun _ h9 => h9) dX11_isGood_1 ?_
  refine lv_iload_n hx hb dX11_isGood_4 rfl (lv_at hl 0 rfl) ?_
  obtain ⟨g1, hf⟩ := kg hf
  refine va_ti hx hb hz_least.2 hS (vin_of g1) rfl dX11_isGood_5 ?_
  refine va_gets hx hb hz_most.1 hS hown fl_303 (fun _ h9 => h9) dX11_isGood_6 ?_
  refine lv_iload_n hx hb dX11_isGood_9 rfl (lv_at hl 0 rfl) ?_
  obtain ⟨g2, hf⟩ := kg hf
  refine va_ti hx hb hz_most.2 hS (vin_of g2) rfl dX11_isGood_10 ?_
  obtain ⟨r3, hr3, hf⟩ := kb hf
  refine kS (As := [.int p1, .int (xsLeast.getD p0.toNatClampNeg 0), .int (xsMost.getD p0.toNatClampNeg 0)]) (rest := []) ⟨hx, hb, hml, hown, hts⟩ (c_X11_within l G N p1 (xsLeast.getD p0.toNatClampNeg 0) (xsMost.getD p0.toNatClampNeg 0) r3 hr3) (kcS 3 hts tw_394 tw_80 tw_392 tw_393 hd_X11_within ⟨Nat.le_of_ble_eq_true rfl, Nat.le_of_ble_eq_true rfl⟩) dX11_isGood_11 hl.1 hK hAm hA hP hD hS [] rfl rfl rfl [] rfl rfl rfl (Nat.le_of_ble_eq_true rfl) ⟨Nat.le_refl _, Nat.le_refl _⟩ (fun H locs hP hD hS => ?_)
  have hP : va_P (gD G) vwCl (k_X11_isGood G) H := hP
  have hD : va_D A (k_X11_isGood G) := hD
  obtain ⟨g4, hf⟩ := kg hf
  have ho := ks hf
  subst ho
  exact kzret hx hb hr g4 hlk hP hD hS hQ dX11_isGood_14
abbrev k_X11_isMissing (G : KG) (a_this : Nat) (a_this_shop : Nat) (a_this_kept : Nat) (a_this_sheetBits : Nat) (a_this_sheetLengths : Nat) (a_this_sheetNumbers : Nat) (a_this_trace : Nat) (a_this_errors : Nat) (a_this_one : Nat) (a_this_second : Nat) (a_this_extra : Nat) (a_this_room : Nat) (a_this_values : Nat) (a_this_best : Nat) (this_imaged : Int32) (this_images : Int32) (this_bestPaid : Int32) (this_bestNet : Int32) (this_sheetBits : Nat → Int32) : va_W := [(a_this, .inr (11, [.ref a_this_shop, .ref a_this_kept, .int this_imaged, .int this_images, .ref a_this_sheetBits, .ref a_this_sheetLengths, .ref a_this_sheetNumbers, .ref a_this_trace, .ref a_this_errors, .ref a_this_one, .ref a_this_second, .ref a_this_extra, .ref a_this_room, .ref a_this_values, .ref a_this_best, .int this_bestPaid, .int this_bestNet])), (a_this_sheetBits, .inl (gI G, 4, .inl this_sheetBits))]
def f_X11_isMissing (N : Nat) (p0 : Int32) (this_sheetBits : Nat → Int32) : Option (Int32) := (if vin p0 4 = true then (if (this_sheetBits p0.toNatClampNeg) = 0 then (some (1 : Int32)) else (some (0 : Int32))) else none)
set_option maxRecDepth 100000 in
set_option maxHeartbeats 4000000 in
theorem c_X11_isMissing (l : Launch) (G : KG) (N : Nat) (a_this : Nat) (a_this_shop : Nat) (a_this_kept : Nat) (a_this_sheetBits : Nat) (a_this_sheetLengths : Nat) (a_this_sheetNumbers : Nat) (a_this_trace : Nat) (a_this_errors : Nat) (a_this_one : Nat) (a_this_second : Nat) (a_this_extra : Nat) (a_this_room : Nat) (a_this_values : Nat) (a_this_best : Nat) (p0 : Int32) (this_imaged : Int32) (this_images : Int32) (this_bestPaid : Int32) (this_bestNet : Int32) (this_sheetBits : Nat → Int32)  (out : Int32) (hf : f_X11_isMissing N p0 this_sheetBits = some out) : KM l G yX11_isMissing (kw yX11_isMissing cX11_isMissing 2 (some .boolean)) 0 0 [.ref a_this, .int p0] (k_X11_isMissing G a_this a_this_shop a_this_kept a_this_sheetBits a_this_sheetLengths a_this_sheetNumbers a_this_trace a_this_errors a_this_one a_this_second a_this_extra a_this_room a_this_values a_this_best this_imaged this_images this_bestPaid this_bestNet this_sheetBits) (k_X11_isMissing G a_this a_this_shop a_this_kept a_this_sheetBits a_this_sheetLengths a_this_sheetNumbers a_this_trace a_this_errors a_this_one a_this_second a_this_extra a_this_room a_this_values a_this_best this_imaged this_images this_bestPaid this_bestNet this_sheetBits) (some (.int out)) := by
  refine KM.of (by decide) (Nat.le_of_ble_eq_true rfl) ?_
  intro p e s m below meth c A ls args Q Fx0 hP hK hD hA hS hAm hQ hl
  obtain ⟨hx, hb, hr, hml, hts, hown, hlk, hnm⟩ := Fx0
  have hown : s.vm.findClass RX11 = some m.cls := hown
  have hl : lv_has ls 2 [(0, .ref a_this), (1, .int p0)] := hl
  have fl_27 := hts _ tw_337
  unfold f_X11_isMissing at hf
  refine lv_aload_n hx hb dX11_isMissing_0 rfl (lv_at hl 0 rfl) ?_
  refine va_get (D := gD G) (ci := 11) (C := RX11) (T := TX11) (N := 17) hx hb hts hin_X11 hown hK hP 0 rfl rfl 4 (by decide) fl_27 (fun _ h9 => h9) rfl dX11_isMissing_1 ?_
  refine lv_iload_n hx hb dX11_isMissing_4 rfl (lv_at hl 1 rfl) ?_
  obtain ⟨g1, hf⟩ := kg hf
  refine va_iald hx hb hK hP 1 0 rfl rfl (vin_of g1) dX11_isMissing_5 ?_
  refine lv_if_ne (tgt := 13) hx hb dX11_isMissing_6 (by decide) (fun c2 => ?_) (fun c2 => ?_)
  · replace hf := kf c2 hf
    refine lv_iconst (v := (0 : Int32)) hx hb dX11_isMissing_13 (by decide) ?_
    have ho := ks hf
    subst ho
    exact kzret hx hb hr (Or.inl rfl) hlk hP hD hS hQ dX11_isMissing_14
  · replace hf := kt c2 hf
    refine lv_iconst (v := (1 : Int32)) hx hb dX11_isMissing_9 (by decide) ?_
    refine lv_goto (tgt := 14) hx hb dX11_isMissing_10 (by decide) ?_
    have ho := ks hf
    subst ho
    exact kzret hx hb hr (Or.inr rfl) hlk hP hD hS hQ dX11_isMissing_14
abbrev k_X11_stand (G : KG) (a_this : Nat) (a_this_shop : Nat) (a_this_kept : Nat) (a_this_sheetBits : Nat) (a_this_sheetLengths : Nat) (a_this_sheetNumbers : Nat) (a_this_trace : Nat) (a_this_errors : Nat) (a_this_one : Nat) (a_this_second : Nat) (a_this_extra : Nat) (a_this_room : Nat) (a_this_values : Nat) (a_this_best : Nat) (this_imaged : Int32) (this_images : Int32) (this_bestPaid : Int32) (this_bestNet : Int32) (this_sheetLengths : Nat → Int32) : va_W := [(a_this, .inr (11, [.ref a_this_shop, .ref a_this_kept, .int this_imaged, .int this_images, .ref a_this_sheetBits, .ref a_this_sheetLengths, .ref a_this_sheetNumbers, .ref a_this_trace, .ref a_this_errors, .ref a_this_one, .ref a_this_second, .ref a_this_extra, .ref a_this_room, .ref a_this_values, .ref a_this_best, .int this_bestPaid, .int this_bestNet])), (a_this_sheetLengths, .inl (gI G, 4, .inl this_sheetLengths))]
def f_X11_stand (N : Nat) (p0 : Int32) (p1 : Int32) (p2 : Int32) (this_sheetLengths : Nat → Int32) : Option (Int32) := (if p2 < 0 then (some (0 : Int32)) else (if p1 < 0 then (some (0 : Int32)) else (if vin p0 4 = true then (if (this_sheetLengths p0.toNatClampNeg) < p2 then (some (0 : Int32)) else (if vin p0 4 = true then (if ((this_sheetLengths p0.toNatClampNeg) - p2) < p1 then (some (0 : Int32)) else (some (1 : Int32))) else none)) else none)))
set_option maxRecDepth 100000 in
set_option maxHeartbeats 4000000 in
theorem c_X11_stand (l : Launch) (G : KG) (N : Nat) (a_this : Nat) (a_this_shop : Nat) (a_this_kept : Nat) (a_this_sheetBits : Nat) (a_this_sheetLengths : Nat) (a_this_sheetNumbers : Nat) (a_this_trace : Nat) (a_this_errors : Nat) (a_this_one : Nat) (a_this_second : Nat) (a_this_extra : Nat) (a_this_room : Nat) (a_this_values : Nat) (a_this_best : Nat) (p0 : Int32) (p1 : Int32) (p2 : Int32) (this_imaged : Int32) (this_images : Int32) (this_bestPaid : Int32) (this_bestNet : Int32) (this_sheetLengths : Nat → Int32)  (out : Int32) (hf : f_X11_stand N p0 p1 p2 this_sheetLengths = some out) : KM l G yX11_stand (kw yX11_stand cX11_stand 4 (some .boolean)) 0 0 [.ref a_this, .int p0, .int p1, .int p2] (k_X11_stand G a_this a_this_shop a_this_kept a_this_sheetBits a_this_sheetLengths a_this_sheetNumbers a_this_trace a_this_errors a_this_one a_this_second a_this_extra a_this_room a_this_values a_this_best this_imaged this_images this_bestPaid this_bestNet this_sheetLengths) (k_X11_stand G a_this a_this_shop a_this_kept a_this_sheetBits a_this_sheetLengths a_this_sheetNumbers a_this_trace a_this_errors a_this_one a_this_second a_this_extra a_this_room a_this_values a_this_best this_imaged this_images this_bestPaid this_bestNet this_sheetLengths) (some (.int out)) := by
  refine KM.of (by decide) (Nat.le_of_ble_eq_true rfl) ?_
  intro p e s m below meth c A ls args Q Fx0 hP hK hD hA hS hAm hQ hl
  obtain ⟨hx, hb, hr, hml, hts, hown, hlk, hnm⟩ := Fx0
  have hown : s.vm.findClass RX11 = some m.cls := hown
  have hl : lv_has ls 4 [(0, .ref a_this), (1, .int p0), (2, .int p1), (3, .int p2)] := hl
  have fl_31 := hts _ tw_338
  unfold f_X11_stand at hf
  refine lv_iload_n hx hb dX11_stand_0 rfl (lv_at hl 3 rfl) ?_
  refine lv_if_lt (tgt := 34) hx hb dX11_stand_1 (by decide) (fun c1 => ?_) (fun c1 => ?_)
  · replace hf := kt c1 hf
    refine lv_iconst (v := (0 : Int32)) hx hb dX11_stand_34 (by decide) ?_
    have ho := ks hf
    subst ho
    exact kzret hx hb hr (Or.inl rfl) hlk hP hD hS hQ dX11_stand_35
  · replace hf := kf c1 hf
    refine lv_iload_n hx hb dX11_stand_4 rfl (lv_at hl 2 rfl) ?_
    refine lv_if_lt (tgt := 34) hx hb dX11_stand_5 (by decide) (fun c2 => ?_) (fun c2 => ?_)
    · replace hf := kt c2 hf
      refine lv_iconst (v := (0 : Int32)) hx hb dX11_stand_34 (by decide) ?_
      have ho := ks hf
      subst ho
      exact kzret hx hb hr (Or.inl rfl) hlk hP hD hS hQ dX11_stand_35
    · replace hf := kf c2 hf
      refine lv_iload_n hx hb dX11_stand_8 rfl (lv_at hl 3 rfl) ?_
      refine lv_aload_n hx hb dX11_stand_9 rfl (lv_at hl 0 rfl) ?_
      refine va_get (D := gD G) (ci := 11) (C := RX11) (T := TX11) (N := 17) hx hb hts hin_X11 hown hK hP 0 rfl rfl 5 (by decide) fl_31 (fun _ h9 => h9) rfl dX11_stand_10 ?_
      refine lv_iload_n hx hb dX11_stand_13 rfl (lv_at hl 1 rfl) ?_
      obtain ⟨g3, hf⟩ := kg hf
      refine va_iald hx hb hK hP 1 0 rfl rfl (vin_of g3) dX11_stand_14 ?_
      refine lv_icmp_gt (tgt := 34) hx hb dX11_stand_15 (by decide) (fun c4 => ?_) (fun c4 => ?_)
      · replace hf := kt c4 hf
        refine lv_iconst (v := (0 : Int32)) hx hb dX11_stand_34 (by decide) ?_
        have ho := ks hf
        subst ho
        exact kzret hx hb hr (Or.inl rfl) hlk hP hD hS hQ dX11_stand_35
      · replace hf := kf c4 hf
        refine lv_iload_n hx hb dX11_stand_18 rfl (lv_at hl 2 rfl) ?_
        refine lv_aload_n hx hb dX11_stand_19 rfl (lv_at hl 0 rfl) ?_
        refine va_get (D := gD G) (ci := 11) (C := RX11) (T := TX11) (N := 17) hx hb hts hin_X11 hown hK hP 0 rfl rfl 5 (by decide) fl_31 (fun _ h9 => h9) rfl dX11_stand_20 ?_
        refine lv_iload_n hx hb dX11_stand_23 rfl (lv_at hl 1 rfl) ?_
        obtain ⟨g5, hf⟩ := kg hf
        refine va_iald hx hb hK hP 1 0 rfl rfl (vin_of g5) dX11_stand_24 ?_
        refine lv_iload_n hx hb dX11_stand_25 rfl (lv_at hl 3 rfl) ?_
        refine lv_isub hx hb dX11_stand_26 ?_
        refine lv_icmp_gt (tgt := 34) hx hb dX11_stand_27 (by decide) (fun c6 => ?_) (fun c6 => ?_)
        · replace hf := kt c6 hf
          refine lv_iconst (v := (0 : Int32)) hx hb dX11_stand_34 (by decide) ?_
          have ho := ks hf
          subst ho
          exact kzret hx hb hr (Or.inl rfl) hlk hP hD hS hQ dX11_stand_35
        · replace hf := kf c6 hf
          refine lv_iconst (v := (1 : Int32)) hx hb dX11_stand_30 (by decide) ?_
          refine lv_goto (tgt := 35) hx hb dX11_stand_31 (by decide) ?_
          have ho := ks hf
          subst ho
          exact kzret hx hb hr (Or.inr rfl) hlk hP hD hS hQ dX11_stand_35
abbrev k_X11_lowest (G : KG) : va_W := []
def f_X11_lowest (N : Nat) (p0 : Int32) (p1 : Int32) : Option (Int32) := (if p1 = (8 : Int32) then (some p0.toInt8.toInt32) else (if p1 = (16 : Int32) then (some p0.toInt16.toInt32) else (some p0)))
set_option maxRecDepth 100000 in
set_option maxHeartbeats 4000000 in
theorem c_X11_lowest (l : Launch) (G : KG) (N : Nat) (p0 : Int32) (p1 : Int32)  (out : Int32) (hf : f_X11_lowest N p0 p1 = some out) : KM l G yX11_lowest (kw yX11_lowest cX11_lowest 2 (some .int)) 0 0 [.int p0, .int p1] (k_X11_lowest G) (k_X11_lowest G) (some (.int out)) := by
  refine KM.of (by decide) (Nat.le_of_ble_eq_true rfl) ?_
  intro p e s m below meth c A ls args Q Fx0 hP hK hD hA hS hAm hQ hl
  obtain ⟨hx, hb, hr, hml, hts, hown, hlk, hnm⟩ := Fx0
  have hown : s.vm.findClass RX11 = some m.cls := hown
  have hl : lv_has ls 2 [(0, .int p0), (1, .int p1)] := hl
  unfold f_X11_lowest at hf
  refine lv_iload_n hx hb dX11_lowest_0 rfl (lv_at hl 1 rfl) ?_
  refine lv_bipush (v := (8 : Int32)) hx hb dX11_lowest_1 (by decide) ?_
  refine lv_icmp_ne (tgt := 9) hx hb dX11_lowest_3 (by decide) (fun c1 => ?_) (fun c1 => ?_)
  · replace hf := kf c1 hf
    refine lv_iload_n hx hb dX11_lowest_9 rfl (lv_at hl 1 rfl) ?_
    refine lv_bipush (v := (16 : Int32)) hx hb dX11_lowest_10 (by decide) ?_
    refine lv_icmp_ne (tgt := 20) hx hb dX11_lowest_12 (by decide) (fun c2 => ?_) (fun c2 => ?_)
    · replace hf := kf c2 hf
      refine lv_iload_n hx hb dX11_lowest_20 rfl (lv_at hl 0 rfl) ?_
      have ho := ks hf
      subst ho
      exact kiret hx hb hr hlk hP hD hS hQ dX11_lowest_21
    · replace hf := kt c2 hf
      refine lv_iload_n hx hb dX11_lowest_15 rfl (lv_at hl 0 rfl) ?_
      refine lv_i2s (v := p0.toInt16.toInt32) hx hb dX11_lowest_16 rfl ?_
      refine lv_goto (tgt := 21) hx hb dX11_lowest_17 (by decide) ?_
      have ho := ks hf
      subst ho
      exact kiret hx hb hr hlk hP hD hS hQ dX11_lowest_21
  · replace hf := kt c1 hf
    refine lv_iload_n hx hb dX11_lowest_6 rfl (lv_at hl 0 rfl) ?_
    refine lv_i2b (v := p0.toInt8.toInt32) hx hb dX11_lowest_7 rfl ?_
    have ho := ks hf
    subst ho
    exact kiret hx hb hr hlk hP hD hS hQ dX11_lowest_8
abbrev k_X11_figureSum (G : KG) : va_W := []
def f_X11_figureSum_14 (N : Nat) (x1 : Int32) (K : Int32 → Int32 → Int32 → Option (Int32)) : Nat → Int32 → Int32 → Int32 → Option (Int32)
  | 0, _, _, _ => none
  | n + 1, y2, y3, y4 => (if (32 : Int32) ≤ y4 then (K y2 y3 y4) else (if y3 ≤ 0 then (K y2 y3 y4) else (if ¬ x1 = 0 then (if ¬ x1 = 0 then (f_X11_figureSum_14 N x1 K n (y2 + (y3 - y3 / x1 * x1)) (y3 / x1) (y4 + (1 : Int32))) else none) else none)))
def f_X11_figureSum (N : Nat) (p0 : Int32) (p1 : Int32) : Option (Int32) := (if (2 : Int32) ≤ p1 then (f_X11_figureSum_14 N p1 (fun v2_6 v3_6 v4_6 => (some v2_6)) N (0 : Int32) p0 (0 : Int32)) else (some (0 : Int32)))
set_option maxRecDepth 100000 in
set_option maxHeartbeats 4000000 in
theorem c_X11_figureSum (l : Launch) (G : KG) (N : Nat) (p0 : Int32) (p1 : Int32)  (out : Int32) (hf : f_X11_figureSum N p0 p1 = some out) : KM l G yX11_figureSum (kw yX11_figureSum cX11_figureSum 5 (some .int)) 0 0 [.int p0, .int p1] (k_X11_figureSum G) (k_X11_figureSum G) (some (.int out)) := by
  refine KM.of (by decide) (Nat.le_of_ble_eq_true rfl) ?_
  intro p e s m below meth c A ls args Q Fx0 hP hK hD hA hS hAm hQ hl
  obtain ⟨hx, hb, hr, hml, hts, hown, hlk, hnm⟩ := Fx0
  have hown : s.vm.findClass RX11 = some m.cls := hown
  have hl : lv_has ls 5 [(0, .int p0), (1, .int p1)] := hl
  unfold f_X11_figureSum at hf
  refine lv_iload_n hx hb dX11_figureSum_0 rfl (lv_at hl 1 rfl) ?_
  refine lv_iconst (v := (2 : Int32)) hx hb dX11_figureSum_1 (by decide) ?_
  refine lv_icmp_ge (tgt := 7) hx hb dX11_figureSum_2 (by decide) (fun c1 => ?_) (fun c1 => ?_)
  · replace hf := kt c1 hf
    refine lv_iconst (v := (0 : Int32)) hx hb dX11_figureSum_7 (by decide) ?_
    refine lv_istore_n (lv' := [(2, .int (0 : Int32)), (0, .int p0), (1, .int p1)]) hx hb dX11_figureSum_8 rfl hl (by decide) rfl (fun ls hl => ?_)
    refine lv_iload_n hx hb dX11_figureSum_9 rfl (lv_at hl 1 rfl) ?_
    refine lv_istore_n (lv' := [(3, .int p0), (2, .int (0 : Int32)), (0, .int p0), (1, .int p1)]) hx hb dX11_figureSum_10 rfl hl (by decide) rfl (fun ls hl => ?_)
    refine lv_iconst (v := (0 : Int32)) hx hb dX11_figureSum_11 (by decide) ?_
    refine lv_istore (lv' := [(4, .int (0 : Int32)), (3, .int p0), (2, .int (0 : Int32)), (0, .int p0), (1, .int p1)]) hx hb dX11_figureSum_12 hl (by decide) rfl (fun ls hl => ?_)
    have L3 : ∀ (K : Int32 → Int32 → Int32 → Option (Int32)), (∀ (v2_3 : Int32) (v3_3 : Int32) (v4_3 : Int32) (H : Heap) (locs : List Loc), va_P (gD G) vwCl (k_X11_figureSum G) H → va_D A (k_X11_figureSum G) → va_S A s.heap H locs → ∀ (ls : Array Slot), lv_has ls 5 [(0, .int p0), (1, .int p1), (2, .int v2_3), (3, .int v3_3), (4, .int v4_3)] → K v2_3 v3_3 v4_3 = some out → W p l e (kR 0 0 0 0) s m args below meth c H locs 0 0 Q (F0 m 41 ls [])) → ∀ (n : Nat), ∀ (v2_3 : Int32) (v3_3 : Int32) (v4_3 : Int32) (H : Heap) (locs : List Loc), va_P (gD G) vwCl (k_X11_figureSum G) H → va_D A (k_X11_figureSum G) → va_S A s.heap H locs → ∀ (ls : Array Slot), lv_has ls 5 [(0, .int p0), (1, .int p1), (2, .int v2_3), (3, .int v3_3), (4, .int v4_3)] → f_X11_figureSum_14 N p1 K n v2_3 v3_3 v4_3 = some out → W p l e (kR 0 0 0 0) s m args below meth c H locs 0 0 Q (F0 m 14 ls []) := by
      intro K hK3 n
      induction n with
      | zero =>
        intro v2_3 v3_3 v4_3 H locs hP hD hS ls hl hf
        rw [f_X11_figureSum_14] at hf
        cases hf
      | succ n ih =>
        intro v2_3 v3_3 v4_3 H locs hP hD hS ls hl hf
        rw [f_X11_figureSum_14] at hf
        refine lv_iload hx hb dX11_figureSum_14 (lv_at hl 4 rfl) ?_
        refine lv_bipush (v := (32 : Int32)) hx hb dX11_figureSum_16 (by decide) ?_
        refine lv_icmp_ge (tgt := 41) hx hb dX11_figureSum_18 (by decide) (fun c4 => ?_) (fun c4 => ?_)
        · replace hf := kt c4 hf
          exact hK3 v2_3 v3_3 v4_3 _ _ hP hD hS ls (lv_sub hl [0, 1, 2, 3, 4] rfl) hf
        · replace hf := kf c4 hf
          refine lv_iload_n hx hb dX11_figureSum_21 rfl (lv_at hl 3 rfl) ?_
          refine lv_if_le (tgt := 41) hx hb dX11_figureSum_22 (by decide) (fun c5 => ?_) (fun c5 => ?_)
          · replace hf := kt c5 hf
            exact hK3 v2_3 v3_3 v4_3 _ _ hP hD hS ls (lv_sub hl [0, 1, 2, 3, 4] rfl) hf
          · replace hf := kf c5 hf
            refine lv_iload_n hx hb dX11_figureSum_25 rfl (lv_at hl 2 rfl) ?_
            refine lv_iload_n hx hb dX11_figureSum_26 rfl (lv_at hl 3 rfl) ?_
            refine lv_iload_n hx hb dX11_figureSum_27 rfl (lv_at hl 1 rfl) ?_
            obtain ⟨g6, hf⟩ := kg hf
            refine lv_irem hx hb dX11_figureSum_28 g6 ?_
            refine lv_iadd hx hb dX11_figureSum_29 ?_
            refine lv_istore_n (lv' := [(2, .int (v2_3 + (v3_3 - v3_3 / p1 * p1))), (0, .int p0), (1, .int p1), (3, .int v3_3), (4, .int v4_3)]) hx hb dX11_figureSum_30 rfl hl (by decide) rfl (fun ls hl => ?_)
            refine lv_iload_n hx hb dX11_figureSum_31 rfl (lv_at hl 3 rfl) ?_
            refine lv_iload_n hx hb dX11_figureSum_32 rfl (lv_at hl 2 rfl) ?_
            obtain ⟨g7, hf⟩ := kg hf
            refine lv_idiv hx hb dX11_figureSum_33 g7 ?_
            refine lv_istore_n (lv' := [(3, .int (v3_3 / p1)), (2, .int (v2_3 + (v3_3 - v3_3 / p1 * p1))), (0, .int p0), (1, .int p1), (4, .int v4_3)]) hx hb dX11_figureSum_34 rfl hl (by decide) rfl (fun ls hl => ?_)
            refine lv_iinc (v := (v4_3 + (1 : Int32))) (lv' := [(4, .int (v4_3 + (1 : Int32))), (3, .int (v3_3 / p1)), (2, .int (v2_3 + (v3_3 - v3_3 / p1 * p1))), (0, .int p0), (1, .int p1)]) hx hb dX11_figureSum_35 hl (k := 4) rfl rfl (by decide) rfl (fun ls hl => ?_)
            refine lv_goto (tgt := 14) hx hb dX11_figureSum_38 (by decide) ?_
            exact ih (v2_3 + (v3_3 - v3_3 / p1 * p1)) (v3_3 / p1) (v4_3 + (1 : Int32)) _ _ hP hD hS ls (lv_sub hl [3, 4, 2, 1, 0] rfl) hf
    refine L3 _ (fun v2_2 v3_2 v4_2 H locs hP hD hS ls hl hf => ?_) N (0 : Int32) p0 (0 : Int32) _ _ hP hD hS ls (lv_sub hl [3, 4, 2, 1, 0] rfl) hf
    refine lv_iload_n hx hb dX11_figureSum_41 rfl (lv_at hl 2 rfl) ?_
    have ho := ks hf
    subst ho
    exact kiret hx hb hr hlk hP hD hS hQ dX11_figureSum_42
  · replace hf := kf c1 hf
    refine lv_iconst (v := (0 : Int32)) hx hb dX11_figureSum_5 (by decide) ?_
    have ho := ks hf
    subst ho
    exact kiret hx hb hr hlk hP hD hS hQ dX11_figureSum_6
abbrev k_X11_oneFigure (G : KG) : va_W := []
def f_X11_oneFigure_4 (N : Nat) (x1 : Int32) (K : Int32 → Int32 → Option (Int32)) : Nat → Int32 → Int32 → Option (Int32)
  | 0, _, _ => none
  | n + 1, y2, y3 => (if (32 : Int32) ≤ y3 then (K y2 y3) else (if y2 < x1 then (K y2 y3) else ((f_X11_figureSum N y2 x1).bind fun r3 => (f_X11_oneFigure_4 N x1 K n r3 (y3 + (1 : Int32))))))
def f_X11_oneFigure (N : Nat) (p0 : Int32) (p1 : Int32) : Option (Int32) := (f_X11_oneFigure_4 N p1 (fun v2_4 v3_4 => (some v2_4)) N p0 (0 : Int32))
set_option maxRecDepth 100000 in
set_option maxHeartbeats 4000000 in
theorem c_X11_oneFigure (l : Launch) (G : KG) (N : Nat) (p0 : Int32) (p1 : Int32)  (out : Int32) (hf : f_X11_oneFigure N p0 p1 = some out) : KM l G yX11_oneFigure (kw yX11_oneFigure cX11_oneFigure 4 (some .int)) 1 24 [.int p0, .int p1] (k_X11_oneFigure G) (k_X11_oneFigure G) (some (.int out)) := by
  refine KM.of (by decide) (Nat.le_of_ble_eq_true rfl) ?_
  intro p e s m below meth c A ls args Q Fx0 hP hK hD hA hS hAm hQ hl
  obtain ⟨hx, hb, hr, hml, hts, hown, hlk, hnm⟩ := Fx0
  have hown : s.vm.findClass RX11 = some m.cls := hown
  have hl : lv_has ls 4 [(0, .int p0), (1, .int p1)] := hl
  unfold f_X11_oneFigure at hf
  refine lv_iload_n hx hb dX11_oneFigure_0 rfl (lv_at hl 0 rfl) ?_
  refine lv_istore_n (lv' := [(2, .int p0), (0, .int p0), (1, .int p1)]) hx hb dX11_oneFigure_1 rfl hl (by decide) rfl (fun ls hl => ?_)
  refine lv_iconst (v := (0 : Int32)) hx hb dX11_oneFigure_2 (by decide) ?_
  refine lv_istore_n (lv' := [(3, .int (0 : Int32)), (2, .int p0), (0, .int p0), (1, .int p1)]) hx hb dX11_oneFigure_3 rfl hl (by decide) rfl (fun ls hl => ?_)
  have L2 : ∀ (K : Int32 → Int32 → Option (Int32)), (∀ (v2_2 : Int32) (v3_2 : Int32) (H : Heap) (locs : List Loc), va_P (gD G) vwCl (k_X11_oneFigure G) H → va_D A (k_X11_oneFigure G) → va_S A s.heap H locs → ∀ (ls : Array Slot), lv_has ls 4 [(0, .int p0), (1, .int p1), (2, .int v2_2), (3, .int v3_2)] → K v2_2 v3_2 = some out → W p l e (kR 1 0 0 24) s m args below meth c H locs 0 0 Q (F0 m 27 ls [])) → ∀ (n : Nat), ∀ (v2_2 : Int32) (v3_2 : Int32) (H : Heap) (locs : List Loc), va_P (gD G) vwCl (k_X11_oneFigure G) H → va_D A (k_X11_oneFigure G) → va_S A s.heap H locs → ∀ (ls : Array Slot), lv_has ls 4 [(0, .int p0), (1, .int p1), (2, .int v2_2), (3, .int v3_2)] → f_X11_oneFigure_4 N p1 K n v2_2 v3_2 = some out → W p l e (kR 1 0 0 24) s m args below meth c H locs 0 0 Q (F0 m 4 ls []) := by
    intro K hK2 n
    induction n with
    | zero =>
      intro v2_2 v3_2 H locs hP hD hS ls hl hf
      rw [f_X11_oneFigure_4] at hf
      cases hf
    | succ n ih =>
      intro v2_2 v3_2 H locs hP hD hS ls hl hf
      rw [f_X11_oneFigure_4] at hf
      refine lv_iload_n hx hb dX11_oneFigure_4 rfl (lv_at hl 3 rfl) ?_
      refine lv_bipush (v := (32 : Int32)) hx hb dX11_oneFigure_5 (by decide) ?_
      refine lv_icmp_ge (tgt := 27) hx hb dX11_oneFigure_7 (by decide) (fun c3 => ?_) (fun c3 => ?_)
      · replace hf := kt c3 hf
        exact hK2 v2_2 v3_2 _ _ hP hD hS ls (lv_sub hl [0, 1, 2, 3] rfl) hf
      · replace hf := kf c3 hf
        refine lv_iload_n hx hb dX11_oneFigure_10 rfl (lv_at hl 2 rfl) ?_
        refine lv_iload_n hx hb dX11_oneFigure_11 rfl (lv_at hl 1 rfl) ?_
        refine lv_icmp_lt (tgt := 27) hx hb dX11_oneFigure_12 (by decide) (fun c4 => ?_) (fun c4 => ?_)
        · replace hf := kt c4 hf
          exact hK2 v2_2 v3_2 _ _ hP hD hS ls (lv_sub hl [0, 1, 2, 3] rfl) hf
        · replace hf := kf c4 hf
          refine lv_iload_n hx hb dX11_oneFigure_15 rfl (lv_at hl 2 rfl) ?_
          refine lv_iload_n hx hb dX11_oneFigure_16 rfl (lv_at hl 1 rfl) ?_
          obtain ⟨r5, hr5, hf⟩ := kb hf
          refine kS (As := [.int v2_2, .int p1]) (rest := []) ⟨hx, hb, hml, hown, hts⟩ (c_X11_figureSum l G N v2_2 p1 r5 hr5) (kcS 2 hts tw_512 tw_80 tw_510 tw_511 hd_X11_figureSum ⟨Nat.le_of_ble_eq_true rfl, Nat.le_of_ble_eq_true rfl⟩) dX11_oneFigure_17 hl.1 hK hAm hA hP hD hS [] rfl rfl rfl [] rfl rfl rfl (Nat.le_of_ble_eq_true rfl) ⟨Nat.le_refl _, Nat.le_refl _⟩ (fun H locs hP hD hS => ?_)
          have hP : va_P (gD G) vwCl (k_X11_oneFigure G) H := hP
          have hD : va_D A (k_X11_oneFigure G) := hD
          refine lv_istore_n (lv' := [(2, .int r5), (0, .int p0), (1, .int p1), (3, .int v3_2)]) hx hb dX11_oneFigure_20 rfl hl (by decide) rfl (fun ls hl => ?_)
          refine lv_iinc (v := (v3_2 + (1 : Int32))) (lv' := [(3, .int (v3_2 + (1 : Int32))), (2, .int r5), (0, .int p0), (1, .int p1)]) hx hb dX11_oneFigure_21 hl (k := 3) rfl rfl (by decide) rfl (fun ls hl => ?_)
          refine lv_goto (tgt := 4) hx hb dX11_oneFigure_24 (by decide) ?_
          exact ih r5 (v3_2 + (1 : Int32)) _ _ hP hD hS ls (lv_sub hl [2, 3, 1, 0] rfl) hf
  refine L2 _ (fun v2_1 v3_1 H locs hP hD hS ls hl hf => ?_) N p0 (0 : Int32) _ _ hP hD hS ls (lv_sub hl [2, 3, 1, 0] rfl) hf
  refine lv_iload_n hx hb dX11_oneFigure_27 rfl (lv_at hl 2 rfl) ?_
  have ho := ks hf
  subst ho
  exact kiret hx hb hr hlk hP hD hS hQ dX11_oneFigure_28
abbrev k_X11_commonDivisor (G : KG) : va_W := []
def f_X11_commonDivisor_7 (N : Nat) (K : Int32 → Int32 → Int32 → Option (Int32)) : Nat → Int32 → Int32 → Int32 → Option (Int32)
  | 0, _, _, _ => none
  | n + 1, y2, y3, y4 => (if (1000000 : Int32) ≤ y4 then (K y2 y3 y4) else (if y3 ≤ 0 then (K y2 y3 y4) else (if ¬ y3 = 0 then (f_X11_commonDivisor_7 N K n y3 (y2 - y2 / y3 * y3) (y4 + (1 : Int32))) else none)))
def f_X11_commonDivisor (N : Nat) (p0 : Int32) (p1 : Int32) : Option (Int32) := (f_X11_commonDivisor_7 N (fun v2_4 v3_4 v4_4 => (some (if (1 : Int32) < v2_4 then v2_4 else (1 : Int32)))) N p0 p1 (0 : Int32))
set_option maxRecDepth 100000 in
set_option maxHeartbeats 4000000 in
theorem c_X11_commonDivisor (l : Launch) (G : KG) (N : Nat) (p0 : Int32) (p1 : Int32)  (out : Int32) (hf : f_X11_commonDivisor N p0 p1 = some out) : KM l G yX11_commonDivisor (kw yX11_commonDivisor cX11_commonDivisor 6 (some .int)) 1 21 [.int p0, .int p1] (k_X11_commonDivisor G) (k_X11_commonDivisor G) (some (.int out)) := by
  refine KM.of (by decide) (Nat.le_of_ble_eq_true rfl) ?_
  intro p e s m below meth c A ls args Q Fx0 hP hK hD hA hS hAm hQ hl
  obtain ⟨hx, hb, hr, hml, hts, hown, hlk, hnm⟩ := Fx0
  have hown : s.vm.findClass RX11 = some m.cls := hown
  have hl : lv_has ls 6 [(0, .int p0), (1, .int p1)] := hl
  have kc_200 := hts _ tw_758
  unfold f_X11_commonDivisor at hf
  refine lv_iload_n hx hb dX11_commonDivisor_0 rfl (lv_at hl 0 rfl) ?_
  refine lv_istore_n (lv' := [(2, .int p0), (0, .int p0), (1, .int p1)]) hx hb dX11_commonDivisor_1 rfl hl (by decide) rfl (fun ls hl => ?_)
  refine lv_iload_n hx hb dX11_commonDivisor_2 rfl (lv_at hl 2 rfl) ?_
  refine lv_istore_n (lv' := [(3, .int p1), (2, .int p0), (0, .int p0), (1, .int p1)]) hx hb dX11_commonDivisor_3 rfl hl (by decide) rfl (fun ls hl => ?_)
  refine lv_iconst (v := (0 : Int32)) hx hb dX11_commonDivisor_4 (by decide) ?_
  refine lv_istore (lv' := [(4, .int (0 : Int32)), (3, .int p1), (2, .int p0), (0, .int p0), (1, .int p1)]) hx hb dX11_commonDivisor_5 hl (by decide) rfl (fun ls hl => ?_)
  have L2 : ∀ (K : Int32 → Int32 → Int32 → Option (Int32)), (∀ (v2_2 : Int32) (v3_2 : Int32) (v4_2 : Int32) (H : Heap) (locs : List Loc), va_P (gD G) vwCl (k_X11_commonDivisor G) H → va_D A (k_X11_commonDivisor G) → va_S A s.heap H locs → ∀ (ls : Array Slot), lv_has ls 6 [(0, .int p0), (1, .int p1), (2, .int v2_2), (3, .int v3_2), (4, .int v4_2)] → K v2_2 v3_2 v4_2 = some out → W p l e (kR 1 0 0 21) s m args below meth c H locs 0 0 Q (F0 m 34 ls [])) → ∀ (n : Nat), ∀ (v2_2 : Int32) (v3_2 : Int32) (v4_2 : Int32) (H : Heap) (locs : List Loc), va_P (gD G) vwCl (k_X11_commonDivisor G) H → va_D A (k_X11_commonDivisor G) → va_S A s.heap H locs → ∀ (ls : Array Slot), lv_has ls 6 [(0, .int p0), (1, .int p1), (2, .int v2_2), (3, .int v3_2), (4, .int v4_2)] → f_X11_commonDivisor_7 N K n v2_2 v3_2 v4_2 = some out → W p l e (kR 1 0 0 21) s m args below meth c H locs 0 0 Q (F0 m 7 ls []) := by
    intro K hK2 n
    induction n with
    | zero =>
      intro v2_2 v3_2 v4_2 H locs hP hD hS ls hl hf
      rw [f_X11_commonDivisor_7] at hf
      cases hf
    | succ n ih =>
      intro v2_2 v3_2 v4_2 H locs hP hD hS ls hl hf
      rw [f_X11_commonDivisor_7] at hf
      refine lv_iload hx hb dX11_commonDivisor_7 (lv_at hl 4 rfl) ?_
      refine lv_ldc (v := (1000000 : Int32)) hx hb hown kc_200 dX11_commonDivisor_9 ?_
      refine lv_icmp_ge (tgt := 34) hx hb dX11_commonDivisor_11 (by decide) (fun c3 => ?_) (fun c3 => ?_)
      · replace hf := kt c3 hf
        exact hK2 v2_2 v3_2 v4_2 _ _ hP hD hS ls (lv_sub hl [0, 1, 2, 3, 4] rfl) hf
      · replace hf := kf c3 hf
        refine lv_iload_n hx hb dX11_commonDivisor_14 rfl (lv_at hl 3 rfl) ?_
        refine lv_if_le (tgt := 34) hx hb dX11_commonDivisor_15 (by decide) (fun c4 => ?_) (fun c4 => ?_)
        · replace hf := kt c4 hf
          exact hK2 v2_2 v3_2 v4_2 _ _ hP hD hS ls (lv_sub hl [0, 1, 2, 3, 4] rfl) hf
        · replace hf := kf c4 hf
          refine lv_iload_n hx hb dX11_commonDivisor_18 rfl (lv_at hl 2 rfl) ?_
          refine lv_iload_n hx hb dX11_commonDivisor_19 rfl (lv_at hl 3 rfl) ?_
          obtain ⟨g5, hf⟩ := kg hf
          refine lv_irem hx hb dX11_commonDivisor_20 g5 ?_
          refine lv_istore (lv' := [(5, .int (v2_2 - v2_2 / v3_2 * v3_2)), (0, .int p0), (1, .int p1), (2, .int v2_2), (3, .int v3_2), (4, .int v4_2)]) hx hb dX11_commonDivisor_21 hl (by decide) rfl (fun ls hl => ?_)
          refine lv_iload_n hx hb dX11_commonDivisor_23 rfl (lv_at hl 4 rfl) ?_
          refine lv_istore_n (lv' := [(2, .int v3_2), (5, .int (v2_2 - v2_2 / v3_2 * v3_2)), (0, .int p0), (1, .int p1), (3, .int v3_2), (4, .int v4_2)]) hx hb dX11_commonDivisor_24 rfl hl (by decide) rfl (fun ls hl => ?_)
          refine lv_iload hx hb dX11_commonDivisor_25 (lv_at hl 1 rfl) ?_
          refine lv_istore_n (lv' := [(3, .int (v2_2 - v2_2 / v3_2 * v3_2)), (2, .int v3_2), (5, .int (v2_2 - v2_2 / v3_2 * v3_2)), (0, .int p0), (1, .int p1), (4, .int v4_2)]) hx hb dX11_commonDivisor_27 rfl hl (by decide) rfl (fun ls hl => ?_)
          refine lv_iinc (v := (v4_2 + (1 : Int32))) (lv' := [(4, .int (v4_2 + (1 : Int32))), (3, .int (v2_2 - v2_2 / v3_2 * v3_2)), (2, .int v3_2), (5, .int (v2_2 - v2_2 / v3_2 * v3_2)), (0, .int p0), (1, .int p1)]) hx hb dX11_commonDivisor_28 hl (k := 5) rfl rfl (by decide) rfl (fun ls hl => ?_)
          refine lv_goto (tgt := 7) hx hb dX11_commonDivisor_31 (by decide) ?_
          exact ih v3_2 (v2_2 - v2_2 / v3_2 * v3_2) (v4_2 + (1 : Int32)) _ _ hP hD hS ls (lv_sub hl [4, 5, 2, 1, 0] rfl) hf
  refine L2 _ (fun v2_1 v3_1 v4_1 H locs hP hD hS ls hl hf => ?_) N p0 p1 (0 : Int32) _ _ hP hD hS ls (lv_sub hl [3, 4, 2, 1, 0] rfl) hf
  refine lv_iconst (v := (1 : Int32)) hx hb dX11_commonDivisor_34 (by decide) ?_
  refine lv_iload_n hx hb dX11_commonDivisor_35 rfl (lv_at hl 2 rfl) ?_
  refine va_mmax hx hb (hml.trans hl.1.symm) hown (hts _ tw_435) (hts _ tw_436) (hts _ tw_93) (hts _ tw_437) (Nat.le_of_ble_eq_true rfl) (Nat.le_of_ble_eq_true rfl) (Nat.zero_le _) (Nat.zero_le _) dX11_commonDivisor_36 ?_
  have ho := ks hf
  subst ho
  exact kiret hx hb hr hlk hP hD hS hQ dX11_commonDivisor_39
abbrev k_X11_allByNine (G : KG) (a_this : Nat) (a_this_shop : Nat) (a_this_kept : Nat) (a_this_sheetBits : Nat) (a_this_sheetLengths : Nat) (a_this_sheetNumbers : Nat) (a_this_trace : Nat) (a_this_errors : Nat) (a_this_one : Nat) (a_this_second : Nat) (a_this_extra : Nat) (a_this_room : Nat) (a_this_values : Nat) (a_this_best : Nat) (a_this_shop_goods : Nat) (a_this_shop_tills : Nat) (a_this_shop_tape : Nat) (a_this_shop_paysLaw : Nat) (a_this_shop_valuesLaw : Nat) (a_this_shop_waiting : Nat) (e_this_shop_goods : Nat → Nat) (this_imaged : Int32) (this_images : Int32) (this_bestPaid : Int32) (this_bestNet : Int32) (this_shop_takings : Int32) (this_shop_costs : Int32) (this_shop_goes : Int32) (this_shop_z : Int32) (this_shop_fed : Int32) (this_shop_waits : Int32) (this_shop_goods : Nat → Nat → Int32) : va_W := [(a_this, .inr (11, [.ref a_this_shop, .ref a_this_kept, .int this_imaged, .int this_images, .ref a_this_sheetBits, .ref a_this_sheetLengths, .ref a_this_sheetNumbers, .ref a_this_trace, .ref a_this_errors, .ref a_this_one, .ref a_this_second, .ref a_this_extra, .ref a_this_room, .ref a_this_values, .ref a_this_best, .int this_bestPaid, .int this_bestNet])), (a_this_shop, .inr (7, [.ref a_this_shop_goods, .ref a_this_shop_tills, .int this_shop_takings, .int this_shop_costs, .int this_shop_goes, .int this_shop_z, .ref a_this_shop_tape, .int this_shop_fed, .ref a_this_shop_paysLaw, .ref a_this_shop_valuesLaw, .ref a_this_shop_waiting, .int this_shop_waits])), (a_this_shop_goods, .inl (gII G, 3, .inr (.inr (.inr (.inr (fun j => some (e_this_shop_goods j))))))), (e_this_shop_goods 0, .inl (gI G, 8, .inl (this_shop_goods 0))), (e_this_shop_goods 1, .inl (gI G, 8, .inl (this_shop_goods 1))), (e_this_shop_goods 2, .inl (gI G, 8, .inl (this_shop_goods 2)))]
def f_X11_allByNine_2 (N : Nat) (this_shop_goods : Nat → Nat → Int32) (K : Int32 → Option (Int32)) : Nat → Int32 → Option (Int32)
  | 0, _ => none
  | n + 1, y1 => (if (8 : Int32) ≤ y1 then (K y1) else (if vin y1 8 = true then (if (((this_shop_goods 0) y1.toNatClampNeg) - ((this_shop_goods 0) y1.toNatClampNeg) / (9 : Int32) * (9 : Int32)) = 0 then (f_X11_allByNine_2 N this_shop_goods K n (y1 + (1 : Int32))) else (some (0 : Int32))) else none))
def f_X11_allByNine (N : Nat) (this_shop_goods : Nat → Nat → Int32) : Option (Int32) := (f_X11_allByNine_2 N this_shop_goods (fun v1_4 => (some (1 : Int32))) N (0 : Int32))
set_option maxRecDepth 100000 in
set_option maxHeartbeats 4000000 in
theorem c_X11_allByNine (l : Launch) (G : KG) (N : Nat) (a_this : Nat) (a_this_shop : Nat) (a_this_kept : Nat) (a_this_sheetBits : Nat) (a_this_sheetLengths : Nat) (a_this_sheetNumbers : Nat) (a_this_trace : Nat) (a_this_errors : Nat) (a_this_one : Nat) (a_this_second : Nat) (a_this_extra : Nat) (a_this_room : Nat) (a_this_values : Nat) (a_this_best : Nat) (a_this_shop_goods : Nat) (a_this_shop_tills : Nat) (a_this_shop_tape : Nat) (a_this_shop_paysLaw : Nat) (a_this_shop_valuesLaw : Nat) (a_this_shop_waiting : Nat) (e_this_shop_goods : Nat → Nat) (this_imaged : Int32) (this_images : Int32) (this_bestPaid : Int32) (this_bestNet : Int32) (this_shop_takings : Int32) (this_shop_costs : Int32) (this_shop_goes : Int32) (this_shop_z : Int32) (this_shop_fed : Int32) (this_shop_waits : Int32) (this_shop_goods : Nat → Nat → Int32)  (out : Int32) (hf : f_X11_allByNine N this_shop_goods = some out) : KM l G yX11_allByNine (kw yX11_allByNine cX11_allByNine 2 (some .int)) 0 0 [.ref a_this] (k_X11_allByNine G a_this a_this_shop a_this_kept a_this_sheetBits a_this_sheetLengths a_this_sheetNumbers a_this_trace a_this_errors a_this_one a_this_second a_this_extra a_this_room a_this_values a_this_best a_this_shop_goods a_this_shop_tills a_this_shop_tape a_this_shop_paysLaw a_this_shop_valuesLaw a_this_shop_waiting e_this_shop_goods this_imaged this_images this_bestPaid this_bestNet this_shop_takings this_shop_costs this_shop_goes this_shop_z this_shop_fed this_shop_waits this_shop_goods) (k_X11_allByNine G a_this a_this_shop a_this_kept a_this_sheetBits a_this_sheetLengths a_this_sheetNumbers a_this_trace a_this_errors a_this_one a_this_second a_this_extra a_this_room a_this_values a_this_best a_this_shop_goods a_this_shop_tills a_this_shop_tape a_this_shop_paysLaw a_this_shop_valuesLaw a_this_shop_waiting e_this_shop_goods this_imaged this_images this_bestPaid this_bestNet this_shop_takings this_shop_costs this_shop_goes this_shop_z this_shop_fed this_shop_waits this_shop_goods) (some (.int out)) := by
  refine KM.of (by decide) (Nat.le_of_ble_eq_true rfl) ?_
  intro p e s m below meth c A ls args Q Fx0 hP hK hD hA hS hAm hQ hl
  obtain ⟨hx, hb, hr, hml, hts, hown, hlk, hnm⟩ := Fx0
  have hown : s.vm.findClass RX11 = some m.cls := hown
  have hl : lv_has ls 2 [(0, .ref a_this)] := hl
  have fl_10 := hts _ tw_333
  have fl_93 := va_Nw.use (A := args) rfl (hAm.1 _ nw_X11_93 rfl)
  unfold f_X11_allByNine at hf
  refine lv_iconst (v := (0 : Int32)) hx hb dX11_allByNine_0 (by decide) ?_
  refine lv_istore_n (lv' := [(1, .int (0 : Int32)), (0, .ref a_this)]) hx hb dX11_allByNine_1 rfl hl (by decide) rfl (fun ls hl => ?_)
  have L2 : ∀ (K : Int32 → Option (Int32)), (∀ (v1_2 : Int32) (H : Heap) (locs : List Loc), va_P (gD G) vwCl (k_X11_allByNine G a_this a_this_shop a_this_kept a_this_sheetBits a_this_sheetLengths a_this_sheetNumbers a_this_trace a_this_errors a_this_one a_this_second a_this_extra a_this_room a_this_values a_this_best a_this_shop_goods a_this_shop_tills a_this_shop_tape a_this_shop_paysLaw a_this_shop_valuesLaw a_this_shop_waiting e_this_shop_goods this_imaged this_images this_bestPaid this_bestNet this_shop_takings this_shop_costs this_shop_goes this_shop_z this_shop_fed this_shop_waits this_shop_goods) H → va_D A (k_X11_allByNine G a_this a_this_shop a_this_kept a_this_sheetBits a_this_sheetLengths a_this_sheetNumbers a_this_trace a_this_errors a_this_one a_this_second a_this_extra a_this_room a_this_values a_this_best a_this_shop_goods a_this_shop_tills a_this_shop_tape a_this_shop_paysLaw a_this_shop_valuesLaw a_this_shop_waiting e_this_shop_goods this_imaged this_images this_bestPaid this_bestNet this_shop_takings this_shop_costs this_shop_goes this_shop_z this_shop_fed this_shop_waits this_shop_goods) → va_S A s.heap H locs → ∀ (ls : Array Slot), lv_has ls 2 [(0, .ref a_this), (1, .int v1_2)] → K v1_2 = some out → W p l e (kR 0 0 0 0) s m args below meth c H locs 0 0 Q (F0 m 33 ls [])) → ∀ (n : Nat), ∀ (v1_2 : Int32) (H : Heap) (locs : List Loc), va_P (gD G) vwCl (k_X11_allByNine G a_this a_this_shop a_this_kept a_this_sheetBits a_this_sheetLengths a_this_sheetNumbers a_this_trace a_this_errors a_this_one a_this_second a_this_extra a_this_room a_this_values a_this_best a_this_shop_goods a_this_shop_tills a_this_shop_tape a_this_shop_paysLaw a_this_shop_valuesLaw a_this_shop_waiting e_this_shop_goods this_imaged this_images this_bestPaid this_bestNet this_shop_takings this_shop_costs this_shop_goes this_shop_z this_shop_fed this_shop_waits this_shop_goods) H → va_D A (k_X11_allByNine G a_this a_this_shop a_this_kept a_this_sheetBits a_this_sheetLengths a_this_sheetNumbers a_this_trace a_this_errors a_this_one a_this_second a_this_extra a_this_room a_this_values a_this_best a_this_shop_goods a_this_shop_tills a_this_shop_tape a_this_shop_paysLaw a_this_shop_valuesLaw a_this_shop_waiting e_this_shop_goods this_imaged this_images this_bestPaid this_bestNet this_shop_takings this_shop_costs this_shop_goes this_shop_z this_shop_fed this_shop_waits this_shop_goods) → va_S A s.heap H locs → ∀ (ls : Array Slot), lv_has ls 2 [(0, .ref a_this), (1, .int v1_2)] → f_X11_allByNine_2 N this_shop_goods K n v1_2 = some out → W p l e (kR 0 0 0 0) s m args below meth c H locs 0 0 Q (F0 m 2 ls []) := by
    intro K hK2 n
    induction n with
    | zero =>
      intro v1_2 H locs hP hD hS ls hl hf
      rw [f_X11_allByNine_2] at hf
      cases hf
    | succ n ih =>
      intro v1_2 H locs hP hD hS ls hl hf
      rw [f_X11_allByNine_2] at hf
      refine lv_iload_n hx hb dX11_allByNine_2 rfl (lv_at hl 1 rfl) ?_
      refine lv_bipush (v := (8 : Int32)) hx hb dX11_allByNine_3 (by decide) ?_
      refine lv_icmp_ge (tgt := 33) hx hb dX11_allByNine_5 (by decide) (fun c3 => ?_) (fun c3 => ?_)
      · replace hf := kt c3 hf
        exact hK2 v1_2 _ _ hP hD hS ls (lv_sub hl [0, 1] rfl) hf
      · replace hf := kf c3 hf
        refine lv_aload_n hx hb dX11_allByNine_8 rfl (lv_at hl 0 rfl) ?_
        refine va_get (D := gD G) (ci := 11) (C := RX11) (T := TX11) (N := 17) hx hb hts hin_X11 hown hK hP 0 rfl rfl 0 (by decide) fl_10 (fun _ h9 => h9) rfl dX11_allByNine_9 ?_
        refine va_getN (D := gD G) (ci := 7) (C := RX7) (T := TX7) (N := 12) hx hb hts hin_X7 hown hK hP 1 rfl rfl 0 (by decide) fl_93 (fun _ h9 => h9) rfl dX11_allByNine_12 ?_
        refine lv_iconst (v := (0 : Int32)) hx hb dX11_allByNine_15 (by decide) ?_
        refine ka_aald hx hb hK hP 2 rfl (vin_of (by decide)) dX11_allByNine_16 ?_
        refine lv_iload_n hx hb dX11_allByNine_17 rfl (lv_at hl 1 rfl) ?_
        obtain ⟨g4, hf⟩ := kg hf
        refine va_iald hx hb hK hP 3 0 rfl rfl (vin_of g4) dX11_allByNine_18 ?_
        refine lv_bipush (v := (9 : Int32)) hx hb dX11_allByNine_19 (by decide) ?_
        refine lv_irem hx hb dX11_allByNine_21 (by decide) ?_
        refine lv_if_eq (tgt := 27) hx hb dX11_allByNine_22 (by decide) (fun c5 => ?_) (fun c5 => ?_)
        · replace hf := kt c5 hf
          refine lv_iinc (v := (v1_2 + (1 : Int32))) (lv' := [(1, .int (v1_2 + (1 : Int32))), (0, .ref a_this)]) hx hb dX11_allByNine_27 hl (k := 1) rfl rfl (by decide) rfl (fun ls hl => ?_)
          refine lv_goto (tgt := 2) hx hb dX11_allByNine_30 (by decide) ?_
          exact ih (v1_2 + (1 : Int32)) _ _ hP hD hS ls (lv_sub hl [1, 0] rfl) hf
        · replace hf := kf c5 hf
          refine lv_iconst (v := (0 : Int32)) hx hb dX11_allByNine_25 (by decide) ?_
          have ho := ks hf
          subst ho
          exact kiret hx hb hr hlk hP hD hS hQ dX11_allByNine_26
  refine L2 _ (fun v1_1 H locs hP hD hS ls hl hf => ?_) N (0 : Int32) _ _ hP hD hS ls (lv_sub hl [1, 0] rfl) hf
  refine lv_iconst (v := (1 : Int32)) hx hb dX11_allByNine_33 (by decide) ?_
  have ho := ks hf
  subst ho
  exact kiret hx hb hr hlk hP hD hS hQ dX11_allByNine_34
abbrev k_X0_clear (G : KG) (a_this : Nat) (a_this_row : Nat) (this_things : Int32) (this_sum : Int32) (this_row : Nat → Int32) : va_W := [(a_this, .inr (0, [.ref a_this_row, .int this_things, .int this_sum])), (a_this_row, .inl (gI G, 8, .inl this_row))]
def f_X0_clear_2 (N : Nat) (K : Int32 → (Nat → Int32) → Option ((Int32) × (Int32) × (Nat → Int32))) : Nat → Int32 → (Nat → Int32) → Option ((Int32) × (Int32) × (Nat → Int32))
  | 0, _, _ => none
  | n + 1, y1, this_row_v => (if (8 : Int32) ≤ y1 then (K y1 this_row_v) else (if vin y1 8 = true then (f_X0_clear_2 N K n (y1 + (1 : Int32)) (upd this_row_v y1.toNatClampNeg (0 : Int32))) else none))
def f_X0_clear (N : Nat) (this_things : Int32) (this_sum : Int32) (this_row : Nat → Int32) : Option ((Int32) × (Int32) × (Nat → Int32)) := (f_X0_clear_2 N (fun v1_3 this_row_3 => (some ((0 : Int32), (0 : Int32), this_row_3))) N (0 : Int32) this_row)
set_option maxRecDepth 100000 in
set_option maxHeartbeats 4000000 in
theorem c_X0_clear (l : Launch) (G : KG) (N : Nat) (a_this : Nat) (a_this_row : Nat) (this_things : Int32) (this_sum : Int32) (this_row : Nat → Int32)  (out : (Int32) × (Int32) × (Nat → Int32)) (hf : f_X0_clear N this_things this_sum this_row = some out) : KM l G yX0_clear (kw yX0_clear cX0_clear 2 none) 0 0 [.ref a_this] (k_X0_clear G a_this a_this_row this_things this_sum this_row) (k_X0_clear G a_this a_this_row (out.1) (out.2.1) (out.2.2)) none := by
  refine KM.of (by decide) (Nat.le_of_ble_eq_true rfl) ?_
  intro p e s m below meth c A ls args Q Fx0 hP hK hD hA hS hAm hQ hl
  obtain ⟨hx, hb, hr, hml, hts, hown, hlk, hnm⟩ := Fx0
  have hown : s.vm.findClass RX0 = some m.cls := hown
  have hl : lv_has ls 2 [(0, .ref a_this)] := hl
  have fl_15 := hts _ tw_320
  have fl_19 := hts _ tw_323
  have fl_9 := hts _ tw_317
  unfold f_X0_clear at hf
  refine lv_iconst (v := (0 : Int32)) hx hb dX0_clear_0 (by decide) ?_
  refine lv_istore_n (lv' := [(1, .int (0 : Int32)), (0, .ref a_this)]) hx hb dX0_clear_1 rfl hl (by decide) rfl (fun ls hl => ?_)
  have L2 : ∀ (K : Int32 → (Nat → Int32) → Option ((Int32) × (Int32) × (Nat → Int32))), (∀ (v1_2 : Int32) (this_row_2 : Nat → Int32) (H : Heap) (locs : List Loc), va_P (gD G) vwCl (k_X0_clear G a_this a_this_row this_things this_sum this_row_2) H → va_D A (k_X0_clear G a_this a_this_row this_things this_sum this_row_2) → va_S A s.heap H locs → ∀ (ls : Array Slot), lv_has ls 2 [(0, .ref a_this), (1, .int v1_2)] → K v1_2 this_row_2 = some out → W p l e (kR 0 0 0 0) s m args below meth c H locs 0 0 Q (F0 m 21 ls [])) → ∀ (n : Nat), ∀ (v1_2 : Int32) (this_row_2 : Nat → Int32) (H : Heap) (locs : List Loc), va_P (gD G) vwCl (k_X0_clear G a_this a_this_row this_things this_sum this_row_2) H → va_D A (k_X0_clear G a_this a_this_row this_things this_sum this_row_2) → va_S A s.heap H locs → ∀ (ls : Array Slot), lv_has ls 2 [(0, .ref a_this), (1, .int v1_2)] → f_X0_clear_2 N K n v1_2 this_row_2 = some out → W p l e (kR 0 0 0 0) s m args below meth c H locs 0 0 Q (F0 m 2 ls []) := by
    intro K hK2 n
    induction n with
    | zero =>
      intro v1_2 this_row_2 H locs hP hD hS ls hl hf
      rw [f_X0_clear_2] at hf
      cases hf
    | succ n ih =>
      intro v1_2 this_row_2 H locs hP hD hS ls hl hf
      rw [f_X0_clear_2] at hf
      refine lv_iload_n hx hb dX0_clear_2 rfl (lv_at hl 1 rfl) ?_
      refine lv_bipush (v := (8 : Int32)) hx hb dX0_clear_3 (by decide) ?_
      refine lv_icmp_ge (tgt := 21) hx hb dX0_clear_5 (by decide) (fun c3 => ?_) (fun c3 => ?_)
      · replace hf := kt c3 hf
        exact hK2 v1_2 this_row_2 _ _ hP hD hS ls (lv_sub hl [0, 1] rfl) hf
      · replace hf := kf c3 hf
        refine lv_aload_n hx hb dX0_clear_8 rfl (lv_at hl 0 rfl) ?_
        refine va_get (D := gD G) (ci := 0) (C := RX0) (T := TX0) (N := 3) hx hb hts hin_X0 hown hK hP 0 rfl rfl 0 (by decide) fl_9 (fun _ h9 => h9) rfl dX0_clear_9 ?_
        refine lv_iload_n hx hb dX0_clear_12 rfl (lv_at hl 1 rfl) ?_
        refine lv_iconst (v := (0 : Int32)) hx hb dX0_clear_13 (by decide) ?_
        obtain ⟨g4, hf⟩ := kg hf
        refine va_iast hx hb hK hP hD hS 1 0 rfl rfl (vin_of g4) dX0_clear_14 (fun H locs hP hD hS => ?_)
        have hP : va_P (gD G) vwCl (k_X0_clear G a_this a_this_row this_things this_sum (upd this_row_2 v1_2.toNatClampNeg (0 : Int32))) H := hP
        have hD : va_D A (k_X0_clear G a_this a_this_row this_things this_sum (upd this_row_2 v1_2.toNatClampNeg (0 : Int32))) := hD
        refine lv_iinc (v := (v1_2 + (1 : Int32))) (lv' := [(1, .int (v1_2 + (1 : Int32))), (0, .ref a_this)]) hx hb dX0_clear_15 hl (k := 1) rfl rfl (by decide) rfl (fun ls hl => ?_)
        refine lv_goto (tgt := 2) hx hb dX0_clear_18 (by decide) ?_
        exact ih (v1_2 + (1 : Int32)) (upd this_row_2 v1_2.toNatClampNeg (0 : Int32)) _ _ hP hD hS ls (lv_sub hl [1, 0] rfl) hf
  refine L2 _ (fun v1_1 this_row_1 H locs hP hD hS ls hl hf => ?_) N (0 : Int32) this_row _ _ hP hD hS ls (lv_sub hl [1, 0] rfl) hf
  refine lv_aload_n hx hb dX0_clear_21 rfl (lv_at hl 0 rfl) ?_
  refine lv_iconst (v := (0 : Int32)) hx hb dX0_clear_22 (by decide) ?_
  refine va_put (D := gD G) (ci := 0) (v := .int (0 : Int32)) (ty := .int) (C := RX0) (T := TX0) (N := 3) hx hb hts hin_X0 tyX0 tyX0_ok nmX0 hown hK hP hD hS 0 rfl rfl 1 (by decide) fl_15 (fun _ h9 => h9) rfl (by decide +kernel) rfl rfl (Nat.le_of_ble_eq_true rfl) dX0_clear_23 (fun H locs hP hD hS => ?_)
  have hP : va_P (gD G) vwCl (k_X0_clear G a_this a_this_row (0 : Int32) this_sum this_row_1) H := hP
  have hD : va_D A (k_X0_clear G a_this a_this_row (0 : Int32) this_sum this_row_1) := hD
  refine lv_aload_n hx hb dX0_clear_26 rfl (lv_at hl 0 rfl) ?_
  refine lv_iconst (v := (0 : Int32)) hx hb dX0_clear_27 (by decide) ?_
  refine va_put (D := gD G) (ci := 0) (v := .int (0 : Int32)) (ty := .int) (C := RX0) (T := TX0) (N := 3) hx hb hts hin_X0 tyX0 tyX0_ok nmX0 hown hK hP hD hS 0 rfl rfl 2 (by decide) fl_19 (fun _ h9 => h9) rfl (by decide +kernel) rfl rfl (Nat.le_of_ble_eq_true rfl) dX0_clear_28 (fun H locs hP hD hS => ?_)
  have hP : va_P (gD G) vwCl (k_X0_clear G a_this a_this_row (0 : Int32) (0 : Int32) this_row_1) H := hP
  have hD : va_D A (k_X0_clear G a_this a_this_row (0 : Int32) (0 : Int32) this_row_1) := hD
  have ho := ks hf
  subst ho
  exact kvret hx hb hr hlk hP hD hS hQ dX0_clear_31
abbrev k_X0_copy (G : KG) (a_p0 : Nat) (a_p0_row : Nat) (a_this : Nat) (a_this_row : Nat) (p0_things : Int32) (p0_sum : Int32) (p0_row : Nat → Int32) (this_things : Int32) (this_sum : Int32) (this_row : Nat → Int32) : va_W := [(a_p0, .inr (0, [.ref a_p0_row, .int p0_things, .int p0_sum])), (a_p0_row, .inl (gI G, 8, .inl p0_row)), (a_this, .inr (0, [.ref a_this_row, .int this_things, .int this_sum])), (a_this_row, .inl (gI G, 8, .inl this_row))]
def f_X0_copy (N : Nat) (p0_things : Int32) (p0_sum : Int32) (p0_row : Nat → Int32) (this_things : Int32) (this_sum : Int32) (this_row : Nat → Int32) : Option ((Int32) × (Int32) × (Nat → Int32)) := (if ¬ (0 : Int32) < 0 ∧ ¬ (0 : Int32) < 0 ∧ ¬ (8 : Int32) < 0 ∧ (0 : Int32).toNatClampNeg + (8 : Int32).toNatClampNeg ≤ 8 ∧ (0 : Int32).toNatClampNeg + (8 : Int32).toNatClampNeg ≤ 8 then (some (p0_things, p0_sum, (va_cpy p0_row this_row (0 : Int32).toNatClampNeg (0 : Int32).toNatClampNeg (8 : Int32).toNatClampNeg))) else none)
set_option maxRecDepth 100000 in
set_option maxHeartbeats 4000000 in
theorem c_X0_copy (l : Launch) (G : KG) (N : Nat) (a_p0 : Nat) (a_p0_row : Nat) (a_this : Nat) (a_this_row : Nat) (p0_things : Int32) (p0_sum : Int32) (p0_row : Nat → Int32) (this_things : Int32) (this_sum : Int32) (this_row : Nat → Int32)  (out : (Int32) × (Int32) × (Nat → Int32)) (hf : f_X0_copy N p0_things p0_sum p0_row this_things this_sum this_row = some out) : KM l G yX0_copy (kw yX0_copy cX0_copy 2 none) 1 60 [.ref a_this, .ref a_p0] (k_X0_copy G a_p0 a_p0_row a_this a_this_row p0_things p0_sum p0_row this_things this_sum this_row) (k_X0_copy G a_p0 a_p0_row a_this a_this_row p0_things p0_sum p0_row (out.1) (out.2.1) (out.2.2)) none := by
  refine KM.of (by decide) (Nat.le_of_ble_eq_true rfl) ?_
  intro p e s m below meth c A ls args Q Fx0 hP hK hD hA hS hAm hQ hl
  obtain ⟨hx, hb, hr, hml, hts, hown, hlk, hnm⟩ := Fx0
  have hown : s.vm.findClass RX0 = some m.cls := hown
  have hl : lv_has ls 2 [(0, .ref a_this), (1, .ref a_p0)] := hl
  have fl_9 := hts _ tw_317
  have fl_15 := hts _ tw_320
  have fl_19 := hts _ tw_323
  unfold f_X0_copy at hf
  refine lv_aload_n hx hb dX0_copy_0 rfl (lv_at hl 1 rfl) ?_
  refine va_get (D := gD G) (ci := 0) (C := RX0) (T := TX0) (N := 3) hx hb hts hin_X0 hown hK hP 0 rfl rfl 0 (by decide) fl_9 (fun _ h9 => h9) rfl dX0_copy_1 ?_
  refine lv_iconst (v := (0 : Int32)) hx hb dX0_copy_4 (by decide) ?_
  refine lv_aload_n hx hb dX0_copy_5 rfl (lv_at hl 0 rfl) ?_
  refine va_get (D := gD G) (ci := 0) (C := RX0) (T := TX0) (N := 3) hx hb hts hin_X0 hown hK hP 2 rfl rfl 0 (by decide) fl_9 (fun _ h9 => h9) rfl dX0_copy_6 ?_
  refine lv_iconst (v := (0 : Int32)) hx hb dX0_copy_9 (by decide) ?_
  refine lv_bipush (v := (8 : Int32)) hx hb dX0_copy_10 (by decide) ?_
  obtain ⟨g1, hf⟩ := kg hf
  refine va_copyi hx hb (hml.trans hl.1.symm) hown (hts _ tw_757) (hts _ tw_575) (hts _ tw_574) (hts _ tw_94) hK hP hD hS 1 3 0 0 (ty := .int) rfl rfl rfl rfl rfl g1.1 g1.2.1 g1.2.2.1 g1.2.2.2.1 g1.2.2.2.2 (fun _ _ => rfl) (Nat.le_of_ble_eq_true rfl) (Nat.le_of_ble_eq_true rfl) dX0_copy_12 (fun H locs hP hD hS => ?_)
  have hP : va_P (gD G) vwCl (k_X0_copy G a_p0 a_p0_row a_this a_this_row p0_things p0_sum p0_row this_things this_sum (va_cpy p0_row this_row (0 : Int32).toNatClampNeg (0 : Int32).toNatClampNeg (8 : Int32).toNatClampNeg)) H := hP
  have hD : va_D A (k_X0_copy G a_p0 a_p0_row a_this a_this_row p0_things p0_sum p0_row this_things this_sum (va_cpy p0_row this_row (0 : Int32).toNatClampNeg (0 : Int32).toNatClampNeg (8 : Int32).toNatClampNeg)) := hD
  refine lv_aload_n hx hb dX0_copy_15 rfl (lv_at hl 0 rfl) ?_
  refine lv_aload_n hx hb dX0_copy_16 rfl (lv_at hl 1 rfl) ?_
  refine va_get (D := gD G) (ci := 0) (C := RX0) (T := TX0) (N := 3) hx hb hts hin_X0 hown hK hP 0 rfl rfl 1 (by decide) fl_15 (fun _ h9 => h9) rfl dX0_copy_17 ?_
  refine va_put (D := gD G) (ci := 0) (v := .int p0_things) (ty := .int) (C := RX0) (T := TX0) (N := 3) hx hb hts hin_X0 tyX0 tyX0_ok nmX0 hown hK hP hD hS 2 rfl rfl 1 (by decide) fl_15 (fun _ h9 => h9) rfl (by decide +kernel) rfl rfl (Nat.le_of_ble_eq_true rfl) dX0_copy_20 (fun H locs hP hD hS => ?_)
  have hP : va_P (gD G) vwCl (k_X0_copy G a_p0 a_p0_row a_this a_this_row p0_things p0_sum p0_row p0_things this_sum (va_cpy p0_row this_row (0 : Int32).toNatClampNeg (0 : Int32).toNatClampNeg (8 : Int32).toNatClampNeg)) H := hP
  have hD : va_D A (k_X0_copy G a_p0 a_p0_row a_this a_this_row p0_things p0_sum p0_row p0_things this_sum (va_cpy p0_row this_row (0 : Int32).toNatClampNeg (0 : Int32).toNatClampNeg (8 : Int32).toNatClampNeg)) := hD
  refine lv_aload_n hx hb dX0_copy_23 rfl (lv_at hl 0 rfl) ?_
  refine lv_aload_n hx hb dX0_copy_24 rfl (lv_at hl 1 rfl) ?_
  refine va_get (D := gD G) (ci := 0) (C := RX0) (T := TX0) (N := 3) hx hb hts hin_X0 hown hK hP 0 rfl rfl 2 (by decide) fl_19 (fun _ h9 => h9) rfl dX0_copy_25 ?_
  refine va_put (D := gD G) (ci := 0) (v := .int p0_sum) (ty := .int) (C := RX0) (T := TX0) (N := 3) hx hb hts hin_X0 tyX0 tyX0_ok nmX0 hown hK hP hD hS 2 rfl rfl 2 (by decide) fl_19 (fun _ h9 => h9) rfl (by decide +kernel) rfl rfl (Nat.le_of_ble_eq_true rfl) dX0_copy_28 (fun H locs hP hD hS => ?_)
  have hP : va_P (gD G) vwCl (k_X0_copy G a_p0 a_p0_row a_this a_this_row p0_things p0_sum p0_row p0_things p0_sum (va_cpy p0_row this_row (0 : Int32).toNatClampNeg (0 : Int32).toNatClampNeg (8 : Int32).toNatClampNeg)) H := hP
  have hD : va_D A (k_X0_copy G a_p0 a_p0_row a_this a_this_row p0_things p0_sum p0_row p0_things p0_sum (va_cpy p0_row this_row (0 : Int32).toNatClampNeg (0 : Int32).toNatClampNeg (8 : Int32).toNatClampNeg)) := hD
  have ho := ks hf
  subst ho
  exact kvret hx hb hr hlk hP hD hS hQ dX0_copy_31
abbrev k_X0_sumBy (G : KG) (a_p0 : Nat) (a_this : Nat) (a_this_row : Nat) (p0 : Nat → Int32) (this_things : Int32) (this_sum : Int32) (this_row : Nat → Int32) : va_W := [(a_p0, .inl (gI G, 8, .inl p0)), (a_this, .inr (0, [.ref a_this_row, .int this_things, .int this_sum])), (a_this_row, .inl (gI G, 8, .inl this_row))]
def f_X0_sumBy_4 (N : Nat) (p0 : Nat → Int32) (this_row : Nat → Int32) (K : Int32 → Int32 → Option (Int32)) : Nat → Int32 → Int32 → Option (Int32)
  | 0, _, _ => none
  | n + 1, y2, y3 => (if (8 : Int32) ≤ y3 then (K y2 y3) else (if vin y3 8 = true then (if vin y3 8 = true then (f_X0_sumBy_4 N p0 this_row K n (y2 + ((this_row y3.toNatClampNeg) * (p0 y3.toNatClampNeg))) (y3 + (1 : Int32))) else none) else none))
def f_X0_sumBy (N : Nat) (p0 : Nat → Int32) (this_row : Nat → Int32) : Option (Int32) := (f_X0_sumBy_4 N p0 this_row (fun v2_4 v3_4 => (some v2_4)) N (0 : Int32) (0 : Int32))
set_option maxRecDepth 100000 in
set_option maxHeartbeats 4000000 in
theorem c_X0_sumBy (l : Launch) (G : KG) (N : Nat) (a_p0 : Nat) (a_this : Nat) (a_this_row : Nat) (p0 : Nat → Int32) (this_things : Int32) (this_sum : Int32) (this_row : Nat → Int32)  (out : Int32) (hf : f_X0_sumBy N p0 this_row = some out) : KM l G yX0_sumBy (kw yX0_sumBy cX0_sumBy 4 (some .int)) 0 0 [.ref a_this, .ref a_p0] (k_X0_sumBy G a_p0 a_this a_this_row p0 this_things this_sum this_row) (k_X0_sumBy G a_p0 a_this a_this_row p0 this_things this_sum this_row) (some (.int out)) := by
  refine KM.of (by decide) (Nat.le_of_ble_eq_true rfl) ?_
  intro p e s m below meth c A ls args Q Fx0 hP hK hD hA hS hAm hQ hl
  obtain ⟨hx, hb, hr, hml, hts, hown, hlk, hnm⟩ := Fx0
  have hown : s.vm.findClass RX0 = some m.cls := hown
  have hl : lv_has ls 4 [(0, .ref a_this), (1, .ref a_p0)] := hl
  have fl_9 := hts _ tw_317
  unfold f_X0_sumBy at hf
  refine lv_iconst (v := (0 : Int32)) hx hb dX0_sumBy_0 (by decide) ?_
  refine lv_istore_n (lv' := [(2, .int (0 : Int32)), (0, .ref a_this), (1, .ref a_p0)]) hx hb dX0_sumBy_1 rfl hl (by decide) rfl (fun ls hl => ?_)
  refine lv_iconst (v := (0 : Int32)) hx hb dX0_sumBy_2 (by decide) ?_
  refine lv_istore_n (lv' := [(3, .int (0 : Int32)), (2, .int (0 : Int32)), (0, .ref a_this), (1, .ref a_p0)]) hx hb dX0_sumBy_3 rfl hl (by decide) rfl (fun ls hl => ?_)
  have L2 : ∀ (K : Int32 → Int32 → Option (Int32)), (∀ (v2_2 : Int32) (v3_2 : Int32) (H : Heap) (locs : List Loc), va_P (gD G) vwCl (k_X0_sumBy G a_p0 a_this a_this_row p0 this_things this_sum this_row) H → va_D A (k_X0_sumBy G a_p0 a_this a_this_row p0 this_things this_sum this_row) → va_S A s.heap H locs → ∀ (ls : Array Slot), lv_has ls 4 [(0, .ref a_this), (1, .ref a_p0), (2, .int v2_2), (3, .int v3_2)] → K v2_2 v3_2 = some out → W p l e (kR 0 0 0 0) s m args below meth c H locs 0 0 Q (F0 m 29 ls [])) → ∀ (n : Nat), ∀ (v2_2 : Int32) (v3_2 : Int32) (H : Heap) (locs : List Loc), va_P (gD G) vwCl (k_X0_sumBy G a_p0 a_this a_this_row p0 this_things this_sum this_row) H → va_D A (k_X0_sumBy G a_p0 a_this a_this_row p0 this_things this_sum this_row) → va_S A s.heap H locs → ∀ (ls : Array Slot), lv_has ls 4 [(0, .ref a_this), (1, .ref a_p0), (2, .int v2_2), (3, .int v3_2)] → f_X0_sumBy_4 N p0 this_row K n v2_2 v3_2 = some out → W p l e (kR 0 0 0 0) s m args below meth c H locs 0 0 Q (F0 m 4 ls []) := by
    intro K hK2 n
    induction n with
    | zero =>
      intro v2_2 v3_2 H locs hP hD hS ls hl hf
      rw [f_X0_sumBy_4] at hf
      cases hf
    | succ n ih =>
      intro v2_2 v3_2 H locs hP hD hS ls hl hf
      rw [f_X0_sumBy_4] at hf
      refine lv_iload_n hx hb dX0_sumBy_4 rfl (lv_at hl 3 rfl) ?_
      refine lv_bipush (v := (8 : Int32)) hx hb dX0_sumBy_5 (by decide) ?_
      refine lv_icmp_ge (tgt := 29) hx hb dX0_sumBy_7 (by decide) (fun c3 => ?_) (fun c3 => ?_)
      · replace hf := kt c3 hf
        exact hK2 v2_2 v3_2 _ _ hP hD hS ls (lv_sub hl [0, 1, 2, 3] rfl) hf
      · replace hf := kf c3 hf
        refine lv_iload_n hx hb dX0_sumBy_10 rfl (lv_at hl 2 rfl) ?_
        refine lv_aload_n hx hb dX0_sumBy_11 rfl (lv_at hl 0 rfl) ?_
        refine va_get (D := gD G) (ci := 0) (C := RX0) (T := TX0) (N := 3) hx hb hts hin_X0 hown hK hP 1 rfl rfl 0 (by decide) fl_9 (fun _ h9 => h9) rfl dX0_sumBy_12 ?_
        refine lv_iload_n hx hb dX0_sumBy_15 rfl (lv_at hl 3 rfl) ?_
        obtain ⟨g4, hf⟩ := kg hf
        refine va_iald hx hb hK hP 2 0 rfl rfl (vin_of g4) dX0_sumBy_16 ?_
        refine lv_aload_n hx hb dX0_sumBy_17 rfl (lv_at hl 1 rfl) ?_
        refine lv_iload_n hx hb dX0_sumBy_18 rfl (lv_at hl 3 rfl) ?_
        obtain ⟨g5, hf⟩ := kg hf
        refine va_iald hx hb hK hP 0 0 rfl rfl (vin_of g5) dX0_sumBy_19 ?_
        refine lv_imul hx hb dX0_sumBy_20 ?_
        refine lv_iadd hx hb dX0_sumBy_21 ?_
        refine lv_istore_n (lv' := [(2, .int (v2_2 + ((this_row v3_2.toNatClampNeg) * (p0 v3_2.toNatClampNeg)))), (0, .ref a_this), (1, .ref a_p0), (3, .int v3_2)]) hx hb dX0_sumBy_22 rfl hl (by decide) rfl (fun ls hl => ?_)
        refine lv_iinc (v := (v3_2 + (1 : Int32))) (lv' := [(3, .int (v3_2 + (1 : Int32))), (2, .int (v2_2 + ((this_row v3_2.toNatClampNeg) * (p0 v3_2.toNatClampNeg)))), (0, .ref a_this), (1, .ref a_p0)]) hx hb dX0_sumBy_23 hl (k := 3) rfl rfl (by decide) rfl (fun ls hl => ?_)
        refine lv_goto (tgt := 4) hx hb dX0_sumBy_26 (by decide) ?_
        exact ih (v2_2 + ((this_row v3_2.toNatClampNeg) * (p0 v3_2.toNatClampNeg))) (v3_2 + (1 : Int32)) _ _ hP hD hS ls (lv_sub hl [2, 3, 1, 0] rfl) hf
  refine L2 _ (fun v2_1 v3_1 H locs hP hD hS ls hl hf => ?_) N (0 : Int32) (0 : Int32) _ _ hP hD hS ls (lv_sub hl [2, 3, 1, 0] rfl) hf
  refine lv_iload_n hx hb dX0_sumBy_29 rfl (lv_at hl 2 rfl) ?_
  have ho := ks hf
  subst ho
  exact kiret hx hb hr hlk hP hD hS hQ dX0_sumBy_30
abbrev k_X0_add (G : KG) (a_p0 : Nat) (a_this : Nat) (a_this_row : Nat) (p0 : Nat → Int32) (this_things : Int32) (this_sum : Int32) (this_row : Nat → Int32) : va_W := [(a_p0, .inl (gI G, 8, .inl p0)), (a_this, .inr (0, [.ref a_this_row, .int this_things, .int this_sum])), (a_this_row, .inl (gI G, 8, .inl this_row))]
def f_X0_add_7 (N : Nat) (this_row : Nat → Int32) (K : Int32 → Int32 → Option ((Int32) × (Int32))) : Nat → Int32 → Int32 → Option ((Int32) × (Int32))
  | 0, _, _ => none
  | n + 1, y2, this_things_v => (if (8 : Int32) ≤ y2 then (K y2 this_things_v) else (if vin y2 8 = true then (f_X0_add_7 N this_row K n (y2 + (1 : Int32)) (this_things_v + (this_row y2.toNatClampNeg))) else none))
def f_X0_add (N : Nat) (p0 : Nat → Int32) (this_things : Int32) (this_sum : Int32) (this_row : Nat → Int32) : Option ((Int32) × (Int32)) := (f_X0_add_7 N this_row (fun v2_3 this_things_3 => ((f_X0_sumBy N p0 this_row).bind fun r4 => (some (this_things_3, r4)))) N (0 : Int32) (0 : Int32))
set_option maxRecDepth 100000 in
set_option maxHeartbeats 4000000 in
theorem c_X0_add (l : Launch) (G : KG) (N : Nat) (a_p0 : Nat) (a_this : Nat) (a_this_row : Nat) (p0 : Nat → Int32) (this_things : Int32) (this_sum : Int32) (this_row : Nat → Int32)  (out : (Int32) × (Int32)) (hf : f_X0_add N p0 this_things this_sum this_row = some out) : KM l G yX0_add (kw yX0_add cX0_add 3 none) 1 23 [.ref a_this, .ref a_p0] (k_X0_add G a_p0 a_this a_this_row p0 this_things this_sum this_row) (k_X0_add G a_p0 a_this a_this_row p0 (out.1) (out.2) this_row) none := by
  refine KM.of (by decide) (Nat.le_of_ble_eq_true rfl) ?_
  intro p e s m below meth c A ls args Q Fx0 hP hK hD hA hS hAm hQ hl
  obtain ⟨hx, hb, hr, hml, hts, hown, hlk, hnm⟩ := Fx0
  have hown : s.vm.findClass RX0 = some m.cls := hown
  have hl : lv_has ls 3 [(0, .ref a_this), (1, .ref a_p0)] := hl
  have fl_15 := hts _ tw_320
  have fl_19 := hts _ tw_323
  have fl_9 := hts _ tw_317
  unfold f_X0_add at hf
  refine lv_aload_n hx hb dX0_add_0 rfl (lv_at hl 0 rfl) ?_
  refine lv_iconst (v := (0 : Int32)) hx hb dX0_add_1 (by decide) ?_
  refine va_put (D := gD G) (ci := 0) (v := .int (0 : Int32)) (ty := .int) (C := RX0) (T := TX0) (N := 3) hx hb hts hin_X0 tyX0 tyX0_ok nmX0 hown hK hP hD hS 1 rfl rfl 1 (by decide) fl_15 (fun _ h9 => h9) rfl (by decide +kernel) rfl rfl (Nat.le_of_ble_eq_true rfl) dX0_add_2 (fun H locs hP hD hS => ?_)
  have hP : va_P (gD G) vwCl (k_X0_add G a_p0 a_this a_this_row p0 (0 : Int32) this_sum this_row) H := hP
  have hD : va_D A (k_X0_add G a_p0 a_this a_this_row p0 (0 : Int32) this_sum this_row) := hD
  refine lv_iconst (v := (0 : Int32)) hx hb dX0_add_5 (by decide) ?_
  refine lv_istore_n (lv' := [(2, .int (0 : Int32)), (0, .ref a_this), (1, .ref a_p0)]) hx hb dX0_add_6 rfl hl (by decide) rfl (fun ls hl => ?_)
  have L3 : ∀ (K : Int32 → Int32 → Option ((Int32) × (Int32))), (∀ (v2_3 : Int32) (this_things_3 : Int32) (H : Heap) (locs : List Loc), va_P (gD G) vwCl (k_X0_add G a_p0 a_this a_this_row p0 this_things_3 this_sum this_row) H → va_D A (k_X0_add G a_p0 a_this a_this_row p0 this_things_3 this_sum this_row) → va_S A s.heap H locs → ∀ (ls : Array Slot), lv_has ls 3 [(0, .ref a_this), (1, .ref a_p0), (2, .int v2_3)] → K v2_3 this_things_3 = some out → W p l e (kR 1 0 0 23) s m args below meth c H locs 0 0 Q (F0 m 34 ls [])) → ∀ (n : Nat), ∀ (v2_3 : Int32) (this_things_3 : Int32) (H : Heap) (locs : List Loc), va_P (gD G) vwCl (k_X0_add G a_p0 a_this a_this_row p0 this_things_3 this_sum this_row) H → va_D A (k_X0_add G a_p0 a_this a_this_row p0 this_things_3 this_sum this_row) → va_S A s.heap H locs → ∀ (ls : Array Slot), lv_has ls 3 [(0, .ref a_this), (1, .ref a_p0), (2, .int v2_3)] → f_X0_add_7 N this_row K n v2_3 this_things_3 = some out → W p l e (kR 1 0 0 23) s m args below meth c H locs 0 0 Q (F0 m 7 ls []) := by
    intro K hK3 n
    induction n with
    | zero =>
      intro v2_3 this_things_3 H locs hP hD hS ls hl hf
      rw [f_X0_add_7] at hf
      cases hf
    | succ n ih =>
      intro v2_3 this_things_3 H locs hP hD hS ls hl hf
      rw [f_X0_add_7] at hf
      refine lv_iload_n hx hb dX0_add_7 rfl (lv_at hl 2 rfl) ?_
      refine lv_bipush (v := (8 : Int32)) hx hb dX0_add_8 (by decide) ?_
      refine lv_icmp_ge (tgt := 34) hx hb dX0_add_10 (by decide) (fun c4 => ?_) (fun c4 => ?_)
      · replace hf := kt c4 hf
        exact hK3 v2_3 this_things_3 _ _ hP hD hS ls (lv_sub hl [0, 1, 2] rfl) hf
      · replace hf := kf c4 hf
        refine lv_aload_n hx hb dX0_add_13 rfl (lv_at hl 0 rfl) ?_
        refine lv_dup hx hb dX0_add_14 rfl ?_
        refine va_get (D := gD G) (ci := 0) (C := RX0) (T := TX0) (N := 3) hx hb hts hin_X0 hown hK hP 1 rfl rfl 1 (by decide) fl_15 (fun _ h9 => h9) rfl dX0_add_15 ?_
        refine lv_aload_n hx hb dX0_add_18 rfl (lv_at hl 0 rfl) ?_
        refine va_get (D := gD G) (ci := 0) (C := RX0) (T := TX0) (N := 3) hx hb hts hin_X0 hown hK hP 1 rfl rfl 0 (by decide) fl_9 (fun _ h9 => h9) rfl dX0_add_19 ?_
        refine lv_iload_n hx hb dX0_add_22 rfl (lv_at hl 2 rfl) ?_
        obtain ⟨g5, hf⟩ := kg hf
        refine va_iald hx hb hK hP 2 0 rfl rfl (vin_of g5) dX0_add_23 ?_
        refine lv_iadd hx hb dX0_add_24 ?_
        refine va_put (D := gD G) (ci := 0) (v := .int (this_things_3 + (this_row v2_3.toNatClampNeg))) (ty := .int) (C := RX0) (T := TX0) (N := 3) hx hb hts hin_X0 tyX0 tyX0_ok nmX0 hown hK hP hD hS 1 rfl rfl 1 (by decide) fl_15 (fun _ h9 => h9) rfl (by decide +kernel) rfl rfl (Nat.le_of_ble_eq_true rfl) dX0_add_25 (fun H locs hP hD hS => ?_)
        have hP : va_P (gD G) vwCl (k_X0_add G a_p0 a_this a_this_row p0 (this_things_3 + (this_row v2_3.toNatClampNeg)) this_sum this_row) H := hP
        have hD : va_D A (k_X0_add G a_p0 a_this a_this_row p0 (this_things_3 + (this_row v2_3.toNatClampNeg)) this_sum this_row) := hD
        refine lv_iinc (v := (v2_3 + (1 : Int32))) (lv' := [(2, .int (v2_3 + (1 : Int32))), (0, .ref a_this), (1, .ref a_p0)]) hx hb dX0_add_28 hl (k := 2) rfl rfl (by decide) rfl (fun ls hl => ?_)
        refine lv_goto (tgt := 7) hx hb dX0_add_31 (by decide) ?_
        exact ih (v2_3 + (1 : Int32)) (this_things_3 + (this_row v2_3.toNatClampNeg)) _ _ hP hD hS ls (lv_sub hl [1, 2, 0] rfl) hf
  refine L3 _ (fun v2_1 this_things_1 H locs hP hD hS ls hl hf => ?_) N (0 : Int32) (0 : Int32) _ _ hP hD hS ls (lv_sub hl [1, 2, 0] rfl) hf
  refine lv_aload_n hx hb dX0_add_34 rfl (lv_at hl 0 rfl) ?_
  refine lv_aload_n hx hb dX0_add_35 rfl (lv_at hl 0 rfl) ?_
  refine lv_aload_n hx hb dX0_add_36 rfl (lv_at hl 1 rfl) ?_
  obtain ⟨r2, hr2, hf⟩ := kb hf
  refine kV (As := [.ref a_p0]) (rest := [.ref a_this]) ⟨hx, hb, hml, hown, hts⟩ (c_X0_sumBy l G N a_p0 a_this a_this_row p0 this_things_1 this_sum this_row r2 hr2) (kcV 1 hts tw_706 tw_91 tw_703 tw_705 tw_23 hd_X0_sumBy ⟨Nat.le_of_ble_eq_true rfl, Nat.le_of_ble_eq_true rfl⟩) dX0_add_37 hl.1 hK hAm hA hP hD hS 1 (ci := 0) rfl rfl rfl [0, 1, 2] rfl rfl rfl [] rfl rfl rfl (Nat.le_of_ble_eq_true rfl) ⟨Nat.le_refl _, Nat.le_refl _⟩ (fun H locs hP hD hS => ?_)
  have hP : va_P (gD G) vwCl (k_X0_add G a_p0 a_this a_this_row p0 this_things_1 this_sum this_row) H := hP
  have hD : va_D A (k_X0_add G a_p0 a_this a_this_row p0 this_things_1 this_sum this_row) := hD
  refine va_put (D := gD G) (ci := 0) (v := .int r2) (ty := .int) (C := RX0) (T := TX0) (N := 3) hx hb hts hin_X0 tyX0 tyX0_ok nmX0 hown hK hP hD hS 1 rfl rfl 2 (by decide) fl_19 (fun _ h9 => h9) rfl (by decide +kernel) rfl rfl (Nat.le_of_ble_eq_true rfl) dX0_add_40 (fun H locs hP hD hS => ?_)
  have hP : va_P (gD G) vwCl (k_X0_add G a_p0 a_this a_this_row p0 this_things_1 r2 this_row) H := hP
  have hD : va_D A (k_X0_add G a_p0 a_this a_this_row p0 this_things_1 r2 this_row) := hD
  have ho := ks hf
  subst ho
  exact kvret hx hb hr hlk hP hD hS hQ dX0_add_43
abbrev k_X0_step (G : KG) (a_p0 : Nat) (a_p2 : Nat) (a_this : Nat) (a_this_row : Nat) (p0 : Nat → Int32) (p2 : Nat → Int32) (this_things : Int32) (this_sum : Int32) (this_row : Nat → Int32) : va_W := [(a_p0, .inl (gI G, 8, .inl p0)), (a_p2, .inl (gI G, 8, .inl p2)), (a_this, .inr (0, [.ref a_this_row, .int this_things, .int this_sum])), (a_this_row, .inl (gI G, 8, .inl this_row))]
def f_X0_step_4 (N : Nat) (x2 : Int32) (p0 : Nat → Int32) (p2 : Nat → Int32) (K : Int32 → Int32 → Int32 → (Nat → Int32) → Option (Int32 × (Int32) × (Int32) × (Nat → Int32))) : Nat → Int32 → Int32 → Int32 → (Nat → Int32) → Option (Int32 × (Int32) × (Int32) × (Nat → Int32))
  | 0, _, _, _, _ => none
  | n + 1, y4, this_things_v, this_sum_v, this_row_v => (if y4 < 0 then (K y4 this_things_v this_sum_v this_row_v) else (if vin y4 8 = true then (if vin y4 8 = true then (if (p0 y4.toNatClampNeg) ≤ (this_row_v y4.toNatClampNeg) then (if vin y4 8 = true then (if vin y4 8 = true then (if vin y4 8 = true then (if vin y4 8 = true then (f_X0_step_4 N x2 p0 p2 K n (y4 + (-1 : Int32)) (this_things_v - (this_row_v y4.toNatClampNeg)) (this_sum_v - ((this_row_v y4.toNatClampNeg) * (p2 y4.toNatClampNeg))) (upd this_row_v y4.toNatClampNeg (0 : Int32))) else none) else none) else none) else none) else (if x2 ≤ this_things_v then (if vin y4 8 = true then (if vin y4 8 = true then (if vin y4 8 = true then (if vin y4 8 = true then (f_X0_step_4 N x2 p0 p2 K n (y4 + (-1 : Int32)) (this_things_v - (this_row_v y4.toNatClampNeg)) (this_sum_v - ((this_row_v y4.toNatClampNeg) * (p2 y4.toNatClampNeg))) (upd this_row_v y4.toNatClampNeg (0 : Int32))) else none) else none) else none) else none) else (if vin y4 8 = true then (if vin y4 8 = true then (if vin y4 8 = true then (some ((1 : Int32), (this_things_v + (1 : Int32)), (this_sum_v + (p2 y4.toNatClampNeg)), (upd this_row_v y4.toNatClampNeg ((this_row_v y4.toNatClampNeg) + (1 : Int32))))) else none) else none) else none))) else none) else none))
def f_X0_step (N : Nat) (p1 : Int32) (p0 : Nat → Int32) (p2 : Nat → Int32) (this_things : Int32) (this_sum : Int32) (this_row : Nat → Int32) : Option (Int32 × (Int32) × (Int32) × (Nat → Int32)) := (f_X0_step_4 N p1 p0 p2 (fun v4_17 this_things_17 this_sum_17 this_row_17 => (some ((0 : Int32), this_things_17, this_sum_17, this_row_17))) N (7 : Int32) this_things this_sum this_row)
set_option maxRecDepth 100000 in
set_option maxHeartbeats 4000000 in
theorem c_X0_step (l : Launch) (G : KG) (N : Nat) (a_p0 : Nat) (a_p2 : Nat) (a_this : Nat) (a_this_row : Nat) (p1 : Int32) (p0 : Nat → Int32) (p2 : Nat → Int32) (this_things : Int32) (this_sum : Int32) (this_row : Nat → Int32)  (out : Int32 × (Int32) × (Int32) × (Nat → Int32)) (hf : f_X0_step N p1 p0 p2 this_things this_sum this_row = some out) : KM l G yX0_step (kw yX0_step cX0_step 5 (some .boolean)) 0 0 [.ref a_this, .ref a_p0, .int p1, .ref a_p2] (k_X0_step G a_p0 a_p2 a_this a_this_row p0 p2 this_things this_sum this_row) (k_X0_step G a_p0 a_p2 a_this a_this_row p0 p2 (out.2.1) (out.2.2.1) (out.2.2.2)) (some (.int (out.1))) := by
  refine KM.of (by decide) (Nat.le_of_ble_eq_true rfl) ?_
  intro p e s m below meth c A ls args Q Fx0 hP hK hD hA hS hAm hQ hl
  obtain ⟨hx, hb, hr, hml, hts, hown, hlk, hnm⟩ := Fx0
  have hown : s.vm.findClass RX0 = some m.cls := hown
  have hl : lv_has ls 5 [(0, .ref a_this), (1, .ref a_p0), (2, .int p1), (3, .ref a_p2)] := hl
  have fl_9 := hts _ tw_317
  have fl_15 := hts _ tw_320
  have fl_19 := hts _ tw_323
  unfold f_X0_step at hf
  refine lv_bipush (v := (7 : Int32)) hx hb dX0_step_0 (by decide) ?_
  refine lv_istore (lv' := [(4, .int (7 : Int32)), (0, .ref a_this), (1, .ref a_p0), (2, .int p1), (3, .ref a_p2)]) hx hb dX0_step_2 hl (by decide) rfl (fun ls hl => ?_)
  have L2 : ∀ (K : Int32 → Int32 → Int32 → (Nat → Int32) → Option (Int32 × (Int32) × (Int32) × (Nat → Int32))), (∀ (v4_2 : Int32) (this_things_2 : Int32) (this_sum_2 : Int32) (this_row_2 : Nat → Int32) (H : Heap) (locs : List Loc), va_P (gD G) vwCl (k_X0_step G a_p0 a_p2 a_this a_this_row p0 p2 this_things_2 this_sum_2 this_row_2) H → va_D A (k_X0_step G a_p0 a_p2 a_this a_this_row p0 p2 this_things_2 this_sum_2 this_row_2) → va_S A s.heap H locs → ∀ (ls : Array Slot), lv_has ls 5 [(0, .ref a_this), (1, .ref a_p0), (2, .int p1), (3, .ref a_p2), (4, .int v4_2)] → K v4_2 this_things_2 this_sum_2 this_row_2 = some out → W p l e (kR 0 0 0 0) s m args below meth c H locs 0 0 Q (F0 m 118 ls [])) → ∀ (n : Nat), ∀ (v4_2 : Int32) (this_things_2 : Int32) (this_sum_2 : Int32) (this_row_2 : Nat → Int32) (H : Heap) (locs : List Loc), va_P (gD G) vwCl (k_X0_step G a_p0 a_p2 a_this a_this_row p0 p2 this_things_2 this_sum_2 this_row_2) H → va_D A (k_X0_step G a_p0 a_p2 a_this a_this_row p0 p2 this_things_2 this_sum_2 this_row_2) → va_S A s.heap H locs → ∀ (ls : Array Slot), lv_has ls 5 [(0, .ref a_this), (1, .ref a_p0), (2, .int p1), (3, .ref a_p2), (4, .int v4_2)] → f_X0_step_4 N p1 p0 p2 K n v4_2 this_things_2 this_sum_2 this_row_2 = some out → W p l e (kR 0 0 0 0) s m args below meth c H locs 0 0 Q (F0 m 4 ls []) := by
    intro K hK2 n
    induction n with
    | zero =>
      intro v4_2 this_things_2 this_sum_2 this_row_2 H locs hP hD hS ls hl hf
      rw [f_X0_step_4] at hf
      cases hf
    | succ n ih =>
      intro v4_2 this_things_2 this_sum_2 this_row_2 H locs hP hD hS ls hl hf
      rw [f_X0_step_4] at hf
      refine lv_iload hx hb dX0_step_4 (lv_at hl 4 rfl) ?_
      refine lv_if_lt (tgt := 118) hx hb dX0_step_6 (by decide) (fun c3 => ?_) (fun c3 => ?_)
      · replace hf := kt c3 hf
        exact hK2 v4_2 this_things_2 this_sum_2 this_row_2 _ _ hP hD hS ls (lv_sub hl [0, 1, 2, 3, 4] rfl) hf
      · replace hf := kf c3 hf
        refine lv_aload_n hx hb dX0_step_9 rfl (lv_at hl 0 rfl) ?_
        refine va_get (D := gD G) (ci := 0) (C := RX0) (T := TX0) (N := 3) hx hb hts hin_X0 hown hK hP 2 rfl rfl 0 (by decide) fl_9 (fun _ h9 => h9) rfl dX0_step_10 ?_
        refine lv_iload hx hb dX0_step_13 (lv_at hl 4 rfl) ?_
        obtain ⟨g4, hf⟩ := kg hf
        refine va_iald hx hb hK hP 3 0 rfl rfl (vin_of g4) dX0_step_15 ?_
        refine lv_aload_n hx hb dX0_step_16 rfl (lv_at hl 1 rfl) ?_
        refine lv_iload hx hb dX0_step_17 (lv_at hl 4 rfl) ?_
        obtain ⟨g5, hf⟩ := kg hf
        refine va_iald hx hb hK hP 0 0 rfl rfl (vin_of g5) dX0_step_19 ?_
        refine lv_icmp_ge (tgt := 67) hx hb dX0_step_20 (by decide) (fun c6 => ?_) (fun c6 => ?_)
        · replace hf := kt c6 hf
          refine lv_aload_n hx hb dX0_step_67 rfl (lv_at hl 0 rfl) ?_
          refine lv_dup hx hb dX0_step_68 rfl ?_
          refine va_get (D := gD G) (ci := 0) (C := RX0) (T := TX0) (N := 3) hx hb hts hin_X0 hown hK hP 2 rfl rfl 1 (by decide) fl_15 (fun _ h9 => h9) rfl dX0_step_69 ?_
          refine lv_aload_n hx hb dX0_step_72 rfl (lv_at hl 0 rfl) ?_
          refine va_get (D := gD G) (ci := 0) (C := RX0) (T := TX0) (N := 3) hx hb hts hin_X0 hown hK hP 2 rfl rfl 0 (by decide) fl_9 (fun _ h9 => h9) rfl dX0_step_73 ?_
          refine lv_iload hx hb dX0_step_76 (lv_at hl 4 rfl) ?_
          obtain ⟨g7, hf⟩ := kg hf
          refine va_iald hx hb hK hP 3 0 rfl rfl (vin_of g7) dX0_step_78 ?_
          refine lv_isub hx hb dX0_step_79 ?_
          refine va_put (D := gD G) (ci := 0) (v := .int (this_things_2 - (this_row_2 v4_2.toNatClampNeg))) (ty := .int) (C := RX0) (T := TX0) (N := 3) hx hb hts hin_X0 tyX0 tyX0_ok nmX0 hown hK hP hD hS 2 rfl rfl 1 (by decide) fl_15 (fun _ h9 => h9) rfl (by decide +kernel) rfl rfl (Nat.le_of_ble_eq_true rfl) dX0_step_80 (fun H locs hP hD hS => ?_)
          have hP : va_P (gD G) vwCl (k_X0_step G a_p0 a_p2 a_this a_this_row p0 p2 (this_things_2 - (this_row_2 v4_2.toNatClampNeg)) this_sum_2 this_row_2) H := hP
          have hD : va_D A (k_X0_step G a_p0 a_p2 a_this a_this_row p0 p2 (this_things_2 - (this_row_2 v4_2.toNatClampNeg)) this_sum_2 this_row_2) := hD
          refine lv_aload_n hx hb dX0_step_83 rfl (lv_at hl 0 rfl) ?_
          refine lv_dup hx hb dX0_step_84 rfl ?_
          refine va_get (D := gD G) (ci := 0) (C := RX0) (T := TX0) (N := 3) hx hb hts hin_X0 hown hK hP 2 rfl rfl 2 (by decide) fl_19 (fun _ h9 => h9) rfl dX0_step_85 ?_
          refine lv_aload_n hx hb dX0_step_88 rfl (lv_at hl 0 rfl) ?_
          refine va_get (D := gD G) (ci := 0) (C := RX0) (T := TX0) (N := 3) hx hb hts hin_X0 hown hK hP 2 rfl rfl 0 (by decide) fl_9 (fun _ h9 => h9) rfl dX0_step_89 ?_
          refine lv_iload hx hb dX0_step_92 (lv_at hl 4 rfl) ?_
          obtain ⟨g8, hf⟩ := kg hf
          refine va_iald hx hb hK hP 3 0 rfl rfl (vin_of g8) dX0_step_94 ?_
          refine lv_aload_n hx hb dX0_step_95 rfl (lv_at hl 3 rfl) ?_
          refine lv_iload hx hb dX0_step_96 (lv_at hl 4 rfl) ?_
          obtain ⟨g9, hf⟩ := kg hf
          refine va_iald hx hb hK hP 1 0 rfl rfl (vin_of g9) dX0_step_98 ?_
          refine lv_imul hx hb dX0_step_99 ?_
          refine lv_isub hx hb dX0_step_100 ?_
          refine va_put (D := gD G) (ci := 0) (v := .int (this_sum_2 - ((this_row_2 v4_2.toNatClampNeg) * (p2 v4_2.toNatClampNeg)))) (ty := .int) (C := RX0) (T := TX0) (N := 3) hx hb hts hin_X0 tyX0 tyX0_ok nmX0 hown hK hP hD hS 2 rfl rfl 2 (by decide) fl_19 (fun _ h9 => h9) rfl (by decide +kernel) rfl rfl (Nat.le_of_ble_eq_true rfl) dX0_step_101 (fun H locs hP hD hS => ?_)
          have hP : va_P (gD G) vwCl (k_X0_step G a_p0 a_p2 a_this a_this_row p0 p2 (this_things_2 - (this_row_2 v4_2.toNatClampNeg)) (this_sum_2 - ((this_row_2 v4_2.toNatClampNeg) * (p2 v4_2.toNatClampNeg))) this_row_2) H := hP
          have hD : va_D A (k_X0_step G a_p0 a_p2 a_this a_this_row p0 p2 (this_things_2 - (this_row_2 v4_2.toNatClampNeg)) (this_sum_2 - ((this_row_2 v4_2.toNatClampNeg) * (p2 v4_2.toNatClampNeg))) this_row_2) := hD
          refine lv_aload_n hx hb dX0_step_104 rfl (lv_at hl 0 rfl) ?_
          refine va_get (D := gD G) (ci := 0) (C := RX0) (T := TX0) (N := 3) hx hb hts hin_X0 hown hK hP 2 rfl rfl 0 (by decide) fl_9 (fun _ h9 => h9) rfl dX0_step_105 ?_
          refine lv_iload hx hb dX0_step_108 (lv_at hl 4 rfl) ?_
          refine lv_iconst (v := (0 : Int32)) hx hb dX0_step_110 (by decide) ?_
          obtain ⟨g10, hf⟩ := kg hf
          refine va_iast hx hb hK hP hD hS 3 0 rfl rfl (vin_of g10) dX0_step_111 (fun H locs hP hD hS => ?_)
          have hP : va_P (gD G) vwCl (k_X0_step G a_p0 a_p2 a_this a_this_row p0 p2 (this_things_2 - (this_row_2 v4_2.toNatClampNeg)) (this_sum_2 - ((this_row_2 v4_2.toNatClampNeg) * (p2 v4_2.toNatClampNeg))) (upd this_row_2 v4_2.toNatClampNeg (0 : Int32))) H := hP
          have hD : va_D A (k_X0_step G a_p0 a_p2 a_this a_this_row p0 p2 (this_things_2 - (this_row_2 v4_2.toNatClampNeg)) (this_sum_2 - ((this_row_2 v4_2.toNatClampNeg) * (p2 v4_2.toNatClampNeg))) (upd this_row_2 v4_2.toNatClampNeg (0 : Int32))) := hD
          refine lv_iinc (v := (v4_2 + (-1 : Int32))) (lv' := [(4, .int (v4_2 + (-1 : Int32))), (0, .ref a_this), (1, .ref a_p0), (2, .int p1), (3, .ref a_p2)]) hx hb dX0_step_112 hl (k := 4) rfl rfl (by decide) rfl (fun ls hl => ?_)
          refine lv_goto (tgt := 4) hx hb dX0_step_115 (by decide) ?_
          exact ih (v4_2 + (-1 : Int32)) (this_things_2 - (this_row_2 v4_2.toNatClampNeg)) (this_sum_2 - ((this_row_2 v4_2.toNatClampNeg) * (p2 v4_2.toNatClampNeg))) (upd this_row_2 v4_2.toNatClampNeg (0 : Int32)) _ _ hP hD hS ls (lv_sub hl [1, 2, 3, 4, 0] rfl) hf
        · replace hf := kf c6 hf
          refine lv_aload_n hx hb dX0_step_23 rfl (lv_at hl 0 rfl) ?_
          refine va_get (D := gD G) (ci := 0) (C := RX0) (T := TX0) (N := 3) hx hb hts hin_X0 hown hK hP 2 rfl rfl 1 (by decide) fl_15 (fun _ h9 => h9) rfl dX0_step_24 ?_
          refine lv_iload_n hx hb dX0_step_27 rfl (lv_at hl 2 rfl) ?_
          refine lv_icmp_ge (tgt := 67) hx hb dX0_step_28 (by decide) (fun c11 => ?_) (fun c11 => ?_)
          · replace hf := kt c11 hf
            refine lv_aload_n hx hb dX0_step_67 rfl (lv_at hl 0 rfl) ?_
            refine lv_dup hx hb dX0_step_68 rfl ?_
            refine va_get (D := gD G) (ci := 0) (C := RX0) (T := TX0) (N := 3) hx hb hts hin_X0 hown hK hP 2 rfl rfl 1 (by decide) fl_15 (fun _ h9 => h9) rfl dX0_step_69 ?_
            refine lv_aload_n hx hb dX0_step_72 rfl (lv_at hl 0 rfl) ?_
            refine va_get (D := gD G) (ci := 0) (C := RX0) (T := TX0) (N := 3) hx hb hts hin_X0 hown hK hP 2 rfl rfl 0 (by decide) fl_9 (fun _ h9 => h9) rfl dX0_step_73 ?_
            refine lv_iload hx hb dX0_step_76 (lv_at hl 4 rfl) ?_
            obtain ⟨g12, hf⟩ := kg hf
            refine va_iald hx hb hK hP 3 0 rfl rfl (vin_of g12) dX0_step_78 ?_
            refine lv_isub hx hb dX0_step_79 ?_
            refine va_put (D := gD G) (ci := 0) (v := .int (this_things_2 - (this_row_2 v4_2.toNatClampNeg))) (ty := .int) (C := RX0) (T := TX0) (N := 3) hx hb hts hin_X0 tyX0 tyX0_ok nmX0 hown hK hP hD hS 2 rfl rfl 1 (by decide) fl_15 (fun _ h9 => h9) rfl (by decide +kernel) rfl rfl (Nat.le_of_ble_eq_true rfl) dX0_step_80 (fun H locs hP hD hS => ?_)
            have hP : va_P (gD G) vwCl (k_X0_step G a_p0 a_p2 a_this a_this_row p0 p2 (this_things_2 - (this_row_2 v4_2.toNatClampNeg)) this_sum_2 this_row_2) H := hP
            have hD : va_D A (k_X0_step G a_p0 a_p2 a_this a_this_row p0 p2 (this_things_2 - (this_row_2 v4_2.toNatClampNeg)) this_sum_2 this_row_2) := hD
            refine lv_aload_n hx hb dX0_step_83 rfl (lv_at hl 0 rfl) ?_
            refine lv_dup hx hb dX0_step_84 rfl ?_
            refine va_get (D := gD G) (ci := 0) (C := RX0) (T := TX0) (N := 3) hx hb hts hin_X0 hown hK hP 2 rfl rfl 2 (by decide) fl_19 (fun _ h9 => h9) rfl dX0_step_85 ?_
            refine lv_aload_n hx hb dX0_step_88 rfl (lv_at hl 0 rfl) ?_
            refine va_get (D := gD G) (ci := 0) (C := RX0) (T := TX0) (N := 3) hx hb hts hin_X0 hown hK hP 2 rfl rfl 0 (by decide) fl_9 (fun _ h9 => h9) rfl dX0_step_89 ?_
            refine lv_iload hx hb dX0_step_92 (lv_at hl 4 rfl) ?_
            obtain ⟨g13, hf⟩ := kg hf
            refine va_iald hx hb hK hP 3 0 rfl rfl (vin_of g13) dX0_step_94 ?_
            refine lv_aload_n hx hb dX0_step_95 rfl (lv_at hl 3 rfl) ?_
            refine lv_iload hx hb dX0_step_96 (lv_at hl 4 rfl) ?_
            obtain ⟨g14, hf⟩ := kg hf
            refine va_iald hx hb hK hP 1 0 rfl rfl (vin_of g14) dX0_step_98 ?_
            refine lv_imul hx hb dX0_step_99 ?_
            refine lv_isub hx hb dX0_step_100 ?_
            refine va_put (D := gD G) (ci := 0) (v := .int (this_sum_2 - ((this_row_2 v4_2.toNatClampNeg) * (p2 v4_2.toNatClampNeg)))) (ty := .int) (C := RX0) (T := TX0) (N := 3) hx hb hts hin_X0 tyX0 tyX0_ok nmX0 hown hK hP hD hS 2 rfl rfl 2 (by decide) fl_19 (fun _ h9 => h9) rfl (by decide +kernel) rfl rfl (Nat.le_of_ble_eq_true rfl) dX0_step_101 (fun H locs hP hD hS => ?_)
            have hP : va_P (gD G) vwCl (k_X0_step G a_p0 a_p2 a_this a_this_row p0 p2 (this_things_2 - (this_row_2 v4_2.toNatClampNeg)) (this_sum_2 - ((this_row_2 v4_2.toNatClampNeg) * (p2 v4_2.toNatClampNeg))) this_row_2) H := hP
            have hD : va_D A (k_X0_step G a_p0 a_p2 a_this a_this_row p0 p2 (this_things_2 - (this_row_2 v4_2.toNatClampNeg)) (this_sum_2 - ((this_row_2 v4_2.toNatClampNeg) * (p2 v4_2.toNatClampNeg))) this_row_2) := hD
            refine lv_aload_n hx hb dX0_step_104 rfl (lv_at hl 0 rfl) ?_
            refine va_get (D := gD G) (ci := 0) (C := RX0) (T := TX0) (N := 3) hx hb hts hin_X0 hown hK hP 2 rfl rfl 0 (by decide) fl_9 (fun _ h9 => h9) rfl dX0_step_105 ?_
            refine lv_iload hx hb dX0_step_108 (lv_at hl 4 rfl) ?_
            refine lv_iconst (v := (0 : Int32)) hx hb dX0_step_110 (by decide) ?_
            obtain ⟨g15, hf⟩ := kg hf
            refine va_iast hx hb hK hP hD hS 3 0 rfl rfl (vin_of g15) dX0_step_111 (fun H locs hP hD hS => ?_)
            have hP : va_P (gD G) vwCl (k_X0_step G a_p0 a_p2 a_this a_this_row p0 p2 (this_things_2 - (this_row_2 v4_2.toNatClampNeg)) (this_sum_2 - ((this_row_2 v4_2.toNatClampNeg) * (p2 v4_2.toNatClampNeg))) (upd this_row_2 v4_2.toNatClampNeg (0 : Int32))) H := hP
            have hD : va_D A (k_X0_step G a_p0 a_p2 a_this a_this_row p0 p2 (this_things_2 - (this_row_2 v4_2.toNatClampNeg)) (this_sum_2 - ((this_row_2 v4_2.toNatClampNeg) * (p2 v4_2.toNatClampNeg))) (upd this_row_2 v4_2.toNatClampNeg (0 : Int32))) := hD
            refine lv_iinc (v := (v4_2 + (-1 : Int32))) (lv' := [(4, .int (v4_2 + (-1 : Int32))), (0, .ref a_this), (1, .ref a_p0), (2, .int p1), (3, .ref a_p2)]) hx hb dX0_step_112 hl (k := 4) rfl rfl (by decide) rfl (fun ls hl => ?_)
            refine lv_goto (tgt := 4) hx hb dX0_step_115 (by decide) ?_
            exact ih (v4_2 + (-1 : Int32)) (this_things_2 - (this_row_2 v4_2.toNatClampNeg)) (this_sum_2 - ((this_row_2 v4_2.toNatClampNeg) * (p2 v4_2.toNatClampNeg))) (upd this_row_2 v4_2.toNatClampNeg (0 : Int32)) _ _ hP hD hS ls (lv_sub hl [1, 2, 3, 4, 0] rfl) hf
          · replace hf := kf c11 hf
            refine lv_aload_n hx hb dX0_step_31 rfl (lv_at hl 0 rfl) ?_
            refine va_get (D := gD G) (ci := 0) (C := RX0) (T := TX0) (N := 3) hx hb hts hin_X0 hown hK hP 2 rfl rfl 0 (by decide) fl_9 (fun _ h9 => h9) rfl dX0_step_32 ?_
            refine lv_iload hx hb dX0_step_35 (lv_at hl 4 rfl) ?_
            refine lv_dup2_11 hx hb dX0_step_37 rfl rfl ?_
            obtain ⟨g16, hf⟩ := kg hf
            refine va_iald hx hb hK hP 3 0 rfl rfl (vin_of g16) dX0_step_38 ?_
            refine lv_iconst (v := (1 : Int32)) hx hb dX0_step_39 (by decide) ?_
            refine lv_iadd hx hb dX0_step_40 ?_
            obtain ⟨g17, hf⟩ := kg hf
            refine va_iast hx hb hK hP hD hS 3 0 rfl rfl (vin_of g17) dX0_step_41 (fun H locs hP hD hS => ?_)
            have hP : va_P (gD G) vwCl (k_X0_step G a_p0 a_p2 a_this a_this_row p0 p2 this_things_2 this_sum_2 (upd this_row_2 v4_2.toNatClampNeg ((this_row_2 v4_2.toNatClampNeg) + (1 : Int32)))) H := hP
            have hD : va_D A (k_X0_step G a_p0 a_p2 a_this a_this_row p0 p2 this_things_2 this_sum_2 (upd this_row_2 v4_2.toNatClampNeg ((this_row_2 v4_2.toNatClampNeg) + (1 : Int32)))) := hD
            refine lv_aload_n hx hb dX0_step_42 rfl (lv_at hl 0 rfl) ?_
            refine lv_dup hx hb dX0_step_43 rfl ?_
            refine va_get (D := gD G) (ci := 0) (C := RX0) (T := TX0) (N := 3) hx hb hts hin_X0 hown hK hP 2 rfl rfl 1 (by decide) fl_15 (fun _ h9 => h9) rfl dX0_step_44 ?_
            refine lv_iconst (v := (1 : Int32)) hx hb dX0_step_47 (by decide) ?_
            refine lv_iadd hx hb dX0_step_48 ?_
            refine va_put (D := gD G) (ci := 0) (v := .int (this_things_2 + (1 : Int32))) (ty := .int) (C := RX0) (T := TX0) (N := 3) hx hb hts hin_X0 tyX0 tyX0_ok nmX0 hown hK hP hD hS 2 rfl rfl 1 (by decide) fl_15 (fun _ h9 => h9) rfl (by decide +kernel) rfl rfl (Nat.le_of_ble_eq_true rfl) dX0_step_49 (fun H locs hP hD hS => ?_)
            have hP : va_P (gD G) vwCl (k_X0_step G a_p0 a_p2 a_this a_this_row p0 p2 (this_things_2 + (1 : Int32)) this_sum_2 (upd this_row_2 v4_2.toNatClampNeg ((this_row_2 v4_2.toNatClampNeg) + (1 : Int32)))) H := hP
            have hD : va_D A (k_X0_step G a_p0 a_p2 a_this a_this_row p0 p2 (this_things_2 + (1 : Int32)) this_sum_2 (upd this_row_2 v4_2.toNatClampNeg ((this_row_2 v4_2.toNatClampNeg) + (1 : Int32)))) := hD
            refine lv_aload_n hx hb dX0_step_52 rfl (lv_at hl 0 rfl) ?_
            refine lv_dup hx hb dX0_step_53 rfl ?_
            refine va_get (D := gD G) (ci := 0) (C := RX0) (T := TX0) (N := 3) hx hb hts hin_X0 hown hK hP 2 rfl rfl 2 (by decide) fl_19 (fun _ h9 => h9) rfl dX0_step_54 ?_
            refine lv_aload_n hx hb dX0_step_57 rfl (lv_at hl 3 rfl) ?_
            refine lv_iload hx hb dX0_step_58 (lv_at hl 4 rfl) ?_
            obtain ⟨g18, hf⟩ := kg hf
            refine va_iald hx hb hK hP 1 0 rfl rfl (vin_of g18) dX0_step_60 ?_
            refine lv_iadd hx hb dX0_step_61 ?_
            refine va_put (D := gD G) (ci := 0) (v := .int (this_sum_2 + (p2 v4_2.toNatClampNeg))) (ty := .int) (C := RX0) (T := TX0) (N := 3) hx hb hts hin_X0 tyX0 tyX0_ok nmX0 hown hK hP hD hS 2 rfl rfl 2 (by decide) fl_19 (fun _ h9 => h9) rfl (by decide +kernel) rfl rfl (Nat.le_of_ble_eq_true rfl) dX0_step_62 (fun H locs hP hD hS => ?_)
            have hP : va_P (gD G) vwCl (k_X0_step G a_p0 a_p2 a_this a_this_row p0 p2 (this_things_2 + (1 : Int32)) (this_sum_2 + (p2 v4_2.toNatClampNeg)) (upd this_row_2 v4_2.toNatClampNeg ((this_row_2 v4_2.toNatClampNeg) + (1 : Int32)))) H := hP
            have hD : va_D A (k_X0_step G a_p0 a_p2 a_this a_this_row p0 p2 (this_things_2 + (1 : Int32)) (this_sum_2 + (p2 v4_2.toNatClampNeg)) (upd this_row_2 v4_2.toNatClampNeg ((this_row_2 v4_2.toNatClampNeg) + (1 : Int32)))) := hD
            refine lv_iconst (v := (1 : Int32)) hx hb dX0_step_65 (by decide) ?_
            have ho := ks hf
            subst ho
            exact kzret hx hb hr (Or.inr rfl) hlk hP hD hS hQ dX0_step_66
  refine L2 _ (fun v4_1 this_things_1 this_sum_1 this_row_1 H locs hP hD hS ls hl hf => ?_) N (7 : Int32) this_things this_sum this_row _ _ hP hD hS ls (lv_sub hl [1, 2, 3, 4, 0] rfl) hf
  refine lv_iconst (v := (0 : Int32)) hx hb dX0_step_118 (by decide) ?_
  have ho := ks hf
  subst ho
  exact kzret hx hb hr (Or.inl rfl) hlk hP hD hS hQ dX0_step_119
abbrev k_X0_rowAsNumber (G : KG) (a_this : Nat) (a_this_row : Nat) (this_things : Int32) (this_sum : Int32) (this_row : Nat → Int32) : va_W := [(a_this, .inr (0, [.ref a_this_row, .int this_things, .int this_sum])), (a_this_row, .inl (gI G, 8, .inl this_row))]
def f_X0_rowAsNumber_4 (N : Nat) (this_row : Nat → Int32) (K : Int32 → Int32 → Option (Int32)) : Nat → Int32 → Int32 → Option (Int32)
  | 0, _, _ => none
  | n + 1, y1, y2 => (if (8 : Int32) ≤ y2 then (K y1 y2) else (if vin y2 8 = true then (f_X0_rowAsNumber_4 N this_row K n (((10 : Int32) * y1) + (this_row y2.toNatClampNeg)) (y2 + (1 : Int32))) else none))
def f_X0_rowAsNumber (N : Nat) (this_row : Nat → Int32) : Option (Int32) := (f_X0_rowAsNumber_4 N this_row (fun v1_3 v2_3 => (some v1_3)) N (0 : Int32) (0 : Int32))
set_option maxRecDepth 100000 in
set_option maxHeartbeats 4000000 in
theorem c_X0_rowAsNumber (l : Launch) (G : KG) (N : Nat) (a_this : Nat) (a_this_row : Nat) (this_things : Int32) (this_sum : Int32) (this_row : Nat → Int32)  (out : Int32) (hf : f_X0_rowAsNumber N this_row = some out) : KM l G yX0_rowAsNumber (kw yX0_rowAsNumber cX0_rowAsNumber 3 (some .int)) 0 0 [.ref a_this] (k_X0_rowAsNumber G a_this a_this_row this_things this_sum this_row) (k_X0_rowAsNumber G a_this a_this_row this_things this_sum this_row) (some (.int out)) := by
  refine KM.of (by decide) (Nat.le_of_ble_eq_true rfl) ?_
  intro p e s m below meth c A ls args Q Fx0 hP hK hD hA hS hAm hQ hl
  obtain ⟨hx, hb, hr, hml, hts, hown, hlk, hnm⟩ := Fx0
  have hown : s.vm.findClass RX0 = some m.cls := hown
  have hl : lv_has ls 3 [(0, .ref a_this)] := hl
  have fl_9 := hts _ tw_317
  unfold f_X0_rowAsNumber at hf
  refine lv_iconst (v := (0 : Int32)) hx hb dX0_rowAsNumber_0 (by decide) ?_
  refine lv_istore_n (lv' := [(1, .int (0 : Int32)), (0, .ref a_this)]) hx hb dX0_rowAsNumber_1 rfl hl (by decide) rfl (fun ls hl => ?_)
  refine lv_iconst (v := (0 : Int32)) hx hb dX0_rowAsNumber_2 (by decide) ?_
  refine lv_istore_n (lv' := [(2, .int (0 : Int32)), (1, .int (0 : Int32)), (0, .ref a_this)]) hx hb dX0_rowAsNumber_3 rfl hl (by decide) rfl (fun ls hl => ?_)
  have L2 : ∀ (K : Int32 → Int32 → Option (Int32)), (∀ (v1_2 : Int32) (v2_2 : Int32) (H : Heap) (locs : List Loc), va_P (gD G) vwCl (k_X0_rowAsNumber G a_this a_this_row this_things this_sum this_row) H → va_D A (k_X0_rowAsNumber G a_this a_this_row this_things this_sum this_row) → va_S A s.heap H locs → ∀ (ls : Array Slot), lv_has ls 3 [(0, .ref a_this), (1, .int v1_2), (2, .int v2_2)] → K v1_2 v2_2 = some out → W p l e (kR 0 0 0 0) s m args below meth c H locs 0 0 Q (F0 m 28 ls [])) → ∀ (n : Nat), ∀ (v1_2 : Int32) (v2_2 : Int32) (H : Heap) (locs : List Loc), va_P (gD G) vwCl (k_X0_rowAsNumber G a_this a_this_row this_things this_sum this_row) H → va_D A (k_X0_rowAsNumber G a_this a_this_row this_things this_sum this_row) → va_S A s.heap H locs → ∀ (ls : Array Slot), lv_has ls 3 [(0, .ref a_this), (1, .int v1_2), (2, .int v2_2)] → f_X0_rowAsNumber_4 N this_row K n v1_2 v2_2 = some out → W p l e (kR 0 0 0 0) s m args below meth c H locs 0 0 Q (F0 m 4 ls []) := by
    intro K hK2 n
    induction n with
    | zero =>
      intro v1_2 v2_2 H locs hP hD hS ls hl hf
      rw [f_X0_rowAsNumber_4] at hf
      cases hf
    | succ n ih =>
      intro v1_2 v2_2 H locs hP hD hS ls hl hf
      rw [f_X0_rowAsNumber_4] at hf
      refine lv_iload_n hx hb dX0_rowAsNumber_4 rfl (lv_at hl 2 rfl) ?_
      refine lv_bipush (v := (8 : Int32)) hx hb dX0_rowAsNumber_5 (by decide) ?_
      refine lv_icmp_ge (tgt := 28) hx hb dX0_rowAsNumber_7 (by decide) (fun c3 => ?_) (fun c3 => ?_)
      · replace hf := kt c3 hf
        exact hK2 v1_2 v2_2 _ _ hP hD hS ls (lv_sub hl [0, 1, 2] rfl) hf
      · replace hf := kf c3 hf
        refine lv_bipush (v := (10 : Int32)) hx hb dX0_rowAsNumber_10 (by decide) ?_
        refine lv_iload_n hx hb dX0_rowAsNumber_12 rfl (lv_at hl 1 rfl) ?_
        refine lv_imul hx hb dX0_rowAsNumber_13 ?_
        refine lv_aload_n hx hb dX0_rowAsNumber_14 rfl (lv_at hl 0 rfl) ?_
        refine va_get (D := gD G) (ci := 0) (C := RX0) (T := TX0) (N := 3) hx hb hts hin_X0 hown hK hP 0 rfl rfl 0 (by decide) fl_9 (fun _ h9 => h9) rfl dX0_rowAsNumber_15 ?_
        refine lv_iload_n hx hb dX0_rowAsNumber_18 rfl (lv_at hl 2 rfl) ?_
        obtain ⟨g4, hf⟩ := kg hf
        refine va_iald hx hb hK hP 1 0 rfl rfl (vin_of g4) dX0_rowAsNumber_19 ?_
        refine lv_iadd hx hb dX0_rowAsNumber_20 ?_
        refine lv_istore_n (lv' := [(1, .int (((10 : Int32) * v1_2) + (this_row v2_2.toNatClampNeg))), (0, .ref a_this), (2, .int v2_2)]) hx hb dX0_rowAsNumber_21 rfl hl (by decide) rfl (fun ls hl => ?_)
        refine lv_iinc (v := (v2_2 + (1 : Int32))) (lv' := [(2, .int (v2_2 + (1 : Int32))), (1, .int (((10 : Int32) * v1_2) + (this_row v2_2.toNatClampNeg))), (0, .ref a_this)]) hx hb dX0_rowAsNumber_22 hl (k := 2) rfl rfl (by decide) rfl (fun ls hl => ?_)
        refine lv_goto (tgt := 4) hx hb dX0_rowAsNumber_25 (by decide) ?_
        exact ih (((10 : Int32) * v1_2) + (this_row v2_2.toNatClampNeg)) (v2_2 + (1 : Int32)) _ _ hP hD hS ls (lv_sub hl [2, 1, 0] rfl) hf
  refine L2 _ (fun v1_1 v2_1 H locs hP hD hS ls hl hf => ?_) N (0 : Int32) (0 : Int32) _ _ hP hD hS ls (lv_sub hl [2, 1, 0] rfl) hf
  refine lv_iload_n hx hb dX0_rowAsNumber_28 rfl (lv_at hl 1 rfl) ?_
  have ho := ks hf
  subst ho
  exact kiret hx hb hr hlk hP hD hS hQ dX0_rowAsNumber_29
abbrev k_X4_isTold (G : KG) (a_this : Nat) (a_this_names : Nat) (a_this_code : Nat) (a_this_stack : Nat) (a_this_bytes : Nat) (a_this_draft : Nat) (this_length : Int32) (this_drafted : Int32) (this_end : Int32) (this_place : Int32) (this_failed : Int32) : va_W := [(a_this, .inr (4, [.ref a_this_names, .ref a_this_code, .int this_length, .ref a_this_stack, .ref a_this_bytes, .ref a_this_draft, .int this_drafted, .int this_end, .int this_place, .int this_failed]))]
def f_X4_isTold (N : Nat) (this_length : Int32) : Option (Int32) := (if this_length ≤ 0 then (some (0 : Int32)) else (some (1 : Int32)))
set_option maxRecDepth 100000 in
set_option maxHeartbeats 4000000 in
theorem c_X4_isTold (l : Launch) (G : KG) (N : Nat) (a_this : Nat) (a_this_names : Nat) (a_this_code : Nat) (a_this_stack : Nat) (a_this_bytes : Nat) (a_this_draft : Nat) (this_length : Int32) (this_drafted : Int32) (this_end : Int32) (this_place : Int32) (this_failed : Int32)  (out : Int32) (hf : f_X4_isTold N this_length = some out) : KM l G yX4_isTold (kw yX4_isTold cX4_isTold 1 (some .boolean)) 0 0 [.ref a_this] (k_X4_isTold G a_this a_this_names a_this_code a_this_stack a_this_bytes a_this_draft this_length this_drafted this_end this_place this_failed) (k_X4_isTold G a_this a_this_names a_this_code a_this_stack a_this_bytes a_this_draft this_length this_drafted this_end this_place this_failed) (some (.int out)) := by
  refine KM.of (by decide) (Nat.le_of_ble_eq_true rfl) ?_
  intro p e s m below meth c A ls args Q Fx0 hP hK hD hA hS hAm hQ hl
  obtain ⟨hx, hb, hr, hml, hts, hown, hlk, hnm⟩ := Fx0
  have hown : s.vm.findClass RX4 = some m.cls := hown
  have hl : lv_has ls 1 [(0, .ref a_this)] := hl
  have fl_15 := hts _ tw_126
  unfold f_X4_isTold at hf
  refine lv_aload_n hx hb dX4_isTold_0 rfl (lv_at hl 0 rfl) ?_
  refine va_get (D := gD G) (ci := 4) (C := RX4) (T := TX4) (N := 10) hx hb hts hin_X4 hown hK hP 0 rfl rfl 2 (by decide) fl_15 (fun _ h9 => h9) rfl dX4_isTold_1 ?_
  refine lv_if_le (tgt := 11) hx hb dX4_isTold_4 (by decide) (fun c1 => ?_) (fun c1 => ?_)
  · replace hf := kt c1 hf
    refine lv_iconst (v := (0 : Int32)) hx hb dX4_isTold_11 (by decide) ?_
    have ho := ks hf
    subst ho
    exact kzret hx hb hr (Or.inl rfl) hlk hP hD hS hQ dX4_isTold_12
  · replace hf := kf c1 hf
    refine lv_iconst (v := (1 : Int32)) hx hb dX4_isTold_7 (by decide) ?_
    refine lv_goto (tgt := 12) hx hb dX4_isTold_8 (by decide) ?_
    have ho := ks hf
    subst ho
    exact kzret hx hb hr (Or.inr rfl) hlk hP hD hS hQ dX4_isTold_12
abbrev k_X4_become (G : KG) (a_p0 : Nat) (a_p0_names : Nat) (a_p0_code : Nat) (a_p0_stack : Nat) (a_p0_bytes : Nat) (a_p0_draft : Nat) (a_this : Nat) (a_this_names : Nat) (a_this_code : Nat) (a_this_stack : Nat) (a_this_bytes : Nat) (a_this_draft : Nat) (p0_length : Int32) (p0_drafted : Int32) (p0_end : Int32) (p0_place : Int32) (p0_failed : Int32) (p0_code : Nat → Int32) (this_length : Int32) (this_drafted : Int32) (this_end : Int32) (this_place : Int32) (this_failed : Int32) (this_code : Nat → Int32) : va_W := [(a_p0, .inr (4, [.ref a_p0_names, .ref a_p0_code, .int p0_length, .ref a_p0_stack, .ref a_p0_bytes, .ref a_p0_draft, .int p0_drafted, .int p0_end, .int p0_place, .int p0_failed])), (a_p0_code, .inl (gI G, 60, .inl p0_code)), (a_this, .inr (4, [.ref a_this_names, .ref a_this_code, .int this_length, .ref a_this_stack, .ref a_this_bytes, .ref a_this_draft, .int this_drafted, .int this_end, .int this_place, .int this_failed])), (a_this_code, .inl (gI G, 60, .inl this_code))]
def f_X4_become (N : Nat) (p0_length : Int32) (p0_code : Nat → Int32) (this_length : Int32) (this_code : Nat → Int32) : Option ((Int32) × (Nat → Int32)) := (if ¬ (0 : Int32) < 0 ∧ ¬ (0 : Int32) < 0 ∧ ¬ (60 : Int32) < 0 ∧ (0 : Int32).toNatClampNeg + (60 : Int32).toNatClampNeg ≤ 60 ∧ (0 : Int32).toNatClampNeg + (60 : Int32).toNatClampNeg ≤ 60 then (some (p0_length, (va_cpy p0_code this_code (0 : Int32).toNatClampNeg (0 : Int32).toNatClampNeg (60 : Int32).toNatClampNeg))) else none)
set_option maxRecDepth 100000 in
set_option maxHeartbeats 4000000 in
theorem c_X4_become (l : Launch) (G : KG) (N : Nat) (a_p0 : Nat) (a_p0_names : Nat) (a_p0_code : Nat) (a_p0_stack : Nat) (a_p0_bytes : Nat) (a_p0_draft : Nat) (a_this : Nat) (a_this_names : Nat) (a_this_code : Nat) (a_this_stack : Nat) (a_this_bytes : Nat) (a_this_draft : Nat) (p0_length : Int32) (p0_drafted : Int32) (p0_end : Int32) (p0_place : Int32) (p0_failed : Int32) (p0_code : Nat → Int32) (this_length : Int32) (this_drafted : Int32) (this_end : Int32) (this_place : Int32) (this_failed : Int32) (this_code : Nat → Int32)  (out : (Int32) × (Nat → Int32)) (hf : f_X4_become N p0_length p0_code this_length this_code = some out) : KM l G yX4_become (kw yX4_become cX4_become 2 none) 1 60 [.ref a_this, .ref a_p0] (k_X4_become G a_p0 a_p0_names a_p0_code a_p0_stack a_p0_bytes a_p0_draft a_this a_this_names a_this_code a_this_stack a_this_bytes a_this_draft p0_length p0_drafted p0_end p0_place p0_failed p0_code this_length this_drafted this_end this_place this_failed this_code) (k_X4_become G a_p0 a_p0_names a_p0_code a_p0_stack a_p0_bytes a_p0_draft a_this a_this_names a_this_code a_this_stack a_this_bytes a_this_draft p0_length p0_drafted p0_end p0_place p0_failed p0_code (out.1) this_drafted this_end this_place this_failed (out.2)) none := by
  refine KM.of (by decide) (Nat.le_of_ble_eq_true rfl) ?_
  intro p e s m below meth c A ls args Q Fx0 hP hK hD hA hS hAm hQ hl
  obtain ⟨hx, hb, hr, hml, hts, hown, hlk, hnm⟩ := Fx0
  have hown : s.vm.findClass RX4 = some m.cls := hown
  have hl : lv_has ls 2 [(0, .ref a_this), (1, .ref a_p0)] := hl
  have fl_9 := hts _ tw_125
  have fl_15 := hts _ tw_126
  unfold f_X4_become at hf
  refine lv_aload_n hx hb dX4_become_0 rfl (lv_at hl 1 rfl) ?_
  refine va_get (D := gD G) (ci := 4) (C := RX4) (T := TX4) (N := 10) hx hb hts hin_X4 hown hK hP 0 rfl rfl 1 (by decide) fl_9 (fun _ h9 => h9) rfl dX4_become_1 ?_
  refine lv_iconst (v := (0 : Int32)) hx hb dX4_become_4 (by decide) ?_
  refine lv_aload_n hx hb dX4_become_5 rfl (lv_at hl 0 rfl) ?_
  refine va_get (D := gD G) (ci := 4) (C := RX4) (T := TX4) (N := 10) hx hb hts hin_X4 hown hK hP 2 rfl rfl 1 (by decide) fl_9 (fun _ h9 => h9) rfl dX4_become_6 ?_
  refine lv_iconst (v := (0 : Int32)) hx hb dX4_become_9 (by decide) ?_
  refine lv_bipush (v := (60 : Int32)) hx hb dX4_become_10 (by decide) ?_
  obtain ⟨g1, hf⟩ := kg hf
  refine va_copyi hx hb (hml.trans hl.1.symm) hown (hts _ tw_573) (hts _ tw_575) (hts _ tw_574) (hts _ tw_94) hK hP hD hS 1 3 0 0 (ty := .int) rfl rfl rfl rfl rfl g1.1 g1.2.1 g1.2.2.1 g1.2.2.2.1 g1.2.2.2.2 (fun _ _ => rfl) (Nat.le_of_ble_eq_true rfl) (Nat.le_of_ble_eq_true rfl) dX4_become_12 (fun H locs hP hD hS => ?_)
  have hP : va_P (gD G) vwCl (k_X4_become G a_p0 a_p0_names a_p0_code a_p0_stack a_p0_bytes a_p0_draft a_this a_this_names a_this_code a_this_stack a_this_bytes a_this_draft p0_length p0_drafted p0_end p0_place p0_failed p0_code this_length this_drafted this_end this_place this_failed (va_cpy p0_code this_code (0 : Int32).toNatClampNeg (0 : Int32).toNatClampNeg (60 : Int32).toNatClampNeg)) H := hP
  have hD : va_D A (k_X4_become G a_p0 a_p0_names a_p0_code a_p0_stack a_p0_bytes a_p0_draft a_this a_this_names a_this_code a_this_stack a_this_bytes a_this_draft p0_length p0_drafted p0_end p0_place p0_failed p0_code this_length this_drafted this_end this_place this_failed (va_cpy p0_code this_code (0 : Int32).toNatClampNeg (0 : Int32).toNatClampNeg (60 : Int32).toNatClampNeg)) := hD
  refine lv_aload_n hx hb dX4_become_15 rfl (lv_at hl 0 rfl) ?_
  refine lv_aload_n hx hb dX4_become_16 rfl (lv_at hl 1 rfl) ?_
  refine va_get (D := gD G) (ci := 4) (C := RX4) (T := TX4) (N := 10) hx hb hts hin_X4 hown hK hP 0 rfl rfl 2 (by decide) fl_15 (fun _ h9 => h9) rfl dX4_become_17 ?_
  refine va_put (D := gD G) (ci := 4) (v := .int p0_length) (ty := .int) (C := RX4) (T := TX4) (N := 10) hx hb hts hin_X4 tyX4 tyX4_ok nmX4 hown hK hP hD hS 2 rfl rfl 2 (by decide) fl_15 (fun _ h9 => h9) rfl (by decide +kernel) rfl rfl (Nat.le_of_ble_eq_true rfl) dX4_become_20 (fun H locs hP hD hS => ?_)
  have hP : va_P (gD G) vwCl (k_X4_become G a_p0 a_p0_names a_p0_code a_p0_stack a_p0_bytes a_p0_draft a_this a_this_names a_this_code a_this_stack a_this_bytes a_this_draft p0_length p0_drafted p0_end p0_place p0_failed p0_code p0_length this_drafted this_end this_place this_failed (va_cpy p0_code this_code (0 : Int32).toNatClampNeg (0 : Int32).toNatClampNeg (60 : Int32).toNatClampNeg)) H := hP
  have hD : va_D A (k_X4_become G a_p0 a_p0_names a_p0_code a_p0_stack a_p0_bytes a_p0_draft a_this a_this_names a_this_code a_this_stack a_this_bytes a_this_draft p0_length p0_drafted p0_end p0_place p0_failed p0_code p0_length this_drafted this_end this_place this_failed (va_cpy p0_code this_code (0 : Int32).toNatClampNeg (0 : Int32).toNatClampNeg (60 : Int32).toNatClampNeg)) := hD
  have ho := ks hf
  subst ho
  exact kvret hx hb hr hlk hP hD hS hQ dX4_become_23
abbrev k_X4_next (G : KG) (a_this : Nat) (a_this_names : Nat) (a_this_code : Nat) (a_this_stack : Nat) (a_this_bytes : Nat) (a_this_draft : Nat) (this_length : Int32) (this_drafted : Int32) (this_end : Int32) (this_place : Int32) (this_failed : Int32) (this_bytes : Nat → Int32) : va_W := [(a_this, .inr (4, [.ref a_this_names, .ref a_this_code, .int this_length, .ref a_this_stack, .ref a_this_bytes, .ref a_this_draft, .int this_drafted, .int this_end, .int this_place, .int this_failed])), (a_this_bytes, .inl (gI G, 60, .inl this_bytes))]
def f_X4_next (N : Nat) (this_end : Int32) (this_place : Int32) (this_failed : Int32) (this_bytes : Nat → Int32) : Option (Int32) := (if this_failed = 0 then (if this_place < this_end then (if vin this_place 60 = true then (some (this_bytes this_place.toNatClampNeg)) else none) else (some (-1 : Int32))) else (some (-1 : Int32)))
set_option maxRecDepth 100000 in
set_option maxHeartbeats 4000000 in
theorem c_X4_next (l : Launch) (G : KG) (N : Nat) (a_this : Nat) (a_this_names : Nat) (a_this_code : Nat) (a_this_stack : Nat) (a_this_bytes : Nat) (a_this_draft : Nat) (this_length : Int32) (this_drafted : Int32) (this_end : Int32) (this_place : Int32) (this_failed : Int32) (this_bytes : Nat → Int32)  (out : Int32) (hf : f_X4_next N this_end this_place this_failed this_bytes = some out) : KM l G yX4_next (kw yX4_next cX4_next 1 (some .int)) 0 0 [.ref a_this] (k_X4_next G a_this a_this_names a_this_code a_this_stack a_this_bytes a_this_draft this_length this_drafted this_end this_place this_failed this_bytes) (k_X4_next G a_this a_this_names a_this_code a_this_stack a_this_bytes a_this_draft this_length this_drafted this_end this_place this_failed this_bytes) (some (.int out)) := by
  refine KM.of (by decide) (Nat.le_of_ble_eq_true rfl) ?_
  intro p e s m below meth c A ls args Q Fx0 hP hK hD hA hS hAm hQ hl
  obtain ⟨hx, hb, hr, hml, hts, hown, hlk, hnm⟩ := Fx0
  have hown : s.vm.findClass RX4 = some m.cls := hown
  have hl : lv_has ls 1 [(0, .ref a_this)] := hl
  have fl_37 := hts _ tw_134
  have fl_34 := hts _ tw_133
  have fl_31 := hts _ tw_132
  have fl_22 := hts _ tw_129
  unfold f_X4_next at hf
  refine lv_aload_n hx hb dX4_next_0 rfl (lv_at hl 0 rfl) ?_
  refine va_get (D := gD G) (ci := 4) (C := RX4) (T := TX4) (N := 10) hx hb hts hin_X4 hown hK hP 0 rfl rfl 9 (by decide) fl_37 (fun _ h9 => h9) rfl dX4_next_1 ?_
  refine lv_if_ne (tgt := 18) hx hb dX4_next_4 (by decide) (fun c1 => ?_) (fun c1 => ?_)
  · replace hf := kf c1 hf
    refine lv_iconst (v := (-1 : Int32)) hx hb dX4_next_18 (by decide) ?_
    refine lv_goto (tgt := 31) hx hb dX4_next_19 (by decide) ?_
    have ho := ks hf
    subst ho
    exact kiret hx hb hr hlk hP hD hS hQ dX4_next_31
  · replace hf := kt c1 hf
    refine lv_aload_n hx hb dX4_next_7 rfl (lv_at hl 0 rfl) ?_
    refine va_get (D := gD G) (ci := 4) (C := RX4) (T := TX4) (N := 10) hx hb hts hin_X4 hown hK hP 0 rfl rfl 8 (by decide) fl_34 (fun _ h9 => h9) rfl dX4_next_8 ?_
    refine lv_aload_n hx hb dX4_next_11 rfl (lv_at hl 0 rfl) ?_
    refine va_get (D := gD G) (ci := 4) (C := RX4) (T := TX4) (N := 10) hx hb hts hin_X4 hown hK hP 0 rfl rfl 7 (by decide) fl_31 (fun _ h9 => h9) rfl dX4_next_12 ?_
    refine lv_icmp_lt (tgt := 22) hx hb dX4_next_15 (by decide) (fun c2 => ?_) (fun c2 => ?_)
    · replace hf := kt c2 hf
      refine lv_aload_n hx hb dX4_next_22 rfl (lv_at hl 0 rfl) ?_
      refine va_get (D := gD G) (ci := 4) (C := RX4) (T := TX4) (N := 10) hx hb hts hin_X4 hown hK hP 0 rfl rfl 4 (by decide) fl_22 (fun _ h9 => h9) rfl dX4_next_23 ?_
      refine lv_aload_n hx hb dX4_next_26 rfl (lv_at hl 0 rfl) ?_
      refine va_get (D := gD G) (ci := 4) (C := RX4) (T := TX4) (N := 10) hx hb hts hin_X4 hown hK hP 0 rfl rfl 8 (by decide) fl_34 (fun _ h9 => h9) rfl dX4_next_27 ?_
      obtain ⟨g3, hf⟩ := kg hf
      refine va_iald hx hb hK hP 1 0 rfl rfl (vin_of g3) dX4_next_30 ?_
      have ho := ks hf
      subst ho
      exact kiret hx hb hr hlk hP hD hS hQ dX4_next_31
    · replace hf := kf c2 hf
      refine lv_iconst (v := (-1 : Int32)) hx hb dX4_next_18 (by decide) ?_
      refine lv_goto (tgt := 31) hx hb dX4_next_19 (by decide) ?_
      have ho := ks hf
      subst ho
      exact kiret hx hb hr hlk hP hD hS hQ dX4_next_31
abbrev k_X4_write (G : KG) (a_this : Nat) (a_this_names : Nat) (a_this_code : Nat) (a_this_stack : Nat) (a_this_bytes : Nat) (a_this_draft : Nat) (this_length : Int32) (this_drafted : Int32) (this_end : Int32) (this_place : Int32) (this_failed : Int32) (this_draft : Nat → Int32) : va_W := [(a_this, .inr (4, [.ref a_this_names, .ref a_this_code, .int this_length, .ref a_this_stack, .ref a_this_bytes, .ref a_this_draft, .int this_drafted, .int this_end, .int this_place, .int this_failed])), (a_this_draft, .inl (gI G, 60, .inl this_draft))]
def f_X4_write (N : Nat) (p0 : Int32) (this_drafted : Int32) (this_draft : Nat → Int32) : Option ((Int32) × (Nat → Int32)) := (if (60 : Int32) ≤ this_drafted then (some (this_drafted, this_draft)) else (if vin this_drafted 60 = true then (some ((this_drafted + (1 : Int32)), (upd this_draft this_drafted.toNatClampNeg p0))) else none))
set_option maxRecDepth 100000 in
set_option maxHeartbeats 4000000 in
theorem c_X4_write (l : Launch) (G : KG) (N : Nat) (a_this : Nat) (a_this_names : Nat) (a_this_code : Nat) (a_this_stack : Nat) (a_this_bytes : Nat) (a_this_draft : Nat) (p0 : Int32) (this_length : Int32) (this_drafted : Int32) (this_end : Int32) (this_place : Int32) (this_failed : Int32) (this_draft : Nat → Int32)  (out : (Int32) × (Nat → Int32)) (hf : f_X4_write N p0 this_drafted this_draft = some out) : KM l G yX4_write (kw yX4_write cX4_write 2 none) 0 0 [.ref a_this, .int p0] (k_X4_write G a_this a_this_names a_this_code a_this_stack a_this_bytes a_this_draft this_length this_drafted this_end this_place this_failed this_draft) (k_X4_write G a_this a_this_names a_this_code a_this_stack a_this_bytes a_this_draft this_length (out.1) this_end this_place this_failed (out.2)) none := by
  refine KM.of (by decide) (Nat.le_of_ble_eq_true rfl) ?_
  intro p e s m below meth c A ls args Q Fx0 hP hK hD hA hS hAm hQ hl
  obtain ⟨hx, hb, hr, hml, hts, hown, hlk, hnm⟩ := Fx0
  have hown : s.vm.findClass RX4 = some m.cls := hown
  have hl : lv_has ls 2 [(0, .ref a_this), (1, .int p0)] := hl
  have fl_28 := hts _ tw_131
  have fl_25 := hts _ tw_130
  unfold f_X4_write at hf
  refine lv_aload_n hx hb dX4_write_0 rfl (lv_at hl 0 rfl) ?_
  refine va_get (D := gD G) (ci := 4) (C := RX4) (T := TX4) (N := 10) hx hb hts hin_X4 hown hK hP 0 rfl rfl 6 (by decide) fl_28 (fun _ h9 => h9) rfl dX4_write_1 ?_
  refine lv_bipush (v := (60 : Int32)) hx hb dX4_write_4 (by decide) ?_
  refine lv_icmp_ge (tgt := 29) hx hb dX4_write_6 (by decide) (fun c1 => ?_) (fun c1 => ?_)
  · replace hf := kt c1 hf
    have ho := ks hf
    subst ho
    exact kvret hx hb hr hlk hP hD hS hQ dX4_write_29
  · replace hf := kf c1 hf
    refine lv_aload_n hx hb dX4_write_9 rfl (lv_at hl 0 rfl) ?_
    refine va_get (D := gD G) (ci := 4) (C := RX4) (T := TX4) (N := 10) hx hb hts hin_X4 hown hK hP 0 rfl rfl 5 (by decide) fl_25 (fun _ h9 => h9) rfl dX4_write_10 ?_
    refine lv_aload_n hx hb dX4_write_13 rfl (lv_at hl 0 rfl) ?_
    refine va_get (D := gD G) (ci := 4) (C := RX4) (T := TX4) (N := 10) hx hb hts hin_X4 hown hK hP 0 rfl rfl 6 (by decide) fl_28 (fun _ h9 => h9) rfl dX4_write_14 ?_
    refine lv_iload_n hx hb dX4_write_17 rfl (lv_at hl 1 rfl) ?_
    obtain ⟨g2, hf⟩ := kg hf
    refine va_iast hx hb hK hP hD hS 1 0 rfl rfl (vin_of g2) dX4_write_18 (fun H locs hP hD hS => ?_)
    have hP : va_P (gD G) vwCl (k_X4_write G a_this a_this_names a_this_code a_this_stack a_this_bytes a_this_draft this_length this_drafted this_end this_place this_failed (upd this_draft this_drafted.toNatClampNeg p0)) H := hP
    have hD : va_D A (k_X4_write G a_this a_this_names a_this_code a_this_stack a_this_bytes a_this_draft this_length this_drafted this_end this_place this_failed (upd this_draft this_drafted.toNatClampNeg p0)) := hD
    refine lv_aload_n hx hb dX4_write_19 rfl (lv_at hl 0 rfl) ?_
    refine lv_dup hx hb dX4_write_20 rfl ?_
    refine va_get (D := gD G) (ci := 4) (C := RX4) (T := TX4) (N := 10) hx hb hts hin_X4 hown hK hP 0 rfl rfl 6 (by decide) fl_28 (fun _ h9 => h9) rfl dX4_write_21 ?_
    refine lv_iconst (v := (1 : Int32)) hx hb dX4_write_24 (by decide) ?_
    refine lv_iadd hx hb dX4_write_25 ?_
    refine va_put (D := gD G) (ci := 4) (v := .int (this_drafted + (1 : Int32))) (ty := .int) (C := RX4) (T := TX4) (N := 10) hx hb hts hin_X4 tyX4 tyX4_ok nmX4 hown hK hP hD hS 0 rfl rfl 6 (by decide) fl_28 (fun _ h9 => h9) rfl (by decide +kernel) rfl rfl (Nat.le_of_ble_eq_true rfl) dX4_write_26 (fun H locs hP hD hS => ?_)
    have hP : va_P (gD G) vwCl (k_X4_write G a_this a_this_names a_this_code a_this_stack a_this_bytes a_this_draft this_length (this_drafted + (1 : Int32)) this_end this_place this_failed (upd this_draft this_drafted.toNatClampNeg p0)) H := hP
    have hD : va_D A (k_X4_write G a_this a_this_names a_this_code a_this_stack a_this_bytes a_this_draft this_length (this_drafted + (1 : Int32)) this_end this_place this_failed (upd this_draft this_drafted.toNatClampNeg p0)) := hD
    have ho := ks hf
    subst ho
    exact kvret hx hb hr hlk hP hD hS hQ dX4_write_29
abbrev k_X4_readClose (G : KG) (a_this : Nat) (a_this_names : Nat) (a_this_code : Nat) (a_this_stack : Nat) (a_this_bytes : Nat) (a_this_draft : Nat) (this_length : Int32) (this_drafted : Int32) (this_end : Int32) (this_place : Int32) (this_failed : Int32) (this_bytes : Nat → Int32) : va_W := [(a_this, .inr (4, [.ref a_this_names, .ref a_this_code, .int this_length, .ref a_this_stack, .ref a_this_bytes, .ref a_this_draft, .int this_drafted, .int this_end, .int this_place, .int this_failed])), (a_this_bytes, .inl (gI G, 60, .inl this_bytes))]
def f_X4_readClose (N : Nat) (this_end : Int32) (this_place : Int32) (this_failed : Int32) (this_bytes : Nat → Int32) : Option ((Int32) × (Int32)) := ((f_X4_next N this_end this_place this_failed this_bytes).bind fun r1 => (if r1 = (41 : Int32) then (some ((this_place + (1 : Int32)), this_failed)) else (some (this_place, (1 : Int32)))))
set_option maxRecDepth 100000 in
set_option maxHeartbeats 4000000 in
theorem c_X4_readClose (l : Launch) (G : KG) (N : Nat) (a_this : Nat) (a_this_names : Nat) (a_this_code : Nat) (a_this_stack : Nat) (a_this_bytes : Nat) (a_this_draft : Nat) (this_length : Int32) (this_drafted : Int32) (this_end : Int32) (this_place : Int32) (this_failed : Int32) (this_bytes : Nat → Int32)  (out : (Int32) × (Int32)) (hf : f_X4_readClose N this_end this_place this_failed this_bytes = some out) : KM l G yX4_readClose (kw yX4_readClose cX4_readClose 1 none) 1 20 [.ref a_this] (k_X4_readClose G a_this a_this_names a_this_code a_this_stack a_this_bytes a_this_draft this_length this_drafted this_end this_place this_failed this_bytes) (k_X4_readClose G a_this a_this_names a_this_code a_this_stack a_this_bytes a_this_draft this_length this_drafted this_end (out.1) (out.2) this_bytes) none := by
  refine KM.of (by decide) (Nat.le_of_ble_eq_true rfl) ?_
  intro p e s m below meth c A ls args Q Fx0 hP hK hD hA hS hAm hQ hl
  obtain ⟨hx, hb, hr, hml, hts, hown, hlk, hnm⟩ := Fx0
  have hown : s.vm.findClass RX4 = some m.cls := hown
  have hl : lv_has ls 1 [(0, .ref a_this)] := hl
  have fl_37 := hts _ tw_134
  have fl_34 := hts _ tw_133
  unfold f_X4_readClose at hf
  refine lv_aload_n hx hb dX4_readClose_0 rfl (lv_at hl 0 rfl) ?_
  obtain ⟨r1, hr1, hf⟩ := kb hf
  refine kV (As := []) (rest := []) ⟨hx, hb, hml, hown, hts⟩ (c_X4_next l G N a_this a_this_names a_this_code a_this_stack a_this_bytes a_this_draft this_length this_drafted this_end this_place this_failed this_bytes r1 hr1) (kcV 0 hts tw_603 tw_82 tw_600 tw_602 tw_13 hd_X4_next ⟨Nat.le_of_ble_eq_true rfl, Nat.le_of_ble_eq_true rfl⟩) dX4_readClose_1 hl.1 hK hAm hA hP hD hS 0 (ci := 4) rfl rfl rfl [0, 1] rfl rfl rfl [] rfl rfl rfl (Nat.le_of_ble_eq_true rfl) ⟨Nat.le_refl _, Nat.le_refl _⟩ (fun H locs hP hD hS => ?_)
  have hP : va_P (gD G) vwCl (k_X4_readClose G a_this a_this_names a_this_code a_this_stack a_this_bytes a_this_draft this_length this_drafted this_end this_place this_failed this_bytes) H := hP
  have hD : va_D A (k_X4_readClose G a_this a_this_names a_this_code a_this_stack a_this_bytes a_this_draft this_length this_drafted this_end this_place this_failed this_bytes) := hD
  refine lv_bipush (v := (41 : Int32)) hx hb dX4_readClose_4 (by decide) ?_
  refine lv_icmp_ne (tgt := 22) hx hb dX4_readClose_6 (by decide) (fun c2 => ?_) (fun c2 => ?_)
  · replace hf := kf c2 hf
    refine lv_aload_n hx hb dX4_readClose_22 rfl (lv_at hl 0 rfl) ?_
    refine lv_iconst (v := (1 : Int32)) hx hb dX4_readClose_23 (by decide) ?_
    refine va_put (D := gD G) (ci := 4) (v := .int (1 : Int32)) (ty := .boolean) (C := RX4) (T := TX4) (N := 10) hx hb hts hin_X4 tyX4 tyX4_ok nmX4 hown hK hP hD hS 0 rfl rfl 9 (by decide) fl_37 (fun _ h9 => h9) rfl (by decide +kernel) rfl rfl (Nat.le_of_ble_eq_true rfl) dX4_readClose_24 (fun H locs hP hD hS => ?_)
    have hP : va_P (gD G) vwCl (k_X4_readClose G a_this a_this_names a_this_code a_this_stack a_this_bytes a_this_draft this_length this_drafted this_end this_place (1 : Int32) this_bytes) H := hP
    have hD : va_D A (k_X4_readClose G a_this a_this_names a_this_code a_this_stack a_this_bytes a_this_draft this_length this_drafted this_end this_place (1 : Int32) this_bytes) := hD
    have ho := ks hf
    subst ho
    exact kvret hx hb hr hlk hP hD hS hQ dX4_readClose_27
  · replace hf := kt c2 hf
    refine lv_aload_n hx hb dX4_readClose_9 rfl (lv_at hl 0 rfl) ?_
    refine lv_dup hx hb dX4_readClose_10 rfl ?_
    refine va_get (D := gD G) (ci := 4) (C := RX4) (T := TX4) (N := 10) hx hb hts hin_X4 hown hK hP 0 rfl rfl 8 (by decide) fl_34 (fun _ h9 => h9) rfl dX4_readClose_11 ?_
    refine lv_iconst (v := (1 : Int32)) hx hb dX4_readClose_14 (by decide) ?_
    refine lv_iadd hx hb dX4_readClose_15 ?_
    refine va_put (D := gD G) (ci := 4) (v := .int (this_place + (1 : Int32))) (ty := .int) (C := RX4) (T := TX4) (N := 10) hx hb hts hin_X4 tyX4 tyX4_ok nmX4 hown hK hP hD hS 0 rfl rfl 8 (by decide) fl_34 (fun _ h9 => h9) rfl (by decide +kernel) rfl rfl (Nat.le_of_ble_eq_true rfl) dX4_readClose_16 (fun H locs hP hD hS => ?_)
    have hP : va_P (gD G) vwCl (k_X4_readClose G a_this a_this_names a_this_code a_this_stack a_this_bytes a_this_draft this_length this_drafted this_end (this_place + (1 : Int32)) this_failed this_bytes) H := hP
    have hD : va_D A (k_X4_readClose G a_this a_this_names a_this_code a_this_stack a_this_bytes a_this_draft this_length this_drafted this_end (this_place + (1 : Int32)) this_failed this_bytes) := hD
    refine lv_goto (tgt := 27) hx hb dX4_readClose_19 (by decide) ?_
    have ho := ks hf
    subst ho
    exact kvret hx hb hr hlk hP hD hS hQ dX4_readClose_27
abbrev k_X4_isDigit (G : KG) : va_W := []
def f_X4_isDigit (N : Nat) (p0 : Int32) : Option (Int32) := (if p0 < (48 : Int32) then (some (0 : Int32)) else (if (57 : Int32) < p0 then (some (0 : Int32)) else (some (1 : Int32))))
set_option maxRecDepth 100000 in
set_option maxHeartbeats 4000000 in
theorem c_X4_isDigit (l : Launch) (G : KG) (N : Nat) (p0 : Int32)  (out : Int32) (hf : f_X4_isDigit N p0 = some out) : KM l G yX4_isDigit (kw yX4_isDigit cX4_isDigit 1 (some .boolean)) 0 0 [.int p0] (k_X4_isDigit G) (k_X4_isDigit G) (some (.int out)) := by
  refine KM.of (by decide) (Nat.le_of_ble_eq_true rfl) ?_
  intro p e s m below meth c A ls args Q Fx0 hP hK hD hA hS hAm hQ hl
  obtain ⟨hx, hb, hr, hml, hts, hown, hlk, hnm⟩ := Fx0
  have hown : s.vm.findClass RX4 = some m.cls := hown
  have hl : lv_has ls 1 [(0, .int p0)] := hl
  unfold f_X4_isDigit at hf
  refine lv_iload_n hx hb dX4_isDigit_0 rfl (lv_at hl 0 rfl) ?_
  refine lv_bipush (v := (48 : Int32)) hx hb dX4_isDigit_1 (by decide) ?_
  refine lv_icmp_lt (tgt := 16) hx hb dX4_isDigit_3 (by decide) (fun c1 => ?_) (fun c1 => ?_)
  · replace hf := kt c1 hf
    refine lv_iconst (v := (0 : Int32)) hx hb dX4_isDigit_16 (by decide) ?_
    have ho := ks hf
    subst ho
    exact kzret hx hb hr (Or.inl rfl) hlk hP hD hS hQ dX4_isDigit_17
  · replace hf := kf c1 hf
    refine lv_iload_n hx hb dX4_isDigit_6 rfl (lv_at hl 0 rfl) ?_
    refine lv_bipush (v := (57 : Int32)) hx hb dX4_isDigit_7 (by decide) ?_
    refine lv_icmp_gt (tgt := 16) hx hb dX4_isDigit_9 (by decide) (fun c2 => ?_) (fun c2 => ?_)
    · replace hf := kt c2 hf
      refine lv_iconst (v := (0 : Int32)) hx hb dX4_isDigit_16 (by decide) ?_
      have ho := ks hf
      subst ho
      exact kzret hx hb hr (Or.inl rfl) hlk hP hD hS hQ dX4_isDigit_17
    · replace hf := kf c2 hf
      refine lv_iconst (v := (1 : Int32)) hx hb dX4_isDigit_12 (by decide) ?_
      refine lv_goto (tgt := 17) hx hb dX4_isDigit_13 (by decide) ?_
      have ho := ks hf
      subst ho
      exact kzret hx hb hr (Or.inr rfl) hlk hP hD hS hQ dX4_isDigit_17
abbrev k_X4_nameOf (G : KG) (a_this : Nat) (a_this_names : Nat) (a_this_code : Nat) (a_this_stack : Nat) (a_this_bytes : Nat) (a_this_draft : Nat) (this_length : Int32) (this_drafted : Int32) (this_end : Int32) (this_place : Int32) (this_failed : Int32) : va_W := [(a_this, .inr (4, [.ref a_this_names, .ref a_this_code, .int this_length, .ref a_this_stack, .ref a_this_bytes, .ref a_this_draft, .int this_drafted, .int this_end, .int this_place, .int this_failed]))]
def f_X4_nameOf_2 (N : Nat) (x1 : Int32) (this_nm : Nat) (K : Int32 → Option (Int32)) : Nat → Int32 → Option (Int32)
  | 0, _ => none
  | n + 1, y2 => (if (3 : Int32) ≤ y2 then (K y2) else (if vin y2 3 = true then (if (chS this_nm y2.toNatClampNeg) = x1 then (some y2) else (f_X4_nameOf_2 N x1 this_nm K n (y2 + (1 : Int32)))) else none))
def f_X4_nameOf (N : Nat) (p0 : Int32) (this_nm : Nat) : Option (Int32) := (f_X4_nameOf_2 N p0 this_nm (fun v2_4 => (some (-1 : Int32))) N (0 : Int32))
set_option maxRecDepth 100000 in
set_option maxHeartbeats 4000000 in
theorem c_X4_nameOf (l : Launch) (G : KG) (N : Nat) (a_this : Nat) (a_this_names : Nat) (a_this_code : Nat) (a_this_stack : Nat) (a_this_bytes : Nat) (a_this_draft : Nat) (p0 : Int32) (this_length : Int32) (this_drafted : Int32) (this_end : Int32) (this_place : Int32) (this_failed : Int32) (this_nm : Nat)  (hn_this : this_nm < 2 ∧ a_this_names = G.2.2.2.1 this_nm) (out : Int32) (hf : f_X4_nameOf N p0 this_nm = some out) : KM l G yX4_nameOf (kw yX4_nameOf cX4_nameOf 3 (some .int)) 4 110 [.ref a_this, .int p0] (k_X4_nameOf G a_this a_this_names a_this_code a_this_stack a_this_bytes a_this_draft this_length this_drafted this_end this_place this_failed) (k_X4_nameOf G a_this a_this_names a_this_code a_this_stack a_this_bytes a_this_draft this_length this_drafted this_end this_place this_failed) (some (.int out)) := by
  refine KM.of (by decide) (Nat.le_of_ble_eq_true rfl) ?_
  intro p e s m below meth c A ls args Q Fx0 hP hK hD hA hS hAm hQ hl
  obtain ⟨hx, hb, hr, hml, hts, hown, hlk, hnm⟩ := Fx0
  have hown : s.vm.findClass RX4 = some m.cls := hown
  have hl : lv_has ls 3 [(0, .ref a_this), (1, .int p0)] := hl
  have fl_41 := hts _ tw_124
  unfold f_X4_nameOf at hf
  refine lv_iconst (v := (0 : Int32)) hx hb dX4_nameOf_0 (by decide) ?_
  refine lv_istore_n (lv' := [(2, .int (0 : Int32)), (0, .ref a_this), (1, .int p0)]) hx hb dX4_nameOf_1 rfl hl (by decide) rfl (fun ls hl => ?_)
  have L2 : ∀ (K : Int32 → Option (Int32)), (∀ (v2_2 : Int32) (H : Heap) (locs : List Loc), va_P (gD G) vwCl (k_X4_nameOf G a_this a_this_names a_this_code a_this_stack a_this_bytes a_this_draft this_length this_drafted this_end this_place this_failed) H → va_D A (k_X4_nameOf G a_this a_this_names a_this_code a_this_stack a_this_bytes a_this_draft this_length this_drafted this_end this_place this_failed) → va_S A s.heap H locs → ∀ (ls : Array Slot), lv_has ls 3 [(0, .ref a_this), (1, .int p0), (2, .int v2_2)] → K v2_2 = some out → W p l e (kR 4 0 0 110) s m args below meth c H locs 0 0 Q (F0 m 33 ls [])) → ∀ (n : Nat), ∀ (v2_2 : Int32) (H : Heap) (locs : List Loc), va_P (gD G) vwCl (k_X4_nameOf G a_this a_this_names a_this_code a_this_stack a_this_bytes a_this_draft this_length this_drafted this_end this_place this_failed) H → va_D A (k_X4_nameOf G a_this a_this_names a_this_code a_this_stack a_this_bytes a_this_draft this_length this_drafted this_end this_place this_failed) → va_S A s.heap H locs → ∀ (ls : Array Slot), lv_has ls 3 [(0, .ref a_this), (1, .int p0), (2, .int v2_2)] → f_X4_nameOf_2 N p0 this_nm K n v2_2 = some out → W p l e (kR 4 0 0 110) s m args below meth c H locs 0 0 Q (F0 m 2 ls []) := by
    intro K hK2 n
    induction n with
    | zero =>
      intro v2_2 H locs hP hD hS ls hl hf
      rw [f_X4_nameOf_2] at hf
      cases hf
    | succ n ih =>
      intro v2_2 H locs hP hD hS ls hl hf
      rw [f_X4_nameOf_2] at hf
      refine lv_iload_n hx hb dX4_nameOf_2 rfl (lv_at hl 2 rfl) ?_
      refine lv_aload_n hx hb dX4_nameOf_3 rfl (lv_at hl 0 rfl) ?_
      refine va_get (D := gD G) (ci := 4) (C := RX4) (T := TX4) (N := 10) hx hb hts hin_X4 hown hK hP 0 rfl rfl 0 (by decide) fl_41 (fun _ h9 => h9) rfl dX4_nameOf_4 ?_
      refine kVs (As := []) (rest := [.int v2_2]) ⟨hx, hb, hml, hown, hts⟩ (c_J0_length_b l G this_nm hn_this.1 hn_this.2) (kcV 0 hts tw_622 tw_95 tw_619 tw_620 tw_621 hd_J0_length ⟨Nat.le_of_ble_eq_true rfl, Nat.le_of_ble_eq_true rfl⟩) dX4_nameOf_7 hl.1 (vk_recv_b hn_this.2 hAm.2.2.2.2.1 hn_this.1 hS) hK hAm hA hP hD hS [] rfl rfl rfl [] rfl rfl rfl (Nat.le_of_ble_eq_true rfl) ⟨Nat.le_refl _, Nat.le_refl _⟩ (fun H locs hP hD hS => ?_)
      have hP : va_P (gD G) vwCl (k_X4_nameOf G a_this a_this_names a_this_code a_this_stack a_this_bytes a_this_draft this_length this_drafted this_end this_place this_failed) H := hP
      have hD : va_D A (k_X4_nameOf G a_this a_this_names a_this_code a_this_stack a_this_bytes a_this_draft this_length this_drafted this_end this_place this_failed) := hD
      refine lv_icmp_ge (tgt := 33) hx hb dX4_nameOf_10 (by decide) (fun c3 => ?_) (fun c3 => ?_)
      · replace hf := kt c3 hf
        exact hK2 v2_2 _ _ hP hD hS ls (lv_sub hl [0, 1, 2] rfl) hf
      · replace hf := kf c3 hf
        refine lv_aload_n hx hb dX4_nameOf_13 rfl (lv_at hl 0 rfl) ?_
        refine va_get (D := gD G) (ci := 4) (C := RX4) (T := TX4) (N := 10) hx hb hts hin_X4 hown hK hP 0 rfl rfl 0 (by decide) fl_41 (fun _ h9 => h9) rfl dX4_nameOf_14 ?_
        refine lv_iload_n hx hb dX4_nameOf_17 rfl (lv_at hl 2 rfl) ?_
        obtain ⟨g4, hf⟩ := kg hf
        refine kVs (As := [.int v2_2]) (rest := []) ⟨hx, hb, hml, hown, hts⟩ (c_J0_charAt_b l G this_nm hn_this.1 hn_this.2 v2_2 g4) (kcV 1 hts tw_632 tw_95 tw_629 tw_630 tw_631 hd_J0_charAt ⟨Nat.le_of_ble_eq_true rfl, Nat.le_of_ble_eq_true rfl⟩) dX4_nameOf_18 hl.1 (vk_recv_b hn_this.2 hAm.2.2.2.2.1 hn_this.1 hS) hK hAm hA hP hD hS [] rfl rfl rfl [] rfl rfl rfl (Nat.le_of_ble_eq_true rfl) ⟨Nat.le_refl _, Nat.le_refl _⟩ (fun H locs hP hD hS => ?_)
        have hP : va_P (gD G) vwCl (k_X4_nameOf G a_this a_this_names a_this_code a_this_stack a_this_bytes a_this_draft this_length this_drafted this_end this_place this_failed) H := hP
        have hD : va_D A (k_X4_nameOf G a_this a_this_names a_this_code a_this_stack a_this_bytes a_this_draft this_length this_drafted this_end this_place this_failed) := hD
        refine lv_iload_n hx hb dX4_nameOf_21 rfl (lv_at hl 1 rfl) ?_
        refine lv_icmp_ne (tgt := 27) hx hb dX4_nameOf_22 (by decide) (fun c5 => ?_) (fun c5 => ?_)
        · replace hf := kf c5 hf
          refine lv_iinc (v := (v2_2 + (1 : Int32))) (lv' := [(2, .int (v2_2 + (1 : Int32))), (0, .ref a_this), (1, .int p0)]) hx hb dX4_nameOf_27 hl (k := 2) rfl rfl (by decide) rfl (fun ls hl => ?_)
          refine lv_goto (tgt := 2) hx hb dX4_nameOf_30 (by decide) ?_
          exact ih (v2_2 + (1 : Int32)) _ _ hP hD hS ls (lv_sub hl [1, 2, 0] rfl) hf
        · replace hf := kt c5 hf
          refine lv_iload_n hx hb dX4_nameOf_25 rfl (lv_at hl 2 rfl) ?_
          have ho := ks hf
          subst ho
          exact kiret hx hb hr hlk hP hD hS hQ dX4_nameOf_26
  refine L2 _ (fun v2_1 H locs hP hD hS ls hl hf => ?_) N (0 : Int32) _ _ hP hD hS ls (lv_sub hl [1, 2, 0] rfl) hf
  refine lv_iconst (v := (-1 : Int32)) hx hb dX4_nameOf_33 (by decide) ?_
  have ho := ks hf
  subst ho
  exact kiret hx hb hr hlk hP hD hS hQ dX4_nameOf_34
abbrev k_X4_named (G : KG) : va_W := []
def f_X4_named (N : Nat) (p0 : Int32) (p1 : Int32) (p2 : Int32) (p3 : Int32) : Option (Int32) := (if p0 = (-1 : Int32) then (some p1) else (if p0 = (-2 : Int32) then (some p2) else (some p3)))
set_option maxRecDepth 100000 in
set_option maxHeartbeats 4000000 in
theorem c_X4_named (l : Launch) (G : KG) (N : Nat) (p0 : Int32) (p1 : Int32) (p2 : Int32) (p3 : Int32)  (out : Int32) (hf : f_X4_named N p0 p1 p2 p3 = some out) : KM l G yX4_named (kw yX4_named cX4_named 4 (some .int)) 0 0 [.int p0, .int p1, .int p2, .int p3] (k_X4_named G) (k_X4_named G) (some (.int out)) := by
  refine KM.of (by decide) (Nat.le_of_ble_eq_true rfl) ?_
  intro p e s m below meth c A ls args Q Fx0 hP hK hD hA hS hAm hQ hl
  obtain ⟨hx, hb, hr, hml, hts, hown, hlk, hnm⟩ := Fx0
  have hown : s.vm.findClass RX4 = some m.cls := hown
  have hl : lv_has ls 4 [(0, .int p0), (1, .int p1), (2, .int p2), (3, .int p3)] := hl
  unfold f_X4_named at hf
  refine lv_iload_n hx hb dX4_named_0 rfl (lv_at hl 0 rfl) ?_
  refine lv_iconst (v := (-1 : Int32)) hx hb dX4_named_1 (by decide) ?_
  refine lv_icmp_ne (tgt := 7) hx hb dX4_named_2 (by decide) (fun c1 => ?_) (fun c1 => ?_)
  · replace hf := kf c1 hf
    refine lv_iload_n hx hb dX4_named_7 rfl (lv_at hl 0 rfl) ?_
    refine lv_bipush (v := (-2 : Int32)) hx hb dX4_named_8 (by decide) ?_
    refine lv_icmp_ne (tgt := 17) hx hb dX4_named_10 (by decide) (fun c2 => ?_) (fun c2 => ?_)
    · replace hf := kf c2 hf
      refine lv_iload_n hx hb dX4_named_17 rfl (lv_at hl 3 rfl) ?_
      have ho := ks hf
      subst ho
      exact kiret hx hb hr hlk hP hD hS hQ dX4_named_18
    · replace hf := kt c2 hf
      refine lv_iload_n hx hb dX4_named_13 rfl (lv_at hl 2 rfl) ?_
      refine lv_goto (tgt := 18) hx hb dX4_named_14 (by decide) ?_
      have ho := ks hf
      subst ho
      exact kiret hx hb hr hlk hP hD hS hQ dX4_named_18
  · replace hf := kt c1 hf
    refine lv_iload_n hx hb dX4_named_5 rfl (lv_at hl 1 rfl) ?_
    have ho := ks hf
    subst ho
    exact kiret hx hb hr hlk hP hD hS hQ dX4_named_6
abbrev k_X4_joined (G : KG) : va_W := []
def f_X4_joined (N : Nat) (p0 : Int32) (p1 : Int32) (p2 : Int32) : Option (Int32) := (if p0 = (38 : Int32) then (if p1 = 0 then (some (0 : Int32)) else (if p2 = 0 then (some (0 : Int32)) else (some (1 : Int32)))) else (if p0 = (42 : Int32) then (some (p1 * p2)) else (if p0 = (43 : Int32) then (some (p1 + p2)) else (if p0 = (45 : Int32) then (some (p1 - p2)) else (if p0 = (47 : Int32) then (if p2 = 0 then (some (0 : Int32)) else (if ¬ p2 = 0 then (some (p1 / p2)) else none)) else (if p0 = (60 : Int32) then (if p2 ≤ p1 then (some (0 : Int32)) else (some (1 : Int32))) else (if p0 = (61 : Int32) then (if p1 = p2 then (some (1 : Int32)) else (some (0 : Int32))) else (if p0 = (62 : Int32) then (if p1 ≤ p2 then (some (0 : Int32)) else (some (1 : Int32))) else (if p0 = (124 : Int32) then (if p1 = 0 then (if p2 = 0 then (some (0 : Int32)) else (some (1 : Int32))) else (some (1 : Int32))) else (if p2 = 0 then (some (0 : Int32)) else (if ¬ p2 = 0 then (some (p1 - p1 / p2 * p2)) else none)))))))))))
set_option maxRecDepth 100000 in
set_option maxHeartbeats 4000000 in
theorem c_X4_joined (l : Launch) (G : KG) (N : Nat) (p0 : Int32) (p1 : Int32) (p2 : Int32)  (out : Int32) (hf : f_X4_joined N p0 p1 p2 = some out) : KM l G yX4_joined (kw yX4_joined cX4_joined 3 (some .int)) 0 0 [.int p0, .int p1, .int p2] (k_X4_joined G) (k_X4_joined G) (some (.int out)) := by
  refine KM.of (by decide) (Nat.le_of_ble_eq_true rfl) ?_
  intro p e s m below meth c A ls args Q Fx0 hP hK hD hA hS hAm hQ hl
  obtain ⟨hx, hb, hr, hml, hts, hown, hlk, hnm⟩ := Fx0
  have hown : s.vm.findClass RX4 = some m.cls := hown
  have hl : lv_has ls 3 [(0, .int p0), (1, .int p1), (2, .int p2)] := hl
  unfold f_X4_joined at hf
  refine lv_iload_n hx hb dX4_joined_0 rfl (lv_at hl 0 rfl) ?_
  by_cases q1 : p0 = (38 : Int32)
  · replace hf := kt q1 hf
    refine lv_lookup (off := 97) (tgt := 98) hx hb dX4_joined_1 (by decide) (by rw [q1]; rfl) (by decide) ?_
    refine lv_iload_n hx hb dX4_joined_98 rfl (lv_at hl 1 rfl) ?_
    refine lv_if_eq (tgt := 110) hx hb dX4_joined_99 (by decide) (fun c2 => ?_) (fun c2 => ?_)
    · replace hf := kt c2 hf
      refine lv_iconst (v := (0 : Int32)) hx hb dX4_joined_110 (by decide) ?_
      have ho := ks hf
      subst ho
      exact kiret hx hb hr hlk hP hD hS hQ dX4_joined_111
    · replace hf := kf c2 hf
      refine lv_iload_n hx hb dX4_joined_102 rfl (lv_at hl 2 rfl) ?_
      refine lv_if_eq (tgt := 110) hx hb dX4_joined_103 (by decide) (fun c3 => ?_) (fun c3 => ?_)
      · replace hf := kt c3 hf
        refine lv_iconst (v := (0 : Int32)) hx hb dX4_joined_110 (by decide) ?_
        have ho := ks hf
        subst ho
        exact kiret hx hb hr hlk hP hD hS hQ dX4_joined_111
      · replace hf := kf c3 hf
        refine lv_iconst (v := (1 : Int32)) hx hb dX4_joined_106 (by decide) ?_
        refine lv_goto (tgt := 111) hx hb dX4_joined_107 (by decide) ?_
        have ho := ks hf
        subst ho
        exact kiret hx hb hr hlk hP hD hS hQ dX4_joined_111
  · replace hf := kf q1 hf
    by_cases q4 : p0 = (42 : Int32)
    · replace hf := kt q4 hf
      refine lv_lookup (off := 152) (tgt := 153) hx hb dX4_joined_1 (by decide) (by rw [q4]; rfl) (by decide) ?_
      refine lv_iload_n hx hb dX4_joined_153 rfl (lv_at hl 1 rfl) ?_
      refine lv_iload_n hx hb dX4_joined_154 rfl (lv_at hl 2 rfl) ?_
      refine lv_imul hx hb dX4_joined_155 ?_
      have ho := ks hf
      subst ho
      exact kiret hx hb hr hlk hP hD hS hQ dX4_joined_156
    · replace hf := kf q4 hf
      by_cases q5 : p0 = (43 : Int32)
      · replace hf := kt q5 hf
        refine lv_lookup (off := 144) (tgt := 145) hx hb dX4_joined_1 (by decide) (by rw [q5]; rfl) (by decide) ?_
        refine lv_iload_n hx hb dX4_joined_145 rfl (lv_at hl 1 rfl) ?_
        refine lv_iload_n hx hb dX4_joined_146 rfl (lv_at hl 2 rfl) ?_
        refine lv_iadd hx hb dX4_joined_147 ?_
        have ho := ks hf
        subst ho
        exact kiret hx hb hr hlk hP hD hS hQ dX4_joined_148
      · replace hf := kf q5 hf
        by_cases q6 : p0 = (45 : Int32)
        · replace hf := kt q6 hf
          refine lv_lookup (off := 148) (tgt := 149) hx hb dX4_joined_1 (by decide) (by rw [q6]; rfl) (by decide) ?_
          refine lv_iload_n hx hb dX4_joined_149 rfl (lv_at hl 1 rfl) ?_
          refine lv_iload_n hx hb dX4_joined_150 rfl (lv_at hl 2 rfl) ?_
          refine lv_isub hx hb dX4_joined_151 ?_
          have ho := ks hf
          subst ho
          exact kiret hx hb hr hlk hP hD hS hQ dX4_joined_152
        · replace hf := kf q6 hf
          by_cases q7 : p0 = (47 : Int32)
          · replace hf := kt q7 hf
            refine lv_lookup (off := 156) (tgt := 157) hx hb dX4_joined_1 (by decide) (by rw [q7]; rfl) (by decide) ?_
            refine lv_iload_n hx hb dX4_joined_157 rfl (lv_at hl 2 rfl) ?_
            refine lv_if_ne (tgt := 165) hx hb dX4_joined_158 (by decide) (fun c8 => ?_) (fun c8 => ?_)
            · replace hf := kf c8 hf
              refine lv_iload_n hx hb dX4_joined_165 rfl (lv_at hl 1 rfl) ?_
              refine lv_iload_n hx hb dX4_joined_166 rfl (lv_at hl 2 rfl) ?_
              obtain ⟨g9, hf⟩ := kg hf
              refine lv_idiv hx hb dX4_joined_167 g9 ?_
              have ho := ks hf
              subst ho
              exact kiret hx hb hr hlk hP hD hS hQ dX4_joined_168
            · replace hf := kt c8 hf
              refine lv_iconst (v := (0 : Int32)) hx hb dX4_joined_161 (by decide) ?_
              refine lv_goto (tgt := 168) hx hb dX4_joined_162 (by decide) ?_
              have ho := ks hf
              subst ho
              exact kiret hx hb hr hlk hP hD hS hQ dX4_joined_168
          · replace hf := kf q7 hf
            by_cases q10 : p0 = (60 : Int32)
            · replace hf := kt q10 hf
              refine lv_lookup (off := 111) (tgt := 112) hx hb dX4_joined_1 (by decide) (by rw [q10]; rfl) (by decide) ?_
              refine lv_iload_n hx hb dX4_joined_112 rfl (lv_at hl 1 rfl) ?_
              refine lv_iload_n hx hb dX4_joined_113 rfl (lv_at hl 2 rfl) ?_
              refine lv_icmp_ge (tgt := 121) hx hb dX4_joined_114 (by decide) (fun c11 => ?_) (fun c11 => ?_)
              · replace hf := kt c11 hf
                refine lv_iconst (v := (0 : Int32)) hx hb dX4_joined_121 (by decide) ?_
                have ho := ks hf
                subst ho
                exact kiret hx hb hr hlk hP hD hS hQ dX4_joined_122
              · replace hf := kf c11 hf
                refine lv_iconst (v := (1 : Int32)) hx hb dX4_joined_117 (by decide) ?_
                refine lv_goto (tgt := 122) hx hb dX4_joined_118 (by decide) ?_
                have ho := ks hf
                subst ho
                exact kiret hx hb hr hlk hP hD hS hQ dX4_joined_122
            · replace hf := kf q10 hf
              by_cases q12 : p0 = (61 : Int32)
              · replace hf := kt q12 hf
                refine lv_lookup (off := 122) (tgt := 123) hx hb dX4_joined_1 (by decide) (by rw [q12]; rfl) (by decide) ?_
                refine lv_iload_n hx hb dX4_joined_123 rfl (lv_at hl 1 rfl) ?_
                refine lv_iload_n hx hb dX4_joined_124 rfl (lv_at hl 2 rfl) ?_
                refine lv_icmp_ne (tgt := 132) hx hb dX4_joined_125 (by decide) (fun c13 => ?_) (fun c13 => ?_)
                · replace hf := kf c13 hf
                  refine lv_iconst (v := (0 : Int32)) hx hb dX4_joined_132 (by decide) ?_
                  have ho := ks hf
                  subst ho
                  exact kiret hx hb hr hlk hP hD hS hQ dX4_joined_133
                · replace hf := kt c13 hf
                  refine lv_iconst (v := (1 : Int32)) hx hb dX4_joined_128 (by decide) ?_
                  refine lv_goto (tgt := 133) hx hb dX4_joined_129 (by decide) ?_
                  have ho := ks hf
                  subst ho
                  exact kiret hx hb hr hlk hP hD hS hQ dX4_joined_133
              · replace hf := kf q12 hf
                by_cases q14 : p0 = (62 : Int32)
                · replace hf := kt q14 hf
                  refine lv_lookup (off := 133) (tgt := 134) hx hb dX4_joined_1 (by decide) (by rw [q14]; rfl) (by decide) ?_
                  refine lv_iload_n hx hb dX4_joined_134 rfl (lv_at hl 1 rfl) ?_
                  refine lv_iload_n hx hb dX4_joined_135 rfl (lv_at hl 2 rfl) ?_
                  refine lv_icmp_le (tgt := 143) hx hb dX4_joined_136 (by decide) (fun c15 => ?_) (fun c15 => ?_)
                  · replace hf := kt c15 hf
                    refine lv_iconst (v := (0 : Int32)) hx hb dX4_joined_143 (by decide) ?_
                    have ho := ks hf
                    subst ho
                    exact kiret hx hb hr hlk hP hD hS hQ dX4_joined_144
                  · replace hf := kf c15 hf
                    refine lv_iconst (v := (1 : Int32)) hx hb dX4_joined_139 (by decide) ?_
                    refine lv_goto (tgt := 144) hx hb dX4_joined_140 (by decide) ?_
                    have ho := ks hf
                    subst ho
                    exact kiret hx hb hr hlk hP hD hS hQ dX4_joined_144
                · replace hf := kf q14 hf
                  by_cases q16 : p0 = (124 : Int32)
                  · replace hf := kt q16 hf
                    refine lv_lookup (off := 83) (tgt := 84) hx hb dX4_joined_1 (by decide) (by rw [q16]; rfl) (by decide) ?_
                    refine lv_iload_n hx hb dX4_joined_84 rfl (lv_at hl 1 rfl) ?_
                    refine lv_if_ne (tgt := 92) hx hb dX4_joined_85 (by decide) (fun c17 => ?_) (fun c17 => ?_)
                    · replace hf := kf c17 hf
                      refine lv_iconst (v := (1 : Int32)) hx hb dX4_joined_92 (by decide) ?_
                      refine lv_goto (tgt := 97) hx hb dX4_joined_93 (by decide) ?_
                      have ho := ks hf
                      subst ho
                      exact kiret hx hb hr hlk hP hD hS hQ dX4_joined_97
                    · replace hf := kt c17 hf
                      refine lv_iload_n hx hb dX4_joined_88 rfl (lv_at hl 2 rfl) ?_
                      refine lv_if_eq (tgt := 96) hx hb dX4_joined_89 (by decide) (fun c18 => ?_) (fun c18 => ?_)
                      · replace hf := kt c18 hf
                        refine lv_iconst (v := (0 : Int32)) hx hb dX4_joined_96 (by decide) ?_
                        have ho := ks hf
                        subst ho
                        exact kiret hx hb hr hlk hP hD hS hQ dX4_joined_97
                      · replace hf := kf c18 hf
                        refine lv_iconst (v := (1 : Int32)) hx hb dX4_joined_92 (by decide) ?_
                        refine lv_goto (tgt := 97) hx hb dX4_joined_93 (by decide) ?_
                        have ho := ks hf
                        subst ho
                        exact kiret hx hb hr hlk hP hD hS hQ dX4_joined_97
                  · replace hf := kf q16 hf
                    have nq1 : (p0).toInt ≠ 38 := fun z => q1 (Int32.toInt_inj.mp (z.trans (by decide)))
                    have nq4 : (p0).toInt ≠ 42 := fun z => q4 (Int32.toInt_inj.mp (z.trans (by decide)))
                    have nq5 : (p0).toInt ≠ 43 := fun z => q5 (Int32.toInt_inj.mp (z.trans (by decide)))
                    have nq6 : (p0).toInt ≠ 45 := fun z => q6 (Int32.toInt_inj.mp (z.trans (by decide)))
                    have nq7 : (p0).toInt ≠ 47 := fun z => q7 (Int32.toInt_inj.mp (z.trans (by decide)))
                    have nq10 : (p0).toInt ≠ 60 := fun z => q10 (Int32.toInt_inj.mp (z.trans (by decide)))
                    have nq12 : (p0).toInt ≠ 61 := fun z => q12 (Int32.toInt_inj.mp (z.trans (by decide)))
                    have nq14 : (p0).toInt ≠ 62 := fun z => q14 (Int32.toInt_inj.mp (z.trans (by decide)))
                    have nq16 : (p0).toInt ≠ 124 := fun z => q16 (Int32.toInt_inj.mp (z.trans (by decide)))
                    refine lv_lookup (off := 168) (tgt := 169) hx hb dX4_joined_1 (by decide) (by simp [Op.lookupswitch.offset, nq1.symm, nq4.symm, nq5.symm, nq6.symm, nq7.symm, nq10.symm, nq12.symm, nq14.symm, nq16.symm]) (by decide) ?_
                    refine lv_iload_n hx hb dX4_joined_169 rfl (lv_at hl 2 rfl) ?_
                    refine lv_if_ne (tgt := 177) hx hb dX4_joined_170 (by decide) (fun c19 => ?_) (fun c19 => ?_)
                    · replace hf := kf c19 hf
                      refine lv_iload_n hx hb dX4_joined_177 rfl (lv_at hl 1 rfl) ?_
                      refine lv_iload_n hx hb dX4_joined_178 rfl (lv_at hl 2 rfl) ?_
                      obtain ⟨g20, hf⟩ := kg hf
                      refine lv_irem hx hb dX4_joined_179 g20 ?_
                      have ho := ks hf
                      subst ho
                      exact kiret hx hb hr hlk hP hD hS hQ dX4_joined_180
                    · replace hf := kt c19 hf
                      refine lv_iconst (v := (0 : Int32)) hx hb dX4_joined_173 (by decide) ?_
                      refine lv_goto (tgt := 180) hx hb dX4_joined_174 (by decide) ?_
                      have ho := ks hf
                      subst ho
                      exact kiret hx hb hr hlk hP hD hS hQ dX4_joined_180
abbrev k_X7_become (G : KG) (a_p0 : Nat) (a_p0_goods : Nat) (a_p0_tills : Nat) (a_p0_tape : Nat) (a_p0_paysLaw : Nat) (a_p0_valuesLaw : Nat) (a_p0_waiting : Nat) (e_p0_goods : Nat → Nat) (a_p0_paysLaw_names : Nat) (a_p0_paysLaw_code : Nat) (a_p0_paysLaw_stack : Nat) (a_p0_paysLaw_bytes : Nat) (a_p0_paysLaw_draft : Nat) (e_p0_tills : Nat → Nat) (a_p0_valuesLaw_names : Nat) (a_p0_valuesLaw_code : Nat) (a_p0_valuesLaw_stack : Nat) (a_p0_valuesLaw_bytes : Nat) (a_p0_valuesLaw_draft : Nat) (a_this : Nat) (a_this_goods : Nat) (a_this_tills : Nat) (a_this_tape : Nat) (a_this_paysLaw : Nat) (a_this_valuesLaw : Nat) (a_this_waiting : Nat) (e_this_goods : Nat → Nat) (a_this_paysLaw_names : Nat) (a_this_paysLaw_code : Nat) (a_this_paysLaw_stack : Nat) (a_this_paysLaw_bytes : Nat) (a_this_paysLaw_draft : Nat) (a_this_valuesLaw_names : Nat) (a_this_valuesLaw_code : Nat) (a_this_valuesLaw_stack : Nat) (a_this_valuesLaw_bytes : Nat) (a_this_valuesLaw_draft : Nat) (p0_takings : Int32) (p0_costs : Int32) (p0_goes : Int32) (p0_z : Int32) (p0_fed : Int32) (p0_waits : Int32) (p0_goods : Nat → Nat → Int32) (p0_paysLaw_length : Int32) (p0_paysLaw_drafted : Int32) (p0_paysLaw_end : Int32) (p0_paysLaw_place : Int32) (p0_paysLaw_failed : Int32) (p0_paysLaw_code : Nat → Int32) (p0_tape : Nat → Int32) (p0_tills : Nat → Option Nat) (p0_tills_k0 : Nat) (p0_tills_k1 : Nat) (p0_tills_k2 : Nat) (p0_tills_k3 : Nat) (p0_tills_n : Nat → Int32) (p0_tills_m : Nat → Int32) (p0_valuesLaw_length : Int32) (p0_valuesLaw_drafted : Int32) (p0_valuesLaw_end : Int32) (p0_valuesLaw_place : Int32) (p0_valuesLaw_failed : Int32) (p0_valuesLaw_code : Nat → Int32) (p0_waiting : Nat → Int32) (this_takings : Int32) (this_costs : Int32) (this_goes : Int32) (this_z : Int32) (this_fed : Int32) (this_waits : Int32) (this_goods : Nat → Nat → Int32) (this_paysLaw_length : Int32) (this_paysLaw_drafted : Int32) (this_paysLaw_end : Int32) (this_paysLaw_place : Int32) (this_paysLaw_failed : Int32) (this_paysLaw_code : Nat → Int32) (this_tape : Nat → Int32) (this_tills : Nat → Option Nat) (this_valuesLaw_length : Int32) (this_valuesLaw_drafted : Int32) (this_valuesLaw_end : Int32) (this_valuesLaw_place : Int32) (this_valuesLaw_failed : Int32) (this_valuesLaw_code : Nat → Int32) (this_waiting : Nat → Int32) : va_W := [(a_p0, .inr (7, [.ref a_p0_goods, .ref a_p0_tills, .int p0_takings, .int p0_costs, .int p0_goes, .int p0_z, .ref a_p0_tape, .int p0_fed, .ref a_p0_paysLaw, .ref a_p0_valuesLaw, .ref a_p0_waiting, .int p0_waits])), (a_p0_goods, .inl (gII G, 3, .inr (.inr (.inr (.inr (fun j => some (e_p0_goods j))))))), (e_p0_goods 0, .inl (gI G, 8, .inl (p0_goods 0))), (e_p0_goods 1, .inl (gI G, 8, .inl (p0_goods 1))), (e_p0_goods 2, .inl (gI G, 8, .inl (p0_goods 2))), (a_p0_paysLaw, .inr (4, [.ref a_p0_paysLaw_names, .ref a_p0_paysLaw_code, .int p0_paysLaw_length, .ref a_p0_paysLaw_stack, .ref a_p0_paysLaw_bytes, .ref a_p0_paysLaw_draft, .int p0_paysLaw_drafted, .int p0_paysLaw_end, .int p0_paysLaw_place, .int p0_paysLaw_failed])), (a_p0_paysLaw_code, .inl (gI G, 60, .inl p0_paysLaw_code)), (a_p0_tape, .inl (gI G, 60, .inl p0_tape)), (a_p0_tills, .inl (gT G, 4, .inr (.inr (.inr (.inr p0_tills))))), (e_p0_tills 0, .inr (p0_tills_k0, [.int (p0_tills_n 0), .int (p0_tills_m 0)])), (e_p0_tills 1, .inr (p0_tills_k1, [.int (p0_tills_n 1), .int (p0_tills_m 1)])), (e_p0_tills 2, .inr (p0_tills_k2, [.int (p0_tills_n 2), .int (p0_tills_m 2)])), (e_p0_tills 3, .inr (p0_tills_k3, [.int (p0_tills_n 3), .int (p0_tills_m 3)])), (a_p0_valuesLaw, .inr (4, [.ref a_p0_valuesLaw_names, .ref a_p0_valuesLaw_code, .int p0_valuesLaw_length, .ref a_p0_valuesLaw_stack, .ref a_p0_valuesLaw_bytes, .ref a_p0_valuesLaw_draft, .int p0_valuesLaw_drafted, .int p0_valuesLaw_end, .int p0_valuesLaw_place, .int p0_valuesLaw_failed])), (a_p0_valuesLaw_code, .inl (gI G, 60, .inl p0_valuesLaw_code)), (a_p0_waiting, .inl (gI G, 24, .inl p0_waiting)), (a_this, .inr (7, [.ref a_this_goods, .ref a_this_tills, .int this_takings, .int this_costs, .int this_goes, .int this_z, .ref a_this_tape, .int this_fed, .ref a_this_paysLaw, .ref a_this_valuesLaw, .ref a_this_waiting, .int this_waits])), (a_this_goods, .inl (gII G, 3, .inr (.inr (.inr (.inr (fun j => some (e_this_goods j))))))), (e_this_goods 0, .inl (gI G, 8, .inl (this_goods 0))), (e_this_goods 1, .inl (gI G, 8, .inl (this_goods 1))), (e_this_goods 2, .inl (gI G, 8, .inl (this_goods 2))), (a_this_paysLaw, .inr (4, [.ref a_this_paysLaw_names, .ref a_this_paysLaw_code, .int this_paysLaw_length, .ref a_this_paysLaw_stack, .ref a_this_paysLaw_bytes, .ref a_this_paysLaw_draft, .int this_paysLaw_drafted, .int this_paysLaw_end, .int this_paysLaw_place, .int this_paysLaw_failed])), (a_this_paysLaw_code, .inl (gI G, 60, .inl this_paysLaw_code)), (a_this_tape, .inl (gI G, 60, .inl this_tape)), (a_this_tills, .inl (gT G, 4, .inr (.inr (.inr (.inr this_tills))))), (a_this_valuesLaw, .inr (4, [.ref a_this_valuesLaw_names, .ref a_this_valuesLaw_code, .int this_valuesLaw_length, .ref a_this_valuesLaw_stack, .ref a_this_valuesLaw_bytes, .ref a_this_valuesLaw_draft, .int this_valuesLaw_drafted, .int this_valuesLaw_end, .int this_valuesLaw_place, .int this_valuesLaw_failed])), (a_this_valuesLaw_code, .inl (gI G, 60, .inl this_valuesLaw_code)), (a_this_waiting, .inl (gI G, 24, .inl this_waiting))]
def f_X7_become_2 (N : Nat) (p0_goods : Nat → Nat → Int32) (K : Int32 → (Nat → Nat → Int32) → Option ((Int32) × (Int32) × (Int32) × (Int32) × (Int32) × (Int32) × (Nat → Nat → Int32) × (Int32) × (Nat → Int32) × (Nat → Int32) × (Nat → Option Nat) × (Int32) × (Nat → Int32) × (Nat → Int32))) : Nat → Int32 → (Nat → Nat → Int32) → Option ((Int32) × (Int32) × (Int32) × (Int32) × (Int32) × (Int32) × (Nat → Nat → Int32) × (Int32) × (Nat → Int32) × (Nat → Int32) × (Nat → Option Nat) × (Int32) × (Nat → Int32) × (Nat → Int32))
  | 0, _, _ => none
  | n + 1, y2, this_goods_v => (if (2 : Int32) < y2 then (K y2 this_goods_v) else (if vin y2 3 = true then (if vin y2 3 = true then (if ¬ (0 : Int32) < 0 ∧ ¬ (0 : Int32) < 0 ∧ ¬ (8 : Int32) < 0 ∧ (0 : Int32).toNatClampNeg + (8 : Int32).toNatClampNeg ≤ 8 ∧ (0 : Int32).toNatClampNeg + (8 : Int32).toNatClampNeg ≤ 8 then (f_X7_become_2 N p0_goods K n (y2 + (1 : Int32)) (va_up this_goods_v y2.toNatClampNeg (va_cpy (p0_goods y2.toNatClampNeg) (this_goods_v y2.toNatClampNeg) (0 : Int32).toNatClampNeg (0 : Int32).toNatClampNeg (8 : Int32).toNatClampNeg))) else none) else none) else none))
def f_X7_become_34 (N : Nat) (p0_tills : Nat → Option Nat) (p0_tills_k0 : Nat) (p0_tills_k1 : Nat) (p0_tills_k2 : Nat) (p0_tills_k3 : Nat) (K : Int32 → (Nat → Option Nat) → Option ((Int32) × (Int32) × (Int32) × (Int32) × (Int32) × (Int32) × (Nat → Nat → Int32) × (Int32) × (Nat → Int32) × (Nat → Int32) × (Nat → Option Nat) × (Int32) × (Nat → Int32) × (Nat → Int32))) : Nat → Int32 → (Nat → Option Nat) → Option ((Int32) × (Int32) × (Int32) × (Int32) × (Int32) × (Int32) × (Nat → Nat → Int32) × (Int32) × (Nat → Int32) × (Nat → Int32) × (Nat → Option Nat) × (Int32) × (Nat → Int32) × (Nat → Int32))
  | 0, _, _ => none
  | n + 1, y2, this_tills_v => (if (4 : Int32) ≤ y2 then (K y2 this_tills_v) else (if vin y2 4 = true then (if vin y2 4 = true then (if kOk (sel4 y2.toNatClampNeg p0_tills_k0 p0_tills_k1 p0_tills_k2 p0_tills_k3) = true then (f_X7_become_34 N p0_tills p0_tills_k0 p0_tills_k1 p0_tills_k2 p0_tills_k3 K n (y2 + (1 : Int32)) (va_up this_tills_v y2.toNatClampNeg (p0_tills y2.toNatClampNeg))) else none) else none) else none))
def f_X7_become (N : Nat) (p0_takings : Int32) (p0_costs : Int32) (p0_goes : Int32) (p0_z : Int32) (p0_fed : Int32) (p0_waits : Int32) (p0_goods : Nat → Nat → Int32) (p0_paysLaw_length : Int32) (p0_paysLaw_code : Nat → Int32) (p0_tape : Nat → Int32) (p0_tills : Nat → Option Nat) (p0_tills_k0 : Nat) (p0_tills_k1 : Nat) (p0_tills_k2 : Nat) (p0_tills_k3 : Nat) (p0_tills_n : Nat → Int32) (p0_tills_m : Nat → Int32) (p0_valuesLaw_length : Int32) (p0_valuesLaw_code : Nat → Int32) (p0_waiting : Nat → Int32) (this_takings : Int32) (this_costs : Int32) (this_goes : Int32) (this_z : Int32) (this_fed : Int32) (this_waits : Int32) (this_goods : Nat → Nat → Int32) (this_paysLaw_length : Int32) (this_paysLaw_code : Nat → Int32) (this_tape : Nat → Int32) (this_tills : Nat → Option Nat) (this_valuesLaw_length : Int32) (this_valuesLaw_code : Nat → Int32) (this_waiting : Nat → Int32) : Option ((Int32) × (Int32) × (Int32) × (Int32) × (Int32) × (Int32) × (Nat → Nat → Int32) × (Int32) × (Nat → Int32) × (Nat → Int32) × (Nat → Option Nat) × (Int32) × (Nat → Int32) × (Nat → Int32)) := (f_X7_become_2 N p0_goods (fun v2_8 this_goods_8 => (f_X7_become_34 N p0_tills p0_tills_k0 p0_tills_k1 p0_tills_k2 p0_tills_k3 (fun v2_14 this_tills_14 => (if ¬ (0 : Int32) < 0 ∧ ¬ (0 : Int32) < 0 ∧ ¬ (60 : Int32) < 0 ∧ (0 : Int32).toNatClampNeg + (60 : Int32).toNatClampNeg ≤ 60 ∧ (0 : Int32).toNatClampNeg + (60 : Int32).toNatClampNeg ≤ 60 then ((f_X4_become N p0_paysLaw_length p0_paysLaw_code this_paysLaw_length this_paysLaw_code).bind fun r16 => ((f_X4_become N p0_valuesLaw_length p0_valuesLaw_code this_valuesLaw_length this_valuesLaw_code).bind fun r17 => (if ¬ (0 : Int32) < 0 ∧ ¬ (0 : Int32) < 0 ∧ ¬ (24 : Int32) < 0 ∧ (0 : Int32).toNatClampNeg + (24 : Int32).toNatClampNeg ≤ 24 ∧ (0 : Int32).toNatClampNeg + (24 : Int32).toNatClampNeg ≤ 24 then (some (p0_takings, p0_costs, p0_goes, p0_z, p0_fed, p0_waits, this_goods_8, r16.1, r16.2, (va_cpy p0_tape this_tape (0 : Int32).toNatClampNeg (0 : Int32).toNatClampNeg (60 : Int32).toNatClampNeg), this_tills_14, r17.1, r17.2, (va_cpy p0_waiting this_waiting (0 : Int32).toNatClampNeg (0 : Int32).toNatClampNeg (24 : Int32).toNatClampNeg))) else none))) else none)) N (0 : Int32) this_tills)) N (0 : Int32) this_goods)
set_option maxRecDepth 100000 in
set_option maxHeartbeats 4000000 in
theorem c_X7_become (l : Launch) (G : KG) (N : Nat) (a_p0 : Nat) (a_p0_goods : Nat) (a_p0_tills : Nat) (a_p0_tape : Nat) (a_p0_paysLaw : Nat) (a_p0_valuesLaw : Nat) (a_p0_waiting : Nat) (e_p0_goods : Nat → Nat) (a_p0_paysLaw_names : Nat) (a_p0_paysLaw_code : Nat) (a_p0_paysLaw_stack : Nat) (a_p0_paysLaw_bytes : Nat) (a_p0_paysLaw_draft : Nat) (e_p0_tills : Nat → Nat) (a_p0_valuesLaw_names : Nat) (a_p0_valuesLaw_code : Nat) (a_p0_valuesLaw_stack : Nat) (a_p0_valuesLaw_bytes : Nat) (a_p0_valuesLaw_draft : Nat) (a_this : Nat) (a_this_goods : Nat) (a_this_tills : Nat) (a_this_tape : Nat) (a_this_paysLaw : Nat) (a_this_valuesLaw : Nat) (a_this_waiting : Nat) (e_this_goods : Nat → Nat) (a_this_paysLaw_names : Nat) (a_this_paysLaw_code : Nat) (a_this_paysLaw_stack : Nat) (a_this_paysLaw_bytes : Nat) (a_this_paysLaw_draft : Nat) (a_this_valuesLaw_names : Nat) (a_this_valuesLaw_code : Nat) (a_this_valuesLaw_stack : Nat) (a_this_valuesLaw_bytes : Nat) (a_this_valuesLaw_draft : Nat) (p0_takings : Int32) (p0_costs : Int32) (p0_goes : Int32) (p0_z : Int32) (p0_fed : Int32) (p0_waits : Int32) (p0_goods : Nat → Nat → Int32) (p0_paysLaw_length : Int32) (p0_paysLaw_drafted : Int32) (p0_paysLaw_end : Int32) (p0_paysLaw_place : Int32) (p0_paysLaw_failed : Int32) (p0_paysLaw_code : Nat → Int32) (p0_tape : Nat → Int32) (p0_tills : Nat → Option Nat) (p0_tills_k0 : Nat) (p0_tills_k1 : Nat) (p0_tills_k2 : Nat) (p0_tills_k3 : Nat) (p0_tills_n : Nat → Int32) (p0_tills_m : Nat → Int32) (p0_valuesLaw_length : Int32) (p0_valuesLaw_drafted : Int32) (p0_valuesLaw_end : Int32) (p0_valuesLaw_place : Int32) (p0_valuesLaw_failed : Int32) (p0_valuesLaw_code : Nat → Int32) (p0_waiting : Nat → Int32) (this_takings : Int32) (this_costs : Int32) (this_goes : Int32) (this_z : Int32) (this_fed : Int32) (this_waits : Int32) (this_goods : Nat → Nat → Int32) (this_paysLaw_length : Int32) (this_paysLaw_drafted : Int32) (this_paysLaw_end : Int32) (this_paysLaw_place : Int32) (this_paysLaw_failed : Int32) (this_paysLaw_code : Nat → Int32) (this_tape : Nat → Int32) (this_tills : Nat → Option Nat) (this_valuesLaw_length : Int32) (this_valuesLaw_drafted : Int32) (this_valuesLaw_end : Int32) (this_valuesLaw_place : Int32) (this_valuesLaw_failed : Int32) (this_valuesLaw_code : Nat → Int32) (this_waiting : Nat → Int32)  (ht_p0_tills : ∀ j : Nat, j < 4 → p0_tills j = some (e_p0_tills j)) (out : (Int32) × (Int32) × (Int32) × (Int32) × (Int32) × (Int32) × (Nat → Nat → Int32) × (Int32) × (Nat → Int32) × (Nat → Int32) × (Nat → Option Nat) × (Int32) × (Nat → Int32) × (Nat → Int32)) (hf : f_X7_become N p0_takings p0_costs p0_goes p0_z p0_fed p0_waits p0_goods p0_paysLaw_length p0_paysLaw_code p0_tape p0_tills p0_tills_k0 p0_tills_k1 p0_tills_k2 p0_tills_k3 p0_tills_n p0_tills_m p0_valuesLaw_length p0_valuesLaw_code p0_waiting this_takings this_costs this_goes this_z this_fed this_waits this_goods this_paysLaw_length this_paysLaw_code this_tape this_tills this_valuesLaw_length this_valuesLaw_code this_waiting = some out) : KM l G yX7_become (kw yX7_become cX7_become 3 none) 2 81 [.ref a_this, .ref a_p0] (k_X7_become G a_p0 a_p0_goods a_p0_tills a_p0_tape a_p0_paysLaw a_p0_valuesLaw a_p0_waiting e_p0_goods a_p0_paysLaw_names a_p0_paysLaw_code a_p0_paysLaw_stack a_p0_paysLaw_bytes a_p0_paysLaw_draft e_p0_tills a_p0_valuesLaw_names a_p0_valuesLaw_code a_p0_valuesLaw_stack a_p0_valuesLaw_bytes a_p0_valuesLaw_draft a_this a_this_goods a_this_tills a_this_tape a_this_paysLaw a_this_valuesLaw a_this_waiting e_this_goods a_this_paysLaw_names a_this_paysLaw_code a_this_paysLaw_stack a_this_paysLaw_bytes a_this_paysLaw_draft a_this_valuesLaw_names a_this_valuesLaw_code a_this_valuesLaw_stack a_this_valuesLaw_bytes a_this_valuesLaw_draft p0_takings p0_costs p0_goes p0_z p0_fed p0_waits p0_goods p0_paysLaw_length p0_paysLaw_drafted p0_paysLaw_end p0_paysLaw_place p0_paysLaw_failed p0_paysLaw_code p0_tape p0_tills p0_tills_k0 p0_tills_k1 p0_tills_k2 p0_tills_k3 p0_tills_n p0_tills_m p0_valuesLaw_length p0_valuesLaw_drafted p0_valuesLaw_end p0_valuesLaw_place p0_valuesLaw_failed p0_valuesLaw_code p0_waiting this_takings this_costs this_goes this_z this_fed this_waits this_goods this_paysLaw_length this_paysLaw_drafted this_paysLaw_end this_paysLaw_place this_paysLaw_failed this_paysLaw_code this_tape this_tills this_valuesLaw_length this_valuesLaw_drafted this_valuesLaw_end this_valuesLaw_place this_valuesLaw_failed this_valuesLaw_code this_waiting) (k_X7_become G a_p0 a_p0_goods a_p0_tills a_p0_tape a_p0_paysLaw a_p0_valuesLaw a_p0_waiting e_p0_goods a_p0_paysLaw_names a_p0_paysLaw_code a_p0_paysLaw_stack a_p0_paysLaw_bytes a_p0_paysLaw_draft e_p0_tills a_p0_valuesLaw_names a_p0_valuesLaw_code a_p0_valuesLaw_stack a_p0_valuesLaw_bytes a_p0_valuesLaw_draft a_this a_this_goods a_this_tills a_this_tape a_this_paysLaw a_this_valuesLaw a_this_waiting e_this_goods a_this_paysLaw_names a_this_paysLaw_code a_this_paysLaw_stack a_this_paysLaw_bytes a_this_paysLaw_draft a_this_valuesLaw_names a_this_valuesLaw_code a_this_valuesLaw_stack a_this_valuesLaw_bytes a_this_valuesLaw_draft p0_takings p0_costs p0_goes p0_z p0_fed p0_waits p0_goods p0_paysLaw_length p0_paysLaw_drafted p0_paysLaw_end p0_paysLaw_place p0_paysLaw_failed p0_paysLaw_code p0_tape p0_tills p0_tills_k0 p0_tills_k1 p0_tills_k2 p0_tills_k3 p0_tills_n p0_tills_m p0_valuesLaw_length p0_valuesLaw_drafted p0_valuesLaw_end p0_valuesLaw_place p0_valuesLaw_failed p0_valuesLaw_code p0_waiting (out.1) (out.2.1) (out.2.2.1) (out.2.2.2.1) (out.2.2.2.2.1) (out.2.2.2.2.2.1) (out.2.2.2.2.2.2.1) (out.2.2.2.2.2.2.2.1) this_paysLaw_drafted this_paysLaw_end this_paysLaw_place this_paysLaw_failed (out.2.2.2.2.2.2.2.2.1) (out.2.2.2.2.2.2.2.2.2.1) (out.2.2.2.2.2.2.2.2.2.2.1) (out.2.2.2.2.2.2.2.2.2.2.2.1) this_valuesLaw_drafted this_valuesLaw_end this_valuesLaw_place this_valuesLaw_failed (out.2.2.2.2.2.2.2.2.2.2.2.2.1) (out.2.2.2.2.2.2.2.2.2.2.2.2.2)) none := by
  refine KM.of (by decide) (Nat.le_of_ble_eq_true rfl) ?_
  intro p e s m below meth c A ls args Q Fx0 hP hK hD hA hS hAm hQ hl
  obtain ⟨hx, hb, hr, hml, hts, hown, hlk, hnm⟩ := Fx0
  have hown : s.vm.findClass RX7 = some m.cls := hown
  have hl : lv_has ls 3 [(0, .ref a_this), (1, .ref a_p0)] := hl
  have fl_22 := hts _ tw_246
  have fl_26 := hts _ tw_248
  have fl_29 := hts _ tw_250
  have fl_32 := hts _ tw_252
  have fl_35 := hts _ tw_254
  have fl_39 := hts _ tw_256
  have fl_49 := hts _ tw_258
  have fl_55 := hts _ tw_259
  have fl_58 := hts _ tw_260
  have fl_61 := hts _ tw_262
  have fl_18 := hts _ tw_244
  have fl_11 := hts _ tw_242
  unfold f_X7_become at hf
  refine lv_iconst (v := (0 : Int32)) hx hb dX7_become_0 (by decide) ?_
  refine lv_istore_n (lv' := [(2, .int (0 : Int32)), (0, .ref a_this), (1, .ref a_p0)]) hx hb dX7_become_1 rfl hl (by decide) rfl (fun ls hl => ?_)
  have L13 : ∀ (K : Int32 → (Nat → Nat → Int32) → Option ((Int32) × (Int32) × (Int32) × (Int32) × (Int32) × (Int32) × (Nat → Nat → Int32) × (Int32) × (Nat → Int32) × (Nat → Int32) × (Nat → Option Nat) × (Int32) × (Nat → Int32) × (Nat → Int32))), (∀ (v2_13 : Int32) (this_goods_13 : Nat → Nat → Int32) (H : Heap) (locs : List Loc), va_P (gD G) vwCl (k_X7_become G a_p0 a_p0_goods a_p0_tills a_p0_tape a_p0_paysLaw a_p0_valuesLaw a_p0_waiting e_p0_goods a_p0_paysLaw_names a_p0_paysLaw_code a_p0_paysLaw_stack a_p0_paysLaw_bytes a_p0_paysLaw_draft e_p0_tills a_p0_valuesLaw_names a_p0_valuesLaw_code a_p0_valuesLaw_stack a_p0_valuesLaw_bytes a_p0_valuesLaw_draft a_this a_this_goods a_this_tills a_this_tape a_this_paysLaw a_this_valuesLaw a_this_waiting e_this_goods a_this_paysLaw_names a_this_paysLaw_code a_this_paysLaw_stack a_this_paysLaw_bytes a_this_paysLaw_draft a_this_valuesLaw_names a_this_valuesLaw_code a_this_valuesLaw_stack a_this_valuesLaw_bytes a_this_valuesLaw_draft p0_takings p0_costs p0_goes p0_z p0_fed p0_waits p0_goods p0_paysLaw_length p0_paysLaw_drafted p0_paysLaw_end p0_paysLaw_place p0_paysLaw_failed p0_paysLaw_code p0_tape p0_tills p0_tills_k0 p0_tills_k1 p0_tills_k2 p0_tills_k3 p0_tills_n p0_tills_m p0_valuesLaw_length p0_valuesLaw_drafted p0_valuesLaw_end p0_valuesLaw_place p0_valuesLaw_failed p0_valuesLaw_code p0_waiting this_takings this_costs this_goes this_z this_fed this_waits this_goods_13 this_paysLaw_length this_paysLaw_drafted this_paysLaw_end this_paysLaw_place this_paysLaw_failed this_paysLaw_code this_tape this_tills this_valuesLaw_length this_valuesLaw_drafted this_valuesLaw_end this_valuesLaw_place this_valuesLaw_failed this_valuesLaw_code this_waiting) H → va_D A (k_X7_become G a_p0 a_p0_goods a_p0_tills a_p0_tape a_p0_paysLaw a_p0_valuesLaw a_p0_waiting e_p0_goods a_p0_paysLaw_names a_p0_paysLaw_code a_p0_paysLaw_stack a_p0_paysLaw_bytes a_p0_paysLaw_draft e_p0_tills a_p0_valuesLaw_names a_p0_valuesLaw_code a_p0_valuesLaw_stack a_p0_valuesLaw_bytes a_p0_valuesLaw_draft a_this a_this_goods a_this_tills a_this_tape a_this_paysLaw a_this_valuesLaw a_this_waiting e_this_goods a_this_paysLaw_names a_this_paysLaw_code a_this_paysLaw_stack a_this_paysLaw_bytes a_this_paysLaw_draft a_this_valuesLaw_names a_this_valuesLaw_code a_this_valuesLaw_stack a_this_valuesLaw_bytes a_this_valuesLaw_draft p0_takings p0_costs p0_goes p0_z p0_fed p0_waits p0_goods p0_paysLaw_length p0_paysLaw_drafted p0_paysLaw_end p0_paysLaw_place p0_paysLaw_failed p0_paysLaw_code p0_tape p0_tills p0_tills_k0 p0_tills_k1 p0_tills_k2 p0_tills_k3 p0_tills_n p0_tills_m p0_valuesLaw_length p0_valuesLaw_drafted p0_valuesLaw_end p0_valuesLaw_place p0_valuesLaw_failed p0_valuesLaw_code p0_waiting this_takings this_costs this_goes this_z this_fed this_waits this_goods_13 this_paysLaw_length this_paysLaw_drafted this_paysLaw_end this_paysLaw_place this_paysLaw_failed this_paysLaw_code this_tape this_tills this_valuesLaw_length this_valuesLaw_drafted this_valuesLaw_end this_valuesLaw_place this_valuesLaw_failed this_valuesLaw_code this_waiting) → va_S A s.heap H locs → ∀ (ls : Array Slot), lv_has ls 3 [(0, .ref a_this), (1, .ref a_p0), (2, .int v2_13)] → K v2_13 this_goods_13 = some out → W p l e (kR 2 0 0 81) s m args below meth c H locs 0 0 Q (F0 m 32 ls [])) → ∀ (n : Nat), ∀ (v2_13 : Int32) (this_goods_13 : Nat → Nat → Int32) (H : Heap) (locs : List Loc), va_P (gD G) vwCl (k_X7_become G a_p0 a_p0_goods a_p0_tills a_p0_tape a_p0_paysLaw a_p0_valuesLaw a_p0_waiting e_p0_goods a_p0_paysLaw_names a_p0_paysLaw_code a_p0_paysLaw_stack a_p0_paysLaw_bytes a_p0_paysLaw_draft e_p0_tills a_p0_valuesLaw_names a_p0_valuesLaw_code a_p0_valuesLaw_stack a_p0_valuesLaw_bytes a_p0_valuesLaw_draft a_this a_this_goods a_this_tills a_this_tape a_this_paysLaw a_this_valuesLaw a_this_waiting e_this_goods a_this_paysLaw_names a_this_paysLaw_code a_this_paysLaw_stack a_this_paysLaw_bytes a_this_paysLaw_draft a_this_valuesLaw_names a_this_valuesLaw_code a_this_valuesLaw_stack a_this_valuesLaw_bytes a_this_valuesLaw_draft p0_takings p0_costs p0_goes p0_z p0_fed p0_waits p0_goods p0_paysLaw_length p0_paysLaw_drafted p0_paysLaw_end p0_paysLaw_place p0_paysLaw_failed p0_paysLaw_code p0_tape p0_tills p0_tills_k0 p0_tills_k1 p0_tills_k2 p0_tills_k3 p0_tills_n p0_tills_m p0_valuesLaw_length p0_valuesLaw_drafted p0_valuesLaw_end p0_valuesLaw_place p0_valuesLaw_failed p0_valuesLaw_code p0_waiting this_takings this_costs this_goes this_z this_fed this_waits this_goods_13 this_paysLaw_length this_paysLaw_drafted this_paysLaw_end this_paysLaw_place this_paysLaw_failed this_paysLaw_code this_tape this_tills this_valuesLaw_length this_valuesLaw_drafted this_valuesLaw_end this_valuesLaw_place this_valuesLaw_failed this_valuesLaw_code this_waiting) H → va_D A (k_X7_become G a_p0 a_p0_goods a_p0_tills a_p0_tape a_p0_paysLaw a_p0_valuesLaw a_p0_waiting e_p0_goods a_p0_paysLaw_names a_p0_paysLaw_code a_p0_paysLaw_stack a_p0_paysLaw_bytes a_p0_paysLaw_draft e_p0_tills a_p0_valuesLaw_names a_p0_valuesLaw_code a_p0_valuesLaw_stack a_p0_valuesLaw_bytes a_p0_valuesLaw_draft a_this a_this_goods a_this_tills a_this_tape a_this_paysLaw a_this_valuesLaw a_this_waiting e_this_goods a_this_paysLaw_names a_this_paysLaw_code a_this_paysLaw_stack a_this_paysLaw_bytes a_this_paysLaw_draft a_this_valuesLaw_names a_this_valuesLaw_code a_this_valuesLaw_stack a_this_valuesLaw_bytes a_this_valuesLaw_draft p0_takings p0_costs p0_goes p0_z p0_fed p0_waits p0_goods p0_paysLaw_length p0_paysLaw_drafted p0_paysLaw_end p0_paysLaw_place p0_paysLaw_failed p0_paysLaw_code p0_tape p0_tills p0_tills_k0 p0_tills_k1 p0_tills_k2 p0_tills_k3 p0_tills_n p0_tills_m p0_valuesLaw_length p0_valuesLaw_drafted p0_valuesLaw_end p0_valuesLaw_place p0_valuesLaw_failed p0_valuesLaw_code p0_waiting this_takings this_costs this_goes this_z this_fed this_waits this_goods_13 this_paysLaw_length this_paysLaw_drafted this_paysLaw_end this_paysLaw_place this_paysLaw_failed this_paysLaw_code this_tape this_tills this_valuesLaw_length this_valuesLaw_drafted this_valuesLaw_end this_valuesLaw_place this_valuesLaw_failed this_valuesLaw_code this_waiting) → va_S A s.heap H locs → ∀ (ls : Array Slot), lv_has ls 3 [(0, .ref a_this), (1, .ref a_p0), (2, .int v2_13)] → f_X7_become_2 N p0_goods K n v2_13 this_goods_13 = some out → W p l e (kR 2 0 0 81) s m args below meth c H locs 0 0 Q (F0 m 2 ls []) := by
    intro K hK13 n
    induction n with
    | zero =>
      intro v2_13 this_goods_13 H locs hP hD hS ls hl hf
      rw [f_X7_become_2] at hf
      cases hf
    | succ n ih =>
      intro v2_13 this_goods_13 H locs hP hD hS ls hl hf
      rw [f_X7_become_2] at hf
      refine lv_iload_n hx hb dX7_become_2 rfl (lv_at hl 2 rfl) ?_
      refine lv_iconst (v := (2 : Int32)) hx hb dX7_become_3 (by decide) ?_
      refine lv_icmp_gt (tgt := 32) hx hb dX7_become_4 (by decide) (fun c14 => ?_) (fun c14 => ?_)
      · replace hf := kt c14 hf
        exact hK13 v2_13 this_goods_13 _ _ hP hD hS ls (lv_sub hl [0, 1, 2] rfl) hf
      · replace hf := kf c14 hf
        refine lv_aload_n hx hb dX7_become_7 rfl (lv_at hl 1 rfl) ?_
        refine va_get (D := gD G) (ci := 7) (C := RX7) (T := TX7) (N := 12) hx hb hts hin_X7 hown hK hP 0 rfl rfl 0 (by decide) fl_11 (fun _ h9 => h9) rfl dX7_become_8 ?_
        refine lv_iload_n hx hb dX7_become_11 rfl (lv_at hl 2 rfl) ?_
        obtain ⟨g15, hf⟩ := kg hf
        refine ka_aald hx hb hK hP 1 rfl (vin_of g15) dX7_become_12 ?_
        refine lv_iconst (v := (0 : Int32)) hx hb dX7_become_13 (by decide) ?_
        refine lv_aload_n hx hb dX7_become_14 rfl (lv_at hl 0 rfl) ?_
        refine va_get (D := gD G) (ci := 7) (C := RX7) (T := TX7) (N := 12) hx hb hts hin_X7 hown hK hP 16 rfl rfl 0 (by decide) fl_11 (fun _ h9 => h9) rfl dX7_become_15 ?_
        refine lv_iload_n hx hb dX7_become_18 rfl (lv_at hl 2 rfl) ?_
        obtain ⟨g16, hf⟩ := kg hf
        refine ka_aald hx hb hK hP 17 rfl (vin_of g16) dX7_become_19 ?_
        refine lv_iconst (v := (0 : Int32)) hx hb dX7_become_20 (by decide) ?_
        refine lv_bipush (v := (8 : Int32)) hx hb dX7_become_21 (by decide) ?_
        obtain ⟨g20, hf⟩ := kg hf
        have w17 : ∀ j, j < 3 → (k_X7_become G a_p0 a_p0_goods a_p0_tills a_p0_tape a_p0_paysLaw a_p0_valuesLaw a_p0_waiting e_p0_goods a_p0_paysLaw_names a_p0_paysLaw_code a_p0_paysLaw_stack a_p0_paysLaw_bytes a_p0_paysLaw_draft e_p0_tills a_p0_valuesLaw_names a_p0_valuesLaw_code a_p0_valuesLaw_stack a_p0_valuesLaw_bytes a_p0_valuesLaw_draft a_this a_this_goods a_this_tills a_this_tape a_this_paysLaw a_this_valuesLaw a_this_waiting e_this_goods a_this_paysLaw_names a_this_paysLaw_code a_this_paysLaw_stack a_this_paysLaw_bytes a_this_paysLaw_draft a_this_valuesLaw_names a_this_valuesLaw_code a_this_valuesLaw_stack a_this_valuesLaw_bytes a_this_valuesLaw_draft p0_takings p0_costs p0_goes p0_z p0_fed p0_waits p0_goods p0_paysLaw_length p0_paysLaw_drafted p0_paysLaw_end p0_paysLaw_place p0_paysLaw_failed p0_paysLaw_code p0_tape p0_tills p0_tills_k0 p0_tills_k1 p0_tills_k2 p0_tills_k3 p0_tills_n p0_tills_m p0_valuesLaw_length p0_valuesLaw_drafted p0_valuesLaw_end p0_valuesLaw_place p0_valuesLaw_failed p0_valuesLaw_code p0_waiting this_takings this_costs this_goes this_z this_fed this_waits this_goods_13 this_paysLaw_length this_paysLaw_drafted this_paysLaw_end this_paysLaw_place this_paysLaw_failed this_paysLaw_code this_tape this_tills this_valuesLaw_length this_valuesLaw_drafted this_valuesLaw_end this_valuesLaw_place this_valuesLaw_failed this_valuesLaw_code this_waiting)[2 + j]? = some (e_p0_goods j, .inl (gI G, 8, .inl (p0_goods j))) := fun j hj => match j, hj with | 0, _ => rfl | 1, _ => rfl | 2, _ => rfl | k + 3, hk => absurd hk (by omega)
        have w18 : ∀ j, j < 3 → (k_X7_become G a_p0 a_p0_goods a_p0_tills a_p0_tape a_p0_paysLaw a_p0_valuesLaw a_p0_waiting e_p0_goods a_p0_paysLaw_names a_p0_paysLaw_code a_p0_paysLaw_stack a_p0_paysLaw_bytes a_p0_paysLaw_draft e_p0_tills a_p0_valuesLaw_names a_p0_valuesLaw_code a_p0_valuesLaw_stack a_p0_valuesLaw_bytes a_p0_valuesLaw_draft a_this a_this_goods a_this_tills a_this_tape a_this_paysLaw a_this_valuesLaw a_this_waiting e_this_goods a_this_paysLaw_names a_this_paysLaw_code a_this_paysLaw_stack a_this_paysLaw_bytes a_this_paysLaw_draft a_this_valuesLaw_names a_this_valuesLaw_code a_this_valuesLaw_stack a_this_valuesLaw_bytes a_this_valuesLaw_draft p0_takings p0_costs p0_goes p0_z p0_fed p0_waits p0_goods p0_paysLaw_length p0_paysLaw_drafted p0_paysLaw_end p0_paysLaw_place p0_paysLaw_failed p0_paysLaw_code p0_tape p0_tills p0_tills_k0 p0_tills_k1 p0_tills_k2 p0_tills_k3 p0_tills_n p0_tills_m p0_valuesLaw_length p0_valuesLaw_drafted p0_valuesLaw_end p0_valuesLaw_place p0_valuesLaw_failed p0_valuesLaw_code p0_waiting this_takings this_costs this_goes this_z this_fed this_waits this_goods_13 this_paysLaw_length this_paysLaw_drafted this_paysLaw_end this_paysLaw_place this_paysLaw_failed this_paysLaw_code this_tape this_tills this_valuesLaw_length this_valuesLaw_drafted this_valuesLaw_end this_valuesLaw_place this_valuesLaw_failed this_valuesLaw_code this_waiting)[18 + j]? = some (e_this_goods j, .inl (gI G, 8, .inl (this_goods_13 j))) := fun j hj => match j, hj with | 0, _ => rfl | 1, _ => rfl | 2, _ => rfl | k + 3, hk => absurd hk (by omega)
        refine va_copyi hx hb (hml.trans hl.1.symm) hown (hts _ tw_951) (hts _ tw_575) (hts _ tw_574) (hts _ tw_94) hK hP hD hS (2 + v2_13.toNatClampNeg) (18 + v2_13.toNatClampNeg) 0 0 (ty := .int) (w17 _ (vin_lt g15)) (w18 _ (vin_lt g16)) rfl rfl rfl g20.1 g20.2.1 g20.2.2.1 g20.2.2.2.1 g20.2.2.2.2 (fun _ _ => rfl) (Nat.le_of_ble_eq_true rfl) (Nat.le_of_ble_eq_true rfl) dX7_become_23 (fun H locs hP hD hS => ?_)
        have z19 : ∀ j, j < 3 → (k_X7_become G a_p0 a_p0_goods a_p0_tills a_p0_tape a_p0_paysLaw a_p0_valuesLaw a_p0_waiting e_p0_goods a_p0_paysLaw_names a_p0_paysLaw_code a_p0_paysLaw_stack a_p0_paysLaw_bytes a_p0_paysLaw_draft e_p0_tills a_p0_valuesLaw_names a_p0_valuesLaw_code a_p0_valuesLaw_stack a_p0_valuesLaw_bytes a_p0_valuesLaw_draft a_this a_this_goods a_this_tills a_this_tape a_this_paysLaw a_this_valuesLaw a_this_waiting e_this_goods a_this_paysLaw_names a_this_paysLaw_code a_this_paysLaw_stack a_this_paysLaw_bytes a_this_paysLaw_draft a_this_valuesLaw_names a_this_valuesLaw_code a_this_valuesLaw_stack a_this_valuesLaw_bytes a_this_valuesLaw_draft p0_takings p0_costs p0_goes p0_z p0_fed p0_waits p0_goods p0_paysLaw_length p0_paysLaw_drafted p0_paysLaw_end p0_paysLaw_place p0_paysLaw_failed p0_paysLaw_code p0_tape p0_tills p0_tills_k0 p0_tills_k1 p0_tills_k2 p0_tills_k3 p0_tills_n p0_tills_m p0_valuesLaw_length p0_valuesLaw_drafted p0_valuesLaw_end p0_valuesLaw_place p0_valuesLaw_failed p0_valuesLaw_code p0_waiting this_takings this_costs this_goes this_z this_fed this_waits this_goods_13 this_paysLaw_length this_paysLaw_drafted this_paysLaw_end this_paysLaw_place this_paysLaw_failed this_paysLaw_code this_tape this_tills this_valuesLaw_length this_valuesLaw_drafted this_valuesLaw_end this_valuesLaw_place this_valuesLaw_failed this_valuesLaw_code this_waiting).set (18 + j) (e_this_goods j, .inl (gI G, 8, .inl (va_cpy (p0_goods v2_13.toNatClampNeg) (this_goods_13 v2_13.toNatClampNeg) (0 : Int32).toNatClampNeg (0 : Int32).toNatClampNeg (8 : Int32).toNatClampNeg))) = (k_X7_become G a_p0 a_p0_goods a_p0_tills a_p0_tape a_p0_paysLaw a_p0_valuesLaw a_p0_waiting e_p0_goods a_p0_paysLaw_names a_p0_paysLaw_code a_p0_paysLaw_stack a_p0_paysLaw_bytes a_p0_paysLaw_draft e_p0_tills a_p0_valuesLaw_names a_p0_valuesLaw_code a_p0_valuesLaw_stack a_p0_valuesLaw_bytes a_p0_valuesLaw_draft a_this a_this_goods a_this_tills a_this_tape a_this_paysLaw a_this_valuesLaw a_this_waiting e_this_goods a_this_paysLaw_names a_this_paysLaw_code a_this_paysLaw_stack a_this_paysLaw_bytes a_this_paysLaw_draft a_this_valuesLaw_names a_this_valuesLaw_code a_this_valuesLaw_stack a_this_valuesLaw_bytes a_this_valuesLaw_draft p0_takings p0_costs p0_goes p0_z p0_fed p0_waits p0_goods p0_paysLaw_length p0_paysLaw_drafted p0_paysLaw_end p0_paysLaw_place p0_paysLaw_failed p0_paysLaw_code p0_tape p0_tills p0_tills_k0 p0_tills_k1 p0_tills_k2 p0_tills_k3 p0_tills_n p0_tills_m p0_valuesLaw_length p0_valuesLaw_drafted p0_valuesLaw_end p0_valuesLaw_place p0_valuesLaw_failed p0_valuesLaw_code p0_waiting this_takings this_costs this_goes this_z this_fed this_waits (va_up this_goods_13 j (va_cpy (p0_goods v2_13.toNatClampNeg) (this_goods_13 v2_13.toNatClampNeg) (0 : Int32).toNatClampNeg (0 : Int32).toNatClampNeg (8 : Int32).toNatClampNeg)) this_paysLaw_length this_paysLaw_drafted this_paysLaw_end this_paysLaw_place this_paysLaw_failed this_paysLaw_code this_tape this_tills this_valuesLaw_length this_valuesLaw_drafted this_valuesLaw_end this_valuesLaw_place this_valuesLaw_failed this_valuesLaw_code this_waiting) := fun j hj => match j, hj with | 0, _ => rfl | 1, _ => rfl | 2, _ => rfl | k + 3, hk => absurd hk (by omega)
        have hP : va_P (gD G) vwCl (k_X7_become G a_p0 a_p0_goods a_p0_tills a_p0_tape a_p0_paysLaw a_p0_valuesLaw a_p0_waiting e_p0_goods a_p0_paysLaw_names a_p0_paysLaw_code a_p0_paysLaw_stack a_p0_paysLaw_bytes a_p0_paysLaw_draft e_p0_tills a_p0_valuesLaw_names a_p0_valuesLaw_code a_p0_valuesLaw_stack a_p0_valuesLaw_bytes a_p0_valuesLaw_draft a_this a_this_goods a_this_tills a_this_tape a_this_paysLaw a_this_valuesLaw a_this_waiting e_this_goods a_this_paysLaw_names a_this_paysLaw_code a_this_paysLaw_stack a_this_paysLaw_bytes a_this_paysLaw_draft a_this_valuesLaw_names a_this_valuesLaw_code a_this_valuesLaw_stack a_this_valuesLaw_bytes a_this_valuesLaw_draft p0_takings p0_costs p0_goes p0_z p0_fed p0_waits p0_goods p0_paysLaw_length p0_paysLaw_drafted p0_paysLaw_end p0_paysLaw_place p0_paysLaw_failed p0_paysLaw_code p0_tape p0_tills p0_tills_k0 p0_tills_k1 p0_tills_k2 p0_tills_k3 p0_tills_n p0_tills_m p0_valuesLaw_length p0_valuesLaw_drafted p0_valuesLaw_end p0_valuesLaw_place p0_valuesLaw_failed p0_valuesLaw_code p0_waiting this_takings this_costs this_goes this_z this_fed this_waits (va_up this_goods_13 v2_13.toNatClampNeg (va_cpy (p0_goods v2_13.toNatClampNeg) (this_goods_13 v2_13.toNatClampNeg) (0 : Int32).toNatClampNeg (0 : Int32).toNatClampNeg (8 : Int32).toNatClampNeg)) this_paysLaw_length this_paysLaw_drafted this_paysLaw_end this_paysLaw_place this_paysLaw_failed this_paysLaw_code this_tape this_tills this_valuesLaw_length this_valuesLaw_drafted this_valuesLaw_end this_valuesLaw_place this_valuesLaw_failed this_valuesLaw_code this_waiting) H := Eq.mp (congrArg (fun w => va_P (gD G) vwCl w H) (z19 _ (vin_lt g16))) hP
        have hD : va_D A (k_X7_become G a_p0 a_p0_goods a_p0_tills a_p0_tape a_p0_paysLaw a_p0_valuesLaw a_p0_waiting e_p0_goods a_p0_paysLaw_names a_p0_paysLaw_code a_p0_paysLaw_stack a_p0_paysLaw_bytes a_p0_paysLaw_draft e_p0_tills a_p0_valuesLaw_names a_p0_valuesLaw_code a_p0_valuesLaw_stack a_p0_valuesLaw_bytes a_p0_valuesLaw_draft a_this a_this_goods a_this_tills a_this_tape a_this_paysLaw a_this_valuesLaw a_this_waiting e_this_goods a_this_paysLaw_names a_this_paysLaw_code a_this_paysLaw_stack a_this_paysLaw_bytes a_this_paysLaw_draft a_this_valuesLaw_names a_this_valuesLaw_code a_this_valuesLaw_stack a_this_valuesLaw_bytes a_this_valuesLaw_draft p0_takings p0_costs p0_goes p0_z p0_fed p0_waits p0_goods p0_paysLaw_length p0_paysLaw_drafted p0_paysLaw_end p0_paysLaw_place p0_paysLaw_failed p0_paysLaw_code p0_tape p0_tills p0_tills_k0 p0_tills_k1 p0_tills_k2 p0_tills_k3 p0_tills_n p0_tills_m p0_valuesLaw_length p0_valuesLaw_drafted p0_valuesLaw_end p0_valuesLaw_place p0_valuesLaw_failed p0_valuesLaw_code p0_waiting this_takings this_costs this_goes this_z this_fed this_waits (va_up this_goods_13 v2_13.toNatClampNeg (va_cpy (p0_goods v2_13.toNatClampNeg) (this_goods_13 v2_13.toNatClampNeg) (0 : Int32).toNatClampNeg (0 : Int32).toNatClampNeg (8 : Int32).toNatClampNeg)) this_paysLaw_length this_paysLaw_drafted this_paysLaw_end this_paysLaw_place this_paysLaw_failed this_paysLaw_code this_tape this_tills this_valuesLaw_length this_valuesLaw_drafted this_valuesLaw_end this_valuesLaw_place this_valuesLaw_failed this_valuesLaw_code this_waiting) := Eq.mp (congrArg (fun w => va_D A w) (z19 _ (vin_lt g16))) hD
        refine lv_iinc (v := (v2_13 + (1 : Int32))) (lv' := [(2, .int (v2_13 + (1 : Int32))), (0, .ref a_this), (1, .ref a_p0)]) hx hb dX7_become_26 hl (k := 2) rfl rfl (by decide) rfl (fun ls hl => ?_)
        refine lv_goto (tgt := 2) hx hb dX7_become_29 (by decide) ?_
        exact ih (v2_13 + (1 : Int32)) (va_up this_goods_13 v2_13.toNatClampNeg (va_cpy (p0_goods v2_13.toNatClampNeg) (this_goods_13 v2_13.toNatClampNeg) (0 : Int32).toNatClampNeg (0 : Int32).toNatClampNeg (8 : Int32).toNatClampNeg)) _ _ hP hD hS ls (lv_sub hl [1, 2, 0] rfl) hf
  refine L13 _ (fun v2_1 this_goods_1 H locs hP hD hS ls hl hf => ?_) N (0 : Int32) this_goods _ _ hP hD hS ls (lv_sub hl [1, 2, 0] rfl) hf
  refine lv_iconst (v := (0 : Int32)) hx hb dX7_become_32 (by decide) ?_
  refine lv_istore_n (lv' := [(2, .int (0 : Int32)), (0, .ref a_this), (1, .ref a_p0)]) hx hb dX7_become_33 rfl hl (by decide) rfl (fun ls hl => ?_)
  have L7 : ∀ (K : Int32 → (Nat → Option Nat) → Option ((Int32) × (Int32) × (Int32) × (Int32) × (Int32) × (Int32) × (Nat → Nat → Int32) × (Int32) × (Nat → Int32) × (Nat → Int32) × (Nat → Option Nat) × (Int32) × (Nat → Int32) × (Nat → Int32))), (∀ (v2_7 : Int32) (this_tills_7 : Nat → Option Nat) (H : Heap) (locs : List Loc), va_P (gD G) vwCl (k_X7_become G a_p0 a_p0_goods a_p0_tills a_p0_tape a_p0_paysLaw a_p0_valuesLaw a_p0_waiting e_p0_goods a_p0_paysLaw_names a_p0_paysLaw_code a_p0_paysLaw_stack a_p0_paysLaw_bytes a_p0_paysLaw_draft e_p0_tills a_p0_valuesLaw_names a_p0_valuesLaw_code a_p0_valuesLaw_stack a_p0_valuesLaw_bytes a_p0_valuesLaw_draft a_this a_this_goods a_this_tills a_this_tape a_this_paysLaw a_this_valuesLaw a_this_waiting e_this_goods a_this_paysLaw_names a_this_paysLaw_code a_this_paysLaw_stack a_this_paysLaw_bytes a_this_paysLaw_draft a_this_valuesLaw_names a_this_valuesLaw_code a_this_valuesLaw_stack a_this_valuesLaw_bytes a_this_valuesLaw_draft p0_takings p0_costs p0_goes p0_z p0_fed p0_waits p0_goods p0_paysLaw_length p0_paysLaw_drafted p0_paysLaw_end p0_paysLaw_place p0_paysLaw_failed p0_paysLaw_code p0_tape p0_tills p0_tills_k0 p0_tills_k1 p0_tills_k2 p0_tills_k3 p0_tills_n p0_tills_m p0_valuesLaw_length p0_valuesLaw_drafted p0_valuesLaw_end p0_valuesLaw_place p0_valuesLaw_failed p0_valuesLaw_code p0_waiting this_takings this_costs this_goes this_z this_fed this_waits this_goods_1 this_paysLaw_length this_paysLaw_drafted this_paysLaw_end this_paysLaw_place this_paysLaw_failed this_paysLaw_code this_tape this_tills_7 this_valuesLaw_length this_valuesLaw_drafted this_valuesLaw_end this_valuesLaw_place this_valuesLaw_failed this_valuesLaw_code this_waiting) H → va_D A (k_X7_become G a_p0 a_p0_goods a_p0_tills a_p0_tape a_p0_paysLaw a_p0_valuesLaw a_p0_waiting e_p0_goods a_p0_paysLaw_names a_p0_paysLaw_code a_p0_paysLaw_stack a_p0_paysLaw_bytes a_p0_paysLaw_draft e_p0_tills a_p0_valuesLaw_names a_p0_valuesLaw_code a_p0_valuesLaw_stack a_p0_valuesLaw_bytes a_p0_valuesLaw_draft a_this a_this_goods a_this_tills a_this_tape a_this_paysLaw a_this_valuesLaw a_this_waiting e_this_goods a_this_paysLaw_names a_this_paysLaw_code a_this_paysLaw_stack a_this_paysLaw_bytes a_this_paysLaw_draft a_this_valuesLaw_names a_this_valuesLaw_code a_this_valuesLaw_stack a_this_valuesLaw_bytes a_this_valuesLaw_draft p0_takings p0_costs p0_goes p0_z p0_fed p0_waits p0_goods p0_paysLaw_length p0_paysLaw_drafted p0_paysLaw_end p0_paysLaw_place p0_paysLaw_failed p0_paysLaw_code p0_tape p0_tills p0_tills_k0 p0_tills_k1 p0_tills_k2 p0_tills_k3 p0_tills_n p0_tills_m p0_valuesLaw_length p0_valuesLaw_drafted p0_valuesLaw_end p0_valuesLaw_place p0_valuesLaw_failed p0_valuesLaw_code p0_waiting this_takings this_costs this_goes this_z this_fed this_waits this_goods_1 this_paysLaw_length this_paysLaw_drafted this_paysLaw_end this_paysLaw_place this_paysLaw_failed this_paysLaw_code this_tape this_tills_7 this_valuesLaw_length this_valuesLaw_drafted this_valuesLaw_end this_valuesLaw_place this_valuesLaw_failed this_valuesLaw_code this_waiting) → va_S A s.heap H locs → ∀ (ls : Array Slot), lv_has ls 3 [(0, .ref a_this), (1, .ref a_p0), (2, .int v2_7)] → K v2_7 this_tills_7 = some out → W p l e (kR 2 0 0 81) s m args below meth c H locs 0 0 Q (F0 m 57 ls [])) → ∀ (n : Nat), ∀ (v2_7 : Int32) (this_tills_7 : Nat → Option Nat) (H : Heap) (locs : List Loc), va_P (gD G) vwCl (k_X7_become G a_p0 a_p0_goods a_p0_tills a_p0_tape a_p0_paysLaw a_p0_valuesLaw a_p0_waiting e_p0_goods a_p0_paysLaw_names a_p0_paysLaw_code a_p0_paysLaw_stack a_p0_paysLaw_bytes a_p0_paysLaw_draft e_p0_tills a_p0_valuesLaw_names a_p0_valuesLaw_code a_p0_valuesLaw_stack a_p0_valuesLaw_bytes a_p0_valuesLaw_draft a_this a_this_goods a_this_tills a_this_tape a_this_paysLaw a_this_valuesLaw a_this_waiting e_this_goods a_this_paysLaw_names a_this_paysLaw_code a_this_paysLaw_stack a_this_paysLaw_bytes a_this_paysLaw_draft a_this_valuesLaw_names a_this_valuesLaw_code a_this_valuesLaw_stack a_this_valuesLaw_bytes a_this_valuesLaw_draft p0_takings p0_costs p0_goes p0_z p0_fed p0_waits p0_goods p0_paysLaw_length p0_paysLaw_drafted p0_paysLaw_end p0_paysLaw_place p0_paysLaw_failed p0_paysLaw_code p0_tape p0_tills p0_tills_k0 p0_tills_k1 p0_tills_k2 p0_tills_k3 p0_tills_n p0_tills_m p0_valuesLaw_length p0_valuesLaw_drafted p0_valuesLaw_end p0_valuesLaw_place p0_valuesLaw_failed p0_valuesLaw_code p0_waiting this_takings this_costs this_goes this_z this_fed this_waits this_goods_1 this_paysLaw_length this_paysLaw_drafted this_paysLaw_end this_paysLaw_place this_paysLaw_failed this_paysLaw_code this_tape this_tills_7 this_valuesLaw_length this_valuesLaw_drafted this_valuesLaw_end this_valuesLaw_place this_valuesLaw_failed this_valuesLaw_code this_waiting) H → va_D A (k_X7_become G a_p0 a_p0_goods a_p0_tills a_p0_tape a_p0_paysLaw a_p0_valuesLaw a_p0_waiting e_p0_goods a_p0_paysLaw_names a_p0_paysLaw_code a_p0_paysLaw_stack a_p0_paysLaw_bytes a_p0_paysLaw_draft e_p0_tills a_p0_valuesLaw_names a_p0_valuesLaw_code a_p0_valuesLaw_stack a_p0_valuesLaw_bytes a_p0_valuesLaw_draft a_this a_this_goods a_this_tills a_this_tape a_this_paysLaw a_this_valuesLaw a_this_waiting e_this_goods a_this_paysLaw_names a_this_paysLaw_code a_this_paysLaw_stack a_this_paysLaw_bytes a_this_paysLaw_draft a_this_valuesLaw_names a_this_valuesLaw_code a_this_valuesLaw_stack a_this_valuesLaw_bytes a_this_valuesLaw_draft p0_takings p0_costs p0_goes p0_z p0_fed p0_waits p0_goods p0_paysLaw_length p0_paysLaw_drafted p0_paysLaw_end p0_paysLaw_place p0_paysLaw_failed p0_paysLaw_code p0_tape p0_tills p0_tills_k0 p0_tills_k1 p0_tills_k2 p0_tills_k3 p0_tills_n p0_tills_m p0_valuesLaw_length p0_valuesLaw_drafted p0_valuesLaw_end p0_valuesLaw_place p0_valuesLaw_failed p0_valuesLaw_code p0_waiting this_takings this_costs this_goes this_z this_fed this_waits this_goods_1 this_paysLaw_length this_paysLaw_drafted this_paysLaw_end this_paysLaw_place this_paysLaw_failed this_paysLaw_code this_tape this_tills_7 this_valuesLaw_length this_valuesLaw_drafted this_valuesLaw_end this_valuesLaw_place this_valuesLaw_failed this_valuesLaw_code this_waiting) → va_S A s.heap H locs → ∀ (ls : Array Slot), lv_has ls 3 [(0, .ref a_this), (1, .ref a_p0), (2, .int v2_7)] → f_X7_become_34 N p0_tills p0_tills_k0 p0_tills_k1 p0_tills_k2 p0_tills_k3 K n v2_7 this_tills_7 = some out → W p l e (kR 2 0 0 81) s m args below meth c H locs 0 0 Q (F0 m 34 ls []) := by
    intro K hK7 n
    induction n with
    | zero =>
      intro v2_7 this_tills_7 H locs hP hD hS ls hl hf
      rw [f_X7_become_34] at hf
      cases hf
    | succ n ih =>
      intro v2_7 this_tills_7 H locs hP hD hS ls hl hf
      rw [f_X7_become_34] at hf
      refine lv_iload_n hx hb dX7_become_34 rfl (lv_at hl 2 rfl) ?_
      refine lv_iconst (v := (4 : Int32)) hx hb dX7_become_35 (by decide) ?_
      refine lv_icmp_ge (tgt := 57) hx hb dX7_become_36 (by decide) (fun c8 => ?_) (fun c8 => ?_)
      · replace hf := kt c8 hf
        exact hK7 v2_7 this_tills_7 _ _ hP hD hS ls (lv_sub hl [0, 1, 2] rfl) hf
      · replace hf := kf c8 hf
        refine lv_aload_n hx hb dX7_become_39 rfl (lv_at hl 0 rfl) ?_
        refine va_get (D := gD G) (ci := 7) (C := RX7) (T := TX7) (N := 12) hx hb hts hin_X7 hown hK hP 16 rfl rfl 1 (by decide) fl_18 (fun _ h9 => h9) rfl dX7_become_40 ?_
        refine lv_iload_n hx hb dX7_become_43 rfl (lv_at hl 2 rfl) ?_
        refine lv_aload_n hx hb dX7_become_44 rfl (lv_at hl 1 rfl) ?_
        refine va_get (D := gD G) (ci := 7) (C := RX7) (T := TX7) (N := 12) hx hb hts hin_X7 hown hK hP 0 rfl rfl 1 (by decide) fl_18 (fun _ h9 => h9) rfl dX7_become_45 ?_
        refine lv_iload_n hx hb dX7_become_48 rfl (lv_at hl 2 rfl) ?_
        obtain ⟨g9, hf⟩ := kg hf
        refine ka_tald hx hb hK hP 8 rfl (vin_of g9) (ht_p0_tills _ (vin_lt g9)) dX7_become_49 ?_
        obtain ⟨g10, hf⟩ := kg hf
        obtain ⟨g11, hf⟩ := kg hf
        have w12 : ∀ j, j < 4 → (k_X7_become G a_p0 a_p0_goods a_p0_tills a_p0_tape a_p0_paysLaw a_p0_valuesLaw a_p0_waiting e_p0_goods a_p0_paysLaw_names a_p0_paysLaw_code a_p0_paysLaw_stack a_p0_paysLaw_bytes a_p0_paysLaw_draft e_p0_tills a_p0_valuesLaw_names a_p0_valuesLaw_code a_p0_valuesLaw_stack a_p0_valuesLaw_bytes a_p0_valuesLaw_draft a_this a_this_goods a_this_tills a_this_tape a_this_paysLaw a_this_valuesLaw a_this_waiting e_this_goods a_this_paysLaw_names a_this_paysLaw_code a_this_paysLaw_stack a_this_paysLaw_bytes a_this_paysLaw_draft a_this_valuesLaw_names a_this_valuesLaw_code a_this_valuesLaw_stack a_this_valuesLaw_bytes a_this_valuesLaw_draft p0_takings p0_costs p0_goes p0_z p0_fed p0_waits p0_goods p0_paysLaw_length p0_paysLaw_drafted p0_paysLaw_end p0_paysLaw_place p0_paysLaw_failed p0_paysLaw_code p0_tape p0_tills p0_tills_k0 p0_tills_k1 p0_tills_k2 p0_tills_k3 p0_tills_n p0_tills_m p0_valuesLaw_length p0_valuesLaw_drafted p0_valuesLaw_end p0_valuesLaw_place p0_valuesLaw_failed p0_valuesLaw_code p0_waiting this_takings this_costs this_goes this_z this_fed this_waits this_goods_1 this_paysLaw_length this_paysLaw_drafted this_paysLaw_end this_paysLaw_place this_paysLaw_failed this_paysLaw_code this_tape this_tills_7 this_valuesLaw_length this_valuesLaw_drafted this_valuesLaw_end this_valuesLaw_place this_valuesLaw_failed this_valuesLaw_code this_waiting)[9 + j]? = some (e_p0_tills j, .inr (sel4 j p0_tills_k0 p0_tills_k1 p0_tills_k2 p0_tills_k3, [.int (p0_tills_n j), .int (p0_tills_m j)])) := fun j hj => match j, hj with | 0, _ => rfl | 1, _ => rfl | 2, _ => rfl | 3, _ => rfl | k + 4, hk => absurd hk (by omega)
        refine kast hx hb hK hAm hP hD hS 24 (9 + v2_7.toNatClampNeg) rfl (w12 _ (vin_lt g9)) g11 (vin_of g10) dX7_become_50 (fun H locs hP hD hS => ?_)
        have hP : va_P (gD G) vwCl (k_X7_become G a_p0 a_p0_goods a_p0_tills a_p0_tape a_p0_paysLaw a_p0_valuesLaw a_p0_waiting e_p0_goods a_p0_paysLaw_names a_p0_paysLaw_code a_p0_paysLaw_stack a_p0_paysLaw_bytes a_p0_paysLaw_draft e_p0_tills a_p0_valuesLaw_names a_p0_valuesLaw_code a_p0_valuesLaw_stack a_p0_valuesLaw_bytes a_p0_valuesLaw_draft a_this a_this_goods a_this_tills a_this_tape a_this_paysLaw a_this_valuesLaw a_this_waiting e_this_goods a_this_paysLaw_names a_this_paysLaw_code a_this_paysLaw_stack a_this_paysLaw_bytes a_this_paysLaw_draft a_this_valuesLaw_names a_this_valuesLaw_code a_this_valuesLaw_stack a_this_valuesLaw_bytes a_this_valuesLaw_draft p0_takings p0_costs p0_goes p0_z p0_fed p0_waits p0_goods p0_paysLaw_length p0_paysLaw_drafted p0_paysLaw_end p0_paysLaw_place p0_paysLaw_failed p0_paysLaw_code p0_tape p0_tills p0_tills_k0 p0_tills_k1 p0_tills_k2 p0_tills_k3 p0_tills_n p0_tills_m p0_valuesLaw_length p0_valuesLaw_drafted p0_valuesLaw_end p0_valuesLaw_place p0_valuesLaw_failed p0_valuesLaw_code p0_waiting this_takings this_costs this_goes this_z this_fed this_waits this_goods_1 this_paysLaw_length this_paysLaw_drafted this_paysLaw_end this_paysLaw_place this_paysLaw_failed this_paysLaw_code this_tape (va_up this_tills_7 v2_7.toNatClampNeg (p0_tills v2_7.toNatClampNeg)) this_valuesLaw_length this_valuesLaw_drafted this_valuesLaw_end this_valuesLaw_place this_valuesLaw_failed this_valuesLaw_code this_waiting) H := by rw [ht_p0_tills _ (vin_lt g9)]; exact hP
        have hD : va_D A (k_X7_become G a_p0 a_p0_goods a_p0_tills a_p0_tape a_p0_paysLaw a_p0_valuesLaw a_p0_waiting e_p0_goods a_p0_paysLaw_names a_p0_paysLaw_code a_p0_paysLaw_stack a_p0_paysLaw_bytes a_p0_paysLaw_draft e_p0_tills a_p0_valuesLaw_names a_p0_valuesLaw_code a_p0_valuesLaw_stack a_p0_valuesLaw_bytes a_p0_valuesLaw_draft a_this a_this_goods a_this_tills a_this_tape a_this_paysLaw a_this_valuesLaw a_this_waiting e_this_goods a_this_paysLaw_names a_this_paysLaw_code a_this_paysLaw_stack a_this_paysLaw_bytes a_this_paysLaw_draft a_this_valuesLaw_names a_this_valuesLaw_code a_this_valuesLaw_stack a_this_valuesLaw_bytes a_this_valuesLaw_draft p0_takings p0_costs p0_goes p0_z p0_fed p0_waits p0_goods p0_paysLaw_length p0_paysLaw_drafted p0_paysLaw_end p0_paysLaw_place p0_paysLaw_failed p0_paysLaw_code p0_tape p0_tills p0_tills_k0 p0_tills_k1 p0_tills_k2 p0_tills_k3 p0_tills_n p0_tills_m p0_valuesLaw_length p0_valuesLaw_drafted p0_valuesLaw_end p0_valuesLaw_place p0_valuesLaw_failed p0_valuesLaw_code p0_waiting this_takings this_costs this_goes this_z this_fed this_waits this_goods_1 this_paysLaw_length this_paysLaw_drafted this_paysLaw_end this_paysLaw_place this_paysLaw_failed this_paysLaw_code this_tape (va_up this_tills_7 v2_7.toNatClampNeg (p0_tills v2_7.toNatClampNeg)) this_valuesLaw_length this_valuesLaw_drafted this_valuesLaw_end this_valuesLaw_place this_valuesLaw_failed this_valuesLaw_code this_waiting) := by rw [ht_p0_tills _ (vin_lt g9)]; exact hD
        refine lv_iinc (v := (v2_7 + (1 : Int32))) (lv' := [(2, .int (v2_7 + (1 : Int32))), (0, .ref a_this), (1, .ref a_p0)]) hx hb dX7_become_51 hl (k := 2) rfl rfl (by decide) rfl (fun ls hl => ?_)
        refine lv_goto (tgt := 34) hx hb dX7_become_54 (by decide) ?_
        exact ih (v2_7 + (1 : Int32)) (va_up this_tills_7 v2_7.toNatClampNeg (p0_tills v2_7.toNatClampNeg)) _ _ hP hD hS ls (lv_sub hl [1, 2, 0] rfl) hf
  refine L7 _ (fun v2_2 this_tills_2 H locs hP hD hS ls hl hf => ?_) N (0 : Int32) this_tills _ _ hP hD hS ls (lv_sub hl [1, 2, 0] rfl) hf
  refine lv_aload_n hx hb dX7_become_57 rfl (lv_at hl 0 rfl) ?_
  refine lv_aload_n hx hb dX7_become_58 rfl (lv_at hl 1 rfl) ?_
  refine va_get (D := gD G) (ci := 7) (C := RX7) (T := TX7) (N := 12) hx hb hts hin_X7 hown hK hP 0 rfl rfl 2 (by decide) fl_22 (fun _ h9 => h9) rfl dX7_become_59 ?_
  refine va_put (D := gD G) (ci := 7) (v := .int p0_takings) (ty := .int) (C := RX7) (T := TX7) (N := 12) hx hb hts hin_X7 tyX7 tyX7_ok nmX7 hown hK hP hD hS 16 rfl rfl 2 (by decide) fl_22 (fun _ h9 => h9) rfl (by decide +kernel) rfl rfl (Nat.le_of_ble_eq_true rfl) dX7_become_62 (fun H locs hP hD hS => ?_)
  have hP : va_P (gD G) vwCl (k_X7_become G a_p0 a_p0_goods a_p0_tills a_p0_tape a_p0_paysLaw a_p0_valuesLaw a_p0_waiting e_p0_goods a_p0_paysLaw_names a_p0_paysLaw_code a_p0_paysLaw_stack a_p0_paysLaw_bytes a_p0_paysLaw_draft e_p0_tills a_p0_valuesLaw_names a_p0_valuesLaw_code a_p0_valuesLaw_stack a_p0_valuesLaw_bytes a_p0_valuesLaw_draft a_this a_this_goods a_this_tills a_this_tape a_this_paysLaw a_this_valuesLaw a_this_waiting e_this_goods a_this_paysLaw_names a_this_paysLaw_code a_this_paysLaw_stack a_this_paysLaw_bytes a_this_paysLaw_draft a_this_valuesLaw_names a_this_valuesLaw_code a_this_valuesLaw_stack a_this_valuesLaw_bytes a_this_valuesLaw_draft p0_takings p0_costs p0_goes p0_z p0_fed p0_waits p0_goods p0_paysLaw_length p0_paysLaw_drafted p0_paysLaw_end p0_paysLaw_place p0_paysLaw_failed p0_paysLaw_code p0_tape p0_tills p0_tills_k0 p0_tills_k1 p0_tills_k2 p0_tills_k3 p0_tills_n p0_tills_m p0_valuesLaw_length p0_valuesLaw_drafted p0_valuesLaw_end p0_valuesLaw_place p0_valuesLaw_failed p0_valuesLaw_code p0_waiting p0_takings this_costs this_goes this_z this_fed this_waits this_goods_1 this_paysLaw_length this_paysLaw_drafted this_paysLaw_end this_paysLaw_place this_paysLaw_failed this_paysLaw_code this_tape this_tills_2 this_valuesLaw_length this_valuesLaw_drafted this_valuesLaw_end this_valuesLaw_place this_valuesLaw_failed this_valuesLaw_code this_waiting) H := hP
  have hD : va_D A (k_X7_become G a_p0 a_p0_goods a_p0_tills a_p0_tape a_p0_paysLaw a_p0_valuesLaw a_p0_waiting e_p0_goods a_p0_paysLaw_names a_p0_paysLaw_code a_p0_paysLaw_stack a_p0_paysLaw_bytes a_p0_paysLaw_draft e_p0_tills a_p0_valuesLaw_names a_p0_valuesLaw_code a_p0_valuesLaw_stack a_p0_valuesLaw_bytes a_p0_valuesLaw_draft a_this a_this_goods a_this_tills a_this_tape a_this_paysLaw a_this_valuesLaw a_this_waiting e_this_goods a_this_paysLaw_names a_this_paysLaw_code a_this_paysLaw_stack a_this_paysLaw_bytes a_this_paysLaw_draft a_this_valuesLaw_names a_this_valuesLaw_code a_this_valuesLaw_stack a_this_valuesLaw_bytes a_this_valuesLaw_draft p0_takings p0_costs p0_goes p0_z p0_fed p0_waits p0_goods p0_paysLaw_length p0_paysLaw_drafted p0_paysLaw_end p0_paysLaw_place p0_paysLaw_failed p0_paysLaw_code p0_tape p0_tills p0_tills_k0 p0_tills_k1 p0_tills_k2 p0_tills_k3 p0_tills_n p0_tills_m p0_valuesLaw_length p0_valuesLaw_drafted p0_valuesLaw_end p0_valuesLaw_place p0_valuesLaw_failed p0_valuesLaw_code p0_waiting p0_takings this_costs this_goes this_z this_fed this_waits this_goods_1 this_paysLaw_length this_paysLaw_drafted this_paysLaw_end this_paysLaw_place this_paysLaw_failed this_paysLaw_code this_tape this_tills_2 this_valuesLaw_length this_valuesLaw_drafted this_valuesLaw_end this_valuesLaw_place this_valuesLaw_failed this_valuesLaw_code this_waiting) := hD
  refine lv_aload_n hx hb dX7_become_65 rfl (lv_at hl 0 rfl) ?_
  refine lv_aload_n hx hb dX7_become_66 rfl (lv_at hl 1 rfl) ?_
  refine va_get (D := gD G) (ci := 7) (C := RX7) (T := TX7) (N := 12) hx hb hts hin_X7 hown hK hP 0 rfl rfl 3 (by decide) fl_26 (fun _ h9 => h9) rfl dX7_become_67 ?_
  refine va_put (D := gD G) (ci := 7) (v := .int p0_costs) (ty := .int) (C := RX7) (T := TX7) (N := 12) hx hb hts hin_X7 tyX7 tyX7_ok nmX7 hown hK hP hD hS 16 rfl rfl 3 (by decide) fl_26 (fun _ h9 => h9) rfl (by decide +kernel) rfl rfl (Nat.le_of_ble_eq_true rfl) dX7_become_70 (fun H locs hP hD hS => ?_)
  have hP : va_P (gD G) vwCl (k_X7_become G a_p0 a_p0_goods a_p0_tills a_p0_tape a_p0_paysLaw a_p0_valuesLaw a_p0_waiting e_p0_goods a_p0_paysLaw_names a_p0_paysLaw_code a_p0_paysLaw_stack a_p0_paysLaw_bytes a_p0_paysLaw_draft e_p0_tills a_p0_valuesLaw_names a_p0_valuesLaw_code a_p0_valuesLaw_stack a_p0_valuesLaw_bytes a_p0_valuesLaw_draft a_this a_this_goods a_this_tills a_this_tape a_this_paysLaw a_this_valuesLaw a_this_waiting e_this_goods a_this_paysLaw_names a_this_paysLaw_code a_this_paysLaw_stack a_this_paysLaw_bytes a_this_paysLaw_draft a_this_valuesLaw_names a_this_valuesLaw_code a_this_valuesLaw_stack a_this_valuesLaw_bytes a_this_valuesLaw_draft p0_takings p0_costs p0_goes p0_z p0_fed p0_waits p0_goods p0_paysLaw_length p0_paysLaw_drafted p0_paysLaw_end p0_paysLaw_place p0_paysLaw_failed p0_paysLaw_code p0_tape p0_tills p0_tills_k0 p0_tills_k1 p0_tills_k2 p0_tills_k3 p0_tills_n p0_tills_m p0_valuesLaw_length p0_valuesLaw_drafted p0_valuesLaw_end p0_valuesLaw_place p0_valuesLaw_failed p0_valuesLaw_code p0_waiting p0_takings p0_costs this_goes this_z this_fed this_waits this_goods_1 this_paysLaw_length this_paysLaw_drafted this_paysLaw_end this_paysLaw_place this_paysLaw_failed this_paysLaw_code this_tape this_tills_2 this_valuesLaw_length this_valuesLaw_drafted this_valuesLaw_end this_valuesLaw_place this_valuesLaw_failed this_valuesLaw_code this_waiting) H := hP
  have hD : va_D A (k_X7_become G a_p0 a_p0_goods a_p0_tills a_p0_tape a_p0_paysLaw a_p0_valuesLaw a_p0_waiting e_p0_goods a_p0_paysLaw_names a_p0_paysLaw_code a_p0_paysLaw_stack a_p0_paysLaw_bytes a_p0_paysLaw_draft e_p0_tills a_p0_valuesLaw_names a_p0_valuesLaw_code a_p0_valuesLaw_stack a_p0_valuesLaw_bytes a_p0_valuesLaw_draft a_this a_this_goods a_this_tills a_this_tape a_this_paysLaw a_this_valuesLaw a_this_waiting e_this_goods a_this_paysLaw_names a_this_paysLaw_code a_this_paysLaw_stack a_this_paysLaw_bytes a_this_paysLaw_draft a_this_valuesLaw_names a_this_valuesLaw_code a_this_valuesLaw_stack a_this_valuesLaw_bytes a_this_valuesLaw_draft p0_takings p0_costs p0_goes p0_z p0_fed p0_waits p0_goods p0_paysLaw_length p0_paysLaw_drafted p0_paysLaw_end p0_paysLaw_place p0_paysLaw_failed p0_paysLaw_code p0_tape p0_tills p0_tills_k0 p0_tills_k1 p0_tills_k2 p0_tills_k3 p0_tills_n p0_tills_m p0_valuesLaw_length p0_valuesLaw_drafted p0_valuesLaw_end p0_valuesLaw_place p0_valuesLaw_failed p0_valuesLaw_code p0_waiting p0_takings p0_costs this_goes this_z this_fed this_waits this_goods_1 this_paysLaw_length this_paysLaw_drafted this_paysLaw_end this_paysLaw_place this_paysLaw_failed this_paysLaw_code this_tape this_tills_2 this_valuesLaw_length this_valuesLaw_drafted this_valuesLaw_end this_valuesLaw_place this_valuesLaw_failed this_valuesLaw_code this_waiting) := hD
  refine lv_aload_n hx hb dX7_become_73 rfl (lv_at hl 0 rfl) ?_
  refine lv_aload_n hx hb dX7_become_74 rfl (lv_at hl 1 rfl) ?_
  refine va_get (D := gD G) (ci := 7) (C := RX7) (T := TX7) (N := 12) hx hb hts hin_X7 hown hK hP 0 rfl rfl 4 (by decide) fl_29 (fun _ h9 => h9) rfl dX7_become_75 ?_
  refine va_put (D := gD G) (ci := 7) (v := .int p0_goes) (ty := .int) (C := RX7) (T := TX7) (N := 12) hx hb hts hin_X7 tyX7 tyX7_ok nmX7 hown hK hP hD hS 16 rfl rfl 4 (by decide) fl_29 (fun _ h9 => h9) rfl (by decide +kernel) rfl rfl (Nat.le_of_ble_eq_true rfl) dX7_become_78 (fun H locs hP hD hS => ?_)
  have hP : va_P (gD G) vwCl (k_X7_become G a_p0 a_p0_goods a_p0_tills a_p0_tape a_p0_paysLaw a_p0_valuesLaw a_p0_waiting e_p0_goods a_p0_paysLaw_names a_p0_paysLaw_code a_p0_paysLaw_stack a_p0_paysLaw_bytes a_p0_paysLaw_draft e_p0_tills a_p0_valuesLaw_names a_p0_valuesLaw_code a_p0_valuesLaw_stack a_p0_valuesLaw_bytes a_p0_valuesLaw_draft a_this a_this_goods a_this_tills a_this_tape a_this_paysLaw a_this_valuesLaw a_this_waiting e_this_goods a_this_paysLaw_names a_this_paysLaw_code a_this_paysLaw_stack a_this_paysLaw_bytes a_this_paysLaw_draft a_this_valuesLaw_names a_this_valuesLaw_code a_this_valuesLaw_stack a_this_valuesLaw_bytes a_this_valuesLaw_draft p0_takings p0_costs p0_goes p0_z p0_fed p0_waits p0_goods p0_paysLaw_length p0_paysLaw_drafted p0_paysLaw_end p0_paysLaw_place p0_paysLaw_failed p0_paysLaw_code p0_tape p0_tills p0_tills_k0 p0_tills_k1 p0_tills_k2 p0_tills_k3 p0_tills_n p0_tills_m p0_valuesLaw_length p0_valuesLaw_drafted p0_valuesLaw_end p0_valuesLaw_place p0_valuesLaw_failed p0_valuesLaw_code p0_waiting p0_takings p0_costs p0_goes this_z this_fed this_waits this_goods_1 this_paysLaw_length this_paysLaw_drafted this_paysLaw_end this_paysLaw_place this_paysLaw_failed this_paysLaw_code this_tape this_tills_2 this_valuesLaw_length this_valuesLaw_drafted this_valuesLaw_end this_valuesLaw_place this_valuesLaw_failed this_valuesLaw_code this_waiting) H := hP
  have hD : va_D A (k_X7_become G a_p0 a_p0_goods a_p0_tills a_p0_tape a_p0_paysLaw a_p0_valuesLaw a_p0_waiting e_p0_goods a_p0_paysLaw_names a_p0_paysLaw_code a_p0_paysLaw_stack a_p0_paysLaw_bytes a_p0_paysLaw_draft e_p0_tills a_p0_valuesLaw_names a_p0_valuesLaw_code a_p0_valuesLaw_stack a_p0_valuesLaw_bytes a_p0_valuesLaw_draft a_this a_this_goods a_this_tills a_this_tape a_this_paysLaw a_this_valuesLaw a_this_waiting e_this_goods a_this_paysLaw_names a_this_paysLaw_code a_this_paysLaw_stack a_this_paysLaw_bytes a_this_paysLaw_draft a_this_valuesLaw_names a_this_valuesLaw_code a_this_valuesLaw_stack a_this_valuesLaw_bytes a_this_valuesLaw_draft p0_takings p0_costs p0_goes p0_z p0_fed p0_waits p0_goods p0_paysLaw_length p0_paysLaw_drafted p0_paysLaw_end p0_paysLaw_place p0_paysLaw_failed p0_paysLaw_code p0_tape p0_tills p0_tills_k0 p0_tills_k1 p0_tills_k2 p0_tills_k3 p0_tills_n p0_tills_m p0_valuesLaw_length p0_valuesLaw_drafted p0_valuesLaw_end p0_valuesLaw_place p0_valuesLaw_failed p0_valuesLaw_code p0_waiting p0_takings p0_costs p0_goes this_z this_fed this_waits this_goods_1 this_paysLaw_length this_paysLaw_drafted this_paysLaw_end this_paysLaw_place this_paysLaw_failed this_paysLaw_code this_tape this_tills_2 this_valuesLaw_length this_valuesLaw_drafted this_valuesLaw_end this_valuesLaw_place this_valuesLaw_failed this_valuesLaw_code this_waiting) := hD
  refine lv_aload_n hx hb dX7_become_81 rfl (lv_at hl 0 rfl) ?_
  refine lv_aload_n hx hb dX7_become_82 rfl (lv_at hl 1 rfl) ?_
  refine va_get (D := gD G) (ci := 7) (C := RX7) (T := TX7) (N := 12) hx hb hts hin_X7 hown hK hP 0 rfl rfl 5 (by decide) fl_32 (fun _ h9 => h9) rfl dX7_become_83 ?_
  refine va_put (D := gD G) (ci := 7) (v := .int p0_z) (ty := .int) (C := RX7) (T := TX7) (N := 12) hx hb hts hin_X7 tyX7 tyX7_ok nmX7 hown hK hP hD hS 16 rfl rfl 5 (by decide) fl_32 (fun _ h9 => h9) rfl (by decide +kernel) rfl rfl (Nat.le_of_ble_eq_true rfl) dX7_become_86 (fun H locs hP hD hS => ?_)
  have hP : va_P (gD G) vwCl (k_X7_become G a_p0 a_p0_goods a_p0_tills a_p0_tape a_p0_paysLaw a_p0_valuesLaw a_p0_waiting e_p0_goods a_p0_paysLaw_names a_p0_paysLaw_code a_p0_paysLaw_stack a_p0_paysLaw_bytes a_p0_paysLaw_draft e_p0_tills a_p0_valuesLaw_names a_p0_valuesLaw_code a_p0_valuesLaw_stack a_p0_valuesLaw_bytes a_p0_valuesLaw_draft a_this a_this_goods a_this_tills a_this_tape a_this_paysLaw a_this_valuesLaw a_this_waiting e_this_goods a_this_paysLaw_names a_this_paysLaw_code a_this_paysLaw_stack a_this_paysLaw_bytes a_this_paysLaw_draft a_this_valuesLaw_names a_this_valuesLaw_code a_this_valuesLaw_stack a_this_valuesLaw_bytes a_this_valuesLaw_draft p0_takings p0_costs p0_goes p0_z p0_fed p0_waits p0_goods p0_paysLaw_length p0_paysLaw_drafted p0_paysLaw_end p0_paysLaw_place p0_paysLaw_failed p0_paysLaw_code p0_tape p0_tills p0_tills_k0 p0_tills_k1 p0_tills_k2 p0_tills_k3 p0_tills_n p0_tills_m p0_valuesLaw_length p0_valuesLaw_drafted p0_valuesLaw_end p0_valuesLaw_place p0_valuesLaw_failed p0_valuesLaw_code p0_waiting p0_takings p0_costs p0_goes p0_z this_fed this_waits this_goods_1 this_paysLaw_length this_paysLaw_drafted this_paysLaw_end this_paysLaw_place this_paysLaw_failed this_paysLaw_code this_tape this_tills_2 this_valuesLaw_length this_valuesLaw_drafted this_valuesLaw_end this_valuesLaw_place this_valuesLaw_failed this_valuesLaw_code this_waiting) H := hP
  have hD : va_D A (k_X7_become G a_p0 a_p0_goods a_p0_tills a_p0_tape a_p0_paysLaw a_p0_valuesLaw a_p0_waiting e_p0_goods a_p0_paysLaw_names a_p0_paysLaw_code a_p0_paysLaw_stack a_p0_paysLaw_bytes a_p0_paysLaw_draft e_p0_tills a_p0_valuesLaw_names a_p0_valuesLaw_code a_p0_valuesLaw_stack a_p0_valuesLaw_bytes a_p0_valuesLaw_draft a_this a_this_goods a_this_tills a_this_tape a_this_paysLaw a_this_valuesLaw a_this_waiting e_this_goods a_this_paysLaw_names a_this_paysLaw_code a_this_paysLaw_stack a_this_paysLaw_bytes a_this_paysLaw_draft a_this_valuesLaw_names a_this_valuesLaw_code a_this_valuesLaw_stack a_this_valuesLaw_bytes a_this_valuesLaw_draft p0_takings p0_costs p0_goes p0_z p0_fed p0_waits p0_goods p0_paysLaw_length p0_paysLaw_drafted p0_paysLaw_end p0_paysLaw_place p0_paysLaw_failed p0_paysLaw_code p0_tape p0_tills p0_tills_k0 p0_tills_k1 p0_tills_k2 p0_tills_k3 p0_tills_n p0_tills_m p0_valuesLaw_length p0_valuesLaw_drafted p0_valuesLaw_end p0_valuesLaw_place p0_valuesLaw_failed p0_valuesLaw_code p0_waiting p0_takings p0_costs p0_goes p0_z this_fed this_waits this_goods_1 this_paysLaw_length this_paysLaw_drafted this_paysLaw_end this_paysLaw_place this_paysLaw_failed this_paysLaw_code this_tape this_tills_2 this_valuesLaw_length this_valuesLaw_drafted this_valuesLaw_end this_valuesLaw_place this_valuesLaw_failed this_valuesLaw_code this_waiting) := hD
  refine lv_aload_n hx hb dX7_become_89 rfl (lv_at hl 1 rfl) ?_
  refine va_get (D := gD G) (ci := 7) (C := RX7) (T := TX7) (N := 12) hx hb hts hin_X7 hown hK hP 0 rfl rfl 6 (by decide) fl_35 (fun _ h9 => h9) rfl dX7_become_90 ?_
  refine lv_iconst (v := (0 : Int32)) hx hb dX7_become_93 (by decide) ?_
  refine lv_aload_n hx hb dX7_become_94 rfl (lv_at hl 0 rfl) ?_
  refine va_get (D := gD G) (ci := 7) (C := RX7) (T := TX7) (N := 12) hx hb hts hin_X7 hown hK hP 16 rfl rfl 6 (by decide) fl_35 (fun _ h9 => h9) rfl dX7_become_95 ?_
  refine lv_iconst (v := (0 : Int32)) hx hb dX7_become_98 (by decide) ?_
  refine lv_bipush (v := (60 : Int32)) hx hb dX7_become_99 (by decide) ?_
  obtain ⟨g3, hf⟩ := kg hf
  refine va_copyi hx hb (hml.trans hl.1.symm) hown (hts _ tw_951) (hts _ tw_575) (hts _ tw_574) (hts _ tw_94) hK hP hD hS 7 23 0 0 (ty := .int) rfl rfl rfl rfl rfl g3.1 g3.2.1 g3.2.2.1 g3.2.2.2.1 g3.2.2.2.2 (fun _ _ => rfl) (Nat.le_of_ble_eq_true rfl) (Nat.le_of_ble_eq_true rfl) dX7_become_101 (fun H locs hP hD hS => ?_)
  have hP : va_P (gD G) vwCl (k_X7_become G a_p0 a_p0_goods a_p0_tills a_p0_tape a_p0_paysLaw a_p0_valuesLaw a_p0_waiting e_p0_goods a_p0_paysLaw_names a_p0_paysLaw_code a_p0_paysLaw_stack a_p0_paysLaw_bytes a_p0_paysLaw_draft e_p0_tills a_p0_valuesLaw_names a_p0_valuesLaw_code a_p0_valuesLaw_stack a_p0_valuesLaw_bytes a_p0_valuesLaw_draft a_this a_this_goods a_this_tills a_this_tape a_this_paysLaw a_this_valuesLaw a_this_waiting e_this_goods a_this_paysLaw_names a_this_paysLaw_code a_this_paysLaw_stack a_this_paysLaw_bytes a_this_paysLaw_draft a_this_valuesLaw_names a_this_valuesLaw_code a_this_valuesLaw_stack a_this_valuesLaw_bytes a_this_valuesLaw_draft p0_takings p0_costs p0_goes p0_z p0_fed p0_waits p0_goods p0_paysLaw_length p0_paysLaw_drafted p0_paysLaw_end p0_paysLaw_place p0_paysLaw_failed p0_paysLaw_code p0_tape p0_tills p0_tills_k0 p0_tills_k1 p0_tills_k2 p0_tills_k3 p0_tills_n p0_tills_m p0_valuesLaw_length p0_valuesLaw_drafted p0_valuesLaw_end p0_valuesLaw_place p0_valuesLaw_failed p0_valuesLaw_code p0_waiting p0_takings p0_costs p0_goes p0_z this_fed this_waits this_goods_1 this_paysLaw_length this_paysLaw_drafted this_paysLaw_end this_paysLaw_place this_paysLaw_failed this_paysLaw_code (va_cpy p0_tape this_tape (0 : Int32).toNatClampNeg (0 : Int32).toNatClampNeg (60 : Int32).toNatClampNeg) this_tills_2 this_valuesLaw_length this_valuesLaw_drafted this_valuesLaw_end this_valuesLaw_place this_valuesLaw_failed this_valuesLaw_code this_waiting) H := hP
  have hD : va_D A (k_X7_become G a_p0 a_p0_goods a_p0_tills a_p0_tape a_p0_paysLaw a_p0_valuesLaw a_p0_waiting e_p0_goods a_p0_paysLaw_names a_p0_paysLaw_code a_p0_paysLaw_stack a_p0_paysLaw_bytes a_p0_paysLaw_draft e_p0_tills a_p0_valuesLaw_names a_p0_valuesLaw_code a_p0_valuesLaw_stack a_p0_valuesLaw_bytes a_p0_valuesLaw_draft a_this a_this_goods a_this_tills a_this_tape a_this_paysLaw a_this_valuesLaw a_this_waiting e_this_goods a_this_paysLaw_names a_this_paysLaw_code a_this_paysLaw_stack a_this_paysLaw_bytes a_this_paysLaw_draft a_this_valuesLaw_names a_this_valuesLaw_code a_this_valuesLaw_stack a_this_valuesLaw_bytes a_this_valuesLaw_draft p0_takings p0_costs p0_goes p0_z p0_fed p0_waits p0_goods p0_paysLaw_length p0_paysLaw_drafted p0_paysLaw_end p0_paysLaw_place p0_paysLaw_failed p0_paysLaw_code p0_tape p0_tills p0_tills_k0 p0_tills_k1 p0_tills_k2 p0_tills_k3 p0_tills_n p0_tills_m p0_valuesLaw_length p0_valuesLaw_drafted p0_valuesLaw_end p0_valuesLaw_place p0_valuesLaw_failed p0_valuesLaw_code p0_waiting p0_takings p0_costs p0_goes p0_z this_fed this_waits this_goods_1 this_paysLaw_length this_paysLaw_drafted this_paysLaw_end this_paysLaw_place this_paysLaw_failed this_paysLaw_code (va_cpy p0_tape this_tape (0 : Int32).toNatClampNeg (0 : Int32).toNatClampNeg (60 : Int32).toNatClampNeg) this_tills_2 this_valuesLaw_length this_valuesLaw_drafted this_valuesLaw_end this_valuesLaw_place this_valuesLaw_failed this_valuesLaw_code this_waiting) := hD
  refine lv_aload_n hx hb dX7_become_104 rfl (lv_at hl 0 rfl) ?_
  refine lv_aload_n hx hb dX7_become_105 rfl (lv_at hl 1 rfl) ?_
  refine va_get (D := gD G) (ci := 7) (C := RX7) (T := TX7) (N := 12) hx hb hts hin_X7 hown hK hP 0 rfl rfl 7 (by decide) fl_39 (fun _ h9 => h9) rfl dX7_become_106 ?_
  refine va_put (D := gD G) (ci := 7) (v := .int p0_fed) (ty := .int) (C := RX7) (T := TX7) (N := 12) hx hb hts hin_X7 tyX7 tyX7_ok nmX7 hown hK hP hD hS 16 rfl rfl 7 (by decide) fl_39 (fun _ h9 => h9) rfl (by decide +kernel) rfl rfl (Nat.le_of_ble_eq_true rfl) dX7_become_109 (fun H locs hP hD hS => ?_)
  have hP : va_P (gD G) vwCl (k_X7_become G a_p0 a_p0_goods a_p0_tills a_p0_tape a_p0_paysLaw a_p0_valuesLaw a_p0_waiting e_p0_goods a_p0_paysLaw_names a_p0_paysLaw_code a_p0_paysLaw_stack a_p0_paysLaw_bytes a_p0_paysLaw_draft e_p0_tills a_p0_valuesLaw_names a_p0_valuesLaw_code a_p0_valuesLaw_stack a_p0_valuesLaw_bytes a_p0_valuesLaw_draft a_this a_this_goods a_this_tills a_this_tape a_this_paysLaw a_this_valuesLaw a_this_waiting e_this_goods a_this_paysLaw_names a_this_paysLaw_code a_this_paysLaw_stack a_this_paysLaw_bytes a_this_paysLaw_draft a_this_valuesLaw_names a_this_valuesLaw_code a_this_valuesLaw_stack a_this_valuesLaw_bytes a_this_valuesLaw_draft p0_takings p0_costs p0_goes p0_z p0_fed p0_waits p0_goods p0_paysLaw_length p0_paysLaw_drafted p0_paysLaw_end p0_paysLaw_place p0_paysLaw_failed p0_paysLaw_code p0_tape p0_tills p0_tills_k0 p0_tills_k1 p0_tills_k2 p0_tills_k3 p0_tills_n p0_tills_m p0_valuesLaw_length p0_valuesLaw_drafted p0_valuesLaw_end p0_valuesLaw_place p0_valuesLaw_failed p0_valuesLaw_code p0_waiting p0_takings p0_costs p0_goes p0_z p0_fed this_waits this_goods_1 this_paysLaw_length this_paysLaw_drafted this_paysLaw_end this_paysLaw_place this_paysLaw_failed this_paysLaw_code (va_cpy p0_tape this_tape (0 : Int32).toNatClampNeg (0 : Int32).toNatClampNeg (60 : Int32).toNatClampNeg) this_tills_2 this_valuesLaw_length this_valuesLaw_drafted this_valuesLaw_end this_valuesLaw_place this_valuesLaw_failed this_valuesLaw_code this_waiting) H := hP
  have hD : va_D A (k_X7_become G a_p0 a_p0_goods a_p0_tills a_p0_tape a_p0_paysLaw a_p0_valuesLaw a_p0_waiting e_p0_goods a_p0_paysLaw_names a_p0_paysLaw_code a_p0_paysLaw_stack a_p0_paysLaw_bytes a_p0_paysLaw_draft e_p0_tills a_p0_valuesLaw_names a_p0_valuesLaw_code a_p0_valuesLaw_stack a_p0_valuesLaw_bytes a_p0_valuesLaw_draft a_this a_this_goods a_this_tills a_this_tape a_this_paysLaw a_this_valuesLaw a_this_waiting e_this_goods a_this_paysLaw_names a_this_paysLaw_code a_this_paysLaw_stack a_this_paysLaw_bytes a_this_paysLaw_draft a_this_valuesLaw_names a_this_valuesLaw_code a_this_valuesLaw_stack a_this_valuesLaw_bytes a_this_valuesLaw_draft p0_takings p0_costs p0_goes p0_z p0_fed p0_waits p0_goods p0_paysLaw_length p0_paysLaw_drafted p0_paysLaw_end p0_paysLaw_place p0_paysLaw_failed p0_paysLaw_code p0_tape p0_tills p0_tills_k0 p0_tills_k1 p0_tills_k2 p0_tills_k3 p0_tills_n p0_tills_m p0_valuesLaw_length p0_valuesLaw_drafted p0_valuesLaw_end p0_valuesLaw_place p0_valuesLaw_failed p0_valuesLaw_code p0_waiting p0_takings p0_costs p0_goes p0_z p0_fed this_waits this_goods_1 this_paysLaw_length this_paysLaw_drafted this_paysLaw_end this_paysLaw_place this_paysLaw_failed this_paysLaw_code (va_cpy p0_tape this_tape (0 : Int32).toNatClampNeg (0 : Int32).toNatClampNeg (60 : Int32).toNatClampNeg) this_tills_2 this_valuesLaw_length this_valuesLaw_drafted this_valuesLaw_end this_valuesLaw_place this_valuesLaw_failed this_valuesLaw_code this_waiting) := hD
  refine lv_aload_n hx hb dX7_become_112 rfl (lv_at hl 0 rfl) ?_
  refine va_get (D := gD G) (ci := 7) (C := RX7) (T := TX7) (N := 12) hx hb hts hin_X7 hown hK hP 16 rfl rfl 8 (by decide) fl_49 (fun _ h9 => h9) rfl dX7_become_113 ?_
  refine lv_aload_n hx hb dX7_become_116 rfl (lv_at hl 1 rfl) ?_
  refine va_get (D := gD G) (ci := 7) (C := RX7) (T := TX7) (N := 12) hx hb hts hin_X7 hown hK hP 0 rfl rfl 8 (by decide) fl_49 (fun _ h9 => h9) rfl dX7_become_117 ?_
  obtain ⟨r4, hr4, hf⟩ := kb hf
  refine kVN (As := [.ref a_p0_paysLaw]) (rest := []) ⟨hx, hb, hml, hown, hts⟩ (c_X4_become l G N a_p0_paysLaw a_p0_paysLaw_names a_p0_paysLaw_code a_p0_paysLaw_stack a_p0_paysLaw_bytes a_p0_paysLaw_draft a_this_paysLaw a_this_paysLaw_names a_this_paysLaw_code a_this_paysLaw_stack a_this_paysLaw_bytes a_this_paysLaw_draft p0_paysLaw_length p0_paysLaw_drafted p0_paysLaw_end p0_paysLaw_place p0_paysLaw_failed p0_paysLaw_code this_paysLaw_length this_paysLaw_drafted this_paysLaw_end this_paysLaw_place this_paysLaw_failed this_paysLaw_code r4 hr4) ⟨kcN 1 hts hAm nw_X7_77 tw_955 tw_82 hd_X4_become ⟨Nat.le_of_ble_eq_true rfl, Nat.le_of_ble_eq_true rfl⟩, hts _ tw_954, hts _ tw_41⟩ dX7_become_120 hl.1 hK hAm hA hP hD hS 21 (ci := 4) rfl rfl rfl [5, 6, 21, 22] rfl rfl rfl [2, 3] rfl rfl rfl (Nat.le_of_ble_eq_true rfl) ⟨Nat.le_refl _, Nat.le_refl _⟩ (fun H locs hP hD hS => ?_)
  have hP : va_P (gD G) vwCl (k_X7_become G a_p0 a_p0_goods a_p0_tills a_p0_tape a_p0_paysLaw a_p0_valuesLaw a_p0_waiting e_p0_goods a_p0_paysLaw_names a_p0_paysLaw_code a_p0_paysLaw_stack a_p0_paysLaw_bytes a_p0_paysLaw_draft e_p0_tills a_p0_valuesLaw_names a_p0_valuesLaw_code a_p0_valuesLaw_stack a_p0_valuesLaw_bytes a_p0_valuesLaw_draft a_this a_this_goods a_this_tills a_this_tape a_this_paysLaw a_this_valuesLaw a_this_waiting e_this_goods a_this_paysLaw_names a_this_paysLaw_code a_this_paysLaw_stack a_this_paysLaw_bytes a_this_paysLaw_draft a_this_valuesLaw_names a_this_valuesLaw_code a_this_valuesLaw_stack a_this_valuesLaw_bytes a_this_valuesLaw_draft p0_takings p0_costs p0_goes p0_z p0_fed p0_waits p0_goods p0_paysLaw_length p0_paysLaw_drafted p0_paysLaw_end p0_paysLaw_place p0_paysLaw_failed p0_paysLaw_code p0_tape p0_tills p0_tills_k0 p0_tills_k1 p0_tills_k2 p0_tills_k3 p0_tills_n p0_tills_m p0_valuesLaw_length p0_valuesLaw_drafted p0_valuesLaw_end p0_valuesLaw_place p0_valuesLaw_failed p0_valuesLaw_code p0_waiting p0_takings p0_costs p0_goes p0_z p0_fed this_waits this_goods_1 r4.1 this_paysLaw_drafted this_paysLaw_end this_paysLaw_place this_paysLaw_failed r4.2 (va_cpy p0_tape this_tape (0 : Int32).toNatClampNeg (0 : Int32).toNatClampNeg (60 : Int32).toNatClampNeg) this_tills_2 this_valuesLaw_length this_valuesLaw_drafted this_valuesLaw_end this_valuesLaw_place this_valuesLaw_failed this_valuesLaw_code this_waiting) H := hP
  have hD : va_D A (k_X7_become G a_p0 a_p0_goods a_p0_tills a_p0_tape a_p0_paysLaw a_p0_valuesLaw a_p0_waiting e_p0_goods a_p0_paysLaw_names a_p0_paysLaw_code a_p0_paysLaw_stack a_p0_paysLaw_bytes a_p0_paysLaw_draft e_p0_tills a_p0_valuesLaw_names a_p0_valuesLaw_code a_p0_valuesLaw_stack a_p0_valuesLaw_bytes a_p0_valuesLaw_draft a_this a_this_goods a_this_tills a_this_tape a_this_paysLaw a_this_valuesLaw a_this_waiting e_this_goods a_this_paysLaw_names a_this_paysLaw_code a_this_paysLaw_stack a_this_paysLaw_bytes a_this_paysLaw_draft a_this_valuesLaw_names a_this_valuesLaw_code a_this_valuesLaw_stack a_this_valuesLaw_bytes a_this_valuesLaw_draft p0_takings p0_costs p0_goes p0_z p0_fed p0_waits p0_goods p0_paysLaw_length p0_paysLaw_drafted p0_paysLaw_end p0_paysLaw_place p0_paysLaw_failed p0_paysLaw_code p0_tape p0_tills p0_tills_k0 p0_tills_k1 p0_tills_k2 p0_tills_k3 p0_tills_n p0_tills_m p0_valuesLaw_length p0_valuesLaw_drafted p0_valuesLaw_end p0_valuesLaw_place p0_valuesLaw_failed p0_valuesLaw_code p0_waiting p0_takings p0_costs p0_goes p0_z p0_fed this_waits this_goods_1 r4.1 this_paysLaw_drafted this_paysLaw_end this_paysLaw_place this_paysLaw_failed r4.2 (va_cpy p0_tape this_tape (0 : Int32).toNatClampNeg (0 : Int32).toNatClampNeg (60 : Int32).toNatClampNeg) this_tills_2 this_valuesLaw_length this_valuesLaw_drafted this_valuesLaw_end this_valuesLaw_place this_valuesLaw_failed this_valuesLaw_code this_waiting) := hD
  refine lv_aload_n hx hb dX7_become_123 rfl (lv_at hl 0 rfl) ?_
  refine va_get (D := gD G) (ci := 7) (C := RX7) (T := TX7) (N := 12) hx hb hts hin_X7 hown hK hP 16 rfl rfl 9 (by decide) fl_55 (fun _ h9 => h9) rfl dX7_become_124 ?_
  refine lv_aload_n hx hb dX7_become_127 rfl (lv_at hl 1 rfl) ?_
  refine va_get (D := gD G) (ci := 7) (C := RX7) (T := TX7) (N := 12) hx hb hts hin_X7 hown hK hP 0 rfl rfl 9 (by decide) fl_55 (fun _ h9 => h9) rfl dX7_become_128 ?_
  obtain ⟨r5, hr5, hf⟩ := kb hf
  refine kVN (As := [.ref a_p0_valuesLaw]) (rest := []) ⟨hx, hb, hml, hown, hts⟩ (c_X4_become l G N a_p0_valuesLaw a_p0_valuesLaw_names a_p0_valuesLaw_code a_p0_valuesLaw_stack a_p0_valuesLaw_bytes a_p0_valuesLaw_draft a_this_valuesLaw a_this_valuesLaw_names a_this_valuesLaw_code a_this_valuesLaw_stack a_this_valuesLaw_bytes a_this_valuesLaw_draft p0_valuesLaw_length p0_valuesLaw_drafted p0_valuesLaw_end p0_valuesLaw_place p0_valuesLaw_failed p0_valuesLaw_code this_valuesLaw_length this_valuesLaw_drafted this_valuesLaw_end this_valuesLaw_place this_valuesLaw_failed this_valuesLaw_code r5 hr5) ⟨kcN 1 hts hAm nw_X7_77 tw_955 tw_82 hd_X4_become ⟨Nat.le_of_ble_eq_true rfl, Nat.le_of_ble_eq_true rfl⟩, hts _ tw_954, hts _ tw_41⟩ dX7_become_131 hl.1 hK hAm hA hP hD hS 25 (ci := 4) rfl rfl rfl [13, 14, 25, 26] rfl rfl rfl [2, 3] rfl rfl rfl (Nat.le_of_ble_eq_true rfl) ⟨Nat.le_refl _, Nat.le_refl _⟩ (fun H locs hP hD hS => ?_)
  have hP : va_P (gD G) vwCl (k_X7_become G a_p0 a_p0_goods a_p0_tills a_p0_tape a_p0_paysLaw a_p0_valuesLaw a_p0_waiting e_p0_goods a_p0_paysLaw_names a_p0_paysLaw_code a_p0_paysLaw_stack a_p0_paysLaw_bytes a_p0_paysLaw_draft e_p0_tills a_p0_valuesLaw_names a_p0_valuesLaw_code a_p0_valuesLaw_stack a_p0_valuesLaw_bytes a_p0_valuesLaw_draft a_this a_this_goods a_this_tills a_this_tape a_this_paysLaw a_this_valuesLaw a_this_waiting e_this_goods a_this_paysLaw_names a_this_paysLaw_code a_this_paysLaw_stack a_this_paysLaw_bytes a_this_paysLaw_draft a_this_valuesLaw_names a_this_valuesLaw_code a_this_valuesLaw_stack a_this_valuesLaw_bytes a_this_valuesLaw_draft p0_takings p0_costs p0_goes p0_z p0_fed p0_waits p0_goods p0_paysLaw_length p0_paysLaw_drafted p0_paysLaw_end p0_paysLaw_place p0_paysLaw_failed p0_paysLaw_code p0_tape p0_tills p0_tills_k0 p0_tills_k1 p0_tills_k2 p0_tills_k3 p0_tills_n p0_tills_m p0_valuesLaw_length p0_valuesLaw_drafted p0_valuesLaw_end p0_valuesLaw_place p0_valuesLaw_failed p0_valuesLaw_code p0_waiting p0_takings p0_costs p0_goes p0_z p0_fed this_waits this_goods_1 r4.1 this_paysLaw_drafted this_paysLaw_end this_paysLaw_place this_paysLaw_failed r4.2 (va_cpy p0_tape this_tape (0 : Int32).toNatClampNeg (0 : Int32).toNatClampNeg (60 : Int32).toNatClampNeg) this_tills_2 r5.1 this_valuesLaw_drafted this_valuesLaw_end this_valuesLaw_place this_valuesLaw_failed r5.2 this_waiting) H := hP
  have hD : va_D A (k_X7_become G a_p0 a_p0_goods a_p0_tills a_p0_tape a_p0_paysLaw a_p0_valuesLaw a_p0_waiting e_p0_goods a_p0_paysLaw_names a_p0_paysLaw_code a_p0_paysLaw_stack a_p0_paysLaw_bytes a_p0_paysLaw_draft e_p0_tills a_p0_valuesLaw_names a_p0_valuesLaw_code a_p0_valuesLaw_stack a_p0_valuesLaw_bytes a_p0_valuesLaw_draft a_this a_this_goods a_this_tills a_this_tape a_this_paysLaw a_this_valuesLaw a_this_waiting e_this_goods a_this_paysLaw_names a_this_paysLaw_code a_this_paysLaw_stack a_this_paysLaw_bytes a_this_paysLaw_draft a_this_valuesLaw_names a_this_valuesLaw_code a_this_valuesLaw_stack a_this_valuesLaw_bytes a_this_valuesLaw_draft p0_takings p0_costs p0_goes p0_z p0_fed p0_waits p0_goods p0_paysLaw_length p0_paysLaw_drafted p0_paysLaw_end p0_paysLaw_place p0_paysLaw_failed p0_paysLaw_code p0_tape p0_tills p0_tills_k0 p0_tills_k1 p0_tills_k2 p0_tills_k3 p0_tills_n p0_tills_m p0_valuesLaw_length p0_valuesLaw_drafted p0_valuesLaw_end p0_valuesLaw_place p0_valuesLaw_failed p0_valuesLaw_code p0_waiting p0_takings p0_costs p0_goes p0_z p0_fed this_waits this_goods_1 r4.1 this_paysLaw_drafted this_paysLaw_end this_paysLaw_place this_paysLaw_failed r4.2 (va_cpy p0_tape this_tape (0 : Int32).toNatClampNeg (0 : Int32).toNatClampNeg (60 : Int32).toNatClampNeg) this_tills_2 r5.1 this_valuesLaw_drafted this_valuesLaw_end this_valuesLaw_place this_valuesLaw_failed r5.2 this_waiting) := hD
  refine lv_aload_n hx hb dX7_become_134 rfl (lv_at hl 1 rfl) ?_
  refine va_get (D := gD G) (ci := 7) (C := RX7) (T := TX7) (N := 12) hx hb hts hin_X7 hown hK hP 0 rfl rfl 10 (by decide) fl_58 (fun _ h9 => h9) rfl dX7_become_135 ?_
  refine lv_iconst (v := (0 : Int32)) hx hb dX7_become_138 (by decide) ?_
  refine lv_aload_n hx hb dX7_become_139 rfl (lv_at hl 0 rfl) ?_
  refine va_get (D := gD G) (ci := 7) (C := RX7) (T := TX7) (N := 12) hx hb hts hin_X7 hown hK hP 16 rfl rfl 10 (by decide) fl_58 (fun _ h9 => h9) rfl dX7_become_140 ?_
  refine lv_iconst (v := (0 : Int32)) hx hb dX7_become_143 (by decide) ?_
  refine lv_bipush (v := (24 : Int32)) hx hb dX7_become_144 (by decide) ?_
  obtain ⟨g6, hf⟩ := kg hf
  refine va_copyi hx hb (hml.trans hl.1.symm) hown (hts _ tw_951) (hts _ tw_575) (hts _ tw_574) (hts _ tw_94) hK hP hD hS 15 27 0 0 (ty := .int) rfl rfl rfl rfl rfl g6.1 g6.2.1 g6.2.2.1 g6.2.2.2.1 g6.2.2.2.2 (fun _ _ => rfl) (Nat.le_of_ble_eq_true rfl) (Nat.le_of_ble_eq_true rfl) dX7_become_146 (fun H locs hP hD hS => ?_)
  have hP : va_P (gD G) vwCl (k_X7_become G a_p0 a_p0_goods a_p0_tills a_p0_tape a_p0_paysLaw a_p0_valuesLaw a_p0_waiting e_p0_goods a_p0_paysLaw_names a_p0_paysLaw_code a_p0_paysLaw_stack a_p0_paysLaw_bytes a_p0_paysLaw_draft e_p0_tills a_p0_valuesLaw_names a_p0_valuesLaw_code a_p0_valuesLaw_stack a_p0_valuesLaw_bytes a_p0_valuesLaw_draft a_this a_this_goods a_this_tills a_this_tape a_this_paysLaw a_this_valuesLaw a_this_waiting e_this_goods a_this_paysLaw_names a_this_paysLaw_code a_this_paysLaw_stack a_this_paysLaw_bytes a_this_paysLaw_draft a_this_valuesLaw_names a_this_valuesLaw_code a_this_valuesLaw_stack a_this_valuesLaw_bytes a_this_valuesLaw_draft p0_takings p0_costs p0_goes p0_z p0_fed p0_waits p0_goods p0_paysLaw_length p0_paysLaw_drafted p0_paysLaw_end p0_paysLaw_place p0_paysLaw_failed p0_paysLaw_code p0_tape p0_tills p0_tills_k0 p0_tills_k1 p0_tills_k2 p0_tills_k3 p0_tills_n p0_tills_m p0_valuesLaw_length p0_valuesLaw_drafted p0_valuesLaw_end p0_valuesLaw_place p0_valuesLaw_failed p0_valuesLaw_code p0_waiting p0_takings p0_costs p0_goes p0_z p0_fed this_waits this_goods_1 r4.1 this_paysLaw_drafted this_paysLaw_end this_paysLaw_place this_paysLaw_failed r4.2 (va_cpy p0_tape this_tape (0 : Int32).toNatClampNeg (0 : Int32).toNatClampNeg (60 : Int32).toNatClampNeg) this_tills_2 r5.1 this_valuesLaw_drafted this_valuesLaw_end this_valuesLaw_place this_valuesLaw_failed r5.2 (va_cpy p0_waiting this_waiting (0 : Int32).toNatClampNeg (0 : Int32).toNatClampNeg (24 : Int32).toNatClampNeg)) H := hP
  have hD : va_D A (k_X7_become G a_p0 a_p0_goods a_p0_tills a_p0_tape a_p0_paysLaw a_p0_valuesLaw a_p0_waiting e_p0_goods a_p0_paysLaw_names a_p0_paysLaw_code a_p0_paysLaw_stack a_p0_paysLaw_bytes a_p0_paysLaw_draft e_p0_tills a_p0_valuesLaw_names a_p0_valuesLaw_code a_p0_valuesLaw_stack a_p0_valuesLaw_bytes a_p0_valuesLaw_draft a_this a_this_goods a_this_tills a_this_tape a_this_paysLaw a_this_valuesLaw a_this_waiting e_this_goods a_this_paysLaw_names a_this_paysLaw_code a_this_paysLaw_stack a_this_paysLaw_bytes a_this_paysLaw_draft a_this_valuesLaw_names a_this_valuesLaw_code a_this_valuesLaw_stack a_this_valuesLaw_bytes a_this_valuesLaw_draft p0_takings p0_costs p0_goes p0_z p0_fed p0_waits p0_goods p0_paysLaw_length p0_paysLaw_drafted p0_paysLaw_end p0_paysLaw_place p0_paysLaw_failed p0_paysLaw_code p0_tape p0_tills p0_tills_k0 p0_tills_k1 p0_tills_k2 p0_tills_k3 p0_tills_n p0_tills_m p0_valuesLaw_length p0_valuesLaw_drafted p0_valuesLaw_end p0_valuesLaw_place p0_valuesLaw_failed p0_valuesLaw_code p0_waiting p0_takings p0_costs p0_goes p0_z p0_fed this_waits this_goods_1 r4.1 this_paysLaw_drafted this_paysLaw_end this_paysLaw_place this_paysLaw_failed r4.2 (va_cpy p0_tape this_tape (0 : Int32).toNatClampNeg (0 : Int32).toNatClampNeg (60 : Int32).toNatClampNeg) this_tills_2 r5.1 this_valuesLaw_drafted this_valuesLaw_end this_valuesLaw_place this_valuesLaw_failed r5.2 (va_cpy p0_waiting this_waiting (0 : Int32).toNatClampNeg (0 : Int32).toNatClampNeg (24 : Int32).toNatClampNeg)) := hD
  refine lv_aload_n hx hb dX7_become_149 rfl (lv_at hl 0 rfl) ?_
  refine lv_aload_n hx hb dX7_become_150 rfl (lv_at hl 1 rfl) ?_
  refine va_get (D := gD G) (ci := 7) (C := RX7) (T := TX7) (N := 12) hx hb hts hin_X7 hown hK hP 0 rfl rfl 11 (by decide) fl_61 (fun _ h9 => h9) rfl dX7_become_151 ?_
  refine va_put (D := gD G) (ci := 7) (v := .int p0_waits) (ty := .int) (C := RX7) (T := TX7) (N := 12) hx hb hts hin_X7 tyX7 tyX7_ok nmX7 hown hK hP hD hS 16 rfl rfl 11 (by decide) fl_61 (fun _ h9 => h9) rfl (by decide +kernel) rfl rfl (Nat.le_of_ble_eq_true rfl) dX7_become_154 (fun H locs hP hD hS => ?_)
  have hP : va_P (gD G) vwCl (k_X7_become G a_p0 a_p0_goods a_p0_tills a_p0_tape a_p0_paysLaw a_p0_valuesLaw a_p0_waiting e_p0_goods a_p0_paysLaw_names a_p0_paysLaw_code a_p0_paysLaw_stack a_p0_paysLaw_bytes a_p0_paysLaw_draft e_p0_tills a_p0_valuesLaw_names a_p0_valuesLaw_code a_p0_valuesLaw_stack a_p0_valuesLaw_bytes a_p0_valuesLaw_draft a_this a_this_goods a_this_tills a_this_tape a_this_paysLaw a_this_valuesLaw a_this_waiting e_this_goods a_this_paysLaw_names a_this_paysLaw_code a_this_paysLaw_stack a_this_paysLaw_bytes a_this_paysLaw_draft a_this_valuesLaw_names a_this_valuesLaw_code a_this_valuesLaw_stack a_this_valuesLaw_bytes a_this_valuesLaw_draft p0_takings p0_costs p0_goes p0_z p0_fed p0_waits p0_goods p0_paysLaw_length p0_paysLaw_drafted p0_paysLaw_end p0_paysLaw_place p0_paysLaw_failed p0_paysLaw_code p0_tape p0_tills p0_tills_k0 p0_tills_k1 p0_tills_k2 p0_tills_k3 p0_tills_n p0_tills_m p0_valuesLaw_length p0_valuesLaw_drafted p0_valuesLaw_end p0_valuesLaw_place p0_valuesLaw_failed p0_valuesLaw_code p0_waiting p0_takings p0_costs p0_goes p0_z p0_fed p0_waits this_goods_1 r4.1 this_paysLaw_drafted this_paysLaw_end this_paysLaw_place this_paysLaw_failed r4.2 (va_cpy p0_tape this_tape (0 : Int32).toNatClampNeg (0 : Int32).toNatClampNeg (60 : Int32).toNatClampNeg) this_tills_2 r5.1 this_valuesLaw_drafted this_valuesLaw_end this_valuesLaw_place this_valuesLaw_failed r5.2 (va_cpy p0_waiting this_waiting (0 : Int32).toNatClampNeg (0 : Int32).toNatClampNeg (24 : Int32).toNatClampNeg)) H := hP
  have hD : va_D A (k_X7_become G a_p0 a_p0_goods a_p0_tills a_p0_tape a_p0_paysLaw a_p0_valuesLaw a_p0_waiting e_p0_goods a_p0_paysLaw_names a_p0_paysLaw_code a_p0_paysLaw_stack a_p0_paysLaw_bytes a_p0_paysLaw_draft e_p0_tills a_p0_valuesLaw_names a_p0_valuesLaw_code a_p0_valuesLaw_stack a_p0_valuesLaw_bytes a_p0_valuesLaw_draft a_this a_this_goods a_this_tills a_this_tape a_this_paysLaw a_this_valuesLaw a_this_waiting e_this_goods a_this_paysLaw_names a_this_paysLaw_code a_this_paysLaw_stack a_this_paysLaw_bytes a_this_paysLaw_draft a_this_valuesLaw_names a_this_valuesLaw_code a_this_valuesLaw_stack a_this_valuesLaw_bytes a_this_valuesLaw_draft p0_takings p0_costs p0_goes p0_z p0_fed p0_waits p0_goods p0_paysLaw_length p0_paysLaw_drafted p0_paysLaw_end p0_paysLaw_place p0_paysLaw_failed p0_paysLaw_code p0_tape p0_tills p0_tills_k0 p0_tills_k1 p0_tills_k2 p0_tills_k3 p0_tills_n p0_tills_m p0_valuesLaw_length p0_valuesLaw_drafted p0_valuesLaw_end p0_valuesLaw_place p0_valuesLaw_failed p0_valuesLaw_code p0_waiting p0_takings p0_costs p0_goes p0_z p0_fed p0_waits this_goods_1 r4.1 this_paysLaw_drafted this_paysLaw_end this_paysLaw_place this_paysLaw_failed r4.2 (va_cpy p0_tape this_tape (0 : Int32).toNatClampNeg (0 : Int32).toNatClampNeg (60 : Int32).toNatClampNeg) this_tills_2 r5.1 this_valuesLaw_drafted this_valuesLaw_end this_valuesLaw_place this_valuesLaw_failed r5.2 (va_cpy p0_waiting this_waiting (0 : Int32).toNatClampNeg (0 : Int32).toNatClampNeg (24 : Int32).toNatClampNeg)) := hD
  have ho := ks hf
  subst ho
  exact kvret hx hb hr hlk hP hD hS hQ dX7_become_157
abbrev k_X7_law (G : KG) (a_this : Nat) (a_this_goods : Nat) (a_this_tills : Nat) (a_this_tape : Nat) (a_this_paysLaw : Nat) (a_this_valuesLaw : Nat) (a_this_waiting : Nat) (this_takings : Int32) (this_costs : Int32) (this_goes : Int32) (this_z : Int32) (this_fed : Int32) (this_waits : Int32) : va_W := [(a_this, .inr (7, [.ref a_this_goods, .ref a_this_tills, .int this_takings, .int this_costs, .int this_goes, .int this_z, .ref a_this_tape, .int this_fed, .ref a_this_paysLaw, .ref a_this_valuesLaw, .ref a_this_waiting, .int this_waits]))]
def f_X7_law (N : Nat) (p0 : Int32) : Option (Int32) := (if p0 = 0 then (some (1 : Int32)) else (some (0 : Int32)))
set_option maxRecDepth 100000 in
set_option maxHeartbeats 4000000 in
theorem c_X7_law (l : Launch) (G : KG) (N : Nat) (a_this : Nat) (a_this_goods : Nat) (a_this_tills : Nat) (a_this_tape : Nat) (a_this_paysLaw : Nat) (a_this_valuesLaw : Nat) (a_this_waiting : Nat) (p0 : Int32) (this_takings : Int32) (this_costs : Int32) (this_goes : Int32) (this_z : Int32) (this_fed : Int32) (this_waits : Int32)  (out : Int32) (hf : f_X7_law N p0 = some out) : KM l G yX7_law (kw yX7_law cX7_law 2 (some (.object "FigureTill$Law"))) 0 0 [.ref a_this, .int p0] (k_X7_law G a_this a_this_goods a_this_tills a_this_tape a_this_paysLaw a_this_valuesLaw a_this_waiting this_takings this_costs this_goes this_z this_fed this_waits) (k_X7_law G a_this a_this_goods a_this_tills a_this_tape a_this_paysLaw a_this_valuesLaw a_this_waiting this_takings this_costs this_goes this_z this_fed this_waits) (some (.ref (tag2 out a_this_valuesLaw a_this_paysLaw))) := by
  refine KM.of (by decide) (Nat.le_of_ble_eq_true rfl) ?_
  intro p e s m below meth c A ls args Q Fx0 hP hK hD hA hS hAm hQ hl
  obtain ⟨hx, hb, hr, hml, hts, hown, hlk, hnm⟩ := Fx0
  have hown : s.vm.findClass RX7 = some m.cls := hown
  have hl : lv_has ls 2 [(0, .ref a_this), (1, .int p0)] := hl
  have fl_55 := hts _ tw_259
  have fl_49 := hts _ tw_258
  unfold f_X7_law at hf
  refine lv_iload_n hx hb dX7_law_0 rfl (lv_at hl 1 rfl) ?_
  refine lv_if_ne (tgt := 11) hx hb dX7_law_1 (by decide) (fun c1 => ?_) (fun c1 => ?_)
  · replace hf := kf c1 hf
    refine lv_aload_n hx hb dX7_law_11 rfl (lv_at hl 0 rfl) ?_
    refine va_get (D := gD G) (ci := 7) (C := RX7) (T := TX7) (N := 12) hx hb hts hin_X7 hown hK hP 0 rfl rfl 9 (by decide) fl_55 (fun _ h9 => h9) rfl dX7_law_12 ?_
    have ho := ks hf
    subst ho
    exact karet hx hb hr hlk hP hD hS hQ dX7_law_15 (Or.inl ⟨_, rfl⟩)
  · replace hf := kt c1 hf
    refine lv_aload_n hx hb dX7_law_4 rfl (lv_at hl 0 rfl) ?_
    refine va_get (D := gD G) (ci := 7) (C := RX7) (T := TX7) (N := 12) hx hb hts hin_X7 hown hK hP 0 rfl rfl 8 (by decide) fl_49 (fun _ h9 => h9) rfl dX7_law_5 ?_
    refine lv_goto (tgt := 15) hx hb dX7_law_8 (by decide) ?_
    have ho := ks hf
    subst ho
    exact karet hx hb hr hlk hP hD hS hQ dX7_law_15 (Or.inl ⟨_, rfl⟩)
abbrev k_X7_stockOfAll (G : KG) (a_this : Nat) (a_this_goods : Nat) (a_this_tills : Nat) (a_this_tape : Nat) (a_this_paysLaw : Nat) (a_this_valuesLaw : Nat) (a_this_waiting : Nat) (e_this_goods : Nat → Nat) (this_takings : Int32) (this_costs : Int32) (this_goes : Int32) (this_z : Int32) (this_fed : Int32) (this_waits : Int32) (this_goods : Nat → Nat → Int32) : va_W := [(a_this, .inr (7, [.ref a_this_goods, .ref a_this_tills, .int this_takings, .int this_costs, .int this_goes, .int this_z, .ref a_this_tape, .int this_fed, .ref a_this_paysLaw, .ref a_this_valuesLaw, .ref a_this_waiting, .int this_waits])), (a_this_goods, .inl (gII G, 3, .inr (.inr (.inr (.inr (fun j => some (e_this_goods j))))))), (e_this_goods 0, .inl (gI G, 8, .inl (this_goods 0))), (e_this_goods 1, .inl (gI G, 8, .inl (this_goods 1))), (e_this_goods 2, .inl (gI G, 8, .inl (this_goods 2)))]
def f_X7_stockOfAll_4 (N : Nat) (this_goods : Nat → Nat → Int32) (K : Int32 → Int32 → Option (Int32)) : Nat → Int32 → Int32 → Option (Int32)
  | 0, _, _ => none
  | n + 1, y1, y2 => (if (8 : Int32) ≤ y2 then (K y1 y2) else (if vin y2 8 = true then (f_X7_stockOfAll_4 N this_goods K n (y1 + ((this_goods 2) y2.toNatClampNeg)) (y2 + (1 : Int32))) else none))
def f_X7_stockOfAll (N : Nat) (this_goods : Nat → Nat → Int32) : Option (Int32) := (f_X7_stockOfAll_4 N this_goods (fun v1_3 v2_3 => (some v1_3)) N (0 : Int32) (0 : Int32))
set_option maxRecDepth 100000 in
set_option maxHeartbeats 4000000 in
theorem c_X7_stockOfAll (l : Launch) (G : KG) (N : Nat) (a_this : Nat) (a_this_goods : Nat) (a_this_tills : Nat) (a_this_tape : Nat) (a_this_paysLaw : Nat) (a_this_valuesLaw : Nat) (a_this_waiting : Nat) (e_this_goods : Nat → Nat) (this_takings : Int32) (this_costs : Int32) (this_goes : Int32) (this_z : Int32) (this_fed : Int32) (this_waits : Int32) (this_goods : Nat → Nat → Int32)  (out : Int32) (hf : f_X7_stockOfAll N this_goods = some out) : KM l G yX7_stockOfAll (kw yX7_stockOfAll cX7_stockOfAll 3 (some .int)) 0 0 [.ref a_this] (k_X7_stockOfAll G a_this a_this_goods a_this_tills a_this_tape a_this_paysLaw a_this_valuesLaw a_this_waiting e_this_goods this_takings this_costs this_goes this_z this_fed this_waits this_goods) (k_X7_stockOfAll G a_this a_this_goods a_this_tills a_this_tape a_this_paysLaw a_this_valuesLaw a_this_waiting e_this_goods this_takings this_costs this_goes this_z this_fed this_waits this_goods) (some (.int out)) := by
  refine KM.of (by decide) (Nat.le_of_ble_eq_true rfl) ?_
  intro p e s m below meth c A ls args Q Fx0 hP hK hD hA hS hAm hQ hl
  obtain ⟨hx, hb, hr, hml, hts, hown, hlk, hnm⟩ := Fx0
  have hown : s.vm.findClass RX7 = some m.cls := hown
  have hl : lv_has ls 3 [(0, .ref a_this)] := hl
  have fl_11 := hts _ tw_242
  unfold f_X7_stockOfAll at hf
  refine lv_iconst (v := (0 : Int32)) hx hb dX7_stockOfAll_0 (by decide) ?_
  refine lv_istore_n (lv' := [(1, .int (0 : Int32)), (0, .ref a_this)]) hx hb dX7_stockOfAll_1 rfl hl (by decide) rfl (fun ls hl => ?_)
  refine lv_iconst (v := (0 : Int32)) hx hb dX7_stockOfAll_2 (by decide) ?_
  refine lv_istore_n (lv' := [(2, .int (0 : Int32)), (1, .int (0 : Int32)), (0, .ref a_this)]) hx hb dX7_stockOfAll_3 rfl hl (by decide) rfl (fun ls hl => ?_)
  have L2 : ∀ (K : Int32 → Int32 → Option (Int32)), (∀ (v1_2 : Int32) (v2_2 : Int32) (H : Heap) (locs : List Loc), va_P (gD G) vwCl (k_X7_stockOfAll G a_this a_this_goods a_this_tills a_this_tape a_this_paysLaw a_this_valuesLaw a_this_waiting e_this_goods this_takings this_costs this_goes this_z this_fed this_waits this_goods) H → va_D A (k_X7_stockOfAll G a_this a_this_goods a_this_tills a_this_tape a_this_paysLaw a_this_valuesLaw a_this_waiting e_this_goods this_takings this_costs this_goes this_z this_fed this_waits this_goods) → va_S A s.heap H locs → ∀ (ls : Array Slot), lv_has ls 3 [(0, .ref a_this), (1, .int v1_2), (2, .int v2_2)] → K v1_2 v2_2 = some out → W p l e (kR 0 0 0 0) s m args below meth c H locs 0 0 Q (F0 m 27 ls [])) → ∀ (n : Nat), ∀ (v1_2 : Int32) (v2_2 : Int32) (H : Heap) (locs : List Loc), va_P (gD G) vwCl (k_X7_stockOfAll G a_this a_this_goods a_this_tills a_this_tape a_this_paysLaw a_this_valuesLaw a_this_waiting e_this_goods this_takings this_costs this_goes this_z this_fed this_waits this_goods) H → va_D A (k_X7_stockOfAll G a_this a_this_goods a_this_tills a_this_tape a_this_paysLaw a_this_valuesLaw a_this_waiting e_this_goods this_takings this_costs this_goes this_z this_fed this_waits this_goods) → va_S A s.heap H locs → ∀ (ls : Array Slot), lv_has ls 3 [(0, .ref a_this), (1, .int v1_2), (2, .int v2_2)] → f_X7_stockOfAll_4 N this_goods K n v1_2 v2_2 = some out → W p l e (kR 0 0 0 0) s m args below meth c H locs 0 0 Q (F0 m 4 ls []) := by
    intro K hK2 n
    induction n with
    | zero =>
      intro v1_2 v2_2 H locs hP hD hS ls hl hf
      rw [f_X7_stockOfAll_4] at hf
      cases hf
    | succ n ih =>
      intro v1_2 v2_2 H locs hP hD hS ls hl hf
      rw [f_X7_stockOfAll_4] at hf
      refine lv_iload_n hx hb dX7_stockOfAll_4 rfl (lv_at hl 2 rfl) ?_
      refine lv_bipush (v := (8 : Int32)) hx hb dX7_stockOfAll_5 (by decide) ?_
      refine lv_icmp_ge (tgt := 27) hx hb dX7_stockOfAll_7 (by decide) (fun c3 => ?_) (fun c3 => ?_)
      · replace hf := kt c3 hf
        exact hK2 v1_2 v2_2 _ _ hP hD hS ls (lv_sub hl [0, 1, 2] rfl) hf
      · replace hf := kf c3 hf
        refine lv_iload_n hx hb dX7_stockOfAll_10 rfl (lv_at hl 1 rfl) ?_
        refine lv_aload_n hx hb dX7_stockOfAll_11 rfl (lv_at hl 0 rfl) ?_
        refine va_get (D := gD G) (ci := 7) (C := RX7) (T := TX7) (N := 12) hx hb hts hin_X7 hown hK hP 0 rfl rfl 0 (by decide) fl_11 (fun _ h9 => h9) rfl dX7_stockOfAll_12 ?_
        refine lv_iconst (v := (2 : Int32)) hx hb dX7_stockOfAll_15 (by decide) ?_
        refine ka_aald hx hb hK hP 1 rfl (vin_of (by decide)) dX7_stockOfAll_16 ?_
        refine lv_iload_n hx hb dX7_stockOfAll_17 rfl (lv_at hl 2 rfl) ?_
        obtain ⟨g4, hf⟩ := kg hf
        refine va_iald hx hb hK hP 4 0 rfl rfl (vin_of g4) dX7_stockOfAll_18 ?_
        refine lv_iadd hx hb dX7_stockOfAll_19 ?_
        refine lv_istore_n (lv' := [(1, .int (v1_2 + ((this_goods 2) v2_2.toNatClampNeg))), (0, .ref a_this), (2, .int v2_2)]) hx hb dX7_stockOfAll_20 rfl hl (by decide) rfl (fun ls hl => ?_)
        refine lv_iinc (v := (v2_2 + (1 : Int32))) (lv' := [(2, .int (v2_2 + (1 : Int32))), (1, .int (v1_2 + ((this_goods 2) v2_2.toNatClampNeg))), (0, .ref a_this)]) hx hb dX7_stockOfAll_21 hl (k := 2) rfl rfl (by decide) rfl (fun ls hl => ?_)
        refine lv_goto (tgt := 4) hx hb dX7_stockOfAll_24 (by decide) ?_
        exact ih (v1_2 + ((this_goods 2) v2_2.toNatClampNeg)) (v2_2 + (1 : Int32)) _ _ hP hD hS ls (lv_sub hl [2, 1, 0] rfl) hf
  refine L2 _ (fun v1_1 v2_1 H locs hP hD hS ls hl hf => ?_) N (0 : Int32) (0 : Int32) _ _ hP hD hS ls (lv_sub hl [2, 1, 0] rfl) hf
  refine lv_iload_n hx hb dX7_stockOfAll_27 rfl (lv_at hl 1 rfl) ?_
  have ho := ks hf
  subst ho
  exact kiret hx hb hr hlk hP hD hS hQ dX7_stockOfAll_28
abbrev k_X7_hasStock (G : KG) (a_p0 : Nat) (a_p0_row : Nat) (a_this : Nat) (a_this_goods : Nat) (a_this_tills : Nat) (a_this_tape : Nat) (a_this_paysLaw : Nat) (a_this_valuesLaw : Nat) (a_this_waiting : Nat) (e_this_goods : Nat → Nat) (p0_things : Int32) (p0_sum : Int32) (p0_row : Nat → Int32) (this_takings : Int32) (this_costs : Int32) (this_goes : Int32) (this_z : Int32) (this_fed : Int32) (this_waits : Int32) (this_goods : Nat → Nat → Int32) : va_W := [(a_p0, .inr (0, [.ref a_p0_row, .int p0_things, .int p0_sum])), (a_p0_row, .inl (gI G, 8, .inl p0_row)), (a_this, .inr (7, [.ref a_this_goods, .ref a_this_tills, .int this_takings, .int this_costs, .int this_goes, .int this_z, .ref a_this_tape, .int this_fed, .ref a_this_paysLaw, .ref a_this_valuesLaw, .ref a_this_waiting, .int this_waits])), (a_this_goods, .inl (gII G, 3, .inr (.inr (.inr (.inr (fun j => some (e_this_goods j))))))), (e_this_goods 0, .inl (gI G, 8, .inl (this_goods 0))), (e_this_goods 1, .inl (gI G, 8, .inl (this_goods 1))), (e_this_goods 2, .inl (gI G, 8, .inl (this_goods 2)))]
def f_X7_hasStock_2 (N : Nat) (p0_row : Nat → Int32) (this_goods : Nat → Nat → Int32) (K : Int32 → Option (Int32)) : Nat → Int32 → Option (Int32)
  | 0, _ => none
  | n + 1, y2 => (if (8 : Int32) ≤ y2 then (K y2) else (if vin y2 8 = true then (if vin y2 8 = true then (if (p0_row y2.toNatClampNeg) ≤ ((this_goods 2) y2.toNatClampNeg) then (f_X7_hasStock_2 N p0_row this_goods K n (y2 + (1 : Int32))) else (some (0 : Int32))) else none) else none))
def f_X7_hasStock (N : Nat) (p0_row : Nat → Int32) (this_goods : Nat → Nat → Int32) : Option (Int32) := (f_X7_hasStock_2 N p0_row this_goods (fun v2_5 => (some (1 : Int32))) N (0 : Int32))
set_option maxRecDepth 100000 in
set_option maxHeartbeats 4000000 in
theorem c_X7_hasStock (l : Launch) (G : KG) (N : Nat) (a_p0 : Nat) (a_p0_row : Nat) (a_this : Nat) (a_this_goods : Nat) (a_this_tills : Nat) (a_this_tape : Nat) (a_this_paysLaw : Nat) (a_this_valuesLaw : Nat) (a_this_waiting : Nat) (e_this_goods : Nat → Nat) (p0_things : Int32) (p0_sum : Int32) (p0_row : Nat → Int32) (this_takings : Int32) (this_costs : Int32) (this_goes : Int32) (this_z : Int32) (this_fed : Int32) (this_waits : Int32) (this_goods : Nat → Nat → Int32)  (out : Int32) (hf : f_X7_hasStock N p0_row this_goods = some out) : KM l G yX7_hasStock (kw yX7_hasStock cX7_hasStock 3 (some .boolean)) 0 0 [.ref a_this, .ref a_p0] (k_X7_hasStock G a_p0 a_p0_row a_this a_this_goods a_this_tills a_this_tape a_this_paysLaw a_this_valuesLaw a_this_waiting e_this_goods p0_things p0_sum p0_row this_takings this_costs this_goes this_z this_fed this_waits this_goods) (k_X7_hasStock G a_p0 a_p0_row a_this a_this_goods a_this_tills a_this_tape a_this_paysLaw a_this_valuesLaw a_this_waiting e_this_goods p0_things p0_sum p0_row this_takings this_costs this_goes this_z this_fed this_waits this_goods) (some (.int out)) := by
  refine KM.of (by decide) (Nat.le_of_ble_eq_true rfl) ?_
  intro p e s m below meth c A ls args Q Fx0 hP hK hD hA hS hAm hQ hl
  obtain ⟨hx, hb, hr, hml, hts, hown, hlk, hnm⟩ := Fx0
  have hown : s.vm.findClass RX7 = some m.cls := hown
  have hl : lv_has ls 3 [(0, .ref a_this), (1, .ref a_p0)] := hl
  have fl_11 := hts _ tw_242
  have fl_97 := va_Nw.use (A := args) rfl (hAm.1 _ nw_X7_97 rfl)
  unfold f_X7_hasStock at hf
  refine lv_iconst (v := (0 : Int32)) hx hb dX7_hasStock_0 (by decide) ?_
  refine lv_istore_n (lv' := [(2, .int (0 : Int32)), (0, .ref a_this), (1, .ref a_p0)]) hx hb dX7_hasStock_1 rfl hl (by decide) rfl (fun ls hl => ?_)
  have L2 : ∀ (K : Int32 → Option (Int32)), (∀ (v2_2 : Int32) (H : Heap) (locs : List Loc), va_P (gD G) vwCl (k_X7_hasStock G a_p0 a_p0_row a_this a_this_goods a_this_tills a_this_tape a_this_paysLaw a_this_valuesLaw a_this_waiting e_this_goods p0_things p0_sum p0_row this_takings this_costs this_goes this_z this_fed this_waits this_goods) H → va_D A (k_X7_hasStock G a_p0 a_p0_row a_this a_this_goods a_this_tills a_this_tape a_this_paysLaw a_this_valuesLaw a_this_waiting e_this_goods p0_things p0_sum p0_row this_takings this_costs this_goes this_z this_fed this_waits this_goods) → va_S A s.heap H locs → ∀ (ls : Array Slot), lv_has ls 3 [(0, .ref a_this), (1, .ref a_p0), (2, .int v2_2)] → K v2_2 = some out → W p l e (kR 0 0 0 0) s m args below meth c H locs 0 0 Q (F0 m 33 ls [])) → ∀ (n : Nat), ∀ (v2_2 : Int32) (H : Heap) (locs : List Loc), va_P (gD G) vwCl (k_X7_hasStock G a_p0 a_p0_row a_this a_this_goods a_this_tills a_this_tape a_this_paysLaw a_this_valuesLaw a_this_waiting e_this_goods p0_things p0_sum p0_row this_takings this_costs this_goes this_z this_fed this_waits this_goods) H → va_D A (k_X7_hasStock G a_p0 a_p0_row a_this a_this_goods a_this_tills a_this_tape a_this_paysLaw a_this_valuesLaw a_this_waiting e_this_goods p0_things p0_sum p0_row this_takings this_costs this_goes this_z this_fed this_waits this_goods) → va_S A s.heap H locs → ∀ (ls : Array Slot), lv_has ls 3 [(0, .ref a_this), (1, .ref a_p0), (2, .int v2_2)] → f_X7_hasStock_2 N p0_row this_goods K n v2_2 = some out → W p l e (kR 0 0 0 0) s m args below meth c H locs 0 0 Q (F0 m 2 ls []) := by
    intro K hK2 n
    induction n with
    | zero =>
      intro v2_2 H locs hP hD hS ls hl hf
      rw [f_X7_hasStock_2] at hf
      cases hf
    | succ n ih =>
      intro v2_2 H locs hP hD hS ls hl hf
      rw [f_X7_hasStock_2] at hf
      refine lv_iload_n hx hb dX7_hasStock_2 rfl (lv_at hl 2 rfl) ?_
      refine lv_bipush (v := (8 : Int32)) hx hb dX7_hasStock_3 (by decide) ?_
      refine lv_icmp_ge (tgt := 33) hx hb dX7_hasStock_5 (by decide) (fun c3 => ?_) (fun c3 => ?_)
      · replace hf := kt c3 hf
        exact hK2 v2_2 _ _ hP hD hS ls (lv_sub hl [0, 1, 2] rfl) hf
      · replace hf := kf c3 hf
        refine lv_aload_n hx hb dX7_hasStock_8 rfl (lv_at hl 0 rfl) ?_
        refine va_get (D := gD G) (ci := 7) (C := RX7) (T := TX7) (N := 12) hx hb hts hin_X7 hown hK hP 2 rfl rfl 0 (by decide) fl_11 (fun _ h9 => h9) rfl dX7_hasStock_9 ?_
        refine lv_iconst (v := (2 : Int32)) hx hb dX7_hasStock_12 (by decide) ?_
        refine ka_aald hx hb hK hP 3 rfl (vin_of (by decide)) dX7_hasStock_13 ?_
        refine lv_iload_n hx hb dX7_hasStock_14 rfl (lv_at hl 2 rfl) ?_
        obtain ⟨g4, hf⟩ := kg hf
        refine va_iald hx hb hK hP 6 0 rfl rfl (vin_of g4) dX7_hasStock_15 ?_
        refine lv_aload_n hx hb dX7_hasStock_16 rfl (lv_at hl 1 rfl) ?_
        refine va_getN (D := gD G) (ci := 0) (C := RX0) (T := TX0) (N := 3) hx hb hts hin_X0 hown hK hP 0 rfl rfl 0 (by decide) fl_97 (fun _ h9 => h9) rfl dX7_hasStock_17 ?_
        refine lv_iload_n hx hb dX7_hasStock_20 rfl (lv_at hl 2 rfl) ?_
        obtain ⟨g5, hf⟩ := kg hf
        refine va_iald hx hb hK hP 1 0 rfl rfl (vin_of g5) dX7_hasStock_21 ?_
        refine lv_icmp_ge (tgt := 27) hx hb dX7_hasStock_22 (by decide) (fun c6 => ?_) (fun c6 => ?_)
        · replace hf := kt c6 hf
          refine lv_iinc (v := (v2_2 + (1 : Int32))) (lv' := [(2, .int (v2_2 + (1 : Int32))), (0, .ref a_this), (1, .ref a_p0)]) hx hb dX7_hasStock_27 hl (k := 2) rfl rfl (by decide) rfl (fun ls hl => ?_)
          refine lv_goto (tgt := 2) hx hb dX7_hasStock_30 (by decide) ?_
          exact ih (v2_2 + (1 : Int32)) _ _ hP hD hS ls (lv_sub hl [1, 2, 0] rfl) hf
        · replace hf := kf c6 hf
          refine lv_iconst (v := (0 : Int32)) hx hb dX7_hasStock_25 (by decide) ?_
          have ho := ks hf
          subst ho
          exact kzret hx hb hr (Or.inl rfl) hlk hP hD hS hQ dX7_hasStock_26
  refine L2 _ (fun v2_1 H locs hP hD hS ls hl hf => ?_) N (0 : Int32) _ _ hP hD hS ls (lv_sub hl [1, 2, 0] rfl) hf
  refine lv_iconst (v := (1 : Int32)) hx hb dX7_hasStock_33 (by decide) ?_
  have ho := ks hf
  subst ho
  exact kzret hx hb hr (Or.inr rfl) hlk hP hD hS hQ dX7_hasStock_34
abbrev k_X7_drawn (G : KG) (a_this : Nat) (a_this_goods : Nat) (a_this_tills : Nat) (a_this_tape : Nat) (a_this_paysLaw : Nat) (a_this_valuesLaw : Nat) (a_this_waiting : Nat) (this_takings : Int32) (this_costs : Int32) (this_goes : Int32) (this_z : Int32) (this_fed : Int32) (this_waits : Int32) : va_W := [(a_this, .inr (7, [.ref a_this_goods, .ref a_this_tills, .int this_takings, .int this_costs, .int this_goes, .int this_z, .ref a_this_tape, .int this_fed, .ref a_this_paysLaw, .ref a_this_valuesLaw, .ref a_this_waiting, .int this_waits]))]
def f_X7_drawn (N : Nat) (p0 : Int32) (this_z : Int32) : Option (Int32 × (Int32)) := (if p0 ≤ 0 then (some ((0 : Int32), ((this_z * (1103515245 : Int32)) + (12345 : Int32)))) else (if ¬ p0 = 0 then (some (((jushr ((this_z * (1103515245 : Int32)) + (12345 : Int32)) (8 : Int32)) - (jushr ((this_z * (1103515245 : Int32)) + (12345 : Int32)) (8 : Int32)) / p0 * p0), ((this_z * (1103515245 : Int32)) + (12345 : Int32)))) else none))
set_option maxRecDepth 100000 in
set_option maxHeartbeats 4000000 in
theorem c_X7_drawn (l : Launch) (G : KG) (N : Nat) (a_this : Nat) (a_this_goods : Nat) (a_this_tills : Nat) (a_this_tape : Nat) (a_this_paysLaw : Nat) (a_this_valuesLaw : Nat) (a_this_waiting : Nat) (p0 : Int32) (this_takings : Int32) (this_costs : Int32) (this_goes : Int32) (this_z : Int32) (this_fed : Int32) (this_waits : Int32)  (out : Int32 × (Int32)) (hf : f_X7_drawn N p0 this_z = some out) : KM l G yX7_drawn (kw yX7_drawn cX7_drawn 2 (some .int)) 0 0 [.ref a_this, .int p0] (k_X7_drawn G a_this a_this_goods a_this_tills a_this_tape a_this_paysLaw a_this_valuesLaw a_this_waiting this_takings this_costs this_goes this_z this_fed this_waits) (k_X7_drawn G a_this a_this_goods a_this_tills a_this_tape a_this_paysLaw a_this_valuesLaw a_this_waiting this_takings this_costs this_goes (out.2) this_fed this_waits) (some (.int (out.1))) := by
  refine KM.of (by decide) (Nat.le_of_ble_eq_true rfl) ?_
  intro p e s m below meth c A ls args Q Fx0 hP hK hD hA hS hAm hQ hl
  obtain ⟨hx, hb, hr, hml, hts, hown, hlk, hnm⟩ := Fx0
  have hown : s.vm.findClass RX7 = some m.cls := hown
  have hl : lv_has ls 2 [(0, .ref a_this), (1, .int p0)] := hl
  have fl_32 := hts _ tw_252
  have kc_121 := hts _ tw_740
  unfold f_X7_drawn at hf
  refine lv_aload_n hx hb dX7_drawn_0 rfl (lv_at hl 0 rfl) ?_
  refine lv_aload_n hx hb dX7_drawn_1 rfl (lv_at hl 0 rfl) ?_
  refine va_get (D := gD G) (ci := 7) (C := RX7) (T := TX7) (N := 12) hx hb hts hin_X7 hown hK hP 0 rfl rfl 5 (by decide) fl_32 (fun _ h9 => h9) rfl dX7_drawn_2 ?_
  refine lv_ldc (v := (1103515245 : Int32)) hx hb hown kc_121 dX7_drawn_5 ?_
  refine lv_imul hx hb dX7_drawn_7 ?_
  refine lv_sipush (v := (12345 : Int32)) hx hb dX7_drawn_8 (by decide) ?_
  refine lv_iadd hx hb dX7_drawn_11 ?_
  refine va_put (D := gD G) (ci := 7) (v := .int ((this_z * (1103515245 : Int32)) + (12345 : Int32))) (ty := .int) (C := RX7) (T := TX7) (N := 12) hx hb hts hin_X7 tyX7 tyX7_ok nmX7 hown hK hP hD hS 0 rfl rfl 5 (by decide) fl_32 (fun _ h9 => h9) rfl (by decide +kernel) rfl rfl (Nat.le_of_ble_eq_true rfl) dX7_drawn_12 (fun H locs hP hD hS => ?_)
  have hP : va_P (gD G) vwCl (k_X7_drawn G a_this a_this_goods a_this_tills a_this_tape a_this_paysLaw a_this_valuesLaw a_this_waiting this_takings this_costs this_goes ((this_z * (1103515245 : Int32)) + (12345 : Int32)) this_fed this_waits) H := hP
  have hD : va_D A (k_X7_drawn G a_this a_this_goods a_this_tills a_this_tape a_this_paysLaw a_this_valuesLaw a_this_waiting this_takings this_costs this_goes ((this_z * (1103515245 : Int32)) + (12345 : Int32)) this_fed this_waits) := hD
  refine lv_iload_n hx hb dX7_drawn_15 rfl (lv_at hl 1 rfl) ?_
  refine lv_if_le (tgt := 31) hx hb dX7_drawn_16 (by decide) (fun c1 => ?_) (fun c1 => ?_)
  · replace hf := kt c1 hf
    refine lv_iconst (v := (0 : Int32)) hx hb dX7_drawn_31 (by decide) ?_
    have ho := ks hf
    subst ho
    exact kiret hx hb hr hlk hP hD hS hQ dX7_drawn_32
  · replace hf := kf c1 hf
    refine lv_aload_n hx hb dX7_drawn_19 rfl (lv_at hl 0 rfl) ?_
    refine va_get (D := gD G) (ci := 7) (C := RX7) (T := TX7) (N := 12) hx hb hts hin_X7 hown hK hP 0 rfl rfl 5 (by decide) fl_32 (fun _ h9 => h9) rfl dX7_drawn_20 ?_
    refine lv_bipush (v := (8 : Int32)) hx hb dX7_drawn_23 (by decide) ?_
    refine lv_iushr (v := (jushr ((this_z * (1103515245 : Int32)) + (12345 : Int32)) (8 : Int32))) hx hb dX7_drawn_25 rfl ?_
    refine lv_iload_n hx hb dX7_drawn_26 rfl (lv_at hl 1 rfl) ?_
    obtain ⟨g2, hf⟩ := kg hf
    refine lv_irem hx hb dX7_drawn_27 g2 ?_
    refine lv_goto (tgt := 32) hx hb dX7_drawn_28 (by decide) ?_
    have ho := ks hf
    subst ho
    exact kiret hx hb hr hlk hP hD hS hQ dX7_drawn_32
abbrev k_X10_start (G : KG) (a_this : Nat) (a_this_bodies : Nat) (this_length : Int32) (this_parted : Int32) : va_W := [(a_this, .inr (10, [.ref a_this_bodies, .int this_length, .int this_parted]))]
def f_X10_start (N : Nat) (this_length : Int32) (this_parted : Int32) : Option ((Int32) × (Int32)) := (some ((0 : Int32), (0 : Int32)))
set_option maxRecDepth 100000 in
set_option maxHeartbeats 4000000 in
theorem c_X10_start (l : Launch) (G : KG) (N : Nat) (a_this : Nat) (a_this_bodies : Nat) (this_length : Int32) (this_parted : Int32)  (out : (Int32) × (Int32)) (hf : f_X10_start N this_length this_parted = some out) : KM l G yX10_start (kw yX10_start cX10_start 1 none) 0 0 [.ref a_this] (k_X10_start G a_this a_this_bodies this_length this_parted) (k_X10_start G a_this a_this_bodies (out.1) (out.2)) none := by
  refine KM.of (by decide) (Nat.le_of_ble_eq_true rfl) ?_
  intro p e s m below meth c A ls args Q Fx0 hP hK hD hA hS hAm hQ hl
  obtain ⟨hx, hb, hr, hml, hts, hown, hlk, hnm⟩ := Fx0
  have hown : s.vm.findClass RX10 = some m.cls := hown
  have hl : lv_has ls 1 [(0, .ref a_this)] := hl
  have fl_15 := hts _ tw_298
  have fl_19 := hts _ tw_300
  unfold f_X10_start at hf
  refine lv_aload_n hx hb dX10_start_0 rfl (lv_at hl 0 rfl) ?_
  refine lv_iconst (v := (0 : Int32)) hx hb dX10_start_1 (by decide) ?_
  refine va_put (D := gD G) (ci := 10) (v := .int (0 : Int32)) (ty := .int) (C := RX10) (T := TX10) (N := 3) hx hb hts hin_X10 tyX10 tyX10_ok nmX10 hown hK hP hD hS 0 rfl rfl 1 (by decide) fl_15 (fun _ h9 => h9) rfl (by decide +kernel) rfl rfl (Nat.le_of_ble_eq_true rfl) dX10_start_2 (fun H locs hP hD hS => ?_)
  have hP : va_P (gD G) vwCl (k_X10_start G a_this a_this_bodies (0 : Int32) this_parted) H := hP
  have hD : va_D A (k_X10_start G a_this a_this_bodies (0 : Int32) this_parted) := hD
  refine lv_aload_n hx hb dX10_start_5 rfl (lv_at hl 0 rfl) ?_
  refine lv_iconst (v := (0 : Int32)) hx hb dX10_start_6 (by decide) ?_
  refine va_put (D := gD G) (ci := 10) (v := .int (0 : Int32)) (ty := .boolean) (C := RX10) (T := TX10) (N := 3) hx hb hts hin_X10 tyX10 tyX10_ok nmX10 hown hK hP hD hS 0 rfl rfl 2 (by decide) fl_19 (fun _ h9 => h9) rfl (by decide +kernel) rfl rfl (Nat.le_of_ble_eq_true rfl) dX10_start_7 (fun H locs hP hD hS => ?_)
  have hP : va_P (gD G) vwCl (k_X10_start G a_this a_this_bodies (0 : Int32) (0 : Int32)) H := hP
  have hD : va_D A (k_X10_start G a_this a_this_bodies (0 : Int32) (0 : Int32)) := hD
  have ho := ks hf
  subst ho
  exact kvret hx hb hr hlk hP hD hS hQ dX10_start_10
abbrev k_X10_began (G : KG) (a_this : Nat) (a_this_bodies : Nat) (this_length : Int32) (this_parted : Int32) (this_bodies : Nat → Int32) : va_W := [(a_this, .inr (10, [.ref a_this_bodies, .int this_length, .int this_parted])), (a_this_bodies, .inl (gI G, 30, .inl this_bodies))]
def f_X10_began (N : Nat) (p0 : Int32) (this_length : Int32) (this_bodies : Nat → Int32) : Option ((Int32) × (Nat → Int32)) := (if (30 : Int32) ≤ this_length then (some (this_length, this_bodies)) else (if vin this_length 30 = true then (some ((this_length + (1 : Int32)), (upd this_bodies this_length.toNatClampNeg p0))) else none))
set_option maxRecDepth 100000 in
set_option maxHeartbeats 4000000 in
theorem c_X10_began (l : Launch) (G : KG) (N : Nat) (a_this : Nat) (a_this_bodies : Nat) (p0 : Int32) (this_length : Int32) (this_parted : Int32) (this_bodies : Nat → Int32)  (out : (Int32) × (Nat → Int32)) (hf : f_X10_began N p0 this_length this_bodies = some out) : KM l G yX10_began (kw yX10_began cX10_began 2 none) 0 0 [.ref a_this, .int p0] (k_X10_began G a_this a_this_bodies this_length this_parted this_bodies) (k_X10_began G a_this a_this_bodies (out.1) this_parted (out.2)) none := by
  refine KM.of (by decide) (Nat.le_of_ble_eq_true rfl) ?_
  intro p e s m below meth c A ls args Q Fx0 hP hK hD hA hS hAm hQ hl
  obtain ⟨hx, hb, hr, hml, hts, hown, hlk, hnm⟩ := Fx0
  have hown : s.vm.findClass RX10 = some m.cls := hown
  have hl : lv_has ls 2 [(0, .ref a_this), (1, .int p0)] := hl
  have fl_15 := hts _ tw_298
  have fl_9 := hts _ tw_296
  unfold f_X10_began at hf
  refine lv_aload_n hx hb dX10_began_0 rfl (lv_at hl 0 rfl) ?_
  refine va_get (D := gD G) (ci := 10) (C := RX10) (T := TX10) (N := 3) hx hb hts hin_X10 hown hK hP 0 rfl rfl 1 (by decide) fl_15 (fun _ h9 => h9) rfl dX10_began_1 ?_
  refine lv_bipush (v := (30 : Int32)) hx hb dX10_began_4 (by decide) ?_
  refine lv_icmp_ge (tgt := 29) hx hb dX10_began_6 (by decide) (fun c1 => ?_) (fun c1 => ?_)
  · replace hf := kt c1 hf
    have ho := ks hf
    subst ho
    exact kvret hx hb hr hlk hP hD hS hQ dX10_began_29
  · replace hf := kf c1 hf
    refine lv_aload_n hx hb dX10_began_9 rfl (lv_at hl 0 rfl) ?_
    refine va_get (D := gD G) (ci := 10) (C := RX10) (T := TX10) (N := 3) hx hb hts hin_X10 hown hK hP 0 rfl rfl 0 (by decide) fl_9 (fun _ h9 => h9) rfl dX10_began_10 ?_
    refine lv_aload_n hx hb dX10_began_13 rfl (lv_at hl 0 rfl) ?_
    refine va_get (D := gD G) (ci := 10) (C := RX10) (T := TX10) (N := 3) hx hb hts hin_X10 hown hK hP 0 rfl rfl 1 (by decide) fl_15 (fun _ h9 => h9) rfl dX10_began_14 ?_
    refine lv_iload_n hx hb dX10_began_17 rfl (lv_at hl 1 rfl) ?_
    obtain ⟨g2, hf⟩ := kg hf
    refine va_iast hx hb hK hP hD hS 1 0 rfl rfl (vin_of g2) dX10_began_18 (fun H locs hP hD hS => ?_)
    have hP : va_P (gD G) vwCl (k_X10_began G a_this a_this_bodies this_length this_parted (upd this_bodies this_length.toNatClampNeg p0)) H := hP
    have hD : va_D A (k_X10_began G a_this a_this_bodies this_length this_parted (upd this_bodies this_length.toNatClampNeg p0)) := hD
    refine lv_aload_n hx hb dX10_began_19 rfl (lv_at hl 0 rfl) ?_
    refine lv_dup hx hb dX10_began_20 rfl ?_
    refine va_get (D := gD G) (ci := 10) (C := RX10) (T := TX10) (N := 3) hx hb hts hin_X10 hown hK hP 0 rfl rfl 1 (by decide) fl_15 (fun _ h9 => h9) rfl dX10_began_21 ?_
    refine lv_iconst (v := (1 : Int32)) hx hb dX10_began_24 (by decide) ?_
    refine lv_iadd hx hb dX10_began_25 ?_
    refine va_put (D := gD G) (ci := 10) (v := .int (this_length + (1 : Int32))) (ty := .int) (C := RX10) (T := TX10) (N := 3) hx hb hts hin_X10 tyX10 tyX10_ok nmX10 hown hK hP hD hS 0 rfl rfl 1 (by decide) fl_15 (fun _ h9 => h9) rfl (by decide +kernel) rfl rfl (Nat.le_of_ble_eq_true rfl) dX10_began_26 (fun H locs hP hD hS => ?_)
    have hP : va_P (gD G) vwCl (k_X10_began G a_this a_this_bodies (this_length + (1 : Int32)) this_parted (upd this_bodies this_length.toNatClampNeg p0)) H := hP
    have hD : va_D A (k_X10_began G a_this a_this_bodies (this_length + (1 : Int32)) this_parted (upd this_bodies this_length.toNatClampNeg p0)) := hD
    have ho := ks hf
    subst ho
    exact kvret hx hb hr hlk hP hD hS hQ dX10_began_29
abbrev k_X11_error (G : KG) (a_this : Nat) (a_this_shop : Nat) (a_this_kept : Nat) (a_this_sheetBits : Nat) (a_this_sheetLengths : Nat) (a_this_sheetNumbers : Nat) (a_this_trace : Nat) (a_this_errors : Nat) (a_this_one : Nat) (a_this_second : Nat) (a_this_extra : Nat) (a_this_room : Nat) (a_this_values : Nat) (a_this_best : Nat) (this_imaged : Int32) (this_images : Int32) (this_bestPaid : Int32) (this_bestNet : Int32) (this_errors : Nat → Int32) : va_W := [(a_this, .inr (11, [.ref a_this_shop, .ref a_this_kept, .int this_imaged, .int this_images, .ref a_this_sheetBits, .ref a_this_sheetLengths, .ref a_this_sheetNumbers, .ref a_this_trace, .ref a_this_errors, .ref a_this_one, .ref a_this_second, .ref a_this_extra, .ref a_this_room, .ref a_this_values, .ref a_this_best, .int this_bestPaid, .int this_bestNet])), (a_this_errors, .inl (gI G, 7, .inl this_errors))]
def f_X11_error (N : Nat) (p0 : Int32) (this_errors : Nat → Int32) : Option (Int32 × (Nat → Int32)) := ((f_X11_within N p0 (1 : Int32) (6 : Int32)).bind fun r1 => (if r1 = 0 then (some (((-1000000000 : Int32) - p0), this_errors)) else (if vin p0 7 = true then (if vin p0 7 = true then (some (((-1000000000 : Int32) - p0), (upd this_errors p0.toNatClampNeg ((this_errors p0.toNatClampNeg) + (1 : Int32))))) else none) else none)))
set_option maxRecDepth 100000 in
set_option maxHeartbeats 4000000 in
theorem c_X11_error (l : Launch) (G : KG) (N : Nat) (a_this : Nat) (a_this_shop : Nat) (a_this_kept : Nat) (a_this_sheetBits : Nat) (a_this_sheetLengths : Nat) (a_this_sheetNumbers : Nat) (a_this_trace : Nat) (a_this_errors : Nat) (a_this_one : Nat) (a_this_second : Nat) (a_this_extra : Nat) (a_this_room : Nat) (a_this_values : Nat) (a_this_best : Nat) (p0 : Int32) (this_imaged : Int32) (this_images : Int32) (this_bestPaid : Int32) (this_bestNet : Int32) (this_errors : Nat → Int32)  (out : Int32 × (Nat → Int32)) (hf : f_X11_error N p0 this_errors = some out) : KM l G yX11_error (kw yX11_error cX11_error 2 (some .int)) 1 22 [.ref a_this, .int p0] (k_X11_error G a_this a_this_shop a_this_kept a_this_sheetBits a_this_sheetLengths a_this_sheetNumbers a_this_trace a_this_errors a_this_one a_this_second a_this_extra a_this_room a_this_values a_this_best this_imaged this_images this_bestPaid this_bestNet this_errors) (k_X11_error G a_this a_this_shop a_this_kept a_this_sheetBits a_this_sheetLengths a_this_sheetNumbers a_this_trace a_this_errors a_this_one a_this_second a_this_extra a_this_room a_this_values a_this_best this_imaged this_images this_bestPaid this_bestNet (out.2)) (some (.int (out.1))) := by
  refine KM.of (by decide) (Nat.le_of_ble_eq_true rfl) ?_
  intro p e s m below meth c A ls args Q Fx0 hP hK hD hA hS hAm hQ hl
  obtain ⟨hx, hb, hr, hml, hts, hown, hlk, hnm⟩ := Fx0
  have hown : s.vm.findClass RX11 = some m.cls := hown
  have hl : lv_has ls 2 [(0, .ref a_this), (1, .int p0)] := hl
  have kc_296 := hts _ tw_406
  have fl_46 := hts _ tw_341
  unfold f_X11_error at hf
  refine lv_iload_n hx hb dX11_error_0 rfl (lv_at hl 1 rfl) ?_
  refine lv_iconst (v := (1 : Int32)) hx hb dX11_error_1 (by decide) ?_
  refine lv_bipush (v := (6 : Int32)) hx hb dX11_error_2 (by decide) ?_
  obtain ⟨r1, hr1, hf⟩ := kb hf
  refine kS (As := [.int p0, .int (1 : Int32), .int (6 : Int32)]) (rest := []) ⟨hx, hb, hml, hown, hts⟩ (c_X11_within l G N p0 (1 : Int32) (6 : Int32) r1 hr1) (kcS 3 hts tw_394 tw_80 tw_392 tw_393 hd_X11_within ⟨Nat.le_of_ble_eq_true rfl, Nat.le_of_ble_eq_true rfl⟩) dX11_error_4 hl.1 hK hAm hA hP hD hS [] rfl rfl rfl [] rfl rfl rfl (Nat.le_of_ble_eq_true rfl) ⟨Nat.le_refl _, Nat.le_refl _⟩ (fun H locs hP hD hS => ?_)
  have hP : va_P (gD G) vwCl (k_X11_error G a_this a_this_shop a_this_kept a_this_sheetBits a_this_sheetLengths a_this_sheetNumbers a_this_trace a_this_errors a_this_one a_this_second a_this_extra a_this_room a_this_values a_this_best this_imaged this_images this_bestPaid this_bestNet this_errors) H := hP
  have hD : va_D A (k_X11_error G a_this a_this_shop a_this_kept a_this_sheetBits a_this_sheetLengths a_this_sheetNumbers a_this_trace a_this_errors a_this_one a_this_second a_this_extra a_this_room a_this_values a_this_best this_imaged this_images this_bestPaid this_bestNet this_errors) := hD
  refine lv_if_eq (tgt := 20) hx hb dX11_error_7 (by decide) (fun c2 => ?_) (fun c2 => ?_)
  · replace hf := kt c2 hf
    refine lv_ldcw (v := (-1000000000 : Int32)) hx hb hown kc_296 dX11_error_20 ?_
    refine lv_iload_n hx hb dX11_error_23 rfl (lv_at hl 1 rfl) ?_
    refine lv_isub hx hb dX11_error_24 ?_
    have ho := ks hf
    subst ho
    exact kiret hx hb hr hlk hP hD hS hQ dX11_error_25
  · replace hf := kf c2 hf
    refine lv_aload_n hx hb dX11_error_10 rfl (lv_at hl 0 rfl) ?_
    refine va_get (D := gD G) (ci := 11) (C := RX11) (T := TX11) (N := 17) hx hb hts hin_X11 hown hK hP 0 rfl rfl 8 (by decide) fl_46 (fun _ h9 => h9) rfl dX11_error_11 ?_
    refine lv_iload_n hx hb dX11_error_14 rfl (lv_at hl 1 rfl) ?_
    refine lv_dup2_11 hx hb dX11_error_15 rfl rfl ?_
    obtain ⟨g3, hf⟩ := kg hf
    refine va_iald hx hb hK hP 1 0 rfl rfl (vin_of g3) dX11_error_16 ?_
    refine lv_iconst (v := (1 : Int32)) hx hb dX11_error_17 (by decide) ?_
    refine lv_iadd hx hb dX11_error_18 ?_
    obtain ⟨g4, hf⟩ := kg hf
    refine va_iast hx hb hK hP hD hS 1 0 rfl rfl (vin_of g4) dX11_error_19 (fun H locs hP hD hS => ?_)
    have hP : va_P (gD G) vwCl (k_X11_error G a_this a_this_shop a_this_kept a_this_sheetBits a_this_sheetLengths a_this_sheetNumbers a_this_trace a_this_errors a_this_one a_this_second a_this_extra a_this_room a_this_values a_this_best this_imaged this_images this_bestPaid this_bestNet (upd this_errors p0.toNatClampNeg ((this_errors p0.toNatClampNeg) + (1 : Int32)))) H := hP
    have hD : va_D A (k_X11_error G a_this a_this_shop a_this_kept a_this_sheetBits a_this_sheetLengths a_this_sheetNumbers a_this_trace a_this_errors a_this_one a_this_second a_this_extra a_this_room a_this_values a_this_best this_imaged this_images this_bestPaid this_bestNet (upd this_errors p0.toNatClampNeg ((this_errors p0.toNatClampNeg) + (1 : Int32)))) := hD
    refine lv_ldcw (v := (-1000000000 : Int32)) hx hb hown kc_296 dX11_error_20 ?_
    refine lv_iload_n hx hb dX11_error_23 rfl (lv_at hl 1 rfl) ?_
    refine lv_isub hx hb dX11_error_24 ?_
    have ho := ks hf
    subst ho
    exact kiret hx hb hr hlk hP hD hS hQ dX11_error_25
abbrev k_X11_reads (G : KG) (a_p1 : Nat) (a_p1_row : Nat) (a_this : Nat) (a_this_shop : Nat) (a_this_kept : Nat) (a_this_sheetBits : Nat) (a_this_sheetLengths : Nat) (a_this_sheetNumbers : Nat) (a_this_trace : Nat) (a_this_errors : Nat) (a_this_one : Nat) (a_this_second : Nat) (a_this_extra : Nat) (a_this_room : Nat) (a_this_values : Nat) (a_this_best : Nat) (e_this_sheetNumbers : Nat → Nat) (a_this_shop_goods : Nat) (a_this_shop_tills : Nat) (a_this_shop_tape : Nat) (a_this_shop_paysLaw : Nat) (a_this_shop_valuesLaw : Nat) (a_this_shop_waiting : Nat) (e_this_shop_goods : Nat → Nat) (p1_things : Int32) (p1_sum : Int32) (p1_row : Nat → Int32) (this_imaged : Int32) (this_images : Int32) (this_bestPaid : Int32) (this_bestNet : Int32) (this_sheetLengths : Nat → Int32) (this_sheetNumbers : Nat → Nat → Int32) (this_shop_takings : Int32) (this_shop_costs : Int32) (this_shop_goes : Int32) (this_shop_z : Int32) (this_shop_fed : Int32) (this_shop_waits : Int32) (this_shop_goods : Nat → Nat → Int32) : va_W := [(a_p1, .inr (0, [.ref a_p1_row, .int p1_things, .int p1_sum])), (a_p1_row, .inl (gI G, 8, .inl p1_row)), (a_this, .inr (11, [.ref a_this_shop, .ref a_this_kept, .int this_imaged, .int this_images, .ref a_this_sheetBits, .ref a_this_sheetLengths, .ref a_this_sheetNumbers, .ref a_this_trace, .ref a_this_errors, .ref a_this_one, .ref a_this_second, .ref a_this_extra, .ref a_this_room, .ref a_this_values, .ref a_this_best, .int this_bestPaid, .int this_bestNet])), (a_this_sheetLengths, .inl (gI G, 4, .inl this_sheetLengths)), (a_this_sheetNumbers, .inl (gII G, 4, .inr (.inr (.inr (.inr (fun j => some (e_this_sheetNumbers j))))))), (e_this_sheetNumbers 0, .inl (gI G, 24, .inl (this_sheetNumbers 0))), (e_this_sheetNumbers 1, .inl (gI G, 24, .inl (this_sheetNumbers 1))), (e_this_sheetNumbers 2, .inl (gI G, 24, .inl (this_sheetNumbers 2))), (e_this_sheetNumbers 3, .inl (gI G, 24, .inl (this_sheetNumbers 3))), (a_this_shop, .inr (7, [.ref a_this_shop_goods, .ref a_this_shop_tills, .int this_shop_takings, .int this_shop_costs, .int this_shop_goes, .int this_shop_z, .ref a_this_shop_tape, .int this_shop_fed, .ref a_this_shop_paysLaw, .ref a_this_shop_valuesLaw, .ref a_this_shop_waiting, .int this_shop_waits])), (a_this_shop_goods, .inl (gII G, 3, .inr (.inr (.inr (.inr (fun j => some (e_this_shop_goods j))))))), (e_this_shop_goods 0, .inl (gI G, 8, .inl (this_shop_goods 0))), (e_this_shop_goods 1, .inl (gI G, 8, .inl (this_shop_goods 1))), (e_this_shop_goods 2, .inl (gI G, 8, .inl (this_shop_goods 2)))]
def f_X11_reads_6 (N : Nat) (x1 : Int32) (p1_things : Int32) (p1_sum : Int32) (this_sheetLengths : Nat → Int32) (this_sheetNumbers : Nat → Nat → Int32) (K : Int32 → (Nat → Int32) → Option (Int32 × (Int32) × (Int32) × (Nat → Int32))) : Nat → Int32 → (Nat → Int32) → Option (Int32 × (Int32) × (Int32) × (Nat → Int32))
  | 0, _, _ => none
  | n + 1, y3, p1_row_v => (if (8 : Int32) ≤ y3 then (K y3 p1_row_v) else (if vin x1 4 = true then (if (this_sheetLengths x1.toNatClampNeg) ≤ y3 then (K y3 p1_row_v) else (if vin x1 4 = true then (if vin y3 24 = true then ((f_X11_within N ((this_sheetNumbers x1.toNatClampNeg) y3.toNatClampNeg) (0 : Int32) (9 : Int32)).bind fun r8 => (if r8 = 0 then (some ((0 : Int32), p1_things, p1_sum, p1_row_v)) else (if vin x1 4 = true then (if vin y3 24 = true then (if vin y3 8 = true then (f_X11_reads_6 N x1 p1_things p1_sum this_sheetLengths this_sheetNumbers K n (y3 + (1 : Int32)) (upd p1_row_v y3.toNatClampNeg ((this_sheetNumbers x1.toNatClampNeg) y3.toNatClampNeg))) else none) else none) else none))) else none) else none)) else none))
def f_X11_reads (N : Nat) (p0 : Int32) (p1_things : Int32) (p1_sum : Int32) (p1_row : Nat → Int32) (this_sheetLengths : Nat → Int32) (this_sheetNumbers : Nat → Nat → Int32) (this_shop_goods : Nat → Nat → Int32) : Option (Int32 × (Int32) × (Int32) × (Nat → Int32)) := ((f_X0_clear N p1_things p1_sum p1_row).bind fun r1 => (f_X11_reads_6 N p0 r1.1 r1.2.1 this_sheetLengths this_sheetNumbers (fun v3_14 p1_row_14 => ((f_X0_add N (this_shop_goods 0) r1.1 r1.2.1 p1_row_14).bind fun r15 => (some ((1 : Int32), r15.1, r15.2, p1_row_14)))) N (0 : Int32) r1.2.2))
set_option maxRecDepth 100000 in
set_option maxHeartbeats 4000000 in
theorem c_X11_reads (l : Launch) (G : KG) (N : Nat) (a_p1 : Nat) (a_p1_row : Nat) (a_this : Nat) (a_this_shop : Nat) (a_this_kept : Nat) (a_this_sheetBits : Nat) (a_this_sheetLengths : Nat) (a_this_sheetNumbers : Nat) (a_this_trace : Nat) (a_this_errors : Nat) (a_this_one : Nat) (a_this_second : Nat) (a_this_extra : Nat) (a_this_room : Nat) (a_this_values : Nat) (a_this_best : Nat) (e_this_sheetNumbers : Nat → Nat) (a_this_shop_goods : Nat) (a_this_shop_tills : Nat) (a_this_shop_tape : Nat) (a_this_shop_paysLaw : Nat) (a_this_shop_valuesLaw : Nat) (a_this_shop_waiting : Nat) (e_this_shop_goods : Nat → Nat) (p0 : Int32) (p1_things : Int32) (p1_sum : Int32) (p1_row : Nat → Int32) (this_imaged : Int32) (this_images : Int32) (this_bestPaid : Int32) (this_bestNet : Int32) (this_sheetLengths : Nat → Int32) (this_sheetNumbers : Nat → Nat → Int32) (this_shop_takings : Int32) (this_shop_costs : Int32) (this_shop_goes : Int32) (this_shop_z : Int32) (this_shop_fed : Int32) (this_shop_waits : Int32) (this_shop_goods : Nat → Nat → Int32)  (out : Int32 × (Int32) × (Int32) × (Nat → Int32)) (hf : f_X11_reads N p0 p1_things p1_sum p1_row this_sheetLengths this_sheetNumbers this_shop_goods = some out) : KM l G yX11_reads (kw yX11_reads cX11_reads 4 (some .boolean)) 2 45 [.ref a_this, .int p0, .ref a_p1] (k_X11_reads G a_p1 a_p1_row a_this a_this_shop a_this_kept a_this_sheetBits a_this_sheetLengths a_this_sheetNumbers a_this_trace a_this_errors a_this_one a_this_second a_this_extra a_this_room a_this_values a_this_best e_this_sheetNumbers a_this_shop_goods a_this_shop_tills a_this_shop_tape a_this_shop_paysLaw a_this_shop_valuesLaw a_this_shop_waiting e_this_shop_goods p1_things p1_sum p1_row this_imaged this_images this_bestPaid this_bestNet this_sheetLengths this_sheetNumbers this_shop_takings this_shop_costs this_shop_goes this_shop_z this_shop_fed this_shop_waits this_shop_goods) (k_X11_reads G a_p1 a_p1_row a_this a_this_shop a_this_kept a_this_sheetBits a_this_sheetLengths a_this_sheetNumbers a_this_trace a_this_errors a_this_one a_this_second a_this_extra a_this_room a_this_values a_this_best e_this_sheetNumbers a_this_shop_goods a_this_shop_tills a_this_shop_tape a_this_shop_paysLaw a_this_shop_valuesLaw a_this_shop_waiting e_this_shop_goods (out.2.1) (out.2.2.1) (out.2.2.2) this_imaged this_images this_bestPaid this_bestNet this_sheetLengths this_sheetNumbers this_shop_takings this_shop_costs this_shop_goes this_shop_z this_shop_fed this_shop_waits this_shop_goods) (some (.int (out.1))) := by
  refine KM.of (by decide) (Nat.le_of_ble_eq_true rfl) ?_
  intro p e s m below meth c A ls args Q Fx0 hP hK hD hA hS hAm hQ hl
  obtain ⟨hx, hb, hr, hml, hts, hown, hlk, hnm⟩ := Fx0
  have hown : s.vm.findClass RX11 = some m.cls := hown
  have hl : lv_has ls 4 [(0, .ref a_this), (1, .int p0), (2, .ref a_p1)] := hl
  have fl_10 := hts _ tw_333
  have fl_93 := va_Nw.use (A := args) rfl (hAm.1 _ nw_X11_93 rfl)
  have fl_31 := hts _ tw_338
  have fl_36 := hts _ tw_339
  have fl_186 := va_Nw.use (A := args) rfl (hAm.1 _ nw_X11_186 rfl)
  unfold f_X11_reads at hf
  refine lv_aload_n hx hb dX11_reads_0 rfl (lv_at hl 2 rfl) ?_
  obtain ⟨r1, hr1, hf⟩ := kb hf
  refine kVN (As := []) (rest := []) ⟨hx, hb, hml, hown, hts⟩ (c_X0_clear l G N a_p1 a_p1_row p1_things p1_sum p1_row r1 hr1) ⟨kcN 0 hts hAm nw_X11_183 tw_698 tw_91 hd_X0_clear ⟨Nat.le_of_ble_eq_true rfl, Nat.le_of_ble_eq_true rfl⟩, hts _ tw_697, hts _ tw_21⟩ dX11_reads_1 hl.1 hK hAm hA hP hD hS 0 (ci := 0) rfl rfl rfl [0, 1] rfl rfl rfl [0, 1] rfl rfl rfl (Nat.le_of_ble_eq_true rfl) ⟨Nat.le_refl _, Nat.le_refl _⟩ (fun H locs hP hD hS => ?_)
  have hP : va_P (gD G) vwCl (k_X11_reads G a_p1 a_p1_row a_this a_this_shop a_this_kept a_this_sheetBits a_this_sheetLengths a_this_sheetNumbers a_this_trace a_this_errors a_this_one a_this_second a_this_extra a_this_room a_this_values a_this_best e_this_sheetNumbers a_this_shop_goods a_this_shop_tills a_this_shop_tape a_this_shop_paysLaw a_this_shop_valuesLaw a_this_shop_waiting e_this_shop_goods r1.1 r1.2.1 r1.2.2 this_imaged this_images this_bestPaid this_bestNet this_sheetLengths this_sheetNumbers this_shop_takings this_shop_costs this_shop_goes this_shop_z this_shop_fed this_shop_waits this_shop_goods) H := hP
  have hD : va_D A (k_X11_reads G a_p1 a_p1_row a_this a_this_shop a_this_kept a_this_sheetBits a_this_sheetLengths a_this_sheetNumbers a_this_trace a_this_errors a_this_one a_this_second a_this_extra a_this_room a_this_values a_this_best e_this_sheetNumbers a_this_shop_goods a_this_shop_tills a_this_shop_tape a_this_shop_paysLaw a_this_shop_valuesLaw a_this_shop_waiting e_this_shop_goods r1.1 r1.2.1 r1.2.2 this_imaged this_images this_bestPaid this_bestNet this_sheetLengths this_sheetNumbers this_shop_takings this_shop_costs this_shop_goes this_shop_z this_shop_fed this_shop_waits this_shop_goods) := hD
  refine lv_iconst (v := (0 : Int32)) hx hb dX11_reads_4 (by decide) ?_
  refine lv_istore_n (lv' := [(3, .int (0 : Int32)), (0, .ref a_this), (1, .int p0), (2, .ref a_p1)]) hx hb dX11_reads_5 rfl hl (by decide) rfl (fun ls hl => ?_)
  have L4 : ∀ (K : Int32 → (Nat → Int32) → Option (Int32 × (Int32) × (Int32) × (Nat → Int32))), (∀ (v3_4 : Int32) (p1_row_4 : Nat → Int32) (H : Heap) (locs : List Loc), va_P (gD G) vwCl (k_X11_reads G a_p1 a_p1_row a_this a_this_shop a_this_kept a_this_sheetBits a_this_sheetLengths a_this_sheetNumbers a_this_trace a_this_errors a_this_one a_this_second a_this_extra a_this_room a_this_values a_this_best e_this_sheetNumbers a_this_shop_goods a_this_shop_tills a_this_shop_tape a_this_shop_paysLaw a_this_shop_valuesLaw a_this_shop_waiting e_this_shop_goods r1.1 r1.2.1 p1_row_4 this_imaged this_images this_bestPaid this_bestNet this_sheetLengths this_sheetNumbers this_shop_takings this_shop_costs this_shop_goes this_shop_z this_shop_fed this_shop_waits this_shop_goods) H → va_D A (k_X11_reads G a_p1 a_p1_row a_this a_this_shop a_this_kept a_this_sheetBits a_this_sheetLengths a_this_sheetNumbers a_this_trace a_this_errors a_this_one a_this_second a_this_extra a_this_room a_this_values a_this_best e_this_sheetNumbers a_this_shop_goods a_this_shop_tills a_this_shop_tape a_this_shop_paysLaw a_this_shop_valuesLaw a_this_shop_waiting e_this_shop_goods r1.1 r1.2.1 p1_row_4 this_imaged this_images this_bestPaid this_bestNet this_sheetLengths this_sheetNumbers this_shop_takings this_shop_costs this_shop_goes this_shop_z this_shop_fed this_shop_waits this_shop_goods) → va_S A s.heap H locs → ∀ (ls : Array Slot), lv_has ls 4 [(0, .ref a_this), (1, .int p0), (2, .ref a_p1), (3, .int v3_4)] → K v3_4 p1_row_4 = some out → W p l e (kR 2 0 0 45) s m args below meth c H locs 0 0 Q (F0 m 61 ls [])) → ∀ (n : Nat), ∀ (v3_4 : Int32) (p1_row_4 : Nat → Int32) (H : Heap) (locs : List Loc), va_P (gD G) vwCl (k_X11_reads G a_p1 a_p1_row a_this a_this_shop a_this_kept a_this_sheetBits a_this_sheetLengths a_this_sheetNumbers a_this_trace a_this_errors a_this_one a_this_second a_this_extra a_this_room a_this_values a_this_best e_this_sheetNumbers a_this_shop_goods a_this_shop_tills a_this_shop_tape a_this_shop_paysLaw a_this_shop_valuesLaw a_this_shop_waiting e_this_shop_goods r1.1 r1.2.1 p1_row_4 this_imaged this_images this_bestPaid this_bestNet this_sheetLengths this_sheetNumbers this_shop_takings this_shop_costs this_shop_goes this_shop_z this_shop_fed this_shop_waits this_shop_goods) H → va_D A (k_X11_reads G a_p1 a_p1_row a_this a_this_shop a_this_kept a_this_sheetBits a_this_sheetLengths a_this_sheetNumbers a_this_trace a_this_errors a_this_one a_this_second a_this_extra a_this_room a_this_values a_this_best e_this_sheetNumbers a_this_shop_goods a_this_shop_tills a_this_shop_tape a_this_shop_paysLaw a_this_shop_valuesLaw a_this_shop_waiting e_this_shop_goods r1.1 r1.2.1 p1_row_4 this_imaged this_images this_bestPaid this_bestNet this_sheetLengths this_sheetNumbers this_shop_takings this_shop_costs this_shop_goes this_shop_z this_shop_fed this_shop_waits this_shop_goods) → va_S A s.heap H locs → ∀ (ls : Array Slot), lv_has ls 4 [(0, .ref a_this), (1, .int p0), (2, .ref a_p1), (3, .int v3_4)] → f_X11_reads_6 N p0 r1.1 r1.2.1 this_sheetLengths this_sheetNumbers K n v3_4 p1_row_4 = some out → W p l e (kR 2 0 0 45) s m args below meth c H locs 0 0 Q (F0 m 6 ls []) := by
    intro K hK4 n
    induction n with
    | zero =>
      intro v3_4 p1_row_4 H locs hP hD hS ls hl hf
      rw [f_X11_reads_6] at hf
      cases hf
    | succ n ih =>
      intro v3_4 p1_row_4 H locs hP hD hS ls hl hf
      rw [f_X11_reads_6] at hf
      refine lv_iload_n hx hb dX11_reads_6 rfl (lv_at hl 3 rfl) ?_
      refine lv_bipush (v := (8 : Int32)) hx hb dX11_reads_7 (by decide) ?_
      refine lv_icmp_ge (tgt := 61) hx hb dX11_reads_9 (by decide) (fun c5 => ?_) (fun c5 => ?_)
      · replace hf := kt c5 hf
        exact hK4 v3_4 p1_row_4 _ _ hP hD hS ls (lv_sub hl [0, 1, 2, 3] rfl) hf
      · replace hf := kf c5 hf
        refine lv_iload_n hx hb dX11_reads_12 rfl (lv_at hl 3 rfl) ?_
        refine lv_aload_n hx hb dX11_reads_13 rfl (lv_at hl 0 rfl) ?_
        refine va_get (D := gD G) (ci := 11) (C := RX11) (T := TX11) (N := 17) hx hb hts hin_X11 hown hK hP 2 rfl rfl 5 (by decide) fl_31 (fun _ h9 => h9) rfl dX11_reads_14 ?_
        refine lv_iload_n hx hb dX11_reads_17 rfl (lv_at hl 1 rfl) ?_
        obtain ⟨g6, hf⟩ := kg hf
        refine va_iald hx hb hK hP 3 0 rfl rfl (vin_of g6) dX11_reads_18 ?_
        refine lv_icmp_ge (tgt := 61) hx hb dX11_reads_19 (by decide) (fun c7 => ?_) (fun c7 => ?_)
        · replace hf := kt c7 hf
          exact hK4 v3_4 p1_row_4 _ _ hP hD hS ls (lv_sub hl [0, 1, 2, 3] rfl) hf
        · replace hf := kf c7 hf
          refine lv_aload_n hx hb dX11_reads_22 rfl (lv_at hl 0 rfl) ?_
          refine va_get (D := gD G) (ci := 11) (C := RX11) (T := TX11) (N := 17) hx hb hts hin_X11 hown hK hP 2 rfl rfl 6 (by decide) fl_36 (fun _ h9 => h9) rfl dX11_reads_23 ?_
          refine lv_iload_n hx hb dX11_reads_26 rfl (lv_at hl 1 rfl) ?_
          obtain ⟨g8, hf⟩ := kg hf
          refine ka_aald hx hb hK hP 4 rfl (vin_of g8) dX11_reads_27 ?_
          refine lv_iload_n hx hb dX11_reads_28 rfl (lv_at hl 3 rfl) ?_
          obtain ⟨g10, hf⟩ := kg hf
          have w9 : ∀ j, j < 4 → (k_X11_reads G a_p1 a_p1_row a_this a_this_shop a_this_kept a_this_sheetBits a_this_sheetLengths a_this_sheetNumbers a_this_trace a_this_errors a_this_one a_this_second a_this_extra a_this_room a_this_values a_this_best e_this_sheetNumbers a_this_shop_goods a_this_shop_tills a_this_shop_tape a_this_shop_paysLaw a_this_shop_valuesLaw a_this_shop_waiting e_this_shop_goods r1.1 r1.2.1 p1_row_4 this_imaged this_images this_bestPaid this_bestNet this_sheetLengths this_sheetNumbers this_shop_takings this_shop_costs this_shop_goes this_shop_z this_shop_fed this_shop_waits this_shop_goods)[5 + j]? = some (e_this_sheetNumbers j, .inl (gI G, 24, .inl (this_sheetNumbers j))) := fun j hj => match j, hj with | 0, _ => rfl | 1, _ => rfl | 2, _ => rfl | 3, _ => rfl | k + 4, hk => absurd hk (by omega)
          refine va_iald hx hb hK hP (5 + p0.toNatClampNeg) 0 (w9 _ (vin_lt g8)) rfl (vin_of g10) dX11_reads_29 ?_
          refine lv_iconst (v := (0 : Int32)) hx hb dX11_reads_30 (by decide) ?_
          refine lv_bipush (v := (9 : Int32)) hx hb dX11_reads_31 (by decide) ?_
          obtain ⟨r11, hr11, hf⟩ := kb hf
          refine kS (As := [.int ((this_sheetNumbers p0.toNatClampNeg) v3_4.toNatClampNeg), .int (0 : Int32), .int (9 : Int32)]) (rest := []) ⟨hx, hb, hml, hown, hts⟩ (c_X11_within l G N ((this_sheetNumbers p0.toNatClampNeg) v3_4.toNatClampNeg) (0 : Int32) (9 : Int32) r11 hr11) (kcS 3 hts tw_394 tw_80 tw_392 tw_393 hd_X11_within ⟨Nat.le_of_ble_eq_true rfl, Nat.le_of_ble_eq_true rfl⟩) dX11_reads_33 hl.1 hK hAm hA hP hD hS [] rfl rfl rfl [] rfl rfl rfl (Nat.le_of_ble_eq_true rfl) ⟨Nat.le_refl _, Nat.le_refl _⟩ (fun H locs hP hD hS => ?_)
          have hP : va_P (gD G) vwCl (k_X11_reads G a_p1 a_p1_row a_this a_this_shop a_this_kept a_this_sheetBits a_this_sheetLengths a_this_sheetNumbers a_this_trace a_this_errors a_this_one a_this_second a_this_extra a_this_room a_this_values a_this_best e_this_sheetNumbers a_this_shop_goods a_this_shop_tills a_this_shop_tape a_this_shop_paysLaw a_this_shop_valuesLaw a_this_shop_waiting e_this_shop_goods r1.1 r1.2.1 p1_row_4 this_imaged this_images this_bestPaid this_bestNet this_sheetLengths this_sheetNumbers this_shop_takings this_shop_costs this_shop_goes this_shop_z this_shop_fed this_shop_waits this_shop_goods) H := hP
          have hD : va_D A (k_X11_reads G a_p1 a_p1_row a_this a_this_shop a_this_kept a_this_sheetBits a_this_sheetLengths a_this_sheetNumbers a_this_trace a_this_errors a_this_one a_this_second a_this_extra a_this_room a_this_values a_this_best e_this_sheetNumbers a_this_shop_goods a_this_shop_tills a_this_shop_tape a_this_shop_paysLaw a_this_shop_valuesLaw a_this_shop_waiting e_this_shop_goods r1.1 r1.2.1 p1_row_4 this_imaged this_images this_bestPaid this_bestNet this_sheetLengths this_sheetNumbers this_shop_takings this_shop_costs this_shop_goes this_shop_z this_shop_fed this_shop_waits this_shop_goods) := hD
          refine lv_if_ne (tgt := 41) hx hb dX11_reads_36 (by decide) (fun c12 => ?_) (fun c12 => ?_)
          · replace hf := kf c12 hf
            refine lv_aload_n hx hb dX11_reads_41 rfl (lv_at hl 2 rfl) ?_
            refine va_getN (D := gD G) (ci := 0) (C := RX0) (T := TX0) (N := 3) hx hb hts hin_X0 hown hK hP 0 rfl rfl 0 (by decide) fl_186 (fun _ h9 => h9) rfl dX11_reads_42 ?_
            refine lv_iload_n hx hb dX11_reads_45 rfl (lv_at hl 3 rfl) ?_
            refine lv_aload_n hx hb dX11_reads_46 rfl (lv_at hl 0 rfl) ?_
            refine va_get (D := gD G) (ci := 11) (C := RX11) (T := TX11) (N := 17) hx hb hts hin_X11 hown hK hP 2 rfl rfl 6 (by decide) fl_36 (fun _ h9 => h9) rfl dX11_reads_47 ?_
            refine lv_iload_n hx hb dX11_reads_50 rfl (lv_at hl 1 rfl) ?_
            obtain ⟨g13, hf⟩ := kg hf
            refine ka_aald hx hb hK hP 4 rfl (vin_of g13) dX11_reads_51 ?_
            refine lv_iload_n hx hb dX11_reads_52 rfl (lv_at hl 3 rfl) ?_
            obtain ⟨g15, hf⟩ := kg hf
            have w14 : ∀ j, j < 4 → (k_X11_reads G a_p1 a_p1_row a_this a_this_shop a_this_kept a_this_sheetBits a_this_sheetLengths a_this_sheetNumbers a_this_trace a_this_errors a_this_one a_this_second a_this_extra a_this_room a_this_values a_this_best e_this_sheetNumbers a_this_shop_goods a_this_shop_tills a_this_shop_tape a_this_shop_paysLaw a_this_shop_valuesLaw a_this_shop_waiting e_this_shop_goods r1.1 r1.2.1 p1_row_4 this_imaged this_images this_bestPaid this_bestNet this_sheetLengths this_sheetNumbers this_shop_takings this_shop_costs this_shop_goes this_shop_z this_shop_fed this_shop_waits this_shop_goods)[5 + j]? = some (e_this_sheetNumbers j, .inl (gI G, 24, .inl (this_sheetNumbers j))) := fun j hj => match j, hj with | 0, _ => rfl | 1, _ => rfl | 2, _ => rfl | 3, _ => rfl | k + 4, hk => absurd hk (by omega)
            refine va_iald hx hb hK hP (5 + p0.toNatClampNeg) 0 (w14 _ (vin_lt g13)) rfl (vin_of g15) dX11_reads_53 ?_
            obtain ⟨g16, hf⟩ := kg hf
            refine va_iast hx hb hK hP hD hS 1 0 rfl rfl (vin_of g16) dX11_reads_54 (fun H locs hP hD hS => ?_)
            have hP : va_P (gD G) vwCl (k_X11_reads G a_p1 a_p1_row a_this a_this_shop a_this_kept a_this_sheetBits a_this_sheetLengths a_this_sheetNumbers a_this_trace a_this_errors a_this_one a_this_second a_this_extra a_this_room a_this_values a_this_best e_this_sheetNumbers a_this_shop_goods a_this_shop_tills a_this_shop_tape a_this_shop_paysLaw a_this_shop_valuesLaw a_this_shop_waiting e_this_shop_goods r1.1 r1.2.1 (upd p1_row_4 v3_4.toNatClampNeg ((this_sheetNumbers p0.toNatClampNeg) v3_4.toNatClampNeg)) this_imaged this_images this_bestPaid this_bestNet this_sheetLengths this_sheetNumbers this_shop_takings this_shop_costs this_shop_goes this_shop_z this_shop_fed this_shop_waits this_shop_goods) H := hP
            have hD : va_D A (k_X11_reads G a_p1 a_p1_row a_this a_this_shop a_this_kept a_this_sheetBits a_this_sheetLengths a_this_sheetNumbers a_this_trace a_this_errors a_this_one a_this_second a_this_extra a_this_room a_this_values a_this_best e_this_sheetNumbers a_this_shop_goods a_this_shop_tills a_this_shop_tape a_this_shop_paysLaw a_this_shop_valuesLaw a_this_shop_waiting e_this_shop_goods r1.1 r1.2.1 (upd p1_row_4 v3_4.toNatClampNeg ((this_sheetNumbers p0.toNatClampNeg) v3_4.toNatClampNeg)) this_imaged this_images this_bestPaid this_bestNet this_sheetLengths this_sheetNumbers this_shop_takings this_shop_costs this_shop_goes this_shop_z this_shop_fed this_shop_waits this_shop_goods) := hD
            refine lv_iinc (v := (v3_4 + (1 : Int32))) (lv' := [(3, .int (v3_4 + (1 : Int32))), (0, .ref a_this), (1, .int p0), (2, .ref a_p1)]) hx hb dX11_reads_55 hl (k := 3) rfl rfl (by decide) rfl (fun ls hl => ?_)
            refine lv_goto (tgt := 6) hx hb dX11_reads_58 (by decide) ?_
            exact ih (v3_4 + (1 : Int32)) (upd p1_row_4 v3_4.toNatClampNeg ((this_sheetNumbers p0.toNatClampNeg) v3_4.toNatClampNeg)) _ _ hP hD hS ls (lv_sub hl [1, 2, 3, 0] rfl) hf
          · replace hf := kt c12 hf
            refine lv_iconst (v := (0 : Int32)) hx hb dX11_reads_39 (by decide) ?_
            have ho := ks hf
            subst ho
            exact kzret hx hb hr (Or.inl rfl) hlk hP hD hS hQ dX11_reads_40
  refine L4 _ (fun v3_2 p1_row_2 H locs hP hD hS ls hl hf => ?_) N (0 : Int32) r1.2.2 _ _ hP hD hS ls (lv_sub hl [1, 2, 3, 0] rfl) hf
  refine lv_aload_n hx hb dX11_reads_61 rfl (lv_at hl 2 rfl) ?_
  refine lv_aload_n hx hb dX11_reads_62 rfl (lv_at hl 0 rfl) ?_
  refine va_get (D := gD G) (ci := 11) (C := RX11) (T := TX11) (N := 17) hx hb hts hin_X11 hown hK hP 2 rfl rfl 0 (by decide) fl_10 (fun _ h9 => h9) rfl dX11_reads_63 ?_
  refine va_getN (D := gD G) (ci := 7) (C := RX7) (T := TX7) (N := 12) hx hb hts hin_X7 hown hK hP 9 rfl rfl 0 (by decide) fl_93 (fun _ h9 => h9) rfl dX11_reads_66 ?_
  refine lv_iconst (v := (0 : Int32)) hx hb dX11_reads_69 (by decide) ?_
  refine ka_aald hx hb hK hP 10 rfl (vin_of (by decide)) dX11_reads_70 ?_
  obtain ⟨r3, hr3, hf⟩ := kb hf
  refine kVN (As := [.ref (e_this_shop_goods 0)]) (rest := []) ⟨hx, hb, hml, hown, hts⟩ (c_X0_add l G N (e_this_shop_goods 0) a_p1 a_p1_row (this_shop_goods 0) r1.1 r1.2.1 p1_row_2 r3 hr3) ⟨kcN 1 hts hAm nw_X11_189 tw_702 tw_91 hd_X0_add ⟨Nat.le_of_ble_eq_true rfl, Nat.le_of_ble_eq_true rfl⟩, hts _ tw_701, hts _ tw_22⟩ dX11_reads_71 hl.1 hK hAm hA hP hD hS 0 (ci := 0) rfl rfl rfl [11, 0, 1] rfl rfl rfl [1] rfl rfl rfl (Nat.le_of_ble_eq_true rfl) ⟨Nat.le_refl _, Nat.le_refl _⟩ (fun H locs hP hD hS => ?_)
  have hP : va_P (gD G) vwCl (k_X11_reads G a_p1 a_p1_row a_this a_this_shop a_this_kept a_this_sheetBits a_this_sheetLengths a_this_sheetNumbers a_this_trace a_this_errors a_this_one a_this_second a_this_extra a_this_room a_this_values a_this_best e_this_sheetNumbers a_this_shop_goods a_this_shop_tills a_this_shop_tape a_this_shop_paysLaw a_this_shop_valuesLaw a_this_shop_waiting e_this_shop_goods r3.1 r3.2 p1_row_2 this_imaged this_images this_bestPaid this_bestNet this_sheetLengths this_sheetNumbers this_shop_takings this_shop_costs this_shop_goes this_shop_z this_shop_fed this_shop_waits this_shop_goods) H := hP
  have hD : va_D A (k_X11_reads G a_p1 a_p1_row a_this a_this_shop a_this_kept a_this_sheetBits a_this_sheetLengths a_this_sheetNumbers a_this_trace a_this_errors a_this_one a_this_second a_this_extra a_this_room a_this_values a_this_best e_this_sheetNumbers a_this_shop_goods a_this_shop_tills a_this_shop_tape a_this_shop_paysLaw a_this_shop_valuesLaw a_this_shop_waiting e_this_shop_goods r3.1 r3.2 p1_row_2 this_imaged this_images this_bestPaid this_bestNet this_sheetLengths this_sheetNumbers this_shop_takings this_shop_costs this_shop_goes this_shop_z this_shop_fed this_shop_waits this_shop_goods) := hD
  refine lv_iconst (v := (1 : Int32)) hx hb dX11_reads_74 (by decide) ?_
  have ho := ks hf
  subst ho
  exact kzret hx hb hr (Or.inr rfl) hlk hP hD hS hQ dX11_reads_75
abbrev k_X11_startFew (G : KG) (a_this : Nat) (a_this_shop : Nat) (a_this_kept : Nat) (a_this_sheetBits : Nat) (a_this_sheetLengths : Nat) (a_this_sheetNumbers : Nat) (a_this_trace : Nat) (a_this_errors : Nat) (a_this_one : Nat) (a_this_second : Nat) (a_this_extra : Nat) (a_this_room : Nat) (a_this_values : Nat) (a_this_best : Nat) (a_this_extra_row : Nat) (this_imaged : Int32) (this_images : Int32) (this_bestPaid : Int32) (this_bestNet : Int32) (this_extra_things : Int32) (this_extra_sum : Int32) (this_extra_row : Nat → Int32) (this_room : Nat → Int32) : va_W := [(a_this, .inr (11, [.ref a_this_shop, .ref a_this_kept, .int this_imaged, .int this_images, .ref a_this_sheetBits, .ref a_this_sheetLengths, .ref a_this_sheetNumbers, .ref a_this_trace, .ref a_this_errors, .ref a_this_one, .ref a_this_second, .ref a_this_extra, .ref a_this_room, .ref a_this_values, .ref a_this_best, .int this_bestPaid, .int this_bestNet])), (a_this_extra, .inr (0, [.ref a_this_extra_row, .int this_extra_things, .int this_extra_sum])), (a_this_extra_row, .inl (gI G, 8, .inl this_extra_row)), (a_this_room, .inl (gI G, 8, .inl this_room))]
def f_X11_startFew_9 (N : Nat) (K : Int32 → (Nat → Int32) → Option ((Int32) × (Int32) × (Nat → Int32) × (Nat → Int32))) : Nat → Int32 → (Nat → Int32) → Option ((Int32) × (Int32) × (Nat → Int32) × (Nat → Int32))
  | 0, _, _ => none
  | n + 1, y1, this_room_v => (if (8 : Int32) ≤ y1 then (K y1 this_room_v) else (if vin y1 8 = true then (f_X11_startFew_9 N K n (y1 + (1 : Int32)) (upd this_room_v y1.toNatClampNeg (3 : Int32))) else none))
def f_X11_startFew (N : Nat) (this_extra_things : Int32) (this_extra_sum : Int32) (this_extra_row : Nat → Int32) (this_room : Nat → Int32) : Option ((Int32) × (Int32) × (Nat → Int32) × (Nat → Int32)) := ((f_X0_clear N this_extra_things this_extra_sum this_extra_row).bind fun r1 => (f_X11_startFew_9 N (fun v1_4 this_room_4 => (some (r1.1, r1.2.1, r1.2.2, this_room_4))) N (0 : Int32) this_room))
set_option maxRecDepth 100000 in
set_option maxHeartbeats 4000000 in
theorem c_X11_startFew (l : Launch) (G : KG) (N : Nat) (a_this : Nat) (a_this_shop : Nat) (a_this_kept : Nat) (a_this_sheetBits : Nat) (a_this_sheetLengths : Nat) (a_this_sheetNumbers : Nat) (a_this_trace : Nat) (a_this_errors : Nat) (a_this_one : Nat) (a_this_second : Nat) (a_this_extra : Nat) (a_this_room : Nat) (a_this_values : Nat) (a_this_best : Nat) (a_this_extra_row : Nat) (this_imaged : Int32) (this_images : Int32) (this_bestPaid : Int32) (this_bestNet : Int32) (this_extra_things : Int32) (this_extra_sum : Int32) (this_extra_row : Nat → Int32) (this_room : Nat → Int32)  (out : (Int32) × (Int32) × (Nat → Int32) × (Nat → Int32)) (hf : f_X11_startFew N this_extra_things this_extra_sum this_extra_row this_room = some out) : KM l G yX11_startFew (kw yX11_startFew cX11_startFew 2 none) 1 21 [.ref a_this] (k_X11_startFew G a_this a_this_shop a_this_kept a_this_sheetBits a_this_sheetLengths a_this_sheetNumbers a_this_trace a_this_errors a_this_one a_this_second a_this_extra a_this_room a_this_values a_this_best a_this_extra_row this_imaged this_images this_bestPaid this_bestNet this_extra_things this_extra_sum this_extra_row this_room) (k_X11_startFew G a_this a_this_shop a_this_kept a_this_sheetBits a_this_sheetLengths a_this_sheetNumbers a_this_trace a_this_errors a_this_one a_this_second a_this_extra a_this_room a_this_values a_this_best a_this_extra_row this_imaged this_images this_bestPaid this_bestNet (out.1) (out.2.1) (out.2.2.1) (out.2.2.2)) none := by
  refine KM.of (by decide) (Nat.le_of_ble_eq_true rfl) ?_
  intro p e s m below meth c A ls args Q Fx0 hP hK hD hA hS hAm hQ hl
  obtain ⟨hx, hb, hr, hml, hts, hown, hlk, hnm⟩ := Fx0
  have hown : s.vm.findClass RX11 = some m.cls := hown
  have hl : lv_has ls 2 [(0, .ref a_this)] := hl
  have fl_59 := hts _ tw_344
  have fl_62 := hts _ tw_345
  unfold f_X11_startFew at hf
  refine lv_aload_n hx hb dX11_startFew_0 rfl (lv_at hl 0 rfl) ?_
  refine va_get (D := gD G) (ci := 11) (C := RX11) (T := TX11) (N := 17) hx hb hts hin_X11 hown hK hP 0 rfl rfl 11 (by decide) fl_59 (fun _ h9 => h9) rfl dX11_startFew_1 ?_
  obtain ⟨r1, hr1, hf⟩ := kb hf
  refine kVN (As := []) (rest := []) ⟨hx, hb, hml, hown, hts⟩ (c_X0_clear l G N a_this_extra a_this_extra_row this_extra_things this_extra_sum this_extra_row r1 hr1) ⟨kcN 0 hts hAm nw_X11_183 tw_698 tw_91 hd_X0_clear ⟨Nat.le_of_ble_eq_true rfl, Nat.le_of_ble_eq_true rfl⟩, hts _ tw_697, hts _ tw_21⟩ dX11_startFew_4 hl.1 hK hAm hA hP hD hS 1 (ci := 0) rfl rfl rfl [1, 2] rfl rfl rfl [0, 1] rfl rfl rfl (Nat.le_of_ble_eq_true rfl) ⟨Nat.le_refl _, Nat.le_refl _⟩ (fun H locs hP hD hS => ?_)
  have hP : va_P (gD G) vwCl (k_X11_startFew G a_this a_this_shop a_this_kept a_this_sheetBits a_this_sheetLengths a_this_sheetNumbers a_this_trace a_this_errors a_this_one a_this_second a_this_extra a_this_room a_this_values a_this_best a_this_extra_row this_imaged this_images this_bestPaid this_bestNet r1.1 r1.2.1 r1.2.2 this_room) H := hP
  have hD : va_D A (k_X11_startFew G a_this a_this_shop a_this_kept a_this_sheetBits a_this_sheetLengths a_this_sheetNumbers a_this_trace a_this_errors a_this_one a_this_second a_this_extra a_this_room a_this_values a_this_best a_this_extra_row this_imaged this_images this_bestPaid this_bestNet r1.1 r1.2.1 r1.2.2 this_room) := hD
  refine lv_iconst (v := (0 : Int32)) hx hb dX11_startFew_7 (by decide) ?_
  refine lv_istore_n (lv' := [(1, .int (0 : Int32)), (0, .ref a_this)]) hx hb dX11_startFew_8 rfl hl (by decide) rfl (fun ls hl => ?_)
  have L3 : ∀ (K : Int32 → (Nat → Int32) → Option ((Int32) × (Int32) × (Nat → Int32) × (Nat → Int32))), (∀ (v1_3 : Int32) (this_room_3 : Nat → Int32) (H : Heap) (locs : List Loc), va_P (gD G) vwCl (k_X11_startFew G a_this a_this_shop a_this_kept a_this_sheetBits a_this_sheetLengths a_this_sheetNumbers a_this_trace a_this_errors a_this_one a_this_second a_this_extra a_this_room a_this_values a_this_best a_this_extra_row this_imaged this_images this_bestPaid this_bestNet r1.1 r1.2.1 r1.2.2 this_room_3) H → va_D A (k_X11_startFew G a_this a_this_shop a_this_kept a_this_sheetBits a_this_sheetLengths a_this_sheetNumbers a_this_trace a_this_errors a_this_one a_this_second a_this_extra a_this_room a_this_values a_this_best a_this_extra_row this_imaged this_images this_bestPaid this_bestNet r1.1 r1.2.1 r1.2.2 this_room_3) → va_S A s.heap H locs → ∀ (ls : Array Slot), lv_has ls 2 [(0, .ref a_this), (1, .int v1_3)] → K v1_3 this_room_3 = some out → W p l e (kR 1 0 0 21) s m args below meth c H locs 0 0 Q (F0 m 28 ls [])) → ∀ (n : Nat), ∀ (v1_3 : Int32) (this_room_3 : Nat → Int32) (H : Heap) (locs : List Loc), va_P (gD G) vwCl (k_X11_startFew G a_this a_this_shop a_this_kept a_this_sheetBits a_this_sheetLengths a_this_sheetNumbers a_this_trace a_this_errors a_this_one a_this_second a_this_extra a_this_room a_this_values a_this_best a_this_extra_row this_imaged this_images this_bestPaid this_bestNet r1.1 r1.2.1 r1.2.2 this_room_3) H → va_D A (k_X11_startFew G a_this a_this_shop a_this_kept a_this_sheetBits a_this_sheetLengths a_this_sheetNumbers a_this_trace a_this_errors a_this_one a_this_second a_this_extra a_this_room a_this_values a_this_best a_this_extra_row this_imaged this_images this_bestPaid this_bestNet r1.1 r1.2.1 r1.2.2 this_room_3) → va_S A s.heap H locs → ∀ (ls : Array Slot), lv_has ls 2 [(0, .ref a_this), (1, .int v1_3)] → f_X11_startFew_9 N K n v1_3 this_room_3 = some out → W p l e (kR 1 0 0 21) s m args below meth c H locs 0 0 Q (F0 m 9 ls []) := by
    intro K hK3 n
    induction n with
    | zero =>
      intro v1_3 this_room_3 H locs hP hD hS ls hl hf
      rw [f_X11_startFew_9] at hf
      cases hf
    | succ n ih =>
      intro v1_3 this_room_3 H locs hP hD hS ls hl hf
      rw [f_X11_startFew_9] at hf
      refine lv_iload_n hx hb dX11_startFew_9 rfl (lv_at hl 1 rfl) ?_
      refine lv_bipush (v := (8 : Int32)) hx hb dX11_startFew_10 (by decide) ?_
      refine lv_icmp_ge (tgt := 28) hx hb dX11_startFew_12 (by decide) (fun c4 => ?_) (fun c4 => ?_)
      · replace hf := kt c4 hf
        exact hK3 v1_3 this_room_3 _ _ hP hD hS ls (lv_sub hl [0, 1] rfl) hf
      · replace hf := kf c4 hf
        refine lv_aload_n hx hb dX11_startFew_15 rfl (lv_at hl 0 rfl) ?_
        refine va_get (D := gD G) (ci := 11) (C := RX11) (T := TX11) (N := 17) hx hb hts hin_X11 hown hK hP 0 rfl rfl 12 (by decide) fl_62 (fun _ h9 => h9) rfl dX11_startFew_16 ?_
        refine lv_iload_n hx hb dX11_startFew_19 rfl (lv_at hl 1 rfl) ?_
        refine lv_iconst (v := (3 : Int32)) hx hb dX11_startFew_20 (by decide) ?_
        obtain ⟨g5, hf⟩ := kg hf
        refine va_iast hx hb hK hP hD hS 3 0 rfl rfl (vin_of g5) dX11_startFew_21 (fun H locs hP hD hS => ?_)
        have hP : va_P (gD G) vwCl (k_X11_startFew G a_this a_this_shop a_this_kept a_this_sheetBits a_this_sheetLengths a_this_sheetNumbers a_this_trace a_this_errors a_this_one a_this_second a_this_extra a_this_room a_this_values a_this_best a_this_extra_row this_imaged this_images this_bestPaid this_bestNet r1.1 r1.2.1 r1.2.2 (upd this_room_3 v1_3.toNatClampNeg (3 : Int32))) H := hP
        have hD : va_D A (k_X11_startFew G a_this a_this_shop a_this_kept a_this_sheetBits a_this_sheetLengths a_this_sheetNumbers a_this_trace a_this_errors a_this_one a_this_second a_this_extra a_this_room a_this_values a_this_best a_this_extra_row this_imaged this_images this_bestPaid this_bestNet r1.1 r1.2.1 r1.2.2 (upd this_room_3 v1_3.toNatClampNeg (3 : Int32))) := hD
        refine lv_iinc (v := (v1_3 + (1 : Int32))) (lv' := [(1, .int (v1_3 + (1 : Int32))), (0, .ref a_this)]) hx hb dX11_startFew_22 hl (k := 1) rfl rfl (by decide) rfl (fun ls hl => ?_)
        refine lv_goto (tgt := 9) hx hb dX11_startFew_25 (by decide) ?_
        exact ih (v1_3 + (1 : Int32)) (upd this_room_3 v1_3.toNatClampNeg (3 : Int32)) _ _ hP hD hS ls (lv_sub hl [1, 0] rfl) hf
  refine L3 _ (fun v1_2 this_room_2 H locs hP hD hS ls hl hf => ?_) N (0 : Int32) this_room _ _ hP hD hS ls (lv_sub hl [1, 0] rfl) hf
  have ho := ks hf
  subst ho
  exact kvret hx hb hr hlk hP hD hS hQ dX11_startFew_28
abbrev k_X4_readNumber (G : KG) (a_this : Nat) (a_this_names : Nat) (a_this_code : Nat) (a_this_stack : Nat) (a_this_bytes : Nat) (a_this_draft : Nat) (this_length : Int32) (this_drafted : Int32) (this_end : Int32) (this_place : Int32) (this_failed : Int32) (this_bytes : Nat → Int32) (this_draft : Nat → Int32) : va_W := [(a_this, .inr (4, [.ref a_this_names, .ref a_this_code, .int this_length, .ref a_this_stack, .ref a_this_bytes, .ref a_this_draft, .int this_drafted, .int this_end, .int this_place, .int this_failed])), (a_this_bytes, .inl (gI G, 60, .inl this_bytes)), (a_this_draft, .inl (gI G, 60, .inl this_draft))]
def f_X4_readNumber_4 (N : Nat) (this_end : Int32) (this_failed : Int32) (this_bytes : Nat → Int32) (K : Int32 → Int32 → Int32 → Option ((Int32) × (Int32) × (Nat → Int32))) : Nat → Int32 → Int32 → Int32 → Option ((Int32) × (Int32) × (Nat → Int32))
  | 0, _, _, _ => none
  | n + 1, y1, y2, this_place_v => (if (4 : Int32) ≤ y2 then (K y1 y2 this_place_v) else ((f_X4_next N this_end this_place_v this_failed this_bytes).bind fun r2 => ((f_X4_isDigit N r2).bind fun r3 => (if r3 = 0 then (K y1 y2 this_place_v) else ((f_X4_next N this_end this_place_v this_failed this_bytes).bind fun r5 => (f_X4_readNumber_4 N this_end this_failed this_bytes K n ((((10 : Int32) * y1) + r5) - (48 : Int32)) (y2 + (1 : Int32)) (this_place_v + (1 : Int32))))))))
def f_X4_readNumber (N : Nat) (this_drafted : Int32) (this_end : Int32) (this_place : Int32) (this_failed : Int32) (this_bytes : Nat → Int32) (this_draft : Nat → Int32) : Option ((Int32) × (Int32) × (Nat → Int32)) := (f_X4_readNumber_4 N this_end this_failed this_bytes (fun v1_6 v2_6 this_place_6 => ((f_X4_write N v1_6 this_drafted this_draft).bind fun r7 => (some (r7.1, this_place_6, r7.2)))) N (0 : Int32) (0 : Int32) this_place)
set_option maxRecDepth 100000 in
set_option maxHeartbeats 4000000 in
theorem c_X4_readNumber (l : Launch) (G : KG) (N : Nat) (a_this : Nat) (a_this_names : Nat) (a_this_code : Nat) (a_this_stack : Nat) (a_this_bytes : Nat) (a_this_draft : Nat) (this_length : Int32) (this_drafted : Int32) (this_end : Int32) (this_place : Int32) (this_failed : Int32) (this_bytes : Nat → Int32) (this_draft : Nat → Int32)  (out : (Int32) × (Int32) × (Nat → Int32)) (hf : f_X4_readNumber N this_drafted this_end this_place this_failed this_bytes this_draft = some out) : KM l G yX4_readNumber (kw yX4_readNumber cX4_readNumber 3 none) 1 21 [.ref a_this] (k_X4_readNumber G a_this a_this_names a_this_code a_this_stack a_this_bytes a_this_draft this_length this_drafted this_end this_place this_failed this_bytes this_draft) (k_X4_readNumber G a_this a_this_names a_this_code a_this_stack a_this_bytes a_this_draft this_length (out.1) this_end (out.2.1) this_failed this_bytes (out.2.2)) none := by
  refine KM.of (by decide) (Nat.le_of_ble_eq_true rfl) ?_
  intro p e s m below meth c A ls args Q Fx0 hP hK hD hA hS hAm hQ hl
  obtain ⟨hx, hb, hr, hml, hts, hown, hlk, hnm⟩ := Fx0
  have hown : s.vm.findClass RX4 = some m.cls := hown
  have hl : lv_has ls 3 [(0, .ref a_this)] := hl
  have fl_34 := hts _ tw_133
  unfold f_X4_readNumber at hf
  refine lv_iconst (v := (0 : Int32)) hx hb dX4_readNumber_0 (by decide) ?_
  refine lv_istore_n (lv' := [(1, .int (0 : Int32)), (0, .ref a_this)]) hx hb dX4_readNumber_1 rfl hl (by decide) rfl (fun ls hl => ?_)
  refine lv_iconst (v := (0 : Int32)) hx hb dX4_readNumber_2 (by decide) ?_
  refine lv_istore_n (lv' := [(2, .int (0 : Int32)), (1, .int (0 : Int32)), (0, .ref a_this)]) hx hb dX4_readNumber_3 rfl hl (by decide) rfl (fun ls hl => ?_)
  have L3 : ∀ (K : Int32 → Int32 → Int32 → Option ((Int32) × (Int32) × (Nat → Int32))), (∀ (v1_3 : Int32) (v2_3 : Int32) (this_place_3 : Int32) (H : Heap) (locs : List Loc), va_P (gD G) vwCl (k_X4_readNumber G a_this a_this_names a_this_code a_this_stack a_this_bytes a_this_draft this_length this_drafted this_end this_place_3 this_failed this_bytes this_draft) H → va_D A (k_X4_readNumber G a_this a_this_names a_this_code a_this_stack a_this_bytes a_this_draft this_length this_drafted this_end this_place_3 this_failed this_bytes this_draft) → va_S A s.heap H locs → ∀ (ls : Array Slot), lv_has ls 3 [(0, .ref a_this), (1, .int v1_3), (2, .int v2_3)] → K v1_3 v2_3 this_place_3 = some out → W p l e (kR 1 0 0 21) s m args below meth c H locs 0 0 Q (F0 m 48 ls [])) → ∀ (n : Nat), ∀ (v1_3 : Int32) (v2_3 : Int32) (this_place_3 : Int32) (H : Heap) (locs : List Loc), va_P (gD G) vwCl (k_X4_readNumber G a_this a_this_names a_this_code a_this_stack a_this_bytes a_this_draft this_length this_drafted this_end this_place_3 this_failed this_bytes this_draft) H → va_D A (k_X4_readNumber G a_this a_this_names a_this_code a_this_stack a_this_bytes a_this_draft this_length this_drafted this_end this_place_3 this_failed this_bytes this_draft) → va_S A s.heap H locs → ∀ (ls : Array Slot), lv_has ls 3 [(0, .ref a_this), (1, .int v1_3), (2, .int v2_3)] → f_X4_readNumber_4 N this_end this_failed this_bytes K n v1_3 v2_3 this_place_3 = some out → W p l e (kR 1 0 0 21) s m args below meth c H locs 0 0 Q (F0 m 4 ls []) := by
    intro K hK3 n
    induction n with
    | zero =>
      intro v1_3 v2_3 this_place_3 H locs hP hD hS ls hl hf
      rw [f_X4_readNumber_4] at hf
      cases hf
    | succ n ih =>
      intro v1_3 v2_3 this_place_3 H locs hP hD hS ls hl hf
      rw [f_X4_readNumber_4] at hf
      refine lv_iload_n hx hb dX4_readNumber_4 rfl (lv_at hl 2 rfl) ?_
      refine lv_iconst (v := (4 : Int32)) hx hb dX4_readNumber_5 (by decide) ?_
      refine lv_icmp_ge (tgt := 48) hx hb dX4_readNumber_6 (by decide) (fun c4 => ?_) (fun c4 => ?_)
      · replace hf := kt c4 hf
        exact hK3 v1_3 v2_3 this_place_3 _ _ hP hD hS ls (lv_sub hl [0, 1, 2] rfl) hf
      · replace hf := kf c4 hf
        refine lv_aload_n hx hb dX4_readNumber_9 rfl (lv_at hl 0 rfl) ?_
        obtain ⟨r5, hr5, hf⟩ := kb hf
        refine kV (As := []) (rest := []) ⟨hx, hb, hml, hown, hts⟩ (c_X4_next l G N a_this a_this_names a_this_code a_this_stack a_this_bytes a_this_draft this_length this_drafted this_end this_place_3 this_failed this_bytes r5 hr5) (kcV 0 hts tw_603 tw_82 tw_600 tw_602 tw_13 hd_X4_next ⟨Nat.le_of_ble_eq_true rfl, Nat.le_of_ble_eq_true rfl⟩) dX4_readNumber_10 hl.1 hK hAm hA hP hD hS 0 (ci := 4) rfl rfl rfl [0, 1] rfl rfl rfl [] rfl rfl rfl (Nat.le_of_ble_eq_true rfl) ⟨Nat.le_refl _, Nat.le_refl _⟩ (fun H locs hP hD hS => ?_)
        have hP : va_P (gD G) vwCl (k_X4_readNumber G a_this a_this_names a_this_code a_this_stack a_this_bytes a_this_draft this_length this_drafted this_end this_place_3 this_failed this_bytes this_draft) H := hP
        have hD : va_D A (k_X4_readNumber G a_this a_this_names a_this_code a_this_stack a_this_bytes a_this_draft this_length this_drafted this_end this_place_3 this_failed this_bytes this_draft) := hD
        obtain ⟨r6, hr6, hf⟩ := kb hf
        refine kS (As := [.int r5]) (rest := []) ⟨hx, hb, hml, hown, hts⟩ (c_X4_isDigit l G N r5 r6 hr6) (kcS 1 hts tw_606 tw_82 tw_604 tw_605 hd_X4_isDigit ⟨Nat.le_of_ble_eq_true rfl, Nat.le_of_ble_eq_true rfl⟩) dX4_readNumber_13 hl.1 hK hAm hA hP hD hS [] rfl rfl rfl [] rfl rfl rfl (Nat.le_of_ble_eq_true rfl) ⟨Nat.le_refl _, Nat.le_refl _⟩ (fun H locs hP hD hS => ?_)
        have hP : va_P (gD G) vwCl (k_X4_readNumber G a_this a_this_names a_this_code a_this_stack a_this_bytes a_this_draft this_length this_drafted this_end this_place_3 this_failed this_bytes this_draft) H := hP
        have hD : va_D A (k_X4_readNumber G a_this a_this_names a_this_code a_this_stack a_this_bytes a_this_draft this_length this_drafted this_end this_place_3 this_failed this_bytes this_draft) := hD
        refine lv_if_eq (tgt := 48) hx hb dX4_readNumber_16 (by decide) (fun c7 => ?_) (fun c7 => ?_)
        · replace hf := kt c7 hf
          exact hK3 v1_3 v2_3 this_place_3 _ _ hP hD hS ls (lv_sub hl [0, 1, 2] rfl) hf
        · replace hf := kf c7 hf
          refine lv_bipush (v := (10 : Int32)) hx hb dX4_readNumber_19 (by decide) ?_
          refine lv_iload_n hx hb dX4_readNumber_21 rfl (lv_at hl 1 rfl) ?_
          refine lv_imul hx hb dX4_readNumber_22 ?_
          refine lv_aload_n hx hb dX4_readNumber_23 rfl (lv_at hl 0 rfl) ?_
          obtain ⟨r8, hr8, hf⟩ := kb hf
          refine kV (As := []) (rest := [.int ((10 : Int32) * v1_3)]) ⟨hx, hb, hml, hown, hts⟩ (c_X4_next l G N a_this a_this_names a_this_code a_this_stack a_this_bytes a_this_draft this_length this_drafted this_end this_place_3 this_failed this_bytes r8 hr8) (kcV 0 hts tw_603 tw_82 tw_600 tw_602 tw_13 hd_X4_next ⟨Nat.le_of_ble_eq_true rfl, Nat.le_of_ble_eq_true rfl⟩) dX4_readNumber_24 hl.1 hK hAm hA hP hD hS 0 (ci := 4) rfl rfl rfl [0, 1] rfl rfl rfl [] rfl rfl rfl (Nat.le_of_ble_eq_true rfl) ⟨Nat.le_refl _, Nat.le_refl _⟩ (fun H locs hP hD hS => ?_)
          have hP : va_P (gD G) vwCl (k_X4_readNumber G a_this a_this_names a_this_code a_this_stack a_this_bytes a_this_draft this_length this_drafted this_end this_place_3 this_failed this_bytes this_draft) H := hP
          have hD : va_D A (k_X4_readNumber G a_this a_this_names a_this_code a_this_stack a_this_bytes a_this_draft this_length this_drafted this_end this_place_3 this_failed this_bytes this_draft) := hD
          refine lv_iadd hx hb dX4_readNumber_27 ?_
          refine lv_bipush (v := (48 : Int32)) hx hb dX4_readNumber_28 (by decide) ?_
          refine lv_isub hx hb dX4_readNumber_30 ?_
          refine lv_istore_n (lv' := [(1, .int ((((10 : Int32) * v1_3) + r8) - (48 : Int32))), (0, .ref a_this), (2, .int v2_3)]) hx hb dX4_readNumber_31 rfl hl (by decide) rfl (fun ls hl => ?_)
          refine lv_aload_n hx hb dX4_readNumber_32 rfl (lv_at hl 1 rfl) ?_
          refine lv_dup hx hb dX4_readNumber_33 rfl ?_
          refine va_get (D := gD G) (ci := 4) (C := RX4) (T := TX4) (N := 10) hx hb hts hin_X4 hown hK hP 0 rfl rfl 8 (by decide) fl_34 (fun _ h9 => h9) rfl dX4_readNumber_34 ?_
          refine lv_iconst (v := (1 : Int32)) hx hb dX4_readNumber_37 (by decide) ?_
          refine lv_iadd hx hb dX4_readNumber_38 ?_
          refine va_put (D := gD G) (ci := 4) (v := .int (this_place_3 + (1 : Int32))) (ty := .int) (C := RX4) (T := TX4) (N := 10) hx hb hts hin_X4 tyX4 tyX4_ok nmX4 hown hK hP hD hS 0 rfl rfl 8 (by decide) fl_34 (fun _ h9 => h9) rfl (by decide +kernel) rfl rfl (Nat.le_of_ble_eq_true rfl) dX4_readNumber_39 (fun H locs hP hD hS => ?_)
          have hP : va_P (gD G) vwCl (k_X4_readNumber G a_this a_this_names a_this_code a_this_stack a_this_bytes a_this_draft this_length this_drafted this_end (this_place_3 + (1 : Int32)) this_failed this_bytes this_draft) H := hP
          have hD : va_D A (k_X4_readNumber G a_this a_this_names a_this_code a_this_stack a_this_bytes a_this_draft this_length this_drafted this_end (this_place_3 + (1 : Int32)) this_failed this_bytes this_draft) := hD
          refine lv_iinc (v := (v2_3 + (1 : Int32))) (lv' := [(2, .int (v2_3 + (1 : Int32))), (1, .int ((((10 : Int32) * v1_3) + r8) - (48 : Int32))), (0, .ref a_this)]) hx hb dX4_readNumber_42 hl (k := 2) rfl rfl (by decide) rfl (fun ls hl => ?_)
          refine lv_goto (tgt := 4) hx hb dX4_readNumber_45 (by decide) ?_
          exact ih ((((10 : Int32) * v1_3) + r8) - (48 : Int32)) (v2_3 + (1 : Int32)) (this_place_3 + (1 : Int32)) _ _ hP hD hS ls (lv_sub hl [2, 1, 0] rfl) hf
  refine L3 _ (fun v1_1 v2_1 this_place_1 H locs hP hD hS ls hl hf => ?_) N (0 : Int32) (0 : Int32) this_place _ _ hP hD hS ls (lv_sub hl [2, 1, 0] rfl) hf
  refine lv_aload_n hx hb dX4_readNumber_48 rfl (lv_at hl 0 rfl) ?_
  refine lv_iload_n hx hb dX4_readNumber_49 rfl (lv_at hl 1 rfl) ?_
  obtain ⟨r2, hr2, hf⟩ := kb hf
  refine kV (As := [.int v1_1]) (rest := []) ⟨hx, hb, hml, hown, hts⟩ (c_X4_write l G N a_this a_this_names a_this_code a_this_stack a_this_bytes a_this_draft v1_1 this_length this_drafted this_end this_place_1 this_failed this_draft r2 hr2) (kcV 1 hts tw_614 tw_82 tw_611 tw_613 tw_15 hd_X4_write ⟨Nat.le_of_ble_eq_true rfl, Nat.le_of_ble_eq_true rfl⟩) dX4_readNumber_50 hl.1 hK hAm hA hP hD hS 0 (ci := 4) rfl rfl rfl [0, 2] rfl rfl rfl [0, 1] rfl rfl rfl (Nat.le_of_ble_eq_true rfl) ⟨Nat.le_refl _, Nat.le_refl _⟩ (fun H locs hP hD hS => ?_)
  have hP : va_P (gD G) vwCl (k_X4_readNumber G a_this a_this_names a_this_code a_this_stack a_this_bytes a_this_draft this_length r2.1 this_end this_place_1 this_failed this_bytes r2.2) H := hP
  have hD : va_D A (k_X4_readNumber G a_this a_this_names a_this_code a_this_stack a_this_bytes a_this_draft this_length r2.1 this_end this_place_1 this_failed this_bytes r2.2) := hD
  have ho := ks hf
  subst ho
  exact kvret hx hb hr hlk hP hD hS hQ dX4_readNumber_53
abbrev k_X4_workedOut (G : KG) (a_this : Nat) (a_this_names : Nat) (a_this_code : Nat) (a_this_stack : Nat) (a_this_bytes : Nat) (a_this_draft : Nat) (this_length : Int32) (this_drafted : Int32) (this_end : Int32) (this_place : Int32) (this_failed : Int32) (this_code : Nat → Int32) (this_stack : Nat → Int32) : va_W := [(a_this, .inr (4, [.ref a_this_names, .ref a_this_code, .int this_length, .ref a_this_stack, .ref a_this_bytes, .ref a_this_draft, .int this_drafted, .int this_end, .int this_place, .int this_failed])), (a_this_code, .inl (gI G, 60, .inl this_code)), (a_this_stack, .inl (gI G, 60, .inl this_stack))]
def f_X4_workedOut_6 (N : Nat) (x1 : Int32) (x2 : Int32) (x3 : Int32) (this_length : Int32) (this_code : Nat → Int32) (K : Int32 → Int32 → (Nat → Int32) → Option (Int32 × (Nat → Int32))) : Nat → Int32 → Int32 → (Nat → Int32) → Option (Int32 × (Nat → Int32))
  | 0, _, _, _ => none
  | n + 1, y4, y5, this_stack_v => (if this_length ≤ y5 then (K y4 y5 this_stack_v) else (if (60 : Int32) ≤ y5 then (K y4 y5 this_stack_v) else (if vin y5 60 = true then (if (this_code y5.toNatClampNeg) < (-3 : Int32) then (if (this_code y5.toNatClampNeg) = (-33 : Int32) then (if y4 ≤ 0 then (f_X4_workedOut_6 N x1 x2 x3 this_length this_code K n y4 (y5 + (1 : Int32)) this_stack_v) else (if vin (y4 - (1 : Int32)) 60 = true then (if (this_stack_v (y4 - (1 : Int32)).toNatClampNeg) = 0 then (if vin (y4 - (1 : Int32)) 60 = true then (f_X4_workedOut_6 N x1 x2 x3 this_length this_code K n y4 (y5 + (1 : Int32)) (upd this_stack_v (y4 - (1 : Int32)).toNatClampNeg (1 : Int32))) else none) else (if vin (y4 - (1 : Int32)) 60 = true then (f_X4_workedOut_6 N x1 x2 x3 this_length this_code K n y4 (y5 + (1 : Int32)) (upd this_stack_v (y4 - (1 : Int32)).toNatClampNeg (0 : Int32))) else none)) else none)) else (if y4 ≤ (1 : Int32) then (f_X4_workedOut_6 N x1 x2 x3 this_length this_code K n y4 (y5 + (1 : Int32)) this_stack_v) else (if vin ((y4 + (-1 : Int32)) - (1 : Int32)) 60 = true then (if vin (y4 + (-1 : Int32)) 60 = true then ((f_X4_joined N (-(this_code y5.toNatClampNeg)) (this_stack_v ((y4 + (-1 : Int32)) - (1 : Int32)).toNatClampNeg) (this_stack_v (y4 + (-1 : Int32)).toNatClampNeg)).bind fun r9 => (if vin ((y4 + (-1 : Int32)) - (1 : Int32)) 60 = true then (f_X4_workedOut_6 N x1 x2 x3 this_length this_code K n (y4 + (-1 : Int32)) (y5 + (1 : Int32)) (upd this_stack_v ((y4 + (-1 : Int32)) - (1 : Int32)).toNatClampNeg r9)) else none)) else none) else none))) else (if (60 : Int32) ≤ y4 then (f_X4_workedOut_6 N x1 x2 x3 this_length this_code K n y4 (y5 + (1 : Int32)) this_stack_v) else (if (this_code y5.toNatClampNeg) < 0 then ((f_X4_named N (this_code y5.toNatClampNeg) x1 x2 x3).bind fun r18 => (if vin y4 60 = true then (f_X4_workedOut_6 N x1 x2 x3 this_length this_code K n (y4 + (1 : Int32)) (y5 + (1 : Int32)) (upd this_stack_v y4.toNatClampNeg r18)) else none)) else (if vin y4 60 = true then (f_X4_workedOut_6 N x1 x2 x3 this_length this_code K n (y4 + (1 : Int32)) (y5 + (1 : Int32)) (upd this_stack_v y4.toNatClampNeg (this_code y5.toNatClampNeg))) else none)))) else none)))
def f_X4_workedOut (N : Nat) (p0 : Int32) (p1 : Int32) (p2 : Int32) (this_length : Int32) (this_code : Nat → Int32) (this_stack : Nat → Int32) : Option (Int32 × (Nat → Int32)) := (f_X4_workedOut_6 N p0 p1 p2 this_length this_code (fun v4_21 v5_21 this_stack_21 => (some ((this_stack_21 (0 : Int32).toNatClampNeg), this_stack_21))) N (0 : Int32) (0 : Int32) this_stack)
set_option maxRecDepth 100000 in
set_option maxHeartbeats 4000000 in
theorem c_X4_workedOut (l : Launch) (G : KG) (N : Nat) (a_this : Nat) (a_this_names : Nat) (a_this_code : Nat) (a_this_stack : Nat) (a_this_bytes : Nat) (a_this_draft : Nat) (p0 : Int32) (p1 : Int32) (p2 : Int32) (this_length : Int32) (this_drafted : Int32) (this_end : Int32) (this_place : Int32) (this_failed : Int32) (this_code : Nat → Int32) (this_stack : Nat → Int32)  (out : Int32 × (Nat → Int32)) (hf : f_X4_workedOut N p0 p1 p2 this_length this_code this_stack = some out) : KM l G yX4_workedOut (kw yX4_workedOut cX4_workedOut 7 (some .int)) 1 23 [.ref a_this, .int p0, .int p1, .int p2] (k_X4_workedOut G a_this a_this_names a_this_code a_this_stack a_this_bytes a_this_draft this_length this_drafted this_end this_place this_failed this_code this_stack) (k_X4_workedOut G a_this a_this_names a_this_code a_this_stack a_this_bytes a_this_draft this_length this_drafted this_end this_place this_failed this_code (out.2)) (some (.int (out.1))) := by
  refine KM.of (by decide) (Nat.le_of_ble_eq_true rfl) ?_
  intro p e s m below meth c A ls args Q Fx0 hP hK hD hA hS hAm hQ hl
  obtain ⟨hx, hb, hr, hml, hts, hown, hlk, hnm⟩ := Fx0
  have hown : s.vm.findClass RX4 = some m.cls := hown
  have hl : lv_has ls 7 [(0, .ref a_this), (1, .int p0), (2, .int p1), (3, .int p2)] := hl
  have fl_19 := hts _ tw_128
  have fl_15 := hts _ tw_126
  have fl_9 := hts _ tw_125
  unfold f_X4_workedOut at hf
  refine lv_iconst (v := (0 : Int32)) hx hb dX4_workedOut_0 (by decide) ?_
  refine lv_istore (lv' := [(4, .int (0 : Int32)), (0, .ref a_this), (1, .int p0), (2, .int p1), (3, .int p2)]) hx hb dX4_workedOut_1 hl (by decide) rfl (fun ls hl => ?_)
  refine lv_iconst (v := (0 : Int32)) hx hb dX4_workedOut_3 (by decide) ?_
  refine lv_istore (lv' := [(5, .int (0 : Int32)), (4, .int (0 : Int32)), (0, .ref a_this), (1, .int p0), (2, .int p1), (3, .int p2)]) hx hb dX4_workedOut_4 hl (by decide) rfl (fun ls hl => ?_)
  have L2 : ∀ (K : Int32 → Int32 → (Nat → Int32) → Option (Int32 × (Nat → Int32))), (∀ (v4_2 : Int32) (v5_2 : Int32) (this_stack_2 : Nat → Int32) (H : Heap) (locs : List Loc), va_P (gD G) vwCl (k_X4_workedOut G a_this a_this_names a_this_code a_this_stack a_this_bytes a_this_draft this_length this_drafted this_end this_place this_failed this_code this_stack_2) H → va_D A (k_X4_workedOut G a_this a_this_names a_this_code a_this_stack a_this_bytes a_this_draft this_length this_drafted this_end this_place this_failed this_code this_stack_2) → va_S A s.heap H locs → ∀ (ls : Array Slot), lv_has ls 7 [(0, .ref a_this), (1, .int p0), (2, .int p1), (3, .int p2), (4, .int v4_2), (5, .int v5_2)] → K v4_2 v5_2 this_stack_2 = some out → W p l e (kR 1 0 0 23) s m args below meth c H locs 0 0 Q (F0 m 163 ls [])) → ∀ (n : Nat), ∀ (v4_2 : Int32) (v5_2 : Int32) (this_stack_2 : Nat → Int32) (H : Heap) (locs : List Loc), va_P (gD G) vwCl (k_X4_workedOut G a_this a_this_names a_this_code a_this_stack a_this_bytes a_this_draft this_length this_drafted this_end this_place this_failed this_code this_stack_2) H → va_D A (k_X4_workedOut G a_this a_this_names a_this_code a_this_stack a_this_bytes a_this_draft this_length this_drafted this_end this_place this_failed this_code this_stack_2) → va_S A s.heap H locs → ∀ (ls : Array Slot), lv_has ls 7 [(0, .ref a_this), (1, .int p0), (2, .int p1), (3, .int p2), (4, .int v4_2), (5, .int v5_2)] → f_X4_workedOut_6 N p0 p1 p2 this_length this_code K n v4_2 v5_2 this_stack_2 = some out → W p l e (kR 1 0 0 23) s m args below meth c H locs 0 0 Q (F0 m 6 ls []) := by
    intro K hK2 n
    induction n with
    | zero =>
      intro v4_2 v5_2 this_stack_2 H locs hP hD hS ls hl hf
      rw [f_X4_workedOut_6] at hf
      cases hf
    | succ n ih =>
      intro v4_2 v5_2 this_stack_2 H locs hP hD hS ls hl hf
      rw [f_X4_workedOut_6] at hf
      refine lv_iload hx hb dX4_workedOut_6 (lv_at hl 5 rfl) ?_
      refine lv_aload_n hx hb dX4_workedOut_8 rfl (lv_at hl 0 rfl) ?_
      refine va_get (D := gD G) (ci := 4) (C := RX4) (T := TX4) (N := 10) hx hb hts hin_X4 hown hK hP 0 rfl rfl 2 (by decide) fl_15 (fun _ h9 => h9) rfl dX4_workedOut_9 ?_
      refine lv_icmp_ge (tgt := 163) hx hb dX4_workedOut_12 (by decide) (fun c3 => ?_) (fun c3 => ?_)
      · replace hf := kt c3 hf
        exact hK2 v4_2 v5_2 this_stack_2 _ _ hP hD hS ls (lv_sub hl [0, 1, 2, 3, 4, 5] rfl) hf
      · replace hf := kf c3 hf
        refine lv_iload hx hb dX4_workedOut_15 (lv_at hl 5 rfl) ?_
        refine lv_bipush (v := (60 : Int32)) hx hb dX4_workedOut_17 (by decide) ?_
        refine lv_icmp_ge (tgt := 163) hx hb dX4_workedOut_19 (by decide) (fun c4 => ?_) (fun c4 => ?_)
        · replace hf := kt c4 hf
          exact hK2 v4_2 v5_2 this_stack_2 _ _ hP hD hS ls (lv_sub hl [0, 1, 2, 3, 4, 5] rfl) hf
        · replace hf := kf c4 hf
          refine lv_aload_n hx hb dX4_workedOut_22 rfl (lv_at hl 0 rfl) ?_
          refine va_get (D := gD G) (ci := 4) (C := RX4) (T := TX4) (N := 10) hx hb hts hin_X4 hown hK hP 0 rfl rfl 1 (by decide) fl_9 (fun _ h9 => h9) rfl dX4_workedOut_23 ?_
          refine lv_iload hx hb dX4_workedOut_26 (lv_at hl 5 rfl) ?_
          obtain ⟨g5, hf⟩ := kg hf
          refine va_iald hx hb hK hP 1 0 rfl rfl (vin_of g5) dX4_workedOut_28 ?_
          refine lv_istore (lv' := [(6, .int (this_code v5_2.toNatClampNeg)), (0, .ref a_this), (1, .int p0), (2, .int p1), (3, .int p2), (4, .int v4_2), (5, .int v5_2)]) hx hb dX4_workedOut_29 hl (by decide) rfl (fun ls hl => ?_)
          refine lv_iload hx hb dX4_workedOut_31 (lv_at hl 0 rfl) ?_
          refine lv_bipush (v := (-3 : Int32)) hx hb dX4_workedOut_33 (by decide) ?_
          refine lv_icmp_lt (tgt := 76) hx hb dX4_workedOut_35 (by decide) (fun c6 => ?_) (fun c6 => ?_)
          · replace hf := kt c6 hf
            refine lv_iload hx hb dX4_workedOut_76 (lv_at hl 0 rfl) ?_
            refine lv_bipush (v := (-33 : Int32)) hx hb dX4_workedOut_78 (by decide) ?_
            refine lv_icmp_ne (tgt := 117) hx hb dX4_workedOut_80 (by decide) (fun c7 => ?_) (fun c7 => ?_)
            · replace hf := kf c7 hf
              refine lv_iload hx hb dX4_workedOut_117 (lv_at hl 5 rfl) ?_
              refine lv_iconst (v := (1 : Int32)) hx hb dX4_workedOut_119 (by decide) ?_
              refine lv_icmp_le (tgt := 157) hx hb dX4_workedOut_120 (by decide) (fun c8 => ?_) (fun c8 => ?_)
              · replace hf := kt c8 hf
                refine lv_iinc (v := (v5_2 + (1 : Int32))) (lv' := [(5, .int (v5_2 + (1 : Int32))), (6, .int (this_code v5_2.toNatClampNeg)), (0, .ref a_this), (1, .int p0), (2, .int p1), (3, .int p2), (4, .int v4_2)]) hx hb dX4_workedOut_157 hl (k := 6) rfl rfl (by decide) rfl (fun ls hl => ?_)
                refine lv_goto (tgt := 6) hx hb dX4_workedOut_160 (by decide) ?_
                exact ih v4_2 (v5_2 + (1 : Int32)) this_stack_2 _ _ hP hD hS ls (lv_sub hl [2, 3, 4, 5, 6, 0] rfl) hf
              · replace hf := kf c8 hf
                refine lv_iinc (v := (v4_2 + (-1 : Int32))) (lv' := [(4, .int (v4_2 + (-1 : Int32))), (6, .int (this_code v5_2.toNatClampNeg)), (0, .ref a_this), (1, .int p0), (2, .int p1), (3, .int p2), (5, .int v5_2)]) hx hb dX4_workedOut_123 hl (k := 5) rfl rfl (by decide) rfl (fun ls hl => ?_)
                refine lv_aload_n hx hb dX4_workedOut_126 rfl (lv_at hl 2 rfl) ?_
                refine va_get (D := gD G) (ci := 4) (C := RX4) (T := TX4) (N := 10) hx hb hts hin_X4 hown hK hP 0 rfl rfl 3 (by decide) fl_19 (fun _ h9 => h9) rfl dX4_workedOut_127 ?_
                refine lv_iload hx hb dX4_workedOut_130 (lv_at hl 0 rfl) ?_
                refine lv_iconst (v := (1 : Int32)) hx hb dX4_workedOut_132 (by decide) ?_
                refine lv_isub hx hb dX4_workedOut_133 ?_
                refine lv_iload hx hb dX4_workedOut_134 (lv_at hl 1 rfl) ?_
                refine lv_ineg hx hb dX4_workedOut_136 ?_
                refine lv_aload_n hx hb dX4_workedOut_137 rfl (lv_at hl 2 rfl) ?_
                refine va_get (D := gD G) (ci := 4) (C := RX4) (T := TX4) (N := 10) hx hb hts hin_X4 hown hK hP 0 rfl rfl 3 (by decide) fl_19 (fun _ h9 => h9) rfl dX4_workedOut_138 ?_
                refine lv_iload hx hb dX4_workedOut_141 (lv_at hl 0 rfl) ?_
                refine lv_iconst (v := (1 : Int32)) hx hb dX4_workedOut_143 (by decide) ?_
                refine lv_isub hx hb dX4_workedOut_144 ?_
                obtain ⟨g9, hf⟩ := kg hf
                refine va_iald hx hb hK hP 2 0 rfl rfl (vin_of g9) dX4_workedOut_145 ?_
                refine lv_aload_n hx hb dX4_workedOut_146 rfl (lv_at hl 2 rfl) ?_
                refine va_get (D := gD G) (ci := 4) (C := RX4) (T := TX4) (N := 10) hx hb hts hin_X4 hown hK hP 0 rfl rfl 3 (by decide) fl_19 (fun _ h9 => h9) rfl dX4_workedOut_147 ?_
                refine lv_iload hx hb dX4_workedOut_150 (lv_at hl 0 rfl) ?_
                obtain ⟨g10, hf⟩ := kg hf
                refine va_iald hx hb hK hP 2 0 rfl rfl (vin_of g10) dX4_workedOut_152 ?_
                obtain ⟨r11, hr11, hf⟩ := kb hf
                refine kS (As := [.int (-(this_code v5_2.toNatClampNeg)), .int (this_stack_2 ((v4_2 + (-1 : Int32)) - (1 : Int32)).toNatClampNeg), .int (this_stack_2 (v4_2 + (-1 : Int32)).toNatClampNeg)]) (rest := [.int ((v4_2 + (-1 : Int32)) - (1 : Int32)), .ref a_this_stack]) ⟨hx, hb, hml, hown, hts⟩ (c_X4_joined l G N (-(this_code v5_2.toNatClampNeg)) (this_stack_2 ((v4_2 + (-1 : Int32)) - (1 : Int32)).toNatClampNeg) (this_stack_2 (v4_2 + (-1 : Int32)).toNatClampNeg) r11 hr11) (kcS 3 hts tw_428 tw_82 tw_426 tw_427 hd_X4_joined ⟨Nat.le_of_ble_eq_true rfl, Nat.le_of_ble_eq_true rfl⟩) dX4_workedOut_153 hl.1 hK hAm hA hP hD hS [] rfl rfl rfl [] rfl rfl rfl (Nat.le_of_ble_eq_true rfl) ⟨Nat.le_refl _, Nat.le_refl _⟩ (fun H locs hP hD hS => ?_)
                have hP : va_P (gD G) vwCl (k_X4_workedOut G a_this a_this_names a_this_code a_this_stack a_this_bytes a_this_draft this_length this_drafted this_end this_place this_failed this_code this_stack_2) H := hP
                have hD : va_D A (k_X4_workedOut G a_this a_this_names a_this_code a_this_stack a_this_bytes a_this_draft this_length this_drafted this_end this_place this_failed this_code this_stack_2) := hD
                obtain ⟨g12, hf⟩ := kg hf
                refine va_iast hx hb hK hP hD hS 2 0 rfl rfl (vin_of g12) dX4_workedOut_156 (fun H locs hP hD hS => ?_)
                have hP : va_P (gD G) vwCl (k_X4_workedOut G a_this a_this_names a_this_code a_this_stack a_this_bytes a_this_draft this_length this_drafted this_end this_place this_failed this_code (upd this_stack_2 ((v4_2 + (-1 : Int32)) - (1 : Int32)).toNatClampNeg r11)) H := hP
                have hD : va_D A (k_X4_workedOut G a_this a_this_names a_this_code a_this_stack a_this_bytes a_this_draft this_length this_drafted this_end this_place this_failed this_code (upd this_stack_2 ((v4_2 + (-1 : Int32)) - (1 : Int32)).toNatClampNeg r11)) := hD
                refine lv_iinc (v := (v5_2 + (1 : Int32))) (lv' := [(5, .int (v5_2 + (1 : Int32))), (4, .int (v4_2 + (-1 : Int32))), (6, .int (this_code v5_2.toNatClampNeg)), (0, .ref a_this), (1, .int p0), (2, .int p1), (3, .int p2)]) hx hb dX4_workedOut_157 hl (k := 6) rfl rfl (by decide) rfl (fun ls hl => ?_)
                refine lv_goto (tgt := 6) hx hb dX4_workedOut_160 (by decide) ?_
                exact ih (v4_2 + (-1 : Int32)) (v5_2 + (1 : Int32)) (upd this_stack_2 ((v4_2 + (-1 : Int32)) - (1 : Int32)).toNatClampNeg r11) _ _ hP hD hS ls (lv_sub hl [3, 4, 5, 6, 1, 0] rfl) hf
            · replace hf := kt c7 hf
              refine lv_iload hx hb dX4_workedOut_83 (lv_at hl 5 rfl) ?_
              refine lv_if_le (tgt := 157) hx hb dX4_workedOut_85 (by decide) (fun c13 => ?_) (fun c13 => ?_)
              · replace hf := kt c13 hf
                refine lv_iinc (v := (v5_2 + (1 : Int32))) (lv' := [(5, .int (v5_2 + (1 : Int32))), (6, .int (this_code v5_2.toNatClampNeg)), (0, .ref a_this), (1, .int p0), (2, .int p1), (3, .int p2), (4, .int v4_2)]) hx hb dX4_workedOut_157 hl (k := 6) rfl rfl (by decide) rfl (fun ls hl => ?_)
                refine lv_goto (tgt := 6) hx hb dX4_workedOut_160 (by decide) ?_
                exact ih v4_2 (v5_2 + (1 : Int32)) this_stack_2 _ _ hP hD hS ls (lv_sub hl [2, 3, 4, 5, 6, 0] rfl) hf
              · replace hf := kf c13 hf
                refine lv_aload_n hx hb dX4_workedOut_88 rfl (lv_at hl 1 rfl) ?_
                refine va_get (D := gD G) (ci := 4) (C := RX4) (T := TX4) (N := 10) hx hb hts hin_X4 hown hK hP 0 rfl rfl 3 (by decide) fl_19 (fun _ h9 => h9) rfl dX4_workedOut_89 ?_
                refine lv_iload hx hb dX4_workedOut_92 (lv_at hl 5 rfl) ?_
                refine lv_iconst (v := (1 : Int32)) hx hb dX4_workedOut_94 (by decide) ?_
                refine lv_isub hx hb dX4_workedOut_95 ?_
                refine lv_aload_n hx hb dX4_workedOut_96 rfl (lv_at hl 1 rfl) ?_
                refine va_get (D := gD G) (ci := 4) (C := RX4) (T := TX4) (N := 10) hx hb hts hin_X4 hown hK hP 0 rfl rfl 3 (by decide) fl_19 (fun _ h9 => h9) rfl dX4_workedOut_97 ?_
                refine lv_iload hx hb dX4_workedOut_100 (lv_at hl 5 rfl) ?_
                refine lv_iconst (v := (1 : Int32)) hx hb dX4_workedOut_102 (by decide) ?_
                refine lv_isub hx hb dX4_workedOut_103 ?_
                obtain ⟨g14, hf⟩ := kg hf
                refine va_iald hx hb hK hP 2 0 rfl rfl (vin_of g14) dX4_workedOut_104 ?_
                refine lv_if_ne (tgt := 112) hx hb dX4_workedOut_105 (by decide) (fun c15 => ?_) (fun c15 => ?_)
                · replace hf := kf c15 hf
                  refine lv_iconst (v := (0 : Int32)) hx hb dX4_workedOut_112 (by decide) ?_
                  obtain ⟨g16, hf⟩ := kg hf
                  refine va_iast hx hb hK hP hD hS 2 0 rfl rfl (vin_of g16) dX4_workedOut_113 (fun H locs hP hD hS => ?_)
                  have hP : va_P (gD G) vwCl (k_X4_workedOut G a_this a_this_names a_this_code a_this_stack a_this_bytes a_this_draft this_length this_drafted this_end this_place this_failed this_code (upd this_stack_2 (v4_2 - (1 : Int32)).toNatClampNeg (0 : Int32))) H := hP
                  have hD : va_D A (k_X4_workedOut G a_this a_this_names a_this_code a_this_stack a_this_bytes a_this_draft this_length this_drafted this_end this_place this_failed this_code (upd this_stack_2 (v4_2 - (1 : Int32)).toNatClampNeg (0 : Int32))) := hD
                  refine lv_goto (tgt := 157) hx hb dX4_workedOut_114 (by decide) ?_
                  refine lv_iinc (v := (v5_2 + (1 : Int32))) (lv' := [(5, .int (v5_2 + (1 : Int32))), (6, .int (this_code v5_2.toNatClampNeg)), (0, .ref a_this), (1, .int p0), (2, .int p1), (3, .int p2), (4, .int v4_2)]) hx hb dX4_workedOut_157 hl (k := 6) rfl rfl (by decide) rfl (fun ls hl => ?_)
                  refine lv_goto (tgt := 6) hx hb dX4_workedOut_160 (by decide) ?_
                  exact ih v4_2 (v5_2 + (1 : Int32)) (upd this_stack_2 (v4_2 - (1 : Int32)).toNatClampNeg (0 : Int32)) _ _ hP hD hS ls (lv_sub hl [2, 3, 4, 5, 6, 0] rfl) hf
                · replace hf := kt c15 hf
                  refine lv_iconst (v := (1 : Int32)) hx hb dX4_workedOut_108 (by decide) ?_
                  refine lv_goto (tgt := 113) hx hb dX4_workedOut_109 (by decide) ?_
                  obtain ⟨g17, hf⟩ := kg hf
                  refine va_iast hx hb hK hP hD hS 2 0 rfl rfl (vin_of g17) dX4_workedOut_113 (fun H locs hP hD hS => ?_)
                  have hP : va_P (gD G) vwCl (k_X4_workedOut G a_this a_this_names a_this_code a_this_stack a_this_bytes a_this_draft this_length this_drafted this_end this_place this_failed this_code (upd this_stack_2 (v4_2 - (1 : Int32)).toNatClampNeg (1 : Int32))) H := hP
                  have hD : va_D A (k_X4_workedOut G a_this a_this_names a_this_code a_this_stack a_this_bytes a_this_draft this_length this_drafted this_end this_place this_failed this_code (upd this_stack_2 (v4_2 - (1 : Int32)).toNatClampNeg (1 : Int32))) := hD
                  refine lv_goto (tgt := 157) hx hb dX4_workedOut_114 (by decide) ?_
                  refine lv_iinc (v := (v5_2 + (1 : Int32))) (lv' := [(5, .int (v5_2 + (1 : Int32))), (6, .int (this_code v5_2.toNatClampNeg)), (0, .ref a_this), (1, .int p0), (2, .int p1), (3, .int p2), (4, .int v4_2)]) hx hb dX4_workedOut_157 hl (k := 6) rfl rfl (by decide) rfl (fun ls hl => ?_)
                  refine lv_goto (tgt := 6) hx hb dX4_workedOut_160 (by decide) ?_
                  exact ih v4_2 (v5_2 + (1 : Int32)) (upd this_stack_2 (v4_2 - (1 : Int32)).toNatClampNeg (1 : Int32)) _ _ hP hD hS ls (lv_sub hl [2, 3, 4, 5, 6, 0] rfl) hf
          · replace hf := kf c6 hf
            refine lv_iload hx hb dX4_workedOut_38 (lv_at hl 5 rfl) ?_
            refine lv_bipush (v := (60 : Int32)) hx hb dX4_workedOut_40 (by decide) ?_
            refine lv_icmp_ge (tgt := 157) hx hb dX4_workedOut_42 (by decide) (fun c18 => ?_) (fun c18 => ?_)
            · replace hf := kt c18 hf
              refine lv_iinc (v := (v5_2 + (1 : Int32))) (lv' := [(5, .int (v5_2 + (1 : Int32))), (6, .int (this_code v5_2.toNatClampNeg)), (0, .ref a_this), (1, .int p0), (2, .int p1), (3, .int p2), (4, .int v4_2)]) hx hb dX4_workedOut_157 hl (k := 6) rfl rfl (by decide) rfl (fun ls hl => ?_)
              refine lv_goto (tgt := 6) hx hb dX4_workedOut_160 (by decide) ?_
              exact ih v4_2 (v5_2 + (1 : Int32)) this_stack_2 _ _ hP hD hS ls (lv_sub hl [2, 3, 4, 5, 6, 0] rfl) hf
            · replace hf := kf c18 hf
              refine lv_aload_n hx hb dX4_workedOut_45 rfl (lv_at hl 1 rfl) ?_
              refine va_get (D := gD G) (ci := 4) (C := RX4) (T := TX4) (N := 10) hx hb hts hin_X4 hown hK hP 0 rfl rfl 3 (by decide) fl_19 (fun _ h9 => h9) rfl dX4_workedOut_46 ?_
              refine lv_iload hx hb dX4_workedOut_49 (lv_at hl 5 rfl) ?_
              refine lv_iload hx hb dX4_workedOut_51 (lv_at hl 0 rfl) ?_
              refine lv_if_lt (tgt := 61) hx hb dX4_workedOut_53 (by decide) (fun c19 => ?_) (fun c19 => ?_)
              · replace hf := kt c19 hf
                refine lv_iload hx hb dX4_workedOut_61 (lv_at hl 0 rfl) ?_
                refine lv_iload_n hx hb dX4_workedOut_63 rfl (lv_at hl 2 rfl) ?_
                refine lv_iload_n hx hb dX4_workedOut_64 rfl (lv_at hl 3 rfl) ?_
                refine lv_iload_n hx hb dX4_workedOut_65 rfl (lv_at hl 4 rfl) ?_
                obtain ⟨r20, hr20, hf⟩ := kb hf
                refine kS (As := [.int (this_code v5_2.toNatClampNeg), .int p0, .int p1, .int p2]) (rest := [.int v4_2, .ref a_this_stack]) ⟨hx, hb, hml, hown, hts⟩ (c_X4_named l G N (this_code v5_2.toNatClampNeg) p0 p1 p2 r20 hr20) (kcS 4 hts tw_425 tw_82 tw_423 tw_424 hd_X4_named ⟨Nat.le_of_ble_eq_true rfl, Nat.le_of_ble_eq_true rfl⟩) dX4_workedOut_66 hl.1 hK hAm hA hP hD hS [] rfl rfl rfl [] rfl rfl rfl (Nat.le_of_ble_eq_true rfl) ⟨Nat.le_refl _, Nat.le_refl _⟩ (fun H locs hP hD hS => ?_)
                have hP : va_P (gD G) vwCl (k_X4_workedOut G a_this a_this_names a_this_code a_this_stack a_this_bytes a_this_draft this_length this_drafted this_end this_place this_failed this_code this_stack_2) H := hP
                have hD : va_D A (k_X4_workedOut G a_this a_this_names a_this_code a_this_stack a_this_bytes a_this_draft this_length this_drafted this_end this_place this_failed this_code this_stack_2) := hD
                obtain ⟨g21, hf⟩ := kg hf
                refine va_iast hx hb hK hP hD hS 2 0 rfl rfl (vin_of g21) dX4_workedOut_69 (fun H locs hP hD hS => ?_)
                have hP : va_P (gD G) vwCl (k_X4_workedOut G a_this a_this_names a_this_code a_this_stack a_this_bytes a_this_draft this_length this_drafted this_end this_place this_failed this_code (upd this_stack_2 v4_2.toNatClampNeg r20)) H := hP
                have hD : va_D A (k_X4_workedOut G a_this a_this_names a_this_code a_this_stack a_this_bytes a_this_draft this_length this_drafted this_end this_place this_failed this_code (upd this_stack_2 v4_2.toNatClampNeg r20)) := hD
                refine lv_iinc (v := (v4_2 + (1 : Int32))) (lv' := [(4, .int (v4_2 + (1 : Int32))), (6, .int (this_code v5_2.toNatClampNeg)), (0, .ref a_this), (1, .int p0), (2, .int p1), (3, .int p2), (5, .int v5_2)]) hx hb dX4_workedOut_70 hl (k := 5) rfl rfl (by decide) rfl (fun ls hl => ?_)
                refine lv_goto (tgt := 157) hx hb dX4_workedOut_73 (by decide) ?_
                refine lv_iinc (v := (v5_2 + (1 : Int32))) (lv' := [(5, .int (v5_2 + (1 : Int32))), (4, .int (v4_2 + (1 : Int32))), (6, .int (this_code v5_2.toNatClampNeg)), (0, .ref a_this), (1, .int p0), (2, .int p1), (3, .int p2)]) hx hb dX4_workedOut_157 hl (k := 6) rfl rfl (by decide) rfl (fun ls hl => ?_)
                refine lv_goto (tgt := 6) hx hb dX4_workedOut_160 (by decide) ?_
                exact ih (v4_2 + (1 : Int32)) (v5_2 + (1 : Int32)) (upd this_stack_2 v4_2.toNatClampNeg r20) _ _ hP hD hS ls (lv_sub hl [3, 4, 5, 6, 1, 0] rfl) hf
              · replace hf := kf c19 hf
                refine lv_iload hx hb dX4_workedOut_56 (lv_at hl 0 rfl) ?_
                refine lv_goto (tgt := 69) hx hb dX4_workedOut_58 (by decide) ?_
                obtain ⟨g22, hf⟩ := kg hf
                refine va_iast hx hb hK hP hD hS 2 0 rfl rfl (vin_of g22) dX4_workedOut_69 (fun H locs hP hD hS => ?_)
                have hP : va_P (gD G) vwCl (k_X4_workedOut G a_this a_this_names a_this_code a_this_stack a_this_bytes a_this_draft this_length this_drafted this_end this_place this_failed this_code (upd this_stack_2 v4_2.toNatClampNeg (this_code v5_2.toNatClampNeg))) H := hP
                have hD : va_D A (k_X4_workedOut G a_this a_this_names a_this_code a_this_stack a_this_bytes a_this_draft this_length this_drafted this_end this_place this_failed this_code (upd this_stack_2 v4_2.toNatClampNeg (this_code v5_2.toNatClampNeg))) := hD
                refine lv_iinc (v := (v4_2 + (1 : Int32))) (lv' := [(4, .int (v4_2 + (1 : Int32))), (6, .int (this_code v5_2.toNatClampNeg)), (0, .ref a_this), (1, .int p0), (2, .int p1), (3, .int p2), (5, .int v5_2)]) hx hb dX4_workedOut_70 hl (k := 5) rfl rfl (by decide) rfl (fun ls hl => ?_)
                refine lv_goto (tgt := 157) hx hb dX4_workedOut_73 (by decide) ?_
                refine lv_iinc (v := (v5_2 + (1 : Int32))) (lv' := [(5, .int (v5_2 + (1 : Int32))), (4, .int (v4_2 + (1 : Int32))), (6, .int (this_code v5_2.toNatClampNeg)), (0, .ref a_this), (1, .int p0), (2, .int p1), (3, .int p2)]) hx hb dX4_workedOut_157 hl (k := 6) rfl rfl (by decide) rfl (fun ls hl => ?_)
                refine lv_goto (tgt := 6) hx hb dX4_workedOut_160 (by decide) ?_
                exact ih (v4_2 + (1 : Int32)) (v5_2 + (1 : Int32)) (upd this_stack_2 v4_2.toNatClampNeg (this_code v5_2.toNatClampNeg)) _ _ hP hD hS ls (lv_sub hl [3, 4, 5, 6, 1, 0] rfl) hf
  refine L2 _ (fun v4_1 v5_1 this_stack_1 H locs hP hD hS ls hl hf => ?_) N (0 : Int32) (0 : Int32) this_stack _ _ hP hD hS ls (lv_sub hl [2, 3, 4, 5, 1, 0] rfl) hf
  refine lv_aload_n hx hb dX4_workedOut_163 rfl (lv_at hl 0 rfl) ?_
  refine va_get (D := gD G) (ci := 4) (C := RX4) (T := TX4) (N := 10) hx hb hts hin_X4 hown hK hP 0 rfl rfl 3 (by decide) fl_19 (fun _ h9 => h9) rfl dX4_workedOut_164 ?_
  refine lv_iconst (v := (0 : Int32)) hx hb dX4_workedOut_167 (by decide) ?_
  refine va_iald hx hb hK hP 2 0 rfl rfl (vin_of (by decide)) dX4_workedOut_168 ?_
  have ho := ks hf
  subst ho
  exact kiret hx hb hr hlk hP hD hS hQ dX4_workedOut_169
abbrev k_X7_valueOf (G : KG) (a_this : Nat) (a_this_goods : Nat) (a_this_tills : Nat) (a_this_tape : Nat) (a_this_paysLaw : Nat) (a_this_valuesLaw : Nat) (a_this_waiting : Nat) (e_this_goods : Nat → Nat) (a_this_valuesLaw_names : Nat) (a_this_valuesLaw_code : Nat) (a_this_valuesLaw_stack : Nat) (a_this_valuesLaw_bytes : Nat) (a_this_valuesLaw_draft : Nat) (this_takings : Int32) (this_costs : Int32) (this_goes : Int32) (this_z : Int32) (this_fed : Int32) (this_waits : Int32) (this_goods : Nat → Nat → Int32) (this_valuesLaw_length : Int32) (this_valuesLaw_drafted : Int32) (this_valuesLaw_end : Int32) (this_valuesLaw_place : Int32) (this_valuesLaw_failed : Int32) (this_valuesLaw_code : Nat → Int32) (this_valuesLaw_stack : Nat → Int32) : va_W := [(a_this, .inr (7, [.ref a_this_goods, .ref a_this_tills, .int this_takings, .int this_costs, .int this_goes, .int this_z, .ref a_this_tape, .int this_fed, .ref a_this_paysLaw, .ref a_this_valuesLaw, .ref a_this_waiting, .int this_waits])), (a_this_goods, .inl (gII G, 3, .inr (.inr (.inr (.inr (fun j => some (e_this_goods j))))))), (e_this_goods 0, .inl (gI G, 8, .inl (this_goods 0))), (e_this_goods 1, .inl (gI G, 8, .inl (this_goods 1))), (e_this_goods 2, .inl (gI G, 8, .inl (this_goods 2))), (a_this_valuesLaw, .inr (4, [.ref a_this_valuesLaw_names, .ref a_this_valuesLaw_code, .int this_valuesLaw_length, .ref a_this_valuesLaw_stack, .ref a_this_valuesLaw_bytes, .ref a_this_valuesLaw_draft, .int this_valuesLaw_drafted, .int this_valuesLaw_end, .int this_valuesLaw_place, .int this_valuesLaw_failed])), (a_this_valuesLaw_code, .inl (gI G, 60, .inl this_valuesLaw_code)), (a_this_valuesLaw_stack, .inl (gI G, 60, .inl this_valuesLaw_stack))]
def f_X7_valueOf (N : Nat) (p0 : Int32) (this_goods : Nat → Nat → Int32) (this_valuesLaw_length : Int32) (this_valuesLaw_code : Nat → Int32) (this_valuesLaw_stack : Nat → Int32) : Option (Int32 × (Nat → Int32)) := ((f_X4_isTold N this_valuesLaw_length).bind fun r1 => (if r1 = 0 then (some ((0 : Int32), this_valuesLaw_stack)) else (if vin p0 8 = true then (if vin p0 8 = true then ((f_X4_workedOut N p0 ((this_goods 0) p0.toNatClampNeg) ((this_goods 1) p0.toNatClampNeg) this_valuesLaw_length this_valuesLaw_code this_valuesLaw_stack).bind fun r5 => ((f_X11_held N r5.1 (99 : Int32)).bind fun r6 => (some (r6, r5.2)))) else none) else none)))
set_option maxRecDepth 100000 in
set_option maxHeartbeats 4000000 in
theorem c_X7_valueOf (l : Launch) (G : KG) (N : Nat) (a_this : Nat) (a_this_goods : Nat) (a_this_tills : Nat) (a_this_tape : Nat) (a_this_paysLaw : Nat) (a_this_valuesLaw : Nat) (a_this_waiting : Nat) (e_this_goods : Nat → Nat) (a_this_valuesLaw_names : Nat) (a_this_valuesLaw_code : Nat) (a_this_valuesLaw_stack : Nat) (a_this_valuesLaw_bytes : Nat) (a_this_valuesLaw_draft : Nat) (p0 : Int32) (this_takings : Int32) (this_costs : Int32) (this_goes : Int32) (this_z : Int32) (this_fed : Int32) (this_waits : Int32) (this_goods : Nat → Nat → Int32) (this_valuesLaw_length : Int32) (this_valuesLaw_drafted : Int32) (this_valuesLaw_end : Int32) (this_valuesLaw_place : Int32) (this_valuesLaw_failed : Int32) (this_valuesLaw_code : Nat → Int32) (this_valuesLaw_stack : Nat → Int32)  (out : Int32 × (Nat → Int32)) (hf : f_X7_valueOf N p0 this_goods this_valuesLaw_length this_valuesLaw_code this_valuesLaw_stack = some out) : KM l G yX7_valueOf (kw yX7_valueOf cX7_valueOf 2 (some .int)) 2 49 [.ref a_this, .int p0] (k_X7_valueOf G a_this a_this_goods a_this_tills a_this_tape a_this_paysLaw a_this_valuesLaw a_this_waiting e_this_goods a_this_valuesLaw_names a_this_valuesLaw_code a_this_valuesLaw_stack a_this_valuesLaw_bytes a_this_valuesLaw_draft this_takings this_costs this_goes this_z this_fed this_waits this_goods this_valuesLaw_length this_valuesLaw_drafted this_valuesLaw_end this_valuesLaw_place this_valuesLaw_failed this_valuesLaw_code this_valuesLaw_stack) (k_X7_valueOf G a_this a_this_goods a_this_tills a_this_tape a_this_paysLaw a_this_valuesLaw a_this_waiting e_this_goods a_this_valuesLaw_names a_this_valuesLaw_code a_this_valuesLaw_stack a_this_valuesLaw_bytes a_this_valuesLaw_draft this_takings this_costs this_goes this_z this_fed this_waits this_goods this_valuesLaw_length this_valuesLaw_drafted this_valuesLaw_end this_valuesLaw_place this_valuesLaw_failed this_valuesLaw_code (out.2)) (some (.int (out.1))) := by
  refine KM.of (by decide) (Nat.le_of_ble_eq_true rfl) ?_
  intro p e s m below meth c A ls args Q Fx0 hP hK hD hA hS hAm hQ hl
  obtain ⟨hx, hb, hr, hml, hts, hown, hlk, hnm⟩ := Fx0
  have hown : s.vm.findClass RX7 = some m.cls := hown
  have hl : lv_has ls 2 [(0, .ref a_this), (1, .int p0)] := hl
  have fl_55 := hts _ tw_259
  have fl_11 := hts _ tw_242
  unfold f_X7_valueOf at hf
  refine lv_aload_n hx hb dX7_valueOf_0 rfl (lv_at hl 0 rfl) ?_
  refine va_get (D := gD G) (ci := 7) (C := RX7) (T := TX7) (N := 12) hx hb hts hin_X7 hown hK hP 0 rfl rfl 9 (by decide) fl_55 (fun _ h9 => h9) rfl dX7_valueOf_1 ?_
  obtain ⟨r1, hr1, hf⟩ := kb hf
  refine kVN (As := []) (rest := []) ⟨hx, hb, hml, hown, hts⟩ (c_X4_isTold l G N a_this_valuesLaw a_this_valuesLaw_names a_this_valuesLaw_code a_this_valuesLaw_stack a_this_valuesLaw_bytes a_this_valuesLaw_draft this_valuesLaw_length this_valuesLaw_drafted this_valuesLaw_end this_valuesLaw_place this_valuesLaw_failed r1 hr1) ⟨kcN 0 hts hAm nw_X7_89 tw_418 tw_82 hd_X4_isTold ⟨Nat.le_of_ble_eq_true rfl, Nat.le_of_ble_eq_true rfl⟩, hts _ tw_417, hts _ tw_2⟩ dX7_valueOf_4 hl.1 hK hAm hA hP hD hS 5 (ci := 4) rfl rfl rfl [5] rfl rfl rfl [] rfl rfl rfl (Nat.le_of_ble_eq_true rfl) ⟨Nat.le_refl _, Nat.le_refl _⟩ (fun H locs hP hD hS => ?_)
  have hP : va_P (gD G) vwCl (k_X7_valueOf G a_this a_this_goods a_this_tills a_this_tape a_this_paysLaw a_this_valuesLaw a_this_waiting e_this_goods a_this_valuesLaw_names a_this_valuesLaw_code a_this_valuesLaw_stack a_this_valuesLaw_bytes a_this_valuesLaw_draft this_takings this_costs this_goes this_z this_fed this_waits this_goods this_valuesLaw_length this_valuesLaw_drafted this_valuesLaw_end this_valuesLaw_place this_valuesLaw_failed this_valuesLaw_code this_valuesLaw_stack) H := hP
  have hD : va_D A (k_X7_valueOf G a_this a_this_goods a_this_tills a_this_tape a_this_paysLaw a_this_valuesLaw a_this_waiting e_this_goods a_this_valuesLaw_names a_this_valuesLaw_code a_this_valuesLaw_stack a_this_valuesLaw_bytes a_this_valuesLaw_draft this_takings this_costs this_goes this_z this_fed this_waits this_goods this_valuesLaw_length this_valuesLaw_drafted this_valuesLaw_end this_valuesLaw_place this_valuesLaw_failed this_valuesLaw_code this_valuesLaw_stack) := hD
  refine lv_if_ne (tgt := 12) hx hb dX7_valueOf_7 (by decide) (fun c2 => ?_) (fun c2 => ?_)
  · replace hf := kf c2 hf
    refine lv_aload_n hx hb dX7_valueOf_12 rfl (lv_at hl 0 rfl) ?_
    refine va_get (D := gD G) (ci := 7) (C := RX7) (T := TX7) (N := 12) hx hb hts hin_X7 hown hK hP 0 rfl rfl 9 (by decide) fl_55 (fun _ h9 => h9) rfl dX7_valueOf_13 ?_
    refine lv_iload_n hx hb dX7_valueOf_16 rfl (lv_at hl 1 rfl) ?_
    refine lv_aload_n hx hb dX7_valueOf_17 rfl (lv_at hl 0 rfl) ?_
    refine va_get (D := gD G) (ci := 7) (C := RX7) (T := TX7) (N := 12) hx hb hts hin_X7 hown hK hP 0 rfl rfl 0 (by decide) fl_11 (fun _ h9 => h9) rfl dX7_valueOf_18 ?_
    refine lv_iconst (v := (0 : Int32)) hx hb dX7_valueOf_21 (by decide) ?_
    refine ka_aald hx hb hK hP 1 rfl (vin_of (by decide)) dX7_valueOf_22 ?_
    refine lv_iload_n hx hb dX7_valueOf_23 rfl (lv_at hl 1 rfl) ?_
    obtain ⟨g3, hf⟩ := kg hf
    refine va_iald hx hb hK hP 2 0 rfl rfl (vin_of g3) dX7_valueOf_24 ?_
    refine lv_aload_n hx hb dX7_valueOf_25 rfl (lv_at hl 0 rfl) ?_
    refine va_get (D := gD G) (ci := 7) (C := RX7) (T := TX7) (N := 12) hx hb hts hin_X7 hown hK hP 0 rfl rfl 0 (by decide) fl_11 (fun _ h9 => h9) rfl dX7_valueOf_26 ?_
    refine lv_iconst (v := (1 : Int32)) hx hb dX7_valueOf_29 (by decide) ?_
    refine ka_aald hx hb hK hP 1 rfl (vin_of (by decide)) dX7_valueOf_30 ?_
    refine lv_iload_n hx hb dX7_valueOf_31 rfl (lv_at hl 1 rfl) ?_
    obtain ⟨g4, hf⟩ := kg hf
    refine va_iald hx hb hK hP 3 0 rfl rfl (vin_of g4) dX7_valueOf_32 ?_
    obtain ⟨r5, hr5, hf⟩ := kb hf
    refine kVN (As := [.int p0, .int ((this_goods 0) p0.toNatClampNeg), .int ((this_goods 1) p0.toNatClampNeg)]) (rest := []) ⟨hx, hb, hml, hown, hts⟩ (c_X4_workedOut l G N a_this_valuesLaw a_this_valuesLaw_names a_this_valuesLaw_code a_this_valuesLaw_stack a_this_valuesLaw_bytes a_this_valuesLaw_draft p0 ((this_goods 0) p0.toNatClampNeg) ((this_goods 1) p0.toNatClampNeg) this_valuesLaw_length this_valuesLaw_drafted this_valuesLaw_end this_valuesLaw_place this_valuesLaw_failed this_valuesLaw_code this_valuesLaw_stack r5 hr5) ⟨kcN 3 hts hAm nw_X7_93 tw_422 tw_82 hd_X4_workedOut ⟨Nat.le_of_ble_eq_true rfl, Nat.le_of_ble_eq_true rfl⟩, hts _ tw_421, hts _ tw_3⟩ dX7_valueOf_33 hl.1 hK hAm hA hP hD hS 5 (ci := 4) rfl rfl rfl [5, 6, 7] rfl rfl rfl [2] rfl rfl rfl (Nat.le_of_ble_eq_true rfl) ⟨Nat.le_refl _, Nat.le_refl _⟩ (fun H locs hP hD hS => ?_)
    have hP : va_P (gD G) vwCl (k_X7_valueOf G a_this a_this_goods a_this_tills a_this_tape a_this_paysLaw a_this_valuesLaw a_this_waiting e_this_goods a_this_valuesLaw_names a_this_valuesLaw_code a_this_valuesLaw_stack a_this_valuesLaw_bytes a_this_valuesLaw_draft this_takings this_costs this_goes this_z this_fed this_waits this_goods this_valuesLaw_length this_valuesLaw_drafted this_valuesLaw_end this_valuesLaw_place this_valuesLaw_failed this_valuesLaw_code r5.2) H := hP
    have hD : va_D A (k_X7_valueOf G a_this a_this_goods a_this_tills a_this_tape a_this_paysLaw a_this_valuesLaw a_this_waiting e_this_goods a_this_valuesLaw_names a_this_valuesLaw_code a_this_valuesLaw_stack a_this_valuesLaw_bytes a_this_valuesLaw_draft this_takings this_costs this_goes this_z this_fed this_waits this_goods this_valuesLaw_length this_valuesLaw_drafted this_valuesLaw_end this_valuesLaw_place this_valuesLaw_failed this_valuesLaw_code r5.2) := hD
    refine lv_bipush (v := (99 : Int32)) hx hb dX7_valueOf_36 (by decide) ?_
    obtain ⟨r6, hr6, hf⟩ := kb hf
    refine kSN (As := [.int r5.1, .int (99 : Int32)]) (rest := []) ⟨hx, hb, hml, hown, hts⟩ (c_X11_held l G N r5.1 (99 : Int32) r6 hr6) ⟨kcN 2 hts hAm nw_X7_85 tw_431 tw_80 hd_X11_held ⟨Nat.le_of_ble_eq_true rfl, Nat.le_of_ble_eq_true rfl⟩, hts _ tw_430, trivial⟩ dX7_valueOf_38 hl.1 hK hAm hA hP hD hS [] rfl rfl rfl [] rfl rfl rfl (Nat.le_of_ble_eq_true rfl) ⟨Nat.le_refl _, Nat.le_refl _⟩ (fun H locs hP hD hS => ?_)
    have hP : va_P (gD G) vwCl (k_X7_valueOf G a_this a_this_goods a_this_tills a_this_tape a_this_paysLaw a_this_valuesLaw a_this_waiting e_this_goods a_this_valuesLaw_names a_this_valuesLaw_code a_this_valuesLaw_stack a_this_valuesLaw_bytes a_this_valuesLaw_draft this_takings this_costs this_goes this_z this_fed this_waits this_goods this_valuesLaw_length this_valuesLaw_drafted this_valuesLaw_end this_valuesLaw_place this_valuesLaw_failed this_valuesLaw_code r5.2) H := hP
    have hD : va_D A (k_X7_valueOf G a_this a_this_goods a_this_tills a_this_tape a_this_paysLaw a_this_valuesLaw a_this_waiting e_this_goods a_this_valuesLaw_names a_this_valuesLaw_code a_this_valuesLaw_stack a_this_valuesLaw_bytes a_this_valuesLaw_draft this_takings this_costs this_goes this_z this_fed this_waits this_goods this_valuesLaw_length this_valuesLaw_drafted this_valuesLaw_end this_valuesLaw_place this_valuesLaw_failed this_valuesLaw_code r5.2) := hD
    have ho := ks hf
    subst ho
    exact kiret hx hb hr hlk hP hD hS hQ dX7_valueOf_41
  · replace hf := kt c2 hf
    refine lv_iconst (v := (0 : Int32)) hx hb dX7_valueOf_10 (by decide) ?_
    have ho := ks hf
    subst ho
    exact kiret hx hb hr hlk hP hD hS hQ dX7_valueOf_11
abbrev k_X11_thing (G : KG) (a_this : Nat) (a_this_shop : Nat) (a_this_kept : Nat) (a_this_sheetBits : Nat) (a_this_sheetLengths : Nat) (a_this_sheetNumbers : Nat) (a_this_trace : Nat) (a_this_errors : Nat) (a_this_one : Nat) (a_this_second : Nat) (a_this_extra : Nat) (a_this_room : Nat) (a_this_values : Nat) (a_this_best : Nat) (a_this_shop_goods : Nat) (a_this_shop_tills : Nat) (a_this_shop_tape : Nat) (a_this_shop_paysLaw : Nat) (a_this_shop_valuesLaw : Nat) (a_this_shop_waiting : Nat) (e_this_shop_goods : Nat → Nat) (this_imaged : Int32) (this_images : Int32) (this_bestPaid : Int32) (this_bestNet : Int32) (this_errors : Nat → Int32) (this_shop_takings : Int32) (this_shop_costs : Int32) (this_shop_goes : Int32) (this_shop_z : Int32) (this_shop_fed : Int32) (this_shop_waits : Int32) (this_shop_goods : Nat → Nat → Int32) : va_W := [(a_this, .inr (11, [.ref a_this_shop, .ref a_this_kept, .int this_imaged, .int this_images, .ref a_this_sheetBits, .ref a_this_sheetLengths, .ref a_this_sheetNumbers, .ref a_this_trace, .ref a_this_errors, .ref a_this_one, .ref a_this_second, .ref a_this_extra, .ref a_this_room, .ref a_this_values, .ref a_this_best, .int this_bestPaid, .int this_bestNet])), (a_this_errors, .inl (gI G, 7, .inl this_errors)), (a_this_shop, .inr (7, [.ref a_this_shop_goods, .ref a_this_shop_tills, .int this_shop_takings, .int this_shop_costs, .int this_shop_goes, .int this_shop_z, .ref a_this_shop_tape, .int this_shop_fed, .ref a_this_shop_paysLaw, .ref a_this_shop_valuesLaw, .ref a_this_shop_waiting, .int this_shop_waits])), (a_this_shop_goods, .inl (gII G, 3, .inr (.inr (.inr (.inr (fun j => some (e_this_shop_goods j))))))), (e_this_shop_goods 0, .inl (gI G, 8, .inl (this_shop_goods 0))), (e_this_shop_goods 1, .inl (gI G, 8, .inl (this_shop_goods 1))), (e_this_shop_goods 2, .inl (gI G, 8, .inl (this_shop_goods 2)))]
def f_X11_thing (N : Nat) (p0 : Int32) (p1 : Int32) (p2 : Int32) (this_errors : Nat → Int32) (this_shop_goods : Nat → Nat → Int32) : Option (Int32 × (Nat → Int32) × (Nat → Nat → Int32)) := ((f_X11_isThing N p0).bind fun r1 => (if r1 = 0 then ((f_X11_error N (1 : Int32) this_errors).bind fun r3 => (some (r3.1, r3.2, this_shop_goods))) else ((f_X11_within N p1 (0 : Int32) (2 : Int32)).bind fun r4 => (if r4 = 0 then ((f_X11_error N (1 : Int32) this_errors).bind fun r6 => (some (r6.1, r6.2, this_shop_goods))) else ((f_X11_isGood N p1 p2).bind fun r7 => (if r7 = 0 then ((f_X11_error N (1 : Int32) this_errors).bind fun r16 => (some (r16.1, r16.2, this_shop_goods))) else (if vin p1 3 = true then (if vin p0 8 = true then (if vin p1 3 = true then (if vin p0 8 = true then (some (((this_shop_goods p1.toNatClampNeg) p0.toNatClampNeg), this_errors, (va_up this_shop_goods p1.toNatClampNeg (upd (this_shop_goods p1.toNatClampNeg) p0.toNatClampNeg p2)))) else none) else none) else none) else none)))))))
set_option maxRecDepth 100000 in
set_option maxHeartbeats 4000000 in
theorem c_X11_thing (l : Launch) (G : KG) (N : Nat) (a_this : Nat) (a_this_shop : Nat) (a_this_kept : Nat) (a_this_sheetBits : Nat) (a_this_sheetLengths : Nat) (a_this_sheetNumbers : Nat) (a_this_trace : Nat) (a_this_errors : Nat) (a_this_one : Nat) (a_this_second : Nat) (a_this_extra : Nat) (a_this_room : Nat) (a_this_values : Nat) (a_this_best : Nat) (a_this_shop_goods : Nat) (a_this_shop_tills : Nat) (a_this_shop_tape : Nat) (a_this_shop_paysLaw : Nat) (a_this_shop_valuesLaw : Nat) (a_this_shop_waiting : Nat) (e_this_shop_goods : Nat → Nat) (p0 : Int32) (p1 : Int32) (p2 : Int32) (this_imaged : Int32) (this_images : Int32) (this_bestPaid : Int32) (this_bestNet : Int32) (this_errors : Nat → Int32) (this_shop_takings : Int32) (this_shop_costs : Int32) (this_shop_goes : Int32) (this_shop_z : Int32) (this_shop_fed : Int32) (this_shop_waits : Int32) (this_shop_goods : Nat → Nat → Int32)  (out : Int32 × (Nat → Int32) × (Nat → Nat → Int32)) (hf : f_X11_thing N p0 p1 p2 this_errors this_shop_goods = some out) : KM l G yX11_thing (kw yX11_thing cX11_thing 5 (some .int)) 2 43 [.ref a_this, .int p0, .int p1, .int p2] (k_X11_thing G a_this a_this_shop a_this_kept a_this_sheetBits a_this_sheetLengths a_this_sheetNumbers a_this_trace a_this_errors a_this_one a_this_second a_this_extra a_this_room a_this_values a_this_best a_this_shop_goods a_this_shop_tills a_this_shop_tape a_this_shop_paysLaw a_this_shop_valuesLaw a_this_shop_waiting e_this_shop_goods this_imaged this_images this_bestPaid this_bestNet this_errors this_shop_takings this_shop_costs this_shop_goes this_shop_z this_shop_fed this_shop_waits this_shop_goods) (k_X11_thing G a_this a_this_shop a_this_kept a_this_sheetBits a_this_sheetLengths a_this_sheetNumbers a_this_trace a_this_errors a_this_one a_this_second a_this_extra a_this_room a_this_values a_this_best a_this_shop_goods a_this_shop_tills a_this_shop_tape a_this_shop_paysLaw a_this_shop_valuesLaw a_this_shop_waiting e_this_shop_goods this_imaged this_images this_bestPaid this_bestNet (out.2.1) this_shop_takings this_shop_costs this_shop_goes this_shop_z this_shop_fed this_shop_waits (out.2.2)) (some (.int (out.1))) := by
  refine KM.of (by decide) (Nat.le_of_ble_eq_true rfl) ?_
  intro p e s m below meth c A ls args Q Fx0 hP hK hD hA hS hAm hQ hl
  obtain ⟨hx, hb, hr, hml, hts, hown, hlk, hnm⟩ := Fx0
  have hown : s.vm.findClass RX11 = some m.cls := hown
  have hl : lv_has ls 5 [(0, .ref a_this), (1, .int p0), (2, .int p1), (3, .int p2)] := hl
  have fl_10 := hts _ tw_333
  have fl_93 := va_Nw.use (A := args) rfl (hAm.1 _ nw_X11_93 rfl)
  unfold f_X11_thing at hf
  refine lv_iload_n hx hb dX11_thing_0 rfl (lv_at hl 1 rfl) ?_
  obtain ⟨r1, hr1, hf⟩ := kb hf
  refine kS (As := [.int p0]) (rest := []) ⟨hx, hb, hml, hown, hts⟩ (c_X11_isThing l G N p0 r1 hr1) (kcS 1 hts tw_391 tw_80 tw_389 tw_390 hd_X11_isThing ⟨Nat.le_of_ble_eq_true rfl, Nat.le_of_ble_eq_true rfl⟩) dX11_thing_1 hl.1 hK hAm hA hP hD hS [] rfl rfl rfl [] rfl rfl rfl (Nat.le_of_ble_eq_true rfl) ⟨Nat.le_refl _, Nat.le_refl _⟩ (fun H locs hP hD hS => ?_)
  have hP : va_P (gD G) vwCl (k_X11_thing G a_this a_this_shop a_this_kept a_this_sheetBits a_this_sheetLengths a_this_sheetNumbers a_this_trace a_this_errors a_this_one a_this_second a_this_extra a_this_room a_this_values a_this_best a_this_shop_goods a_this_shop_tills a_this_shop_tape a_this_shop_paysLaw a_this_shop_valuesLaw a_this_shop_waiting e_this_shop_goods this_imaged this_images this_bestPaid this_bestNet this_errors this_shop_takings this_shop_costs this_shop_goes this_shop_z this_shop_fed this_shop_waits this_shop_goods) H := hP
  have hD : va_D A (k_X11_thing G a_this a_this_shop a_this_kept a_this_sheetBits a_this_sheetLengths a_this_sheetNumbers a_this_trace a_this_errors a_this_one a_this_second a_this_extra a_this_room a_this_values a_this_best a_this_shop_goods a_this_shop_tills a_this_shop_tape a_this_shop_paysLaw a_this_shop_valuesLaw a_this_shop_waiting e_this_shop_goods this_imaged this_images this_bestPaid this_bestNet this_errors this_shop_takings this_shop_costs this_shop_goes this_shop_z this_shop_fed this_shop_waits this_shop_goods) := hD
  refine lv_if_eq (tgt := 24) hx hb dX11_thing_4 (by decide) (fun c2 => ?_) (fun c2 => ?_)
  · replace hf := kt c2 hf
    refine lv_aload_n hx hb dX11_thing_24 rfl (lv_at hl 0 rfl) ?_
    refine lv_iconst (v := (1 : Int32)) hx hb dX11_thing_25 (by decide) ?_
    obtain ⟨r3, hr3, hf⟩ := kb hf
    refine kV (As := [.int (1 : Int32)]) (rest := []) ⟨hx, hb, hml, hown, hts⟩ (c_X11_error l G N a_this a_this_shop a_this_kept a_this_sheetBits a_this_sheetLengths a_this_sheetNumbers a_this_trace a_this_errors a_this_one a_this_second a_this_extra a_this_room a_this_values a_this_best (1 : Int32) this_imaged this_images this_bestPaid this_bestNet this_errors r3 hr3) (kcV 1 hts tw_405 tw_80 tw_402 tw_404 tw_0 hd_X11_error ⟨Nat.le_of_ble_eq_true rfl, Nat.le_of_ble_eq_true rfl⟩) dX11_thing_26 hl.1 hK hAm hA hP hD hS 0 (ci := 11) rfl rfl rfl [0, 1] rfl rfl rfl [1] rfl rfl rfl (Nat.le_of_ble_eq_true rfl) ⟨Nat.le_refl _, Nat.le_refl _⟩ (fun H locs hP hD hS => ?_)
    have hP : va_P (gD G) vwCl (k_X11_thing G a_this a_this_shop a_this_kept a_this_sheetBits a_this_sheetLengths a_this_sheetNumbers a_this_trace a_this_errors a_this_one a_this_second a_this_extra a_this_room a_this_values a_this_best a_this_shop_goods a_this_shop_tills a_this_shop_tape a_this_shop_paysLaw a_this_shop_valuesLaw a_this_shop_waiting e_this_shop_goods this_imaged this_images this_bestPaid this_bestNet r3.2 this_shop_takings this_shop_costs this_shop_goes this_shop_z this_shop_fed this_shop_waits this_shop_goods) H := hP
    have hD : va_D A (k_X11_thing G a_this a_this_shop a_this_kept a_this_sheetBits a_this_sheetLengths a_this_sheetNumbers a_this_trace a_this_errors a_this_one a_this_second a_this_extra a_this_room a_this_values a_this_best a_this_shop_goods a_this_shop_tills a_this_shop_tape a_this_shop_paysLaw a_this_shop_valuesLaw a_this_shop_waiting e_this_shop_goods this_imaged this_images this_bestPaid this_bestNet r3.2 this_shop_takings this_shop_costs this_shop_goes this_shop_z this_shop_fed this_shop_waits this_shop_goods) := hD
    have ho := ks hf
    subst ho
    exact kiret hx hb hr hlk hP hD hS hQ dX11_thing_29
  · replace hf := kf c2 hf
    refine lv_iload_n hx hb dX11_thing_7 rfl (lv_at hl 2 rfl) ?_
    refine lv_iconst (v := (0 : Int32)) hx hb dX11_thing_8 (by decide) ?_
    refine lv_iconst (v := (2 : Int32)) hx hb dX11_thing_9 (by decide) ?_
    obtain ⟨r4, hr4, hf⟩ := kb hf
    refine kS (As := [.int p1, .int (0 : Int32), .int (2 : Int32)]) (rest := []) ⟨hx, hb, hml, hown, hts⟩ (c_X11_within l G N p1 (0 : Int32) (2 : Int32) r4 hr4) (kcS 3 hts tw_394 tw_80 tw_392 tw_393 hd_X11_within ⟨Nat.le_of_ble_eq_true rfl, Nat.le_of_ble_eq_true rfl⟩) dX11_thing_10 hl.1 hK hAm hA hP hD hS [] rfl rfl rfl [] rfl rfl rfl (Nat.le_of_ble_eq_true rfl) ⟨Nat.le_refl _, Nat.le_refl _⟩ (fun H locs hP hD hS => ?_)
    have hP : va_P (gD G) vwCl (k_X11_thing G a_this a_this_shop a_this_kept a_this_sheetBits a_this_sheetLengths a_this_sheetNumbers a_this_trace a_this_errors a_this_one a_this_second a_this_extra a_this_room a_this_values a_this_best a_this_shop_goods a_this_shop_tills a_this_shop_tape a_this_shop_paysLaw a_this_shop_valuesLaw a_this_shop_waiting e_this_shop_goods this_imaged this_images this_bestPaid this_bestNet this_errors this_shop_takings this_shop_costs this_shop_goes this_shop_z this_shop_fed this_shop_waits this_shop_goods) H := hP
    have hD : va_D A (k_X11_thing G a_this a_this_shop a_this_kept a_this_sheetBits a_this_sheetLengths a_this_sheetNumbers a_this_trace a_this_errors a_this_one a_this_second a_this_extra a_this_room a_this_values a_this_best a_this_shop_goods a_this_shop_tills a_this_shop_tape a_this_shop_paysLaw a_this_shop_valuesLaw a_this_shop_waiting e_this_shop_goods this_imaged this_images this_bestPaid this_bestNet this_errors this_shop_takings this_shop_costs this_shop_goes this_shop_z this_shop_fed this_shop_waits this_shop_goods) := hD
    refine lv_if_eq (tgt := 24) hx hb dX11_thing_13 (by decide) (fun c5 => ?_) (fun c5 => ?_)
    · replace hf := kt c5 hf
      refine lv_aload_n hx hb dX11_thing_24 rfl (lv_at hl 0 rfl) ?_
      refine lv_iconst (v := (1 : Int32)) hx hb dX11_thing_25 (by decide) ?_
      obtain ⟨r6, hr6, hf⟩ := kb hf
      refine kV (As := [.int (1 : Int32)]) (rest := []) ⟨hx, hb, hml, hown, hts⟩ (c_X11_error l G N a_this a_this_shop a_this_kept a_this_sheetBits a_this_sheetLengths a_this_sheetNumbers a_this_trace a_this_errors a_this_one a_this_second a_this_extra a_this_room a_this_values a_this_best (1 : Int32) this_imaged this_images this_bestPaid this_bestNet this_errors r6 hr6) (kcV 1 hts tw_405 tw_80 tw_402 tw_404 tw_0 hd_X11_error ⟨Nat.le_of_ble_eq_true rfl, Nat.le_of_ble_eq_true rfl⟩) dX11_thing_26 hl.1 hK hAm hA hP hD hS 0 (ci := 11) rfl rfl rfl [0, 1] rfl rfl rfl [1] rfl rfl rfl (Nat.le_of_ble_eq_true rfl) ⟨Nat.le_refl _, Nat.le_refl _⟩ (fun H locs hP hD hS => ?_)
      have hP : va_P (gD G) vwCl (k_X11_thing G a_this a_this_shop a_this_kept a_this_sheetBits a_this_sheetLengths a_this_sheetNumbers a_this_trace a_this_errors a_this_one a_this_second a_this_extra a_this_room a_this_values a_this_best a_this_shop_goods a_this_shop_tills a_this_shop_tape a_this_shop_paysLaw a_this_shop_valuesLaw a_this_shop_waiting e_this_shop_goods this_imaged this_images this_bestPaid this_bestNet r6.2 this_shop_takings this_shop_costs this_shop_goes this_shop_z this_shop_fed this_shop_waits this_shop_goods) H := hP
      have hD : va_D A (k_X11_thing G a_this a_this_shop a_this_kept a_this_sheetBits a_this_sheetLengths a_this_sheetNumbers a_this_trace a_this_errors a_this_one a_this_second a_this_extra a_this_room a_this_values a_this_best a_this_shop_goods a_this_shop_tills a_this_shop_tape a_this_shop_paysLaw a_this_shop_valuesLaw a_this_shop_waiting e_this_shop_goods this_imaged this_images this_bestPaid this_bestNet r6.2 this_shop_takings this_shop_costs this_shop_goes this_shop_z this_shop_fed this_shop_waits this_shop_goods) := hD
      have ho := ks hf
      subst ho
      exact kiret hx hb hr hlk hP hD hS hQ dX11_thing_29
    · replace hf := kf c5 hf
      refine lv_iload_n hx hb dX11_thing_16 rfl (lv_at hl 2 rfl) ?_
      refine lv_iload_n hx hb dX11_thing_17 rfl (lv_at hl 3 rfl) ?_
      obtain ⟨r7, hr7, hf⟩ := kb hf
      refine kS (As := [.int p1, .int p2]) (rest := []) ⟨hx, hb, hml, hown, hts⟩ (c_X11_isGood l G N p1 p2 r7 hr7) (kcS 2 hts tw_397 tw_80 tw_395 tw_396 hd_X11_isGood ⟨Nat.le_of_ble_eq_true rfl, Nat.le_of_ble_eq_true rfl⟩) dX11_thing_18 hl.1 hK hAm hA hP hD hS [] rfl rfl rfl [] rfl rfl rfl (Nat.le_of_ble_eq_true rfl) ⟨Nat.le_refl _, Nat.le_refl _⟩ (fun H locs hP hD hS => ?_)
      have hP : va_P (gD G) vwCl (k_X11_thing G a_this a_this_shop a_this_kept a_this_sheetBits a_this_sheetLengths a_this_sheetNumbers a_this_trace a_this_errors a_this_one a_this_second a_this_extra a_this_room a_this_values a_this_best a_this_shop_goods a_this_shop_tills a_this_shop_tape a_this_shop_paysLaw a_this_shop_valuesLaw a_this_shop_waiting e_this_shop_goods this_imaged this_images this_bestPaid this_bestNet this_errors this_shop_takings this_shop_costs this_shop_goes this_shop_z this_shop_fed this_shop_waits this_shop_goods) H := hP
      have hD : va_D A (k_X11_thing G a_this a_this_shop a_this_kept a_this_sheetBits a_this_sheetLengths a_this_sheetNumbers a_this_trace a_this_errors a_this_one a_this_second a_this_extra a_this_room a_this_values a_this_best a_this_shop_goods a_this_shop_tills a_this_shop_tape a_this_shop_paysLaw a_this_shop_valuesLaw a_this_shop_waiting e_this_shop_goods this_imaged this_images this_bestPaid this_bestNet this_errors this_shop_takings this_shop_costs this_shop_goes this_shop_z this_shop_fed this_shop_waits this_shop_goods) := hD
      refine lv_if_ne (tgt := 30) hx hb dX11_thing_21 (by decide) (fun c8 => ?_) (fun c8 => ?_)
      · replace hf := kf c8 hf
        refine lv_aload_n hx hb dX11_thing_30 rfl (lv_at hl 0 rfl) ?_
        refine va_get (D := gD G) (ci := 11) (C := RX11) (T := TX11) (N := 17) hx hb hts hin_X11 hown hK hP 0 rfl rfl 0 (by decide) fl_10 (fun _ h9 => h9) rfl dX11_thing_31 ?_
        refine va_getN (D := gD G) (ci := 7) (C := RX7) (T := TX7) (N := 12) hx hb hts hin_X7 hown hK hP 2 rfl rfl 0 (by decide) fl_93 (fun _ h9 => h9) rfl dX11_thing_34 ?_
        refine lv_iload_n hx hb dX11_thing_37 rfl (lv_at hl 2 rfl) ?_
        obtain ⟨g9, hf⟩ := kg hf
        refine ka_aald hx hb hK hP 3 rfl (vin_of g9) dX11_thing_38 ?_
        refine lv_iload_n hx hb dX11_thing_39 rfl (lv_at hl 1 rfl) ?_
        obtain ⟨g11, hf⟩ := kg hf
        have w10 : ∀ j, j < 3 → (k_X11_thing G a_this a_this_shop a_this_kept a_this_sheetBits a_this_sheetLengths a_this_sheetNumbers a_this_trace a_this_errors a_this_one a_this_second a_this_extra a_this_room a_this_values a_this_best a_this_shop_goods a_this_shop_tills a_this_shop_tape a_this_shop_paysLaw a_this_shop_valuesLaw a_this_shop_waiting e_this_shop_goods this_imaged this_images this_bestPaid this_bestNet this_errors this_shop_takings this_shop_costs this_shop_goes this_shop_z this_shop_fed this_shop_waits this_shop_goods)[4 + j]? = some (e_this_shop_goods j, .inl (gI G, 8, .inl (this_shop_goods j))) := fun j hj => match j, hj with | 0, _ => rfl | 1, _ => rfl | 2, _ => rfl | k + 3, hk => absurd hk (by omega)
        refine va_iald hx hb hK hP (4 + p1.toNatClampNeg) 0 (w10 _ (vin_lt g9)) rfl (vin_of g11) dX11_thing_40 ?_
        refine lv_istore (lv' := [(4, .int ((this_shop_goods p1.toNatClampNeg) p0.toNatClampNeg)), (0, .ref a_this), (1, .int p0), (2, .int p1), (3, .int p2)]) hx hb dX11_thing_41 hl (by decide) rfl (fun ls hl => ?_)
        refine lv_aload_n hx hb dX11_thing_43 rfl (lv_at hl 1 rfl) ?_
        refine va_get (D := gD G) (ci := 11) (C := RX11) (T := TX11) (N := 17) hx hb hts hin_X11 hown hK hP 0 rfl rfl 0 (by decide) fl_10 (fun _ h9 => h9) rfl dX11_thing_44 ?_
        refine va_getN (D := gD G) (ci := 7) (C := RX7) (T := TX7) (N := 12) hx hb hts hin_X7 hown hK hP 2 rfl rfl 0 (by decide) fl_93 (fun _ h9 => h9) rfl dX11_thing_47 ?_
        refine lv_iload_n hx hb dX11_thing_50 rfl (lv_at hl 3 rfl) ?_
        obtain ⟨g12, hf⟩ := kg hf
        refine ka_aald hx hb hK hP 3 rfl (vin_of g12) dX11_thing_51 ?_
        refine lv_iload_n hx hb dX11_thing_52 rfl (lv_at hl 2 rfl) ?_
        refine lv_iload_n hx hb dX11_thing_53 rfl (lv_at hl 4 rfl) ?_
        obtain ⟨g15, hf⟩ := kg hf
        have w13 : ∀ j, j < 3 → (k_X11_thing G a_this a_this_shop a_this_kept a_this_sheetBits a_this_sheetLengths a_this_sheetNumbers a_this_trace a_this_errors a_this_one a_this_second a_this_extra a_this_room a_this_values a_this_best a_this_shop_goods a_this_shop_tills a_this_shop_tape a_this_shop_paysLaw a_this_shop_valuesLaw a_this_shop_waiting e_this_shop_goods this_imaged this_images this_bestPaid this_bestNet this_errors this_shop_takings this_shop_costs this_shop_goes this_shop_z this_shop_fed this_shop_waits this_shop_goods)[4 + j]? = some (e_this_shop_goods j, .inl (gI G, 8, .inl (this_shop_goods j))) := fun j hj => match j, hj with | 0, _ => rfl | 1, _ => rfl | 2, _ => rfl | k + 3, hk => absurd hk (by omega)
        refine va_iast hx hb hK hP hD hS (4 + p1.toNatClampNeg) 0 (w13 _ (vin_lt g12)) rfl (vin_of g15) dX11_thing_54 (fun H locs hP hD hS => ?_)
        have z14 : ∀ j, j < 3 → (k_X11_thing G a_this a_this_shop a_this_kept a_this_sheetBits a_this_sheetLengths a_this_sheetNumbers a_this_trace a_this_errors a_this_one a_this_second a_this_extra a_this_room a_this_values a_this_best a_this_shop_goods a_this_shop_tills a_this_shop_tape a_this_shop_paysLaw a_this_shop_valuesLaw a_this_shop_waiting e_this_shop_goods this_imaged this_images this_bestPaid this_bestNet this_errors this_shop_takings this_shop_costs this_shop_goes this_shop_z this_shop_fed this_shop_waits this_shop_goods).set (4 + j) (e_this_shop_goods j, .inl (gI G, 8, .inl (upd (this_shop_goods p1.toNatClampNeg) p0.toNatClampNeg p2))) = (k_X11_thing G a_this a_this_shop a_this_kept a_this_sheetBits a_this_sheetLengths a_this_sheetNumbers a_this_trace a_this_errors a_this_one a_this_second a_this_extra a_this_room a_this_values a_this_best a_this_shop_goods a_this_shop_tills a_this_shop_tape a_this_shop_paysLaw a_this_shop_valuesLaw a_this_shop_waiting e_this_shop_goods this_imaged this_images this_bestPaid this_bestNet this_errors this_shop_takings this_shop_costs this_shop_goes this_shop_z this_shop_fed this_shop_waits (va_up this_shop_goods j (upd (this_shop_goods p1.toNatClampNeg) p0.toNatClampNeg p2))) := fun j hj => match j, hj with | 0, _ => rfl | 1, _ => rfl | 2, _ => rfl | k + 3, hk => absurd hk (by omega)
        have hP : va_P (gD G) vwCl (k_X11_thing G a_this a_this_shop a_this_kept a_this_sheetBits a_this_sheetLengths a_this_sheetNumbers a_this_trace a_this_errors a_this_one a_this_second a_this_extra a_this_room a_this_values a_this_best a_this_shop_goods a_this_shop_tills a_this_shop_tape a_this_shop_paysLaw a_this_shop_valuesLaw a_this_shop_waiting e_this_shop_goods this_imaged this_images this_bestPaid this_bestNet this_errors this_shop_takings this_shop_costs this_shop_goes this_shop_z this_shop_fed this_shop_waits (va_up this_shop_goods p1.toNatClampNeg (upd (this_shop_goods p1.toNatClampNeg) p0.toNatClampNeg p2))) H := Eq.mp (congrArg (fun w => va_P (gD G) vwCl w H) (z14 _ (vin_lt g12))) hP
        have hD : va_D A (k_X11_thing G a_this a_this_shop a_this_kept a_this_sheetBits a_this_sheetLengths a_this_sheetNumbers a_this_trace a_this_errors a_this_one a_this_second a_this_extra a_this_room a_this_values a_this_best a_this_shop_goods a_this_shop_tills a_this_shop_tape a_this_shop_paysLaw a_this_shop_valuesLaw a_this_shop_waiting e_this_shop_goods this_imaged this_images this_bestPaid this_bestNet this_errors this_shop_takings this_shop_costs this_shop_goes this_shop_z this_shop_fed this_shop_waits (va_up this_shop_goods p1.toNatClampNeg (upd (this_shop_goods p1.toNatClampNeg) p0.toNatClampNeg p2))) := Eq.mp (congrArg (fun w => va_D A w) (z14 _ (vin_lt g12))) hD
        refine lv_iload hx hb dX11_thing_55 (lv_at hl 0 rfl) ?_
        have ho := ks hf
        subst ho
        exact kiret hx hb hr hlk hP hD hS hQ dX11_thing_57
      · replace hf := kt c8 hf
        refine lv_aload_n hx hb dX11_thing_24 rfl (lv_at hl 0 rfl) ?_
        refine lv_iconst (v := (1 : Int32)) hx hb dX11_thing_25 (by decide) ?_
        obtain ⟨r16, hr16, hf⟩ := kb hf
        refine kV (As := [.int (1 : Int32)]) (rest := []) ⟨hx, hb, hml, hown, hts⟩ (c_X11_error l G N a_this a_this_shop a_this_kept a_this_sheetBits a_this_sheetLengths a_this_sheetNumbers a_this_trace a_this_errors a_this_one a_this_second a_this_extra a_this_room a_this_values a_this_best (1 : Int32) this_imaged this_images this_bestPaid this_bestNet this_errors r16 hr16) (kcV 1 hts tw_405 tw_80 tw_402 tw_404 tw_0 hd_X11_error ⟨Nat.le_of_ble_eq_true rfl, Nat.le_of_ble_eq_true rfl⟩) dX11_thing_26 hl.1 hK hAm hA hP hD hS 0 (ci := 11) rfl rfl rfl [0, 1] rfl rfl rfl [1] rfl rfl rfl (Nat.le_of_ble_eq_true rfl) ⟨Nat.le_refl _, Nat.le_refl _⟩ (fun H locs hP hD hS => ?_)
        have hP : va_P (gD G) vwCl (k_X11_thing G a_this a_this_shop a_this_kept a_this_sheetBits a_this_sheetLengths a_this_sheetNumbers a_this_trace a_this_errors a_this_one a_this_second a_this_extra a_this_room a_this_values a_this_best a_this_shop_goods a_this_shop_tills a_this_shop_tape a_this_shop_paysLaw a_this_shop_valuesLaw a_this_shop_waiting e_this_shop_goods this_imaged this_images this_bestPaid this_bestNet r16.2 this_shop_takings this_shop_costs this_shop_goes this_shop_z this_shop_fed this_shop_waits this_shop_goods) H := hP
        have hD : va_D A (k_X11_thing G a_this a_this_shop a_this_kept a_this_sheetBits a_this_sheetLengths a_this_sheetNumbers a_this_trace a_this_errors a_this_one a_this_second a_this_extra a_this_room a_this_values a_this_best a_this_shop_goods a_this_shop_tills a_this_shop_tape a_this_shop_paysLaw a_this_shop_valuesLaw a_this_shop_waiting e_this_shop_goods this_imaged this_images this_bestPaid this_bestNet r16.2 this_shop_takings this_shop_costs this_shop_goes this_shop_z this_shop_fed this_shop_waits this_shop_goods) := hD
        have ho := ks hf
        subst ho
        exact kiret hx hb hr hlk hP hD hS hQ dX11_thing_29
abbrev k_X11_thingIs (G : KG) (a_this : Nat) (a_this_shop : Nat) (a_this_kept : Nat) (a_this_sheetBits : Nat) (a_this_sheetLengths : Nat) (a_this_sheetNumbers : Nat) (a_this_trace : Nat) (a_this_errors : Nat) (a_this_one : Nat) (a_this_second : Nat) (a_this_extra : Nat) (a_this_room : Nat) (a_this_values : Nat) (a_this_best : Nat) (a_this_shop_goods : Nat) (a_this_shop_tills : Nat) (a_this_shop_tape : Nat) (a_this_shop_paysLaw : Nat) (a_this_shop_valuesLaw : Nat) (a_this_shop_waiting : Nat) (e_this_shop_goods : Nat → Nat) (a_this_shop_valuesLaw_names : Nat) (a_this_shop_valuesLaw_code : Nat) (a_this_shop_valuesLaw_stack : Nat) (a_this_shop_valuesLaw_bytes : Nat) (a_this_shop_valuesLaw_draft : Nat) (this_imaged : Int32) (this_images : Int32) (this_bestPaid : Int32) (this_bestNet : Int32) (this_errors : Nat → Int32) (this_shop_takings : Int32) (this_shop_costs : Int32) (this_shop_goes : Int32) (this_shop_z : Int32) (this_shop_fed : Int32) (this_shop_waits : Int32) (this_shop_goods : Nat → Nat → Int32) (this_shop_valuesLaw_length : Int32) (this_shop_valuesLaw_drafted : Int32) (this_shop_valuesLaw_end : Int32) (this_shop_valuesLaw_place : Int32) (this_shop_valuesLaw_failed : Int32) (this_shop_valuesLaw_code : Nat → Int32) (this_shop_valuesLaw_stack : Nat → Int32) : va_W := [(a_this, .inr (11, [.ref a_this_shop, .ref a_this_kept, .int this_imaged, .int this_images, .ref a_this_sheetBits, .ref a_this_sheetLengths, .ref a_this_sheetNumbers, .ref a_this_trace, .ref a_this_errors, .ref a_this_one, .ref a_this_second, .ref a_this_extra, .ref a_this_room, .ref a_this_values, .ref a_this_best, .int this_bestPaid, .int this_bestNet])), (a_this_errors, .inl (gI G, 7, .inl this_errors)), (a_this_shop, .inr (7, [.ref a_this_shop_goods, .ref a_this_shop_tills, .int this_shop_takings, .int this_shop_costs, .int this_shop_goes, .int this_shop_z, .ref a_this_shop_tape, .int this_shop_fed, .ref a_this_shop_paysLaw, .ref a_this_shop_valuesLaw, .ref a_this_shop_waiting, .int this_shop_waits])), (a_this_shop_goods, .inl (gII G, 3, .inr (.inr (.inr (.inr (fun j => some (e_this_shop_goods j))))))), (e_this_shop_goods 0, .inl (gI G, 8, .inl (this_shop_goods 0))), (e_this_shop_goods 1, .inl (gI G, 8, .inl (this_shop_goods 1))), (e_this_shop_goods 2, .inl (gI G, 8, .inl (this_shop_goods 2))), (a_this_shop_valuesLaw, .inr (4, [.ref a_this_shop_valuesLaw_names, .ref a_this_shop_valuesLaw_code, .int this_shop_valuesLaw_length, .ref a_this_shop_valuesLaw_stack, .ref a_this_shop_valuesLaw_bytes, .ref a_this_shop_valuesLaw_draft, .int this_shop_valuesLaw_drafted, .int this_shop_valuesLaw_end, .int this_shop_valuesLaw_place, .int this_shop_valuesLaw_failed])), (a_this_shop_valuesLaw_code, .inl (gI G, 60, .inl this_shop_valuesLaw_code)), (a_this_shop_valuesLaw_stack, .inl (gI G, 60, .inl this_shop_valuesLaw_stack))]
def f_X11_thingIs (N : Nat) (p0 : Int32) (p1 : Int32) (this_errors : Nat → Int32) (this_shop_goods : Nat → Nat → Int32) (this_shop_valuesLaw_length : Int32) (this_shop_valuesLaw_code : Nat → Int32) (this_shop_valuesLaw_stack : Nat → Int32) : Option (Int32 × (Nat → Int32) × (Nat → Int32)) := ((f_X11_isThing N p0).bind fun r1 => (if r1 = 0 then ((f_X11_error N (1 : Int32) this_errors).bind fun r3 => (some (r3.1, r3.2, this_shop_valuesLaw_stack))) else ((f_X11_within N p1 (0 : Int32) (3 : Int32)).bind fun r4 => (if r4 = 0 then ((f_X11_error N (1 : Int32) this_errors).bind fun r11 => (some (r11.1, r11.2, this_shop_valuesLaw_stack))) else (if p1 ≤ (2 : Int32) then (if vin p1 3 = true then (if vin p0 8 = true then (some (((this_shop_goods p1.toNatClampNeg) p0.toNatClampNeg), this_errors, this_shop_valuesLaw_stack)) else none) else none) else ((f_X7_valueOf N p0 this_shop_goods this_shop_valuesLaw_length this_shop_valuesLaw_code this_shop_valuesLaw_stack).bind fun r10 => (some (r10.1, this_errors, r10.2))))))))
set_option maxRecDepth 100000 in
set_option maxHeartbeats 4000000 in
theorem c_X11_thingIs (l : Launch) (G : KG) (N : Nat) (a_this : Nat) (a_this_shop : Nat) (a_this_kept : Nat) (a_this_sheetBits : Nat) (a_this_sheetLengths : Nat) (a_this_sheetNumbers : Nat) (a_this_trace : Nat) (a_this_errors : Nat) (a_this_one : Nat) (a_this_second : Nat) (a_this_extra : Nat) (a_this_room : Nat) (a_this_values : Nat) (a_this_best : Nat) (a_this_shop_goods : Nat) (a_this_shop_tills : Nat) (a_this_shop_tape : Nat) (a_this_shop_paysLaw : Nat) (a_this_shop_valuesLaw : Nat) (a_this_shop_waiting : Nat) (e_this_shop_goods : Nat → Nat) (a_this_shop_valuesLaw_names : Nat) (a_this_shop_valuesLaw_code : Nat) (a_this_shop_valuesLaw_stack : Nat) (a_this_shop_valuesLaw_bytes : Nat) (a_this_shop_valuesLaw_draft : Nat) (p0 : Int32) (p1 : Int32) (this_imaged : Int32) (this_images : Int32) (this_bestPaid : Int32) (this_bestNet : Int32) (this_errors : Nat → Int32) (this_shop_takings : Int32) (this_shop_costs : Int32) (this_shop_goes : Int32) (this_shop_z : Int32) (this_shop_fed : Int32) (this_shop_waits : Int32) (this_shop_goods : Nat → Nat → Int32) (this_shop_valuesLaw_length : Int32) (this_shop_valuesLaw_drafted : Int32) (this_shop_valuesLaw_end : Int32) (this_shop_valuesLaw_place : Int32) (this_shop_valuesLaw_failed : Int32) (this_shop_valuesLaw_code : Nat → Int32) (this_shop_valuesLaw_stack : Nat → Int32)  (out : Int32 × (Nat → Int32) × (Nat → Int32)) (hf : f_X11_thingIs N p0 p1 this_errors this_shop_goods this_shop_valuesLaw_length this_shop_valuesLaw_code this_shop_valuesLaw_stack = some out) : KM l G yX11_thingIs (kw yX11_thingIs cX11_thingIs 3 (some .int)) 3 70 [.ref a_this, .int p0, .int p1] (k_X11_thingIs G a_this a_this_shop a_this_kept a_this_sheetBits a_this_sheetLengths a_this_sheetNumbers a_this_trace a_this_errors a_this_one a_this_second a_this_extra a_this_room a_this_values a_this_best a_this_shop_goods a_this_shop_tills a_this_shop_tape a_this_shop_paysLaw a_this_shop_valuesLaw a_this_shop_waiting e_this_shop_goods a_this_shop_valuesLaw_names a_this_shop_valuesLaw_code a_this_shop_valuesLaw_stack a_this_shop_valuesLaw_bytes a_this_shop_valuesLaw_draft this_imaged this_images this_bestPaid this_bestNet this_errors this_shop_takings this_shop_costs this_shop_goes this_shop_z this_shop_fed this_shop_waits this_shop_goods this_shop_valuesLaw_length this_shop_valuesLaw_drafted this_shop_valuesLaw_end this_shop_valuesLaw_place this_shop_valuesLaw_failed this_shop_valuesLaw_code this_shop_valuesLaw_stack) (k_X11_thingIs G a_this a_this_shop a_this_kept a_this_sheetBits a_this_sheetLengths a_this_sheetNumbers a_this_trace a_this_errors a_this_one a_this_second a_this_extra a_this_room a_this_values a_this_best a_this_shop_goods a_this_shop_tills a_this_shop_tape a_this_shop_paysLaw a_this_shop_valuesLaw a_this_shop_waiting e_this_shop_goods a_this_shop_valuesLaw_names a_this_shop_valuesLaw_code a_this_shop_valuesLaw_stack a_this_shop_valuesLaw_bytes a_this_shop_valuesLaw_draft this_imaged this_images this_bestPaid this_bestNet (out.2.1) this_shop_takings this_shop_costs this_shop_goes this_shop_z this_shop_fed this_shop_waits this_shop_goods this_shop_valuesLaw_length this_shop_valuesLaw_drafted this_shop_valuesLaw_end this_shop_valuesLaw_place this_shop_valuesLaw_failed this_shop_valuesLaw_code (out.2.2)) (some (.int (out.1))) := by
  refine KM.of (by decide) (Nat.le_of_ble_eq_true rfl) ?_
  intro p e s m below meth c A ls args Q Fx0 hP hK hD hA hS hAm hQ hl
  obtain ⟨hx, hb, hr, hml, hts, hown, hlk, hnm⟩ := Fx0
  have hown : s.vm.findClass RX11 = some m.cls := hown
  have hl : lv_has ls 3 [(0, .ref a_this), (1, .int p0), (2, .int p1)] := hl
  have fl_10 := hts _ tw_333
  have fl_93 := va_Nw.use (A := args) rfl (hAm.1 _ nw_X11_93 rfl)
  unfold f_X11_thingIs at hf
  refine lv_iload_n hx hb dX11_thingIs_0 rfl (lv_at hl 1 rfl) ?_
  obtain ⟨r1, hr1, hf⟩ := kb hf
  refine kS (As := [.int p0]) (rest := []) ⟨hx, hb, hml, hown, hts⟩ (c_X11_isThing l G N p0 r1 hr1) (kcS 1 hts tw_391 tw_80 tw_389 tw_390 hd_X11_isThing ⟨Nat.le_of_ble_eq_true rfl, Nat.le_of_ble_eq_true rfl⟩) dX11_thingIs_1 hl.1 hK hAm hA hP hD hS [] rfl rfl rfl [] rfl rfl rfl (Nat.le_of_ble_eq_true rfl) ⟨Nat.le_refl _, Nat.le_refl _⟩ (fun H locs hP hD hS => ?_)
  have hP : va_P (gD G) vwCl (k_X11_thingIs G a_this a_this_shop a_this_kept a_this_sheetBits a_this_sheetLengths a_this_sheetNumbers a_this_trace a_this_errors a_this_one a_this_second a_this_extra a_this_room a_this_values a_this_best a_this_shop_goods a_this_shop_tills a_this_shop_tape a_this_shop_paysLaw a_this_shop_valuesLaw a_this_shop_waiting e_this_shop_goods a_this_shop_valuesLaw_names a_this_shop_valuesLaw_code a_this_shop_valuesLaw_stack a_this_shop_valuesLaw_bytes a_this_shop_valuesLaw_draft this_imaged this_images this_bestPaid this_bestNet this_errors this_shop_takings this_shop_costs this_shop_goes this_shop_z this_shop_fed this_shop_waits this_shop_goods this_shop_valuesLaw_length this_shop_valuesLaw_drafted this_shop_valuesLaw_end this_shop_valuesLaw_place this_shop_valuesLaw_failed this_shop_valuesLaw_code this_shop_valuesLaw_stack) H := hP
  have hD : va_D A (k_X11_thingIs G a_this a_this_shop a_this_kept a_this_sheetBits a_this_sheetLengths a_this_sheetNumbers a_this_trace a_this_errors a_this_one a_this_second a_this_extra a_this_room a_this_values a_this_best a_this_shop_goods a_this_shop_tills a_this_shop_tape a_this_shop_paysLaw a_this_shop_valuesLaw a_this_shop_waiting e_this_shop_goods a_this_shop_valuesLaw_names a_this_shop_valuesLaw_code a_this_shop_valuesLaw_stack a_this_shop_valuesLaw_bytes a_this_shop_valuesLaw_draft this_imaged this_images this_bestPaid this_bestNet this_errors this_shop_takings this_shop_costs this_shop_goes this_shop_z this_shop_fed this_shop_waits this_shop_goods this_shop_valuesLaw_length this_shop_valuesLaw_drafted this_shop_valuesLaw_end this_shop_valuesLaw_place this_shop_valuesLaw_failed this_shop_valuesLaw_code this_shop_valuesLaw_stack) := hD
  refine lv_if_eq (tgt := 16) hx hb dX11_thingIs_4 (by decide) (fun c2 => ?_) (fun c2 => ?_)
  · replace hf := kt c2 hf
    refine lv_aload_n hx hb dX11_thingIs_16 rfl (lv_at hl 0 rfl) ?_
    refine lv_iconst (v := (1 : Int32)) hx hb dX11_thingIs_17 (by decide) ?_
    obtain ⟨r3, hr3, hf⟩ := kb hf
    refine kV (As := [.int (1 : Int32)]) (rest := []) ⟨hx, hb, hml, hown, hts⟩ (c_X11_error l G N a_this a_this_shop a_this_kept a_this_sheetBits a_this_sheetLengths a_this_sheetNumbers a_this_trace a_this_errors a_this_one a_this_second a_this_extra a_this_room a_this_values a_this_best (1 : Int32) this_imaged this_images this_bestPaid this_bestNet this_errors r3 hr3) (kcV 1 hts tw_405 tw_80 tw_402 tw_404 tw_0 hd_X11_error ⟨Nat.le_of_ble_eq_true rfl, Nat.le_of_ble_eq_true rfl⟩) dX11_thingIs_18 hl.1 hK hAm hA hP hD hS 0 (ci := 11) rfl rfl rfl [0, 1] rfl rfl rfl [1] rfl rfl rfl (Nat.le_of_ble_eq_true rfl) ⟨Nat.le_refl _, Nat.le_refl _⟩ (fun H locs hP hD hS => ?_)
    have hP : va_P (gD G) vwCl (k_X11_thingIs G a_this a_this_shop a_this_kept a_this_sheetBits a_this_sheetLengths a_this_sheetNumbers a_this_trace a_this_errors a_this_one a_this_second a_this_extra a_this_room a_this_values a_this_best a_this_shop_goods a_this_shop_tills a_this_shop_tape a_this_shop_paysLaw a_this_shop_valuesLaw a_this_shop_waiting e_this_shop_goods a_this_shop_valuesLaw_names a_this_shop_valuesLaw_code a_this_shop_valuesLaw_stack a_this_shop_valuesLaw_bytes a_this_shop_valuesLaw_draft this_imaged this_images this_bestPaid this_bestNet r3.2 this_shop_takings this_shop_costs this_shop_goes this_shop_z this_shop_fed this_shop_waits this_shop_goods this_shop_valuesLaw_length this_shop_valuesLaw_drafted this_shop_valuesLaw_end this_shop_valuesLaw_place this_shop_valuesLaw_failed this_shop_valuesLaw_code this_shop_valuesLaw_stack) H := hP
    have hD : va_D A (k_X11_thingIs G a_this a_this_shop a_this_kept a_this_sheetBits a_this_sheetLengths a_this_sheetNumbers a_this_trace a_this_errors a_this_one a_this_second a_this_extra a_this_room a_this_values a_this_best a_this_shop_goods a_this_shop_tills a_this_shop_tape a_this_shop_paysLaw a_this_shop_valuesLaw a_this_shop_waiting e_this_shop_goods a_this_shop_valuesLaw_names a_this_shop_valuesLaw_code a_this_shop_valuesLaw_stack a_this_shop_valuesLaw_bytes a_this_shop_valuesLaw_draft this_imaged this_images this_bestPaid this_bestNet r3.2 this_shop_takings this_shop_costs this_shop_goes this_shop_z this_shop_fed this_shop_waits this_shop_goods this_shop_valuesLaw_length this_shop_valuesLaw_drafted this_shop_valuesLaw_end this_shop_valuesLaw_place this_shop_valuesLaw_failed this_shop_valuesLaw_code this_shop_valuesLaw_stack) := hD
    have ho := ks hf
    subst ho
    exact kiret hx hb hr hlk hP hD hS hQ dX11_thingIs_21
  · replace hf := kf c2 hf
    refine lv_iload_n hx hb dX11_thingIs_7 rfl (lv_at hl 2 rfl) ?_
    refine lv_iconst (v := (0 : Int32)) hx hb dX11_thingIs_8 (by decide) ?_
    refine lv_iconst (v := (3 : Int32)) hx hb dX11_thingIs_9 (by decide) ?_
    obtain ⟨r4, hr4, hf⟩ := kb hf
    refine kS (As := [.int p1, .int (0 : Int32), .int (3 : Int32)]) (rest := []) ⟨hx, hb, hml, hown, hts⟩ (c_X11_within l G N p1 (0 : Int32) (3 : Int32) r4 hr4) (kcS 3 hts tw_394 tw_80 tw_392 tw_393 hd_X11_within ⟨Nat.le_of_ble_eq_true rfl, Nat.le_of_ble_eq_true rfl⟩) dX11_thingIs_10 hl.1 hK hAm hA hP hD hS [] rfl rfl rfl [] rfl rfl rfl (Nat.le_of_ble_eq_true rfl) ⟨Nat.le_refl _, Nat.le_refl _⟩ (fun H locs hP hD hS => ?_)
    have hP : va_P (gD G) vwCl (k_X11_thingIs G a_this a_this_shop a_this_kept a_this_sheetBits a_this_sheetLengths a_this_sheetNumbers a_this_trace a_this_errors a_this_one a_this_second a_this_extra a_this_room a_this_values a_this_best a_this_shop_goods a_this_shop_tills a_this_shop_tape a_this_shop_paysLaw a_this_shop_valuesLaw a_this_shop_waiting e_this_shop_goods a_this_shop_valuesLaw_names a_this_shop_valuesLaw_code a_this_shop_valuesLaw_stack a_this_shop_valuesLaw_bytes a_this_shop_valuesLaw_draft this_imaged this_images this_bestPaid this_bestNet this_errors this_shop_takings this_shop_costs this_shop_goes this_shop_z this_shop_fed this_shop_waits this_shop_goods this_shop_valuesLaw_length this_shop_valuesLaw_drafted this_shop_valuesLaw_end this_shop_valuesLaw_place this_shop_valuesLaw_failed this_shop_valuesLaw_code this_shop_valuesLaw_stack) H := hP
    have hD : va_D A (k_X11_thingIs G a_this a_this_shop a_this_kept a_this_sheetBits a_this_sheetLengths a_this_sheetNumbers a_this_trace a_this_errors a_this_one a_this_second a_this_extra a_this_room a_this_values a_this_best a_this_shop_goods a_this_shop_tills a_this_shop_tape a_this_shop_paysLaw a_this_shop_valuesLaw a_this_shop_waiting e_this_shop_goods a_this_shop_valuesLaw_names a_this_shop_valuesLaw_code a_this_shop_valuesLaw_stack a_this_shop_valuesLaw_bytes a_this_shop_valuesLaw_draft this_imaged this_images this_bestPaid this_bestNet this_errors this_shop_takings this_shop_costs this_shop_goes this_shop_z this_shop_fed this_shop_waits this_shop_goods this_shop_valuesLaw_length this_shop_valuesLaw_drafted this_shop_valuesLaw_end this_shop_valuesLaw_place this_shop_valuesLaw_failed this_shop_valuesLaw_code this_shop_valuesLaw_stack) := hD
    refine lv_if_ne (tgt := 22) hx hb dX11_thingIs_13 (by decide) (fun c5 => ?_) (fun c5 => ?_)
    · replace hf := kf c5 hf
      refine lv_iload_n hx hb dX11_thingIs_22 rfl (lv_at hl 2 rfl) ?_
      refine lv_iconst (v := (2 : Int32)) hx hb dX11_thingIs_23 (by decide) ?_
      refine lv_icmp_le (tgt := 38) hx hb dX11_thingIs_24 (by decide) (fun c6 => ?_) (fun c6 => ?_)
      · replace hf := kt c6 hf
        refine lv_aload_n hx hb dX11_thingIs_38 rfl (lv_at hl 0 rfl) ?_
        refine va_get (D := gD G) (ci := 11) (C := RX11) (T := TX11) (N := 17) hx hb hts hin_X11 hown hK hP 0 rfl rfl 0 (by decide) fl_10 (fun _ h9 => h9) rfl dX11_thingIs_39 ?_
        refine va_getN (D := gD G) (ci := 7) (C := RX7) (T := TX7) (N := 12) hx hb hts hin_X7 hown hK hP 2 rfl rfl 0 (by decide) fl_93 (fun _ h9 => h9) rfl dX11_thingIs_42 ?_
        refine lv_iload_n hx hb dX11_thingIs_45 rfl (lv_at hl 2 rfl) ?_
        obtain ⟨g7, hf⟩ := kg hf
        refine ka_aald hx hb hK hP 3 rfl (vin_of g7) dX11_thingIs_46 ?_
        refine lv_iload_n hx hb dX11_thingIs_47 rfl (lv_at hl 1 rfl) ?_
        obtain ⟨g9, hf⟩ := kg hf
        have w8 : ∀ j, j < 3 → (k_X11_thingIs G a_this a_this_shop a_this_kept a_this_sheetBits a_this_sheetLengths a_this_sheetNumbers a_this_trace a_this_errors a_this_one a_this_second a_this_extra a_this_room a_this_values a_this_best a_this_shop_goods a_this_shop_tills a_this_shop_tape a_this_shop_paysLaw a_this_shop_valuesLaw a_this_shop_waiting e_this_shop_goods a_this_shop_valuesLaw_names a_this_shop_valuesLaw_code a_this_shop_valuesLaw_stack a_this_shop_valuesLaw_bytes a_this_shop_valuesLaw_draft this_imaged this_images this_bestPaid this_bestNet this_errors this_shop_takings this_shop_costs this_shop_goes this_shop_z this_shop_fed this_shop_waits this_shop_goods this_shop_valuesLaw_length this_shop_valuesLaw_drafted this_shop_valuesLaw_end this_shop_valuesLaw_place this_shop_valuesLaw_failed this_shop_valuesLaw_code this_shop_valuesLaw_stack)[4 + j]? = some (e_this_shop_goods j, .inl (gI G, 8, .inl (this_shop_goods j))) := fun j hj => match j, hj with | 0, _ => rfl | 1, _ => rfl | 2, _ => rfl | k + 3, hk => absurd hk (by omega)
        refine va_iald hx hb hK hP (4 + p1.toNatClampNeg) 0 (w8 _ (vin_lt g7)) rfl (vin_of g9) dX11_thingIs_48 ?_
        have ho := ks hf
        subst ho
        exact kiret hx hb hr hlk hP hD hS hQ dX11_thingIs_49
      · replace hf := kf c6 hf
        refine lv_aload_n hx hb dX11_thingIs_27 rfl (lv_at hl 0 rfl) ?_
        refine va_get (D := gD G) (ci := 11) (C := RX11) (T := TX11) (N := 17) hx hb hts hin_X11 hown hK hP 0 rfl rfl 0 (by decide) fl_10 (fun _ h9 => h9) rfl dX11_thingIs_28 ?_
        refine lv_iload_n hx hb dX11_thingIs_31 rfl (lv_at hl 1 rfl) ?_
        obtain ⟨r10, hr10, hf⟩ := kb hf
        refine kVN (As := [.int p0]) (rest := []) ⟨hx, hb, hml, hown, hts⟩ (c_X7_valueOf l G N a_this_shop a_this_shop_goods a_this_shop_tills a_this_shop_tape a_this_shop_paysLaw a_this_shop_valuesLaw a_this_shop_waiting e_this_shop_goods a_this_shop_valuesLaw_names a_this_shop_valuesLaw_code a_this_shop_valuesLaw_stack a_this_shop_valuesLaw_bytes a_this_shop_valuesLaw_draft p0 this_shop_takings this_shop_costs this_shop_goes this_shop_z this_shop_fed this_shop_waits this_shop_goods this_shop_valuesLaw_length this_shop_valuesLaw_drafted this_shop_valuesLaw_end this_shop_valuesLaw_place this_shop_valuesLaw_failed this_shop_valuesLaw_code this_shop_valuesLaw_stack r10 hr10) ⟨kcN 1 hts hAm nw_X11_96 tw_414 tw_81 hd_X7_valueOf ⟨Nat.le_of_ble_eq_true rfl, Nat.le_of_ble_eq_true rfl⟩, hts _ tw_413, hts _ tw_1⟩ dX11_thingIs_32 hl.1 hK hAm hA hP hD hS 2 (ci := 7) rfl rfl rfl [2, 3, 4, 5, 6, 7, 8, 9] rfl rfl rfl [7] rfl rfl rfl (Nat.le_of_ble_eq_true rfl) ⟨Nat.le_refl _, Nat.le_refl _⟩ (fun H locs hP hD hS => ?_)
        have hP : va_P (gD G) vwCl (k_X11_thingIs G a_this a_this_shop a_this_kept a_this_sheetBits a_this_sheetLengths a_this_sheetNumbers a_this_trace a_this_errors a_this_one a_this_second a_this_extra a_this_room a_this_values a_this_best a_this_shop_goods a_this_shop_tills a_this_shop_tape a_this_shop_paysLaw a_this_shop_valuesLaw a_this_shop_waiting e_this_shop_goods a_this_shop_valuesLaw_names a_this_shop_valuesLaw_code a_this_shop_valuesLaw_stack a_this_shop_valuesLaw_bytes a_this_shop_valuesLaw_draft this_imaged this_images this_bestPaid this_bestNet this_errors this_shop_takings this_shop_costs this_shop_goes this_shop_z this_shop_fed this_shop_waits this_shop_goods this_shop_valuesLaw_length this_shop_valuesLaw_drafted this_shop_valuesLaw_end this_shop_valuesLaw_place this_shop_valuesLaw_failed this_shop_valuesLaw_code r10.2) H := hP
        have hD : va_D A (k_X11_thingIs G a_this a_this_shop a_this_kept a_this_sheetBits a_this_sheetLengths a_this_sheetNumbers a_this_trace a_this_errors a_this_one a_this_second a_this_extra a_this_room a_this_values a_this_best a_this_shop_goods a_this_shop_tills a_this_shop_tape a_this_shop_paysLaw a_this_shop_valuesLaw a_this_shop_waiting e_this_shop_goods a_this_shop_valuesLaw_names a_this_shop_valuesLaw_code a_this_shop_valuesLaw_stack a_this_shop_valuesLaw_bytes a_this_shop_valuesLaw_draft this_imaged this_images this_bestPaid this_bestNet this_errors this_shop_takings this_shop_costs this_shop_goes this_shop_z this_shop_fed this_shop_waits this_shop_goods this_shop_valuesLaw_length this_shop_valuesLaw_drafted this_shop_valuesLaw_end this_shop_valuesLaw_place this_shop_valuesLaw_failed this_shop_valuesLaw_code r10.2) := hD
        refine lv_goto (tgt := 49) hx hb dX11_thingIs_35 (by decide) ?_
        have ho := ks hf
        subst ho
        exact kiret hx hb hr hlk hP hD hS hQ dX11_thingIs_49
    · replace hf := kt c5 hf
      refine lv_aload_n hx hb dX11_thingIs_16 rfl (lv_at hl 0 rfl) ?_
      refine lv_iconst (v := (1 : Int32)) hx hb dX11_thingIs_17 (by decide) ?_
      obtain ⟨r11, hr11, hf⟩ := kb hf
      refine kV (As := [.int (1 : Int32)]) (rest := []) ⟨hx, hb, hml, hown, hts⟩ (c_X11_error l G N a_this a_this_shop a_this_kept a_this_sheetBits a_this_sheetLengths a_this_sheetNumbers a_this_trace a_this_errors a_this_one a_this_second a_this_extra a_this_room a_this_values a_this_best (1 : Int32) this_imaged this_images this_bestPaid this_bestNet this_errors r11 hr11) (kcV 1 hts tw_405 tw_80 tw_402 tw_404 tw_0 hd_X11_error ⟨Nat.le_of_ble_eq_true rfl, Nat.le_of_ble_eq_true rfl⟩) dX11_thingIs_18 hl.1 hK hAm hA hP hD hS 0 (ci := 11) rfl rfl rfl [0, 1] rfl rfl rfl [1] rfl rfl rfl (Nat.le_of_ble_eq_true rfl) ⟨Nat.le_refl _, Nat.le_refl _⟩ (fun H locs hP hD hS => ?_)
      have hP : va_P (gD G) vwCl (k_X11_thingIs G a_this a_this_shop a_this_kept a_this_sheetBits a_this_sheetLengths a_this_sheetNumbers a_this_trace a_this_errors a_this_one a_this_second a_this_extra a_this_room a_this_values a_this_best a_this_shop_goods a_this_shop_tills a_this_shop_tape a_this_shop_paysLaw a_this_shop_valuesLaw a_this_shop_waiting e_this_shop_goods a_this_shop_valuesLaw_names a_this_shop_valuesLaw_code a_this_shop_valuesLaw_stack a_this_shop_valuesLaw_bytes a_this_shop_valuesLaw_draft this_imaged this_images this_bestPaid this_bestNet r11.2 this_shop_takings this_shop_costs this_shop_goes this_shop_z this_shop_fed this_shop_waits this_shop_goods this_shop_valuesLaw_length this_shop_valuesLaw_drafted this_shop_valuesLaw_end this_shop_valuesLaw_place this_shop_valuesLaw_failed this_shop_valuesLaw_code this_shop_valuesLaw_stack) H := hP
      have hD : va_D A (k_X11_thingIs G a_this a_this_shop a_this_kept a_this_sheetBits a_this_sheetLengths a_this_sheetNumbers a_this_trace a_this_errors a_this_one a_this_second a_this_extra a_this_room a_this_values a_this_best a_this_shop_goods a_this_shop_tills a_this_shop_tape a_this_shop_paysLaw a_this_shop_valuesLaw a_this_shop_waiting e_this_shop_goods a_this_shop_valuesLaw_names a_this_shop_valuesLaw_code a_this_shop_valuesLaw_stack a_this_shop_valuesLaw_bytes a_this_shop_valuesLaw_draft this_imaged this_images this_bestPaid this_bestNet r11.2 this_shop_takings this_shop_costs this_shop_goes this_shop_z this_shop_fed this_shop_waits this_shop_goods this_shop_valuesLaw_length this_shop_valuesLaw_drafted this_shop_valuesLaw_end this_shop_valuesLaw_place this_shop_valuesLaw_failed this_shop_valuesLaw_code this_shop_valuesLaw_stack) := hD
      have ho := ks hf
      subst ho
      exact kiret hx hb hr hlk hP hD hS hQ dX11_thingIs_21
abbrev k_X11_figures (G : KG) (a_this : Nat) (a_this_shop : Nat) (a_this_kept : Nat) (a_this_sheetBits : Nat) (a_this_sheetLengths : Nat) (a_this_sheetNumbers : Nat) (a_this_trace : Nat) (a_this_errors : Nat) (a_this_one : Nat) (a_this_second : Nat) (a_this_extra : Nat) (a_this_room : Nat) (a_this_values : Nat) (a_this_best : Nat) (this_imaged : Int32) (this_images : Int32) (this_bestPaid : Int32) (this_bestNet : Int32) (this_errors : Nat → Int32) : va_W := [(a_this, .inr (11, [.ref a_this_shop, .ref a_this_kept, .int this_imaged, .int this_images, .ref a_this_sheetBits, .ref a_this_sheetLengths, .ref a_this_sheetNumbers, .ref a_this_trace, .ref a_this_errors, .ref a_this_one, .ref a_this_second, .ref a_this_extra, .ref a_this_room, .ref a_this_values, .ref a_this_best, .int this_bestPaid, .int this_bestNet])), (a_this_errors, .inl (gI G, 7, .inl this_errors))]
def f_X11_figures (N : Nat) (p0 : Int32) (p1 : Int32) (this_errors : Nat → Int32) : Option (Int32 × (Nat → Int32)) := (if p0 < 0 then ((f_X11_error N (1 : Int32) this_errors).bind fun r2 => (some (r2.1, r2.2))) else ((f_X11_within N p1 (2 : Int32) (11 : Int32)).bind fun r3 => (if r3 = 0 then ((f_X11_error N (1 : Int32) this_errors).bind fun r6 => (some (r6.1, r6.2))) else ((f_X11_figureSum N p0 p1).bind fun r5 => (some (r5, this_errors))))))
set_option maxRecDepth 100000 in
set_option maxHeartbeats 4000000 in
theorem c_X11_figures (l : Launch) (G : KG) (N : Nat) (a_this : Nat) (a_this_shop : Nat) (a_this_kept : Nat) (a_this_sheetBits : Nat) (a_this_sheetLengths : Nat) (a_this_sheetNumbers : Nat) (a_this_trace : Nat) (a_this_errors : Nat) (a_this_one : Nat) (a_this_second : Nat) (a_this_extra : Nat) (a_this_room : Nat) (a_this_values : Nat) (a_this_best : Nat) (p0 : Int32) (p1 : Int32) (this_imaged : Int32) (this_images : Int32) (this_bestPaid : Int32) (this_bestNet : Int32) (this_errors : Nat → Int32)  (out : Int32 × (Nat → Int32)) (hf : f_X11_figures N p0 p1 this_errors = some out) : KM l G yX11_figures (kw yX11_figures cX11_figures 3 (some .int)) 2 43 [.ref a_this, .int p0, .int p1] (k_X11_figures G a_this a_this_shop a_this_kept a_this_sheetBits a_this_sheetLengths a_this_sheetNumbers a_this_trace a_this_errors a_this_one a_this_second a_this_extra a_this_room a_this_values a_this_best this_imaged this_images this_bestPaid this_bestNet this_errors) (k_X11_figures G a_this a_this_shop a_this_kept a_this_sheetBits a_this_sheetLengths a_this_sheetNumbers a_this_trace a_this_errors a_this_one a_this_second a_this_extra a_this_room a_this_values a_this_best this_imaged this_images this_bestPaid this_bestNet (out.2)) (some (.int (out.1))) := by
  refine KM.of (by decide) (Nat.le_of_ble_eq_true rfl) ?_
  intro p e s m below meth c A ls args Q Fx0 hP hK hD hA hS hAm hQ hl
  obtain ⟨hx, hb, hr, hml, hts, hown, hlk, hnm⟩ := Fx0
  have hown : s.vm.findClass RX11 = some m.cls := hown
  have hl : lv_has ls 3 [(0, .ref a_this), (1, .int p0), (2, .int p1)] := hl
  unfold f_X11_figures at hf
  refine lv_iload_n hx hb dX11_figures_0 rfl (lv_at hl 1 rfl) ?_
  refine lv_if_lt (tgt := 14) hx hb dX11_figures_1 (by decide) (fun c1 => ?_) (fun c1 => ?_)
  · replace hf := kt c1 hf
    refine lv_aload_n hx hb dX11_figures_14 rfl (lv_at hl 0 rfl) ?_
    refine lv_iconst (v := (1 : Int32)) hx hb dX11_figures_15 (by decide) ?_
    obtain ⟨r2, hr2, hf⟩ := kb hf
    refine kV (As := [.int (1 : Int32)]) (rest := []) ⟨hx, hb, hml, hown, hts⟩ (c_X11_error l G N a_this a_this_shop a_this_kept a_this_sheetBits a_this_sheetLengths a_this_sheetNumbers a_this_trace a_this_errors a_this_one a_this_second a_this_extra a_this_room a_this_values a_this_best (1 : Int32) this_imaged this_images this_bestPaid this_bestNet this_errors r2 hr2) (kcV 1 hts tw_405 tw_80 tw_402 tw_404 tw_0 hd_X11_error ⟨Nat.le_of_ble_eq_true rfl, Nat.le_of_ble_eq_true rfl⟩) dX11_figures_16 hl.1 hK hAm hA hP hD hS 0 (ci := 11) rfl rfl rfl [0, 1] rfl rfl rfl [1] rfl rfl rfl (Nat.le_of_ble_eq_true rfl) ⟨Nat.le_refl _, Nat.le_refl _⟩ (fun H locs hP hD hS => ?_)
    have hP : va_P (gD G) vwCl (k_X11_figures G a_this a_this_shop a_this_kept a_this_sheetBits a_this_sheetLengths a_this_sheetNumbers a_this_trace a_this_errors a_this_one a_this_second a_this_extra a_this_room a_this_values a_this_best this_imaged this_images this_bestPaid this_bestNet r2.2) H := hP
    have hD : va_D A (k_X11_figures G a_this a_this_shop a_this_kept a_this_sheetBits a_this_sheetLengths a_this_sheetNumbers a_this_trace a_this_errors a_this_one a_this_second a_this_extra a_this_room a_this_values a_this_best this_imaged this_images this_bestPaid this_bestNet r2.2) := hD
    have ho := ks hf
    subst ho
    exact kiret hx hb hr hlk hP hD hS hQ dX11_figures_19
  · replace hf := kf c1 hf
    refine lv_iload_n hx hb dX11_figures_4 rfl (lv_at hl 2 rfl) ?_
    refine lv_iconst (v := (2 : Int32)) hx hb dX11_figures_5 (by decide) ?_
    refine lv_bipush (v := (11 : Int32)) hx hb dX11_figures_6 (by decide) ?_
    obtain ⟨r3, hr3, hf⟩ := kb hf
    refine kS (As := [.int p1, .int (2 : Int32), .int (11 : Int32)]) (rest := []) ⟨hx, hb, hml, hown, hts⟩ (c_X11_within l G N p1 (2 : Int32) (11 : Int32) r3 hr3) (kcS 3 hts tw_394 tw_80 tw_392 tw_393 hd_X11_within ⟨Nat.le_of_ble_eq_true rfl, Nat.le_of_ble_eq_true rfl⟩) dX11_figures_8 hl.1 hK hAm hA hP hD hS [] rfl rfl rfl [] rfl rfl rfl (Nat.le_of_ble_eq_true rfl) ⟨Nat.le_refl _, Nat.le_refl _⟩ (fun H locs hP hD hS => ?_)
    have hP : va_P (gD G) vwCl (k_X11_figures G a_this a_this_shop a_this_kept a_this_sheetBits a_this_sheetLengths a_this_sheetNumbers a_this_trace a_this_errors a_this_one a_this_second a_this_extra a_this_room a_this_values a_this_best this_imaged this_images this_bestPaid this_bestNet this_errors) H := hP
    have hD : va_D A (k_X11_figures G a_this a_this_shop a_this_kept a_this_sheetBits a_this_sheetLengths a_this_sheetNumbers a_this_trace a_this_errors a_this_one a_this_second a_this_extra a_this_room a_this_values a_this_best this_imaged this_images this_bestPaid this_bestNet this_errors) := hD
    refine lv_if_ne (tgt := 20) hx hb dX11_figures_11 (by decide) (fun c4 => ?_) (fun c4 => ?_)
    · replace hf := kf c4 hf
      refine lv_iload_n hx hb dX11_figures_20 rfl (lv_at hl 1 rfl) ?_
      refine lv_iload_n hx hb dX11_figures_21 rfl (lv_at hl 2 rfl) ?_
      obtain ⟨r5, hr5, hf⟩ := kb hf
      refine kS (As := [.int p0, .int p1]) (rest := []) ⟨hx, hb, hml, hown, hts⟩ (c_X11_figureSum l G N p0 p1 r5 hr5) (kcS 2 hts tw_512 tw_80 tw_510 tw_511 hd_X11_figureSum ⟨Nat.le_of_ble_eq_true rfl, Nat.le_of_ble_eq_true rfl⟩) dX11_figures_22 hl.1 hK hAm hA hP hD hS [] rfl rfl rfl [] rfl rfl rfl (Nat.le_of_ble_eq_true rfl) ⟨Nat.le_refl _, Nat.le_refl _⟩ (fun H locs hP hD hS => ?_)
      have hP : va_P (gD G) vwCl (k_X11_figures G a_this a_this_shop a_this_kept a_this_sheetBits a_this_sheetLengths a_this_sheetNumbers a_this_trace a_this_errors a_this_one a_this_second a_this_extra a_this_room a_this_values a_this_best this_imaged this_images this_bestPaid this_bestNet this_errors) H := hP
      have hD : va_D A (k_X11_figures G a_this a_this_shop a_this_kept a_this_sheetBits a_this_sheetLengths a_this_sheetNumbers a_this_trace a_this_errors a_this_one a_this_second a_this_extra a_this_room a_this_values a_this_best this_imaged this_images this_bestPaid this_bestNet this_errors) := hD
      have ho := ks hf
      subst ho
      exact kiret hx hb hr hlk hP hD hS hQ dX11_figures_25
    · replace hf := kt c4 hf
      refine lv_aload_n hx hb dX11_figures_14 rfl (lv_at hl 0 rfl) ?_
      refine lv_iconst (v := (1 : Int32)) hx hb dX11_figures_15 (by decide) ?_
      obtain ⟨r6, hr6, hf⟩ := kb hf
      refine kV (As := [.int (1 : Int32)]) (rest := []) ⟨hx, hb, hml, hown, hts⟩ (c_X11_error l G N a_this a_this_shop a_this_kept a_this_sheetBits a_this_sheetLengths a_this_sheetNumbers a_this_trace a_this_errors a_this_one a_this_second a_this_extra a_this_room a_this_values a_this_best (1 : Int32) this_imaged this_images this_bestPaid this_bestNet this_errors r6 hr6) (kcV 1 hts tw_405 tw_80 tw_402 tw_404 tw_0 hd_X11_error ⟨Nat.le_of_ble_eq_true rfl, Nat.le_of_ble_eq_true rfl⟩) dX11_figures_16 hl.1 hK hAm hA hP hD hS 0 (ci := 11) rfl rfl rfl [0, 1] rfl rfl rfl [1] rfl rfl rfl (Nat.le_of_ble_eq_true rfl) ⟨Nat.le_refl _, Nat.le_refl _⟩ (fun H locs hP hD hS => ?_)
      have hP : va_P (gD G) vwCl (k_X11_figures G a_this a_this_shop a_this_kept a_this_sheetBits a_this_sheetLengths a_this_sheetNumbers a_this_trace a_this_errors a_this_one a_this_second a_this_extra a_this_room a_this_values a_this_best this_imaged this_images this_bestPaid this_bestNet r6.2) H := hP
      have hD : va_D A (k_X11_figures G a_this a_this_shop a_this_kept a_this_sheetBits a_this_sheetLengths a_this_sheetNumbers a_this_trace a_this_errors a_this_one a_this_second a_this_extra a_this_room a_this_values a_this_best this_imaged this_images this_bestPaid this_bestNet r6.2) := hD
      have ho := ks hf
      subst ho
      exact kiret hx hb hr hlk hP hD hS hQ dX11_figures_19
abbrev k_X11_feed (G : KG) (a_this : Nat) (a_this_shop : Nat) (a_this_kept : Nat) (a_this_sheetBits : Nat) (a_this_sheetLengths : Nat) (a_this_sheetNumbers : Nat) (a_this_trace : Nat) (a_this_errors : Nat) (a_this_one : Nat) (a_this_second : Nat) (a_this_extra : Nat) (a_this_room : Nat) (a_this_values : Nat) (a_this_best : Nat) (a_this_shop_goods : Nat) (a_this_shop_tills : Nat) (a_this_shop_tape : Nat) (a_this_shop_paysLaw : Nat) (a_this_shop_valuesLaw : Nat) (a_this_shop_waiting : Nat) (this_imaged : Int32) (this_images : Int32) (this_bestPaid : Int32) (this_bestNet : Int32) (this_errors : Nat → Int32) (this_shop_takings : Int32) (this_shop_costs : Int32) (this_shop_goes : Int32) (this_shop_z : Int32) (this_shop_fed : Int32) (this_shop_waits : Int32) (this_shop_tape : Nat → Int32) : va_W := [(a_this, .inr (11, [.ref a_this_shop, .ref a_this_kept, .int this_imaged, .int this_images, .ref a_this_sheetBits, .ref a_this_sheetLengths, .ref a_this_sheetNumbers, .ref a_this_trace, .ref a_this_errors, .ref a_this_one, .ref a_this_second, .ref a_this_extra, .ref a_this_room, .ref a_this_values, .ref a_this_best, .int this_bestPaid, .int this_bestNet])), (a_this_errors, .inl (gI G, 7, .inl this_errors)), (a_this_shop, .inr (7, [.ref a_this_shop_goods, .ref a_this_shop_tills, .int this_shop_takings, .int this_shop_costs, .int this_shop_goes, .int this_shop_z, .ref a_this_shop_tape, .int this_shop_fed, .ref a_this_shop_paysLaw, .ref a_this_shop_valuesLaw, .ref a_this_shop_waiting, .int this_shop_waits])), (a_this_shop_tape, .inl (gI G, 60, .inl this_shop_tape))]
def f_X11_feed_39 (N : Nat) (x1 : Int64) (x3 : Int32) (this_shop_fed : Int32) (K : Int32 → (Nat → Int32) → Option (Int32 × (Nat → Int32) × (Int32) × (Nat → Int32))) : Nat → Int32 → (Nat → Int32) → Option (Int32 × (Nat → Int32) × (Int32) × (Nat → Int32))
  | 0, _, _ => none
  | n + 1, y4, this_shop_tape_v => (if x3 ≤ y4 then (K y4 this_shop_tape_v) else (if vin (this_shop_fed + y4) 60 = true then (f_X11_feed_39 N x1 x3 this_shop_fed K n (y4 + (1 : Int32)) (upd this_shop_tape_v (this_shop_fed + y4).toNatClampNeg (((jlushr x1 ((8 : Int32) * y4)).toInt32) &&& (255 : Int32)))) else none))
def f_X11_feed (N : Nat) (p0 : Int64) (p1 : Int32) (this_errors : Nat → Int32) (this_shop_fed : Int32) (this_shop_tape : Nat → Int32) : Option (Int32 × (Nat → Int32) × (Int32) × (Nat → Int32)) := ((f_X11_within N p1 (1 : Int32) (8 : Int32)).bind fun r1 => (if r1 = 0 then ((f_X11_error N (1 : Int32) this_errors).bind fun r11 => (some (r11.1, r11.2, this_shop_fed, this_shop_tape))) else (if (this_shop_fed + p1) ≤ (60 : Int32) then (f_X11_feed_39 N p0 p1 this_shop_fed (fun v4_6 this_shop_tape_6 => (some ((this_shop_fed + p1), this_errors, (this_shop_fed + p1), this_shop_tape_6))) N (0 : Int32) this_shop_tape) else ((f_X11_error N (4 : Int32) this_errors).bind fun r10 => (some (r10.1, r10.2, this_shop_fed, this_shop_tape))))))
set_option maxRecDepth 100000 in
set_option maxHeartbeats 4000000 in
theorem c_X11_feed (l : Launch) (G : KG) (N : Nat) (a_this : Nat) (a_this_shop : Nat) (a_this_kept : Nat) (a_this_sheetBits : Nat) (a_this_sheetLengths : Nat) (a_this_sheetNumbers : Nat) (a_this_trace : Nat) (a_this_errors : Nat) (a_this_one : Nat) (a_this_second : Nat) (a_this_extra : Nat) (a_this_room : Nat) (a_this_values : Nat) (a_this_best : Nat) (a_this_shop_goods : Nat) (a_this_shop_tills : Nat) (a_this_shop_tape : Nat) (a_this_shop_paysLaw : Nat) (a_this_shop_valuesLaw : Nat) (a_this_shop_waiting : Nat) (p0 : Int64) (p1 : Int32) (this_imaged : Int32) (this_images : Int32) (this_bestPaid : Int32) (this_bestNet : Int32) (this_errors : Nat → Int32) (this_shop_takings : Int32) (this_shop_costs : Int32) (this_shop_goes : Int32) (this_shop_z : Int32) (this_shop_fed : Int32) (this_shop_waits : Int32) (this_shop_tape : Nat → Int32)  (out : Int32 × (Nat → Int32) × (Int32) × (Nat → Int32)) (hf : f_X11_feed N p0 p1 this_errors this_shop_fed this_shop_tape = some out) : KM l G yX11_feed (kw yX11_feed cX11_feed 5 (some .int)) 2 43 [.ref a_this, .long p0, .int p1] (k_X11_feed G a_this a_this_shop a_this_kept a_this_sheetBits a_this_sheetLengths a_this_sheetNumbers a_this_trace a_this_errors a_this_one a_this_second a_this_extra a_this_room a_this_values a_this_best a_this_shop_goods a_this_shop_tills a_this_shop_tape a_this_shop_paysLaw a_this_shop_valuesLaw a_this_shop_waiting this_imaged this_images this_bestPaid this_bestNet this_errors this_shop_takings this_shop_costs this_shop_goes this_shop_z this_shop_fed this_shop_waits this_shop_tape) (k_X11_feed G a_this a_this_shop a_this_kept a_this_sheetBits a_this_sheetLengths a_this_sheetNumbers a_this_trace a_this_errors a_this_one a_this_second a_this_extra a_this_room a_this_values a_this_best a_this_shop_goods a_this_shop_tills a_this_shop_tape a_this_shop_paysLaw a_this_shop_valuesLaw a_this_shop_waiting this_imaged this_images this_bestPaid this_bestNet (out.2.1) this_shop_takings this_shop_costs this_shop_goes this_shop_z (out.2.2.1) this_shop_waits (out.2.2.2)) (some (.int (out.1))) := by
  refine KM.of (by decide) (Nat.le_of_ble_eq_true rfl) ?_
  intro p e s m below meth c A ls args Q Fx0 hP hK hD hA hS hAm hQ hl
  obtain ⟨hx, hb, hr, hml, hts, hown, hlk, hnm⟩ := Fx0
  have hown : s.vm.findClass RX11 = some m.cls := hown
  have hl : lv_has ls 5 [(0, .ref a_this), (1, .long p0), (3, .int p1)] := hl
  have fl_10 := hts _ tw_333
  have fl_131 := va_Nw.use (A := args) rfl (hAm.1 _ nw_X11_131 rfl)
  have fl_134 := va_Nw.use (A := args) rfl (hAm.1 _ nw_X11_134 rfl)
  unfold f_X11_feed at hf
  refine lv_iload_n hx hb dX11_feed_0 rfl (lv_at hl 2 rfl) ?_
  refine lv_iconst (v := (1 : Int32)) hx hb dX11_feed_1 (by decide) ?_
  refine lv_bipush (v := (8 : Int32)) hx hb dX11_feed_2 (by decide) ?_
  obtain ⟨r1, hr1, hf⟩ := kb hf
  refine kS (As := [.int p1, .int (1 : Int32), .int (8 : Int32)]) (rest := []) ⟨hx, hb, hml, hown, hts⟩ (c_X11_within l G N p1 (1 : Int32) (8 : Int32) r1 hr1) (kcS 3 hts tw_394 tw_80 tw_392 tw_393 hd_X11_within ⟨Nat.le_of_ble_eq_true rfl, Nat.le_of_ble_eq_true rfl⟩) dX11_feed_4 hl.1 hK hAm hA hP hD hS [] rfl rfl rfl [] rfl rfl rfl (Nat.le_of_ble_eq_true rfl) ⟨Nat.le_refl _, Nat.le_refl _⟩ (fun H locs hP hD hS => ?_)
  have hP : va_P (gD G) vwCl (k_X11_feed G a_this a_this_shop a_this_kept a_this_sheetBits a_this_sheetLengths a_this_sheetNumbers a_this_trace a_this_errors a_this_one a_this_second a_this_extra a_this_room a_this_values a_this_best a_this_shop_goods a_this_shop_tills a_this_shop_tape a_this_shop_paysLaw a_this_shop_valuesLaw a_this_shop_waiting this_imaged this_images this_bestPaid this_bestNet this_errors this_shop_takings this_shop_costs this_shop_goes this_shop_z this_shop_fed this_shop_waits this_shop_tape) H := hP
  have hD : va_D A (k_X11_feed G a_this a_this_shop a_this_kept a_this_sheetBits a_this_sheetLengths a_this_sheetNumbers a_this_trace a_this_errors a_this_one a_this_second a_this_extra a_this_room a_this_values a_this_best a_this_shop_goods a_this_shop_tills a_this_shop_tape a_this_shop_paysLaw a_this_shop_valuesLaw a_this_shop_waiting this_imaged this_images this_bestPaid this_bestNet this_errors this_shop_takings this_shop_costs this_shop_goes this_shop_z this_shop_fed this_shop_waits this_shop_tape) := hD
  refine lv_if_ne (tgt := 16) hx hb dX11_feed_7 (by decide) (fun c2 => ?_) (fun c2 => ?_)
  · replace hf := kf c2 hf
    refine lv_aload_n hx hb dX11_feed_16 rfl (lv_at hl 0 rfl) ?_
    refine va_get (D := gD G) (ci := 11) (C := RX11) (T := TX11) (N := 17) hx hb hts hin_X11 hown hK hP 0 rfl rfl 0 (by decide) fl_10 (fun _ h9 => h9) rfl dX11_feed_17 ?_
    refine va_getN (D := gD G) (ci := 7) (C := RX7) (T := TX7) (N := 12) hx hb hts hin_X7 hown hK hP 2 rfl rfl 7 (by decide) fl_131 (fun _ h9 => h9) rfl dX11_feed_20 ?_
    refine lv_iload_n hx hb dX11_feed_23 rfl (lv_at hl 2 rfl) ?_
    refine lv_iadd hx hb dX11_feed_24 ?_
    refine lv_bipush (v := (60 : Int32)) hx hb dX11_feed_25 (by decide) ?_
    refine lv_icmp_le (tgt := 36) hx hb dX11_feed_27 (by decide) (fun c3 => ?_) (fun c3 => ?_)
    · replace hf := kt c3 hf
      refine lv_iconst (v := (0 : Int32)) hx hb dX11_feed_36 (by decide) ?_
      refine lv_istore (lv' := [(4, .int (0 : Int32)), (0, .ref a_this), (1, .long p0), (3, .int p1)]) hx hb dX11_feed_37 hl (by decide) rfl (fun ls hl => ?_)
      have L5 : ∀ (K : Int32 → (Nat → Int32) → Option (Int32 × (Nat → Int32) × (Int32) × (Nat → Int32))), (∀ (v4_5 : Int32) (this_shop_tape_5 : Nat → Int32) (H : Heap) (locs : List Loc), va_P (gD G) vwCl (k_X11_feed G a_this a_this_shop a_this_kept a_this_sheetBits a_this_sheetLengths a_this_sheetNumbers a_this_trace a_this_errors a_this_one a_this_second a_this_extra a_this_room a_this_values a_this_best a_this_shop_goods a_this_shop_tills a_this_shop_tape a_this_shop_paysLaw a_this_shop_valuesLaw a_this_shop_waiting this_imaged this_images this_bestPaid this_bestNet this_errors this_shop_takings this_shop_costs this_shop_goes this_shop_z this_shop_fed this_shop_waits this_shop_tape_5) H → va_D A (k_X11_feed G a_this a_this_shop a_this_kept a_this_sheetBits a_this_sheetLengths a_this_sheetNumbers a_this_trace a_this_errors a_this_one a_this_second a_this_extra a_this_room a_this_values a_this_best a_this_shop_goods a_this_shop_tills a_this_shop_tape a_this_shop_paysLaw a_this_shop_valuesLaw a_this_shop_waiting this_imaged this_images this_bestPaid this_bestNet this_errors this_shop_takings this_shop_costs this_shop_goes this_shop_z this_shop_fed this_shop_waits this_shop_tape_5) → va_S A s.heap H locs → ∀ (ls : Array Slot), lv_has ls 5 [(0, .ref a_this), (1, .long p0), (3, .int p1), (4, .int v4_5)] → K v4_5 this_shop_tape_5 = some out → W p l e (kR 2 0 0 43) s m args below meth c H locs 0 0 Q (F0 m 81 ls [])) → ∀ (n : Nat), ∀ (v4_5 : Int32) (this_shop_tape_5 : Nat → Int32) (H : Heap) (locs : List Loc), va_P (gD G) vwCl (k_X11_feed G a_this a_this_shop a_this_kept a_this_sheetBits a_this_sheetLengths a_this_sheetNumbers a_this_trace a_this_errors a_this_one a_this_second a_this_extra a_this_room a_this_values a_this_best a_this_shop_goods a_this_shop_tills a_this_shop_tape a_this_shop_paysLaw a_this_shop_valuesLaw a_this_shop_waiting this_imaged this_images this_bestPaid this_bestNet this_errors this_shop_takings this_shop_costs this_shop_goes this_shop_z this_shop_fed this_shop_waits this_shop_tape_5) H → va_D A (k_X11_feed G a_this a_this_shop a_this_kept a_this_sheetBits a_this_sheetLengths a_this_sheetNumbers a_this_trace a_this_errors a_this_one a_this_second a_this_extra a_this_room a_this_values a_this_best a_this_shop_goods a_this_shop_tills a_this_shop_tape a_this_shop_paysLaw a_this_shop_valuesLaw a_this_shop_waiting this_imaged this_images this_bestPaid this_bestNet this_errors this_shop_takings this_shop_costs this_shop_goes this_shop_z this_shop_fed this_shop_waits this_shop_tape_5) → va_S A s.heap H locs → ∀ (ls : Array Slot), lv_has ls 5 [(0, .ref a_this), (1, .long p0), (3, .int p1), (4, .int v4_5)] → f_X11_feed_39 N p0 p1 this_shop_fed K n v4_5 this_shop_tape_5 = some out → W p l e (kR 2 0 0 43) s m args below meth c H locs 0 0 Q (F0 m 39 ls []) := by
        intro K hK5 n
        induction n with
        | zero =>
          intro v4_5 this_shop_tape_5 H locs hP hD hS ls hl hf
          rw [f_X11_feed_39] at hf
          cases hf
        | succ n ih =>
          intro v4_5 this_shop_tape_5 H locs hP hD hS ls hl hf
          rw [f_X11_feed_39] at hf
          refine lv_iload hx hb dX11_feed_39 (lv_at hl 3 rfl) ?_
          refine lv_iload_n hx hb dX11_feed_41 rfl (lv_at hl 2 rfl) ?_
          refine lv_icmp_ge (tgt := 81) hx hb dX11_feed_42 (by decide) (fun c6 => ?_) (fun c6 => ?_)
          · replace hf := kt c6 hf
            exact hK5 v4_5 this_shop_tape_5 _ _ hP hD hS ls (lv_sub hl [0, 1, 2, 3] rfl) hf
          · replace hf := kf c6 hf
            refine lv_aload_n hx hb dX11_feed_45 rfl (lv_at hl 0 rfl) ?_
            refine va_get (D := gD G) (ci := 11) (C := RX11) (T := TX11) (N := 17) hx hb hts hin_X11 hown hK hP 0 rfl rfl 0 (by decide) fl_10 (fun _ h9 => h9) rfl dX11_feed_46 ?_
            refine va_getN (D := gD G) (ci := 7) (C := RX7) (T := TX7) (N := 12) hx hb hts hin_X7 hown hK hP 2 rfl rfl 6 (by decide) fl_134 (fun _ h9 => h9) rfl dX11_feed_49 ?_
            refine lv_aload_n hx hb dX11_feed_52 rfl (lv_at hl 0 rfl) ?_
            refine va_get (D := gD G) (ci := 11) (C := RX11) (T := TX11) (N := 17) hx hb hts hin_X11 hown hK hP 0 rfl rfl 0 (by decide) fl_10 (fun _ h9 => h9) rfl dX11_feed_53 ?_
            refine va_getN (D := gD G) (ci := 7) (C := RX7) (T := TX7) (N := 12) hx hb hts hin_X7 hown hK hP 2 rfl rfl 7 (by decide) fl_131 (fun _ h9 => h9) rfl dX11_feed_56 ?_
            refine lv_iload hx hb dX11_feed_59 (lv_at hl 3 rfl) ?_
            refine lv_iadd hx hb dX11_feed_61 ?_
            refine lv_lload_n hx hb dX11_feed_62 rfl (lv_at hl 1 rfl) ?_
            refine lv_bipush (v := (8 : Int32)) hx hb dX11_feed_63 (by decide) ?_
            refine lv_iload hx hb dX11_feed_65 (lv_at hl 3 rfl) ?_
            refine lv_imul hx hb dX11_feed_67 ?_
            refine lv_lushr (v := (jlushr p0 ((8 : Int32) * v4_5))) hx hb dX11_feed_68 rfl ?_
            refine lv_l2i (v := (jlushr p0 ((8 : Int32) * v4_5)).toInt32) hx hb dX11_feed_69 rfl ?_
            refine lv_sipush (v := (255 : Int32)) hx hb dX11_feed_70 (by decide) ?_
            refine lv_iand hx hb dX11_feed_73 ?_
            obtain ⟨g7, hf⟩ := kg hf
            refine va_iast hx hb hK hP hD hS 3 0 rfl rfl (vin_of g7) dX11_feed_74 (fun H locs hP hD hS => ?_)
            have hP : va_P (gD G) vwCl (k_X11_feed G a_this a_this_shop a_this_kept a_this_sheetBits a_this_sheetLengths a_this_sheetNumbers a_this_trace a_this_errors a_this_one a_this_second a_this_extra a_this_room a_this_values a_this_best a_this_shop_goods a_this_shop_tills a_this_shop_tape a_this_shop_paysLaw a_this_shop_valuesLaw a_this_shop_waiting this_imaged this_images this_bestPaid this_bestNet this_errors this_shop_takings this_shop_costs this_shop_goes this_shop_z this_shop_fed this_shop_waits (upd this_shop_tape_5 (this_shop_fed + v4_5).toNatClampNeg (((jlushr p0 ((8 : Int32) * v4_5)).toInt32) &&& (255 : Int32)))) H := hP
            have hD : va_D A (k_X11_feed G a_this a_this_shop a_this_kept a_this_sheetBits a_this_sheetLengths a_this_sheetNumbers a_this_trace a_this_errors a_this_one a_this_second a_this_extra a_this_room a_this_values a_this_best a_this_shop_goods a_this_shop_tills a_this_shop_tape a_this_shop_paysLaw a_this_shop_valuesLaw a_this_shop_waiting this_imaged this_images this_bestPaid this_bestNet this_errors this_shop_takings this_shop_costs this_shop_goes this_shop_z this_shop_fed this_shop_waits (upd this_shop_tape_5 (this_shop_fed + v4_5).toNatClampNeg (((jlushr p0 ((8 : Int32) * v4_5)).toInt32) &&& (255 : Int32)))) := hD
            refine lv_iinc (v := (v4_5 + (1 : Int32))) (lv' := [(4, .int (v4_5 + (1 : Int32))), (0, .ref a_this), (1, .long p0), (3, .int p1)]) hx hb dX11_feed_75 hl (k := 3) rfl rfl (by decide) rfl (fun ls hl => ?_)
            refine lv_goto (tgt := 39) hx hb dX11_feed_78 (by decide) ?_
            exact ih (v4_5 + (1 : Int32)) (upd this_shop_tape_5 (this_shop_fed + v4_5).toNatClampNeg (((jlushr p0 ((8 : Int32) * v4_5)).toInt32) &&& (255 : Int32))) _ _ hP hD hS ls (lv_sub hl [1, 2, 3, 0] rfl) hf
      refine L5 _ (fun v4_4 this_shop_tape_4 H locs hP hD hS ls hl hf => ?_) N (0 : Int32) this_shop_tape _ _ hP hD hS ls (lv_sub hl [1, 2, 3, 0] rfl) hf
      refine lv_aload_n hx hb dX11_feed_81 rfl (lv_at hl 0 rfl) ?_
      refine va_get (D := gD G) (ci := 11) (C := RX11) (T := TX11) (N := 17) hx hb hts hin_X11 hown hK hP 0 rfl rfl 0 (by decide) fl_10 (fun _ h9 => h9) rfl dX11_feed_82 ?_
      refine lv_dup hx hb dX11_feed_85 rfl ?_
      refine va_getN (D := gD G) (ci := 7) (C := RX7) (T := TX7) (N := 12) hx hb hts hin_X7 hown hK hP 2 rfl rfl 7 (by decide) fl_131 (fun _ h9 => h9) rfl dX11_feed_86 ?_
      refine lv_iload_n hx hb dX11_feed_89 rfl (lv_at hl 2 rfl) ?_
      refine lv_iadd hx hb dX11_feed_90 ?_
      refine va_putN (D := gD G) (ci := 7) (v := .int (this_shop_fed + p1)) (ty := .int) (C := RX7) (T := TX7) (N := 12) hx hb hts hin_X7 tyX7 tyX7_ok nmX7 hown hK hP hD hS 2 rfl rfl 7 (by decide) fl_131 (fun _ h9 => h9) rfl (by decide +kernel) rfl rfl (Nat.le_of_ble_eq_true rfl) dX11_feed_91 (fun H locs hP hD hS => ?_)
      have hP : va_P (gD G) vwCl (k_X11_feed G a_this a_this_shop a_this_kept a_this_sheetBits a_this_sheetLengths a_this_sheetNumbers a_this_trace a_this_errors a_this_one a_this_second a_this_extra a_this_room a_this_values a_this_best a_this_shop_goods a_this_shop_tills a_this_shop_tape a_this_shop_paysLaw a_this_shop_valuesLaw a_this_shop_waiting this_imaged this_images this_bestPaid this_bestNet this_errors this_shop_takings this_shop_costs this_shop_goes this_shop_z (this_shop_fed + p1) this_shop_waits this_shop_tape_4) H := hP
      have hD : va_D A (k_X11_feed G a_this a_this_shop a_this_kept a_this_sheetBits a_this_sheetLengths a_this_sheetNumbers a_this_trace a_this_errors a_this_one a_this_second a_this_extra a_this_room a_this_values a_this_best a_this_shop_goods a_this_shop_tills a_this_shop_tape a_this_shop_paysLaw a_this_shop_valuesLaw a_this_shop_waiting this_imaged this_images this_bestPaid this_bestNet this_errors this_shop_takings this_shop_costs this_shop_goes this_shop_z (this_shop_fed + p1) this_shop_waits this_shop_tape_4) := hD
      refine lv_aload_n hx hb dX11_feed_94 rfl (lv_at hl 0 rfl) ?_
      refine va_get (D := gD G) (ci := 11) (C := RX11) (T := TX11) (N := 17) hx hb hts hin_X11 hown hK hP 0 rfl rfl 0 (by decide) fl_10 (fun _ h9 => h9) rfl dX11_feed_95 ?_
      refine va_getN (D := gD G) (ci := 7) (C := RX7) (T := TX7) (N := 12) hx hb hts hin_X7 hown hK hP 2 rfl rfl 7 (by decide) fl_131 (fun _ h9 => h9) rfl dX11_feed_98 ?_
      have ho := ks hf
      subst ho
      exact kiret hx hb hr hlk hP hD hS hQ dX11_feed_101
    · replace hf := kf c3 hf
      refine lv_aload_n hx hb dX11_feed_30 rfl (lv_at hl 0 rfl) ?_
      refine lv_iconst (v := (4 : Int32)) hx hb dX11_feed_31 (by decide) ?_
      obtain ⟨r8, hr8, hf⟩ := kb hf
      refine kV (As := [.int (4 : Int32)]) (rest := []) ⟨hx, hb, hml, hown, hts⟩ (c_X11_error l G N a_this a_this_shop a_this_kept a_this_sheetBits a_this_sheetLengths a_this_sheetNumbers a_this_trace a_this_errors a_this_one a_this_second a_this_extra a_this_room a_this_values a_this_best (4 : Int32) this_imaged this_images this_bestPaid this_bestNet this_errors r8 hr8) (kcV 1 hts tw_405 tw_80 tw_402 tw_404 tw_0 hd_X11_error ⟨Nat.le_of_ble_eq_true rfl, Nat.le_of_ble_eq_true rfl⟩) dX11_feed_32 hl.1 hK hAm hA hP hD hS 0 (ci := 11) rfl rfl rfl [0, 1] rfl rfl rfl [1] rfl rfl rfl (Nat.le_of_ble_eq_true rfl) ⟨Nat.le_refl _, Nat.le_refl _⟩ (fun H locs hP hD hS => ?_)
      have hP : va_P (gD G) vwCl (k_X11_feed G a_this a_this_shop a_this_kept a_this_sheetBits a_this_sheetLengths a_this_sheetNumbers a_this_trace a_this_errors a_this_one a_this_second a_this_extra a_this_room a_this_values a_this_best a_this_shop_goods a_this_shop_tills a_this_shop_tape a_this_shop_paysLaw a_this_shop_valuesLaw a_this_shop_waiting this_imaged this_images this_bestPaid this_bestNet r8.2 this_shop_takings this_shop_costs this_shop_goes this_shop_z this_shop_fed this_shop_waits this_shop_tape) H := hP
      have hD : va_D A (k_X11_feed G a_this a_this_shop a_this_kept a_this_sheetBits a_this_sheetLengths a_this_sheetNumbers a_this_trace a_this_errors a_this_one a_this_second a_this_extra a_this_room a_this_values a_this_best a_this_shop_goods a_this_shop_tills a_this_shop_tape a_this_shop_paysLaw a_this_shop_valuesLaw a_this_shop_waiting this_imaged this_images this_bestPaid this_bestNet r8.2 this_shop_takings this_shop_costs this_shop_goes this_shop_z this_shop_fed this_shop_waits this_shop_tape) := hD
      have ho := ks hf
      subst ho
      exact kiret hx hb hr hlk hP hD hS hQ dX11_feed_35
  · replace hf := kt c2 hf
    refine lv_aload_n hx hb dX11_feed_10 rfl (lv_at hl 0 rfl) ?_
    refine lv_iconst (v := (1 : Int32)) hx hb dX11_feed_11 (by decide) ?_
    obtain ⟨r9, hr9, hf⟩ := kb hf
    refine kV (As := [.int (1 : Int32)]) (rest := []) ⟨hx, hb, hml, hown, hts⟩ (c_X11_error l G N a_this a_this_shop a_this_kept a_this_sheetBits a_this_sheetLengths a_this_sheetNumbers a_this_trace a_this_errors a_this_one a_this_second a_this_extra a_this_room a_this_values a_this_best (1 : Int32) this_imaged this_images this_bestPaid this_bestNet this_errors r9 hr9) (kcV 1 hts tw_405 tw_80 tw_402 tw_404 tw_0 hd_X11_error ⟨Nat.le_of_ble_eq_true rfl, Nat.le_of_ble_eq_true rfl⟩) dX11_feed_12 hl.1 hK hAm hA hP hD hS 0 (ci := 11) rfl rfl rfl [0, 1] rfl rfl rfl [1] rfl rfl rfl (Nat.le_of_ble_eq_true rfl) ⟨Nat.le_refl _, Nat.le_refl _⟩ (fun H locs hP hD hS => ?_)
    have hP : va_P (gD G) vwCl (k_X11_feed G a_this a_this_shop a_this_kept a_this_sheetBits a_this_sheetLengths a_this_sheetNumbers a_this_trace a_this_errors a_this_one a_this_second a_this_extra a_this_room a_this_values a_this_best a_this_shop_goods a_this_shop_tills a_this_shop_tape a_this_shop_paysLaw a_this_shop_valuesLaw a_this_shop_waiting this_imaged this_images this_bestPaid this_bestNet r9.2 this_shop_takings this_shop_costs this_shop_goes this_shop_z this_shop_fed this_shop_waits this_shop_tape) H := hP
    have hD : va_D A (k_X11_feed G a_this a_this_shop a_this_kept a_this_sheetBits a_this_sheetLengths a_this_sheetNumbers a_this_trace a_this_errors a_this_one a_this_second a_this_extra a_this_room a_this_values a_this_best a_this_shop_goods a_this_shop_tills a_this_shop_tape a_this_shop_paysLaw a_this_shop_valuesLaw a_this_shop_waiting this_imaged this_images this_bestPaid this_bestNet r9.2 this_shop_takings this_shop_costs this_shop_goes this_shop_z this_shop_fed this_shop_waits this_shop_tape) := hD
    have ho := ks hf
    subst ho
    exact kiret hx hb hr hlk hP hD hS hQ dX11_feed_15
abbrev k_X11_untell (G : KG) (a_this : Nat) (a_this_shop : Nat) (a_this_kept : Nat) (a_this_sheetBits : Nat) (a_this_sheetLengths : Nat) (a_this_sheetNumbers : Nat) (a_this_trace : Nat) (a_this_errors : Nat) (a_this_one : Nat) (a_this_second : Nat) (a_this_extra : Nat) (a_this_room : Nat) (a_this_values : Nat) (a_this_best : Nat) (a_this_shop_goods : Nat) (a_this_shop_tills : Nat) (a_this_shop_tape : Nat) (a_this_shop_paysLaw : Nat) (a_this_shop_valuesLaw : Nat) (a_this_shop_waiting : Nat) (a_this_shop_paysLaw_names : Nat) (a_this_shop_paysLaw_code : Nat) (a_this_shop_paysLaw_stack : Nat) (a_this_shop_paysLaw_bytes : Nat) (a_this_shop_paysLaw_draft : Nat) (a_this_shop_valuesLaw_names : Nat) (a_this_shop_valuesLaw_code : Nat) (a_this_shop_valuesLaw_stack : Nat) (a_this_shop_valuesLaw_bytes : Nat) (a_this_shop_valuesLaw_draft : Nat) (this_imaged : Int32) (this_images : Int32) (this_bestPaid : Int32) (this_bestNet : Int32) (this_errors : Nat → Int32) (this_shop_takings : Int32) (this_shop_costs : Int32) (this_shop_goes : Int32) (this_shop_z : Int32) (this_shop_fed : Int32) (this_shop_waits : Int32) (this_shop_paysLaw_length : Int32) (this_shop_paysLaw_drafted : Int32) (this_shop_paysLaw_end : Int32) (this_shop_paysLaw_place : Int32) (this_shop_paysLaw_failed : Int32) (this_shop_valuesLaw_length : Int32) (this_shop_valuesLaw_drafted : Int32) (this_shop_valuesLaw_end : Int32) (this_shop_valuesLaw_place : Int32) (this_shop_valuesLaw_failed : Int32) : va_W := [(a_this, .inr (11, [.ref a_this_shop, .ref a_this_kept, .int this_imaged, .int this_images, .ref a_this_sheetBits, .ref a_this_sheetLengths, .ref a_this_sheetNumbers, .ref a_this_trace, .ref a_this_errors, .ref a_this_one, .ref a_this_second, .ref a_this_extra, .ref a_this_room, .ref a_this_values, .ref a_this_best, .int this_bestPaid, .int this_bestNet])), (a_this_errors, .inl (gI G, 7, .inl this_errors)), (a_this_shop, .inr (7, [.ref a_this_shop_goods, .ref a_this_shop_tills, .int this_shop_takings, .int this_shop_costs, .int this_shop_goes, .int this_shop_z, .ref a_this_shop_tape, .int this_shop_fed, .ref a_this_shop_paysLaw, .ref a_this_shop_valuesLaw, .ref a_this_shop_waiting, .int this_shop_waits])), (a_this_shop_paysLaw, .inr (4, [.ref a_this_shop_paysLaw_names, .ref a_this_shop_paysLaw_code, .int this_shop_paysLaw_length, .ref a_this_shop_paysLaw_stack, .ref a_this_shop_paysLaw_bytes, .ref a_this_shop_paysLaw_draft, .int this_shop_paysLaw_drafted, .int this_shop_paysLaw_end, .int this_shop_paysLaw_place, .int this_shop_paysLaw_failed])), (a_this_shop_valuesLaw, .inr (4, [.ref a_this_shop_valuesLaw_names, .ref a_this_shop_valuesLaw_code, .int this_shop_valuesLaw_length, .ref a_this_shop_valuesLaw_stack, .ref a_this_shop_valuesLaw_bytes, .ref a_this_shop_valuesLaw_draft, .int this_shop_valuesLaw_drafted, .int this_shop_valuesLaw_end, .int this_shop_valuesLaw_place, .int this_shop_valuesLaw_failed]))]
def f_X11_untell (N : Nat) (p0 : Int32) (this_errors : Nat → Int32) (this_shop_paysLaw_length : Int32) (this_shop_valuesLaw_length : Int32) : Option (Int32 × (Nat → Int32) × (Int32) × (Int32)) := ((f_X11_within N p0 (0 : Int32) (1 : Int32)).bind fun r1 => (if r1 = 0 then ((f_X11_error N (1 : Int32) this_errors).bind fun r9 => (some (r9.1, r9.2, this_shop_paysLaw_length, this_shop_valuesLaw_length))) else ((f_X7_law N p0).bind fun r3 => if r3 = 0 then ((f_X4_isTold N this_shop_valuesLaw_length).bind fun r5 => (if r5 = 0 then (some ((0 : Int32), this_errors, this_shop_paysLaw_length, (0 : Int32))) else (some ((1 : Int32), this_errors, this_shop_paysLaw_length, (0 : Int32))))) else ((f_X4_isTold N this_shop_paysLaw_length).bind fun r7 => (if r7 = 0 then (some ((0 : Int32), this_errors, (0 : Int32), this_shop_valuesLaw_length)) else (some ((1 : Int32), this_errors, (0 : Int32), this_shop_valuesLaw_length)))))))
set_option maxRecDepth 100000 in
set_option maxHeartbeats 4000000 in
theorem c_X11_untell (l : Launch) (G : KG) (N : Nat) (a_this : Nat) (a_this_shop : Nat) (a_this_kept : Nat) (a_this_sheetBits : Nat) (a_this_sheetLengths : Nat) (a_this_sheetNumbers : Nat) (a_this_trace : Nat) (a_this_errors : Nat) (a_this_one : Nat) (a_this_second : Nat) (a_this_extra : Nat) (a_this_room : Nat) (a_this_values : Nat) (a_this_best : Nat) (a_this_shop_goods : Nat) (a_this_shop_tills : Nat) (a_this_shop_tape : Nat) (a_this_shop_paysLaw : Nat) (a_this_shop_valuesLaw : Nat) (a_this_shop_waiting : Nat) (a_this_shop_paysLaw_names : Nat) (a_this_shop_paysLaw_code : Nat) (a_this_shop_paysLaw_stack : Nat) (a_this_shop_paysLaw_bytes : Nat) (a_this_shop_paysLaw_draft : Nat) (a_this_shop_valuesLaw_names : Nat) (a_this_shop_valuesLaw_code : Nat) (a_this_shop_valuesLaw_stack : Nat) (a_this_shop_valuesLaw_bytes : Nat) (a_this_shop_valuesLaw_draft : Nat) (p0 : Int32) (this_imaged : Int32) (this_images : Int32) (this_bestPaid : Int32) (this_bestNet : Int32) (this_errors : Nat → Int32) (this_shop_takings : Int32) (this_shop_costs : Int32) (this_shop_goes : Int32) (this_shop_z : Int32) (this_shop_fed : Int32) (this_shop_waits : Int32) (this_shop_paysLaw_length : Int32) (this_shop_paysLaw_drafted : Int32) (this_shop_paysLaw_end : Int32) (this_shop_paysLaw_place : Int32) (this_shop_paysLaw_failed : Int32) (this_shop_valuesLaw_length : Int32) (this_shop_valuesLaw_drafted : Int32) (this_shop_valuesLaw_end : Int32) (this_shop_valuesLaw_place : Int32) (this_shop_valuesLaw_failed : Int32)  (out : Int32 × (Nat → Int32) × (Int32) × (Int32)) (hf : f_X11_untell N p0 this_errors this_shop_paysLaw_length this_shop_valuesLaw_length = some out) : KM l G yX11_untell (kw yX11_untell cX11_untell 4 (some .int)) 2 43 [.ref a_this, .int p0] (k_X11_untell G a_this a_this_shop a_this_kept a_this_sheetBits a_this_sheetLengths a_this_sheetNumbers a_this_trace a_this_errors a_this_one a_this_second a_this_extra a_this_room a_this_values a_this_best a_this_shop_goods a_this_shop_tills a_this_shop_tape a_this_shop_paysLaw a_this_shop_valuesLaw a_this_shop_waiting a_this_shop_paysLaw_names a_this_shop_paysLaw_code a_this_shop_paysLaw_stack a_this_shop_paysLaw_bytes a_this_shop_paysLaw_draft a_this_shop_valuesLaw_names a_this_shop_valuesLaw_code a_this_shop_valuesLaw_stack a_this_shop_valuesLaw_bytes a_this_shop_valuesLaw_draft this_imaged this_images this_bestPaid this_bestNet this_errors this_shop_takings this_shop_costs this_shop_goes this_shop_z this_shop_fed this_shop_waits this_shop_paysLaw_length this_shop_paysLaw_drafted this_shop_paysLaw_end this_shop_paysLaw_place this_shop_paysLaw_failed this_shop_valuesLaw_length this_shop_valuesLaw_drafted this_shop_valuesLaw_end this_shop_valuesLaw_place this_shop_valuesLaw_failed) (k_X11_untell G a_this a_this_shop a_this_kept a_this_sheetBits a_this_sheetLengths a_this_sheetNumbers a_this_trace a_this_errors a_this_one a_this_second a_this_extra a_this_room a_this_values a_this_best a_this_shop_goods a_this_shop_tills a_this_shop_tape a_this_shop_paysLaw a_this_shop_valuesLaw a_this_shop_waiting a_this_shop_paysLaw_names a_this_shop_paysLaw_code a_this_shop_paysLaw_stack a_this_shop_paysLaw_bytes a_this_shop_paysLaw_draft a_this_shop_valuesLaw_names a_this_shop_valuesLaw_code a_this_shop_valuesLaw_stack a_this_shop_valuesLaw_bytes a_this_shop_valuesLaw_draft this_imaged this_images this_bestPaid this_bestNet (out.2.1) this_shop_takings this_shop_costs this_shop_goes this_shop_z this_shop_fed this_shop_waits (out.2.2.1) this_shop_paysLaw_drafted this_shop_paysLaw_end this_shop_paysLaw_place this_shop_paysLaw_failed (out.2.2.2) this_shop_valuesLaw_drafted this_shop_valuesLaw_end this_shop_valuesLaw_place this_shop_valuesLaw_failed) (some (.int (out.1))) := by
  refine KM.of (by decide) (Nat.le_of_ble_eq_true rfl) ?_
  intro p e s m below meth c A ls args Q Fx0 hP hK hD hA hS hAm hQ hl
  obtain ⟨hx, hb, hr, hml, hts, hown, hlk, hnm⟩ := Fx0
  have hown : s.vm.findClass RX11 = some m.cls := hown
  have hl : lv_has ls 4 [(0, .ref a_this), (1, .int p0)] := hl
  have fl_10 := hts _ tw_333
  have fl_151 := va_Nw.use (A := args) rfl (hAm.1 _ nw_X11_151 rfl)
  unfold f_X11_untell at hf
  refine lv_iload_n hx hb dX11_untell_0 rfl (lv_at hl 1 rfl) ?_
  refine lv_iconst (v := (0 : Int32)) hx hb dX11_untell_1 (by decide) ?_
  refine lv_iconst (v := (1 : Int32)) hx hb dX11_untell_2 (by decide) ?_
  obtain ⟨r1, hr1, hf⟩ := kb hf
  refine kS (As := [.int p0, .int (0 : Int32), .int (1 : Int32)]) (rest := []) ⟨hx, hb, hml, hown, hts⟩ (c_X11_within l G N p0 (0 : Int32) (1 : Int32) r1 hr1) (kcS 3 hts tw_394 tw_80 tw_392 tw_393 hd_X11_within ⟨Nat.le_of_ble_eq_true rfl, Nat.le_of_ble_eq_true rfl⟩) dX11_untell_3 hl.1 hK hAm hA hP hD hS [] rfl rfl rfl [] rfl rfl rfl (Nat.le_of_ble_eq_true rfl) ⟨Nat.le_refl _, Nat.le_refl _⟩ (fun H locs hP hD hS => ?_)
  have hP : va_P (gD G) vwCl (k_X11_untell G a_this a_this_shop a_this_kept a_this_sheetBits a_this_sheetLengths a_this_sheetNumbers a_this_trace a_this_errors a_this_one a_this_second a_this_extra a_this_room a_this_values a_this_best a_this_shop_goods a_this_shop_tills a_this_shop_tape a_this_shop_paysLaw a_this_shop_valuesLaw a_this_shop_waiting a_this_shop_paysLaw_names a_this_shop_paysLaw_code a_this_shop_paysLaw_stack a_this_shop_paysLaw_bytes a_this_shop_paysLaw_draft a_this_shop_valuesLaw_names a_this_shop_valuesLaw_code a_this_shop_valuesLaw_stack a_this_shop_valuesLaw_bytes a_this_shop_valuesLaw_draft this_imaged this_images this_bestPaid this_bestNet this_errors this_shop_takings this_shop_costs this_shop_goes this_shop_z this_shop_fed this_shop_waits this_shop_paysLaw_length this_shop_paysLaw_drafted this_shop_paysLaw_end this_shop_paysLaw_place this_shop_paysLaw_failed this_shop_valuesLaw_length this_shop_valuesLaw_drafted this_shop_valuesLaw_end this_shop_valuesLaw_place this_shop_valuesLaw_failed) H := hP
  have hD : va_D A (k_X11_untell G a_this a_this_shop a_this_kept a_this_sheetBits a_this_sheetLengths a_this_sheetNumbers a_this_trace a_this_errors a_this_one a_this_second a_this_extra a_this_room a_this_values a_this_best a_this_shop_goods a_this_shop_tills a_this_shop_tape a_this_shop_paysLaw a_this_shop_valuesLaw a_this_shop_waiting a_this_shop_paysLaw_names a_this_shop_paysLaw_code a_this_shop_paysLaw_stack a_this_shop_paysLaw_bytes a_this_shop_paysLaw_draft a_this_shop_valuesLaw_names a_this_shop_valuesLaw_code a_this_shop_valuesLaw_stack a_this_shop_valuesLaw_bytes a_this_shop_valuesLaw_draft this_imaged this_images this_bestPaid this_bestNet this_errors this_shop_takings this_shop_costs this_shop_goes this_shop_z this_shop_fed this_shop_waits this_shop_paysLaw_length this_shop_paysLaw_drafted this_shop_paysLaw_end this_shop_paysLaw_place this_shop_paysLaw_failed this_shop_valuesLaw_length this_shop_valuesLaw_drafted this_shop_valuesLaw_end this_shop_valuesLaw_place this_shop_valuesLaw_failed) := hD
  refine lv_if_ne (tgt := 15) hx hb dX11_untell_6 (by decide) (fun c2 => ?_) (fun c2 => ?_)
  · replace hf := kf c2 hf
    refine lv_aload_n hx hb dX11_untell_15 rfl (lv_at hl 0 rfl) ?_
    refine va_get (D := gD G) (ci := 11) (C := RX11) (T := TX11) (N := 17) hx hb hts hin_X11 hown hK hP 0 rfl rfl 0 (by decide) fl_10 (fun _ h9 => h9) rfl dX11_untell_16 ?_
    refine lv_iload_n hx hb dX11_untell_19 rfl (lv_at hl 1 rfl) ?_
    obtain ⟨r3, hr3, hf⟩ := kb hf
    refine kVN (As := [.int p0]) (rest := []) ⟨hx, hb, hml, hown, hts⟩ (c_X7_law l G N a_this_shop a_this_shop_goods a_this_shop_tills a_this_shop_tape a_this_shop_paysLaw a_this_shop_valuesLaw a_this_shop_waiting p0 this_shop_takings this_shop_costs this_shop_goes this_shop_z this_shop_fed this_shop_waits r3 hr3) ⟨kcN 1 hts hAm nw_X11_137 tw_567 tw_81 hd_X7_law ⟨Nat.le_of_ble_eq_true rfl, Nat.le_of_ble_eq_true rfl⟩, hts _ tw_566, hts _ tw_5⟩ dX11_untell_20 hl.1 hK hAm hA hP hD hS 2 (ci := 7) rfl rfl rfl [2] rfl rfl rfl [] rfl rfl rfl (Nat.le_of_ble_eq_true rfl) ⟨Nat.le_refl _, Nat.le_refl _⟩ (fun H locs hP hD hS => ?_)
    have hP : va_P (gD G) vwCl (k_X11_untell G a_this a_this_shop a_this_kept a_this_sheetBits a_this_sheetLengths a_this_sheetNumbers a_this_trace a_this_errors a_this_one a_this_second a_this_extra a_this_room a_this_values a_this_best a_this_shop_goods a_this_shop_tills a_this_shop_tape a_this_shop_paysLaw a_this_shop_valuesLaw a_this_shop_waiting a_this_shop_paysLaw_names a_this_shop_paysLaw_code a_this_shop_paysLaw_stack a_this_shop_paysLaw_bytes a_this_shop_paysLaw_draft a_this_shop_valuesLaw_names a_this_shop_valuesLaw_code a_this_shop_valuesLaw_stack a_this_shop_valuesLaw_bytes a_this_shop_valuesLaw_draft this_imaged this_images this_bestPaid this_bestNet this_errors this_shop_takings this_shop_costs this_shop_goes this_shop_z this_shop_fed this_shop_waits this_shop_paysLaw_length this_shop_paysLaw_drafted this_shop_paysLaw_end this_shop_paysLaw_place this_shop_paysLaw_failed this_shop_valuesLaw_length this_shop_valuesLaw_drafted this_shop_valuesLaw_end this_shop_valuesLaw_place this_shop_valuesLaw_failed) H := hP
    have hD : va_D A (k_X11_untell G a_this a_this_shop a_this_kept a_this_sheetBits a_this_sheetLengths a_this_sheetNumbers a_this_trace a_this_errors a_this_one a_this_second a_this_extra a_this_room a_this_values a_this_best a_this_shop_goods a_this_shop_tills a_this_shop_tape a_this_shop_paysLaw a_this_shop_valuesLaw a_this_shop_waiting a_this_shop_paysLaw_names a_this_shop_paysLaw_code a_this_shop_paysLaw_stack a_this_shop_paysLaw_bytes a_this_shop_paysLaw_draft a_this_shop_valuesLaw_names a_this_shop_valuesLaw_code a_this_shop_valuesLaw_stack a_this_shop_valuesLaw_bytes a_this_shop_valuesLaw_draft this_imaged this_images this_bestPaid this_bestNet this_errors this_shop_takings this_shop_costs this_shop_goes this_shop_z this_shop_fed this_shop_waits this_shop_paysLaw_length this_shop_paysLaw_drafted this_shop_paysLaw_end this_shop_paysLaw_place this_shop_paysLaw_failed this_shop_valuesLaw_length this_shop_valuesLaw_drafted this_shop_valuesLaw_end this_shop_valuesLaw_place this_shop_valuesLaw_failed) := hD
    by_cases c4 : r3 = 0
    · replace hf := kt c4 hf
      subst c4
      refine lv_astore_n (lv' := [(2, .ref a_this_shop_valuesLaw), (0, .ref a_this), (1, .int p0)]) hx hb dX11_untell_23 rfl hl (by decide) rfl (fun ls hl => ?_)
      refine lv_aload_n hx hb dX11_untell_24 rfl (lv_at hl 0 rfl) ?_
      obtain ⟨r5, hr5, hf⟩ := kb hf
      refine kVN (As := []) (rest := []) ⟨hx, hb, hml, hown, hts⟩ (c_X4_isTold l G N a_this_shop_valuesLaw a_this_shop_valuesLaw_names a_this_shop_valuesLaw_code a_this_shop_valuesLaw_stack a_this_shop_valuesLaw_bytes a_this_shop_valuesLaw_draft this_shop_valuesLaw_length this_shop_valuesLaw_drafted this_shop_valuesLaw_end this_shop_valuesLaw_place this_shop_valuesLaw_failed r5 hr5) ⟨kcN 0 hts hAm nw_X11_147 tw_418 tw_82 hd_X4_isTold ⟨Nat.le_of_ble_eq_true rfl, Nat.le_of_ble_eq_true rfl⟩, hts _ tw_417, hts _ tw_2⟩ dX11_untell_25 hl.1 hK hAm hA hP hD hS 4 (ci := 4) rfl rfl rfl [4] rfl rfl rfl [] rfl rfl rfl (Nat.le_of_ble_eq_true rfl) ⟨Nat.le_refl _, Nat.le_refl _⟩ (fun H locs hP hD hS => ?_)
      have hP : va_P (gD G) vwCl (k_X11_untell G a_this a_this_shop a_this_kept a_this_sheetBits a_this_sheetLengths a_this_sheetNumbers a_this_trace a_this_errors a_this_one a_this_second a_this_extra a_this_room a_this_values a_this_best a_this_shop_goods a_this_shop_tills a_this_shop_tape a_this_shop_paysLaw a_this_shop_valuesLaw a_this_shop_waiting a_this_shop_paysLaw_names a_this_shop_paysLaw_code a_this_shop_paysLaw_stack a_this_shop_paysLaw_bytes a_this_shop_paysLaw_draft a_this_shop_valuesLaw_names a_this_shop_valuesLaw_code a_this_shop_valuesLaw_stack a_this_shop_valuesLaw_bytes a_this_shop_valuesLaw_draft this_imaged this_images this_bestPaid this_bestNet this_errors this_shop_takings this_shop_costs this_shop_goes this_shop_z this_shop_fed this_shop_waits this_shop_paysLaw_length this_shop_paysLaw_drafted this_shop_paysLaw_end this_shop_paysLaw_place this_shop_paysLaw_failed this_shop_valuesLaw_length this_shop_valuesLaw_drafted this_shop_valuesLaw_end this_shop_valuesLaw_place this_shop_valuesLaw_failed) H := hP
      have hD : va_D A (k_X11_untell G a_this a_this_shop a_this_kept a_this_sheetBits a_this_sheetLengths a_this_sheetNumbers a_this_trace a_this_errors a_this_one a_this_second a_this_extra a_this_room a_this_values a_this_best a_this_shop_goods a_this_shop_tills a_this_shop_tape a_this_shop_paysLaw a_this_shop_valuesLaw a_this_shop_waiting a_this_shop_paysLaw_names a_this_shop_paysLaw_code a_this_shop_paysLaw_stack a_this_shop_paysLaw_bytes a_this_shop_paysLaw_draft a_this_shop_valuesLaw_names a_this_shop_valuesLaw_code a_this_shop_valuesLaw_stack a_this_shop_valuesLaw_bytes a_this_shop_valuesLaw_draft this_imaged this_images this_bestPaid this_bestNet this_errors this_shop_takings this_shop_costs this_shop_goes this_shop_z this_shop_fed this_shop_waits this_shop_paysLaw_length this_shop_paysLaw_drafted this_shop_paysLaw_end this_shop_paysLaw_place this_shop_paysLaw_failed this_shop_valuesLaw_length this_shop_valuesLaw_drafted this_shop_valuesLaw_end this_shop_valuesLaw_place this_shop_valuesLaw_failed) := hD
      refine lv_if_eq (tgt := 35) hx hb dX11_untell_28 (by decide) (fun c6 => ?_) (fun c6 => ?_)
      · replace hf := kt c6 hf
        refine lv_iconst (v := (0 : Int32)) hx hb dX11_untell_35 (by decide) ?_
        refine lv_istore_n (lv' := [(3, .int (0 : Int32)), (2, .ref a_this_shop_valuesLaw), (0, .ref a_this), (1, .int p0)]) hx hb dX11_untell_36 rfl hl (by decide) rfl (fun ls hl => ?_)
        refine lv_aload_n hx hb dX11_untell_37 rfl (lv_at hl 1 rfl) ?_
        refine lv_iconst (v := (0 : Int32)) hx hb dX11_untell_38 (by decide) ?_
        refine va_putN (D := gD G) (ci := 4) (v := .int (0 : Int32)) (ty := .int) (C := RX4) (T := TX4) (N := 10) hx hb hts hin_X4 tyX4 tyX4_ok nmX4 hown hK hP hD hS 4 rfl rfl 2 (by decide) fl_151 (fun _ h9 => h9) rfl (by decide +kernel) rfl rfl (Nat.le_of_ble_eq_true rfl) dX11_untell_39 (fun H locs hP hD hS => ?_)
        have hP : va_P (gD G) vwCl (k_X11_untell G a_this a_this_shop a_this_kept a_this_sheetBits a_this_sheetLengths a_this_sheetNumbers a_this_trace a_this_errors a_this_one a_this_second a_this_extra a_this_room a_this_values a_this_best a_this_shop_goods a_this_shop_tills a_this_shop_tape a_this_shop_paysLaw a_this_shop_valuesLaw a_this_shop_waiting a_this_shop_paysLaw_names a_this_shop_paysLaw_code a_this_shop_paysLaw_stack a_this_shop_paysLaw_bytes a_this_shop_paysLaw_draft a_this_shop_valuesLaw_names a_this_shop_valuesLaw_code a_this_shop_valuesLaw_stack a_this_shop_valuesLaw_bytes a_this_shop_valuesLaw_draft this_imaged this_images this_bestPaid this_bestNet this_errors this_shop_takings this_shop_costs this_shop_goes this_shop_z this_shop_fed this_shop_waits this_shop_paysLaw_length this_shop_paysLaw_drafted this_shop_paysLaw_end this_shop_paysLaw_place this_shop_paysLaw_failed (0 : Int32) this_shop_valuesLaw_drafted this_shop_valuesLaw_end this_shop_valuesLaw_place this_shop_valuesLaw_failed) H := hP
        have hD : va_D A (k_X11_untell G a_this a_this_shop a_this_kept a_this_sheetBits a_this_sheetLengths a_this_sheetNumbers a_this_trace a_this_errors a_this_one a_this_second a_this_extra a_this_room a_this_values a_this_best a_this_shop_goods a_this_shop_tills a_this_shop_tape a_this_shop_paysLaw a_this_shop_valuesLaw a_this_shop_waiting a_this_shop_paysLaw_names a_this_shop_paysLaw_code a_this_shop_paysLaw_stack a_this_shop_paysLaw_bytes a_this_shop_paysLaw_draft a_this_shop_valuesLaw_names a_this_shop_valuesLaw_code a_this_shop_valuesLaw_stack a_this_shop_valuesLaw_bytes a_this_shop_valuesLaw_draft this_imaged this_images this_bestPaid this_bestNet this_errors this_shop_takings this_shop_costs this_shop_goes this_shop_z this_shop_fed this_shop_waits this_shop_paysLaw_length this_shop_paysLaw_drafted this_shop_paysLaw_end this_shop_paysLaw_place this_shop_paysLaw_failed (0 : Int32) this_shop_valuesLaw_drafted this_shop_valuesLaw_end this_shop_valuesLaw_place this_shop_valuesLaw_failed) := hD
        refine lv_iload_n hx hb dX11_untell_42 rfl (lv_at hl 0 rfl) ?_
        have ho := ks hf
        subst ho
        exact kiret hx hb hr hlk hP hD hS hQ dX11_untell_43
      · replace hf := kf c6 hf
        refine lv_iconst (v := (1 : Int32)) hx hb dX11_untell_31 (by decide) ?_
        refine lv_goto (tgt := 36) hx hb dX11_untell_32 (by decide) ?_
        refine lv_istore_n (lv' := [(3, .int (1 : Int32)), (2, .ref a_this_shop_valuesLaw), (0, .ref a_this), (1, .int p0)]) hx hb dX11_untell_36 rfl hl (by decide) rfl (fun ls hl => ?_)
        refine lv_aload_n hx hb dX11_untell_37 rfl (lv_at hl 1 rfl) ?_
        refine lv_iconst (v := (0 : Int32)) hx hb dX11_untell_38 (by decide) ?_
        refine va_putN (D := gD G) (ci := 4) (v := .int (0 : Int32)) (ty := .int) (C := RX4) (T := TX4) (N := 10) hx hb hts hin_X4 tyX4 tyX4_ok nmX4 hown hK hP hD hS 4 rfl rfl 2 (by decide) fl_151 (fun _ h9 => h9) rfl (by decide +kernel) rfl rfl (Nat.le_of_ble_eq_true rfl) dX11_untell_39 (fun H locs hP hD hS => ?_)
        have hP : va_P (gD G) vwCl (k_X11_untell G a_this a_this_shop a_this_kept a_this_sheetBits a_this_sheetLengths a_this_sheetNumbers a_this_trace a_this_errors a_this_one a_this_second a_this_extra a_this_room a_this_values a_this_best a_this_shop_goods a_this_shop_tills a_this_shop_tape a_this_shop_paysLaw a_this_shop_valuesLaw a_this_shop_waiting a_this_shop_paysLaw_names a_this_shop_paysLaw_code a_this_shop_paysLaw_stack a_this_shop_paysLaw_bytes a_this_shop_paysLaw_draft a_this_shop_valuesLaw_names a_this_shop_valuesLaw_code a_this_shop_valuesLaw_stack a_this_shop_valuesLaw_bytes a_this_shop_valuesLaw_draft this_imaged this_images this_bestPaid this_bestNet this_errors this_shop_takings this_shop_costs this_shop_goes this_shop_z this_shop_fed this_shop_waits this_shop_paysLaw_length this_shop_paysLaw_drafted this_shop_paysLaw_end this_shop_paysLaw_place this_shop_paysLaw_failed (0 : Int32) this_shop_valuesLaw_drafted this_shop_valuesLaw_end this_shop_valuesLaw_place this_shop_valuesLaw_failed) H := hP
        have hD : va_D A (k_X11_untell G a_this a_this_shop a_this_kept a_this_sheetBits a_this_sheetLengths a_this_sheetNumbers a_this_trace a_this_errors a_this_one a_this_second a_this_extra a_this_room a_this_values a_this_best a_this_shop_goods a_this_shop_tills a_this_shop_tape a_this_shop_paysLaw a_this_shop_valuesLaw a_this_shop_waiting a_this_shop_paysLaw_names a_this_shop_paysLaw_code a_this_shop_paysLaw_stack a_this_shop_paysLaw_bytes a_this_shop_paysLaw_draft a_this_shop_valuesLaw_names a_this_shop_valuesLaw_code a_this_shop_valuesLaw_stack a_this_shop_valuesLaw_bytes a_this_shop_valuesLaw_draft this_imaged this_images this_bestPaid this_bestNet this_errors this_shop_takings this_shop_costs this_shop_goes this_shop_z this_shop_fed this_shop_waits this_shop_paysLaw_length this_shop_paysLaw_drafted this_shop_paysLaw_end this_shop_paysLaw_place this_shop_paysLaw_failed (0 : Int32) this_shop_valuesLaw_drafted this_shop_valuesLaw_end this_shop_valuesLaw_place this_shop_valuesLaw_failed) := hD
        refine lv_iload_n hx hb dX11_untell_42 rfl (lv_at hl 0 rfl) ?_
        have ho := ks hf
        subst ho
        exact kiret hx hb hr hlk hP hD hS hQ dX11_untell_43
    · replace hf := kf c4 hf
      have e9 : tag2 r3 a_this_shop_valuesLaw a_this_shop_paysLaw = a_this_shop_paysLaw := if_neg c4
      dsimp only [Option.toList, List.cons_append, List.nil_append]
      rw [e9]
      refine lv_astore_n (lv' := [(2, .ref a_this_shop_paysLaw), (0, .ref a_this), (1, .int p0)]) hx hb dX11_untell_23 rfl hl (by decide) rfl (fun ls hl => ?_)
      refine lv_aload_n hx hb dX11_untell_24 rfl (lv_at hl 0 rfl) ?_
      obtain ⟨r7, hr7, hf⟩ := kb hf
      refine kVN (As := []) (rest := []) ⟨hx, hb, hml, hown, hts⟩ (c_X4_isTold l G N a_this_shop_paysLaw a_this_shop_paysLaw_names a_this_shop_paysLaw_code a_this_shop_paysLaw_stack a_this_shop_paysLaw_bytes a_this_shop_paysLaw_draft this_shop_paysLaw_length this_shop_paysLaw_drafted this_shop_paysLaw_end this_shop_paysLaw_place this_shop_paysLaw_failed r7 hr7) ⟨kcN 0 hts hAm nw_X11_147 tw_418 tw_82 hd_X4_isTold ⟨Nat.le_of_ble_eq_true rfl, Nat.le_of_ble_eq_true rfl⟩, hts _ tw_417, hts _ tw_2⟩ dX11_untell_25 hl.1 hK hAm hA hP hD hS 3 (ci := 4) rfl rfl rfl [3] rfl rfl rfl [] rfl rfl rfl (Nat.le_of_ble_eq_true rfl) ⟨Nat.le_refl _, Nat.le_refl _⟩ (fun H locs hP hD hS => ?_)
      have hP : va_P (gD G) vwCl (k_X11_untell G a_this a_this_shop a_this_kept a_this_sheetBits a_this_sheetLengths a_this_sheetNumbers a_this_trace a_this_errors a_this_one a_this_second a_this_extra a_this_room a_this_values a_this_best a_this_shop_goods a_this_shop_tills a_this_shop_tape a_this_shop_paysLaw a_this_shop_valuesLaw a_this_shop_waiting a_this_shop_paysLaw_names a_this_shop_paysLaw_code a_this_shop_paysLaw_stack a_this_shop_paysLaw_bytes a_this_shop_paysLaw_draft a_this_shop_valuesLaw_names a_this_shop_valuesLaw_code a_this_shop_valuesLaw_stack a_this_shop_valuesLaw_bytes a_this_shop_valuesLaw_draft this_imaged this_images this_bestPaid this_bestNet this_errors this_shop_takings this_shop_costs this_shop_goes this_shop_z this_shop_fed this_shop_waits this_shop_paysLaw_length this_shop_paysLaw_drafted this_shop_paysLaw_end this_shop_paysLaw_place this_shop_paysLaw_failed this_shop_valuesLaw_length this_shop_valuesLaw_drafted this_shop_valuesLaw_end this_shop_valuesLaw_place this_shop_valuesLaw_failed) H := hP
      have hD : va_D A (k_X11_untell G a_this a_this_shop a_this_kept a_this_sheetBits a_this_sheetLengths a_this_sheetNumbers a_this_trace a_this_errors a_this_one a_this_second a_this_extra a_this_room a_this_values a_this_best a_this_shop_goods a_this_shop_tills a_this_shop_tape a_this_shop_paysLaw a_this_shop_valuesLaw a_this_shop_waiting a_this_shop_paysLaw_names a_this_shop_paysLaw_code a_this_shop_paysLaw_stack a_this_shop_paysLaw_bytes a_this_shop_paysLaw_draft a_this_shop_valuesLaw_names a_this_shop_valuesLaw_code a_this_shop_valuesLaw_stack a_this_shop_valuesLaw_bytes a_this_shop_valuesLaw_draft this_imaged this_images this_bestPaid this_bestNet this_errors this_shop_takings this_shop_costs this_shop_goes this_shop_z this_shop_fed this_shop_waits this_shop_paysLaw_length this_shop_paysLaw_drafted this_shop_paysLaw_end this_shop_paysLaw_place this_shop_paysLaw_failed this_shop_valuesLaw_length this_shop_valuesLaw_drafted this_shop_valuesLaw_end this_shop_valuesLaw_place this_shop_valuesLaw_failed) := hD
      refine lv_if_eq (tgt := 35) hx hb dX11_untell_28 (by decide) (fun c8 => ?_) (fun c8 => ?_)
      · replace hf := kt c8 hf
        refine lv_iconst (v := (0 : Int32)) hx hb dX11_untell_35 (by decide) ?_
        refine lv_istore_n (lv' := [(3, .int (0 : Int32)), (2, .ref a_this_shop_paysLaw), (0, .ref a_this), (1, .int p0)]) hx hb dX11_untell_36 rfl hl (by decide) rfl (fun ls hl => ?_)
        refine lv_aload_n hx hb dX11_untell_37 rfl (lv_at hl 1 rfl) ?_
        refine lv_iconst (v := (0 : Int32)) hx hb dX11_untell_38 (by decide) ?_
        refine va_putN (D := gD G) (ci := 4) (v := .int (0 : Int32)) (ty := .int) (C := RX4) (T := TX4) (N := 10) hx hb hts hin_X4 tyX4 tyX4_ok nmX4 hown hK hP hD hS 3 rfl rfl 2 (by decide) fl_151 (fun _ h9 => h9) rfl (by decide +kernel) rfl rfl (Nat.le_of_ble_eq_true rfl) dX11_untell_39 (fun H locs hP hD hS => ?_)
        have hP : va_P (gD G) vwCl (k_X11_untell G a_this a_this_shop a_this_kept a_this_sheetBits a_this_sheetLengths a_this_sheetNumbers a_this_trace a_this_errors a_this_one a_this_second a_this_extra a_this_room a_this_values a_this_best a_this_shop_goods a_this_shop_tills a_this_shop_tape a_this_shop_paysLaw a_this_shop_valuesLaw a_this_shop_waiting a_this_shop_paysLaw_names a_this_shop_paysLaw_code a_this_shop_paysLaw_stack a_this_shop_paysLaw_bytes a_this_shop_paysLaw_draft a_this_shop_valuesLaw_names a_this_shop_valuesLaw_code a_this_shop_valuesLaw_stack a_this_shop_valuesLaw_bytes a_this_shop_valuesLaw_draft this_imaged this_images this_bestPaid this_bestNet this_errors this_shop_takings this_shop_costs this_shop_goes this_shop_z this_shop_fed this_shop_waits (0 : Int32) this_shop_paysLaw_drafted this_shop_paysLaw_end this_shop_paysLaw_place this_shop_paysLaw_failed this_shop_valuesLaw_length this_shop_valuesLaw_drafted this_shop_valuesLaw_end this_shop_valuesLaw_place this_shop_valuesLaw_failed) H := hP
        have hD : va_D A (k_X11_untell G a_this a_this_shop a_this_kept a_this_sheetBits a_this_sheetLengths a_this_sheetNumbers a_this_trace a_this_errors a_this_one a_this_second a_this_extra a_this_room a_this_values a_this_best a_this_shop_goods a_this_shop_tills a_this_shop_tape a_this_shop_paysLaw a_this_shop_valuesLaw a_this_shop_waiting a_this_shop_paysLaw_names a_this_shop_paysLaw_code a_this_shop_paysLaw_stack a_this_shop_paysLaw_bytes a_this_shop_paysLaw_draft a_this_shop_valuesLaw_names a_this_shop_valuesLaw_code a_this_shop_valuesLaw_stack a_this_shop_valuesLaw_bytes a_this_shop_valuesLaw_draft this_imaged this_images this_bestPaid this_bestNet this_errors this_shop_takings this_shop_costs this_shop_goes this_shop_z this_shop_fed this_shop_waits (0 : Int32) this_shop_paysLaw_drafted this_shop_paysLaw_end this_shop_paysLaw_place this_shop_paysLaw_failed this_shop_valuesLaw_length this_shop_valuesLaw_drafted this_shop_valuesLaw_end this_shop_valuesLaw_place this_shop_valuesLaw_failed) := hD
        refine lv_iload_n hx hb dX11_untell_42 rfl (lv_at hl 0 rfl) ?_
        have ho := ks hf
        subst ho
        exact kiret hx hb hr hlk hP hD hS hQ dX11_untell_43
      · replace hf := kf c8 hf
        refine lv_iconst (v := (1 : Int32)) hx hb dX11_untell_31 (by decide) ?_
        refine lv_goto (tgt := 36) hx hb dX11_untell_32 (by decide) ?_
        refine lv_istore_n (lv' := [(3, .int (1 : Int32)), (2, .ref a_this_shop_paysLaw), (0, .ref a_this), (1, .int p0)]) hx hb dX11_untell_36 rfl hl (by decide) rfl (fun ls hl => ?_)
        refine lv_aload_n hx hb dX11_untell_37 rfl (lv_at hl 1 rfl) ?_
        refine lv_iconst (v := (0 : Int32)) hx hb dX11_untell_38 (by decide) ?_
        refine va_putN (D := gD G) (ci := 4) (v := .int (0 : Int32)) (ty := .int) (C := RX4) (T := TX4) (N := 10) hx hb hts hin_X4 tyX4 tyX4_ok nmX4 hown hK hP hD hS 3 rfl rfl 2 (by decide) fl_151 (fun _ h9 => h9) rfl (by decide +kernel) rfl rfl (Nat.le_of_ble_eq_true rfl) dX11_untell_39 (fun H locs hP hD hS => ?_)
        have hP : va_P (gD G) vwCl (k_X11_untell G a_this a_this_shop a_this_kept a_this_sheetBits a_this_sheetLengths a_this_sheetNumbers a_this_trace a_this_errors a_this_one a_this_second a_this_extra a_this_room a_this_values a_this_best a_this_shop_goods a_this_shop_tills a_this_shop_tape a_this_shop_paysLaw a_this_shop_valuesLaw a_this_shop_waiting a_this_shop_paysLaw_names a_this_shop_paysLaw_code a_this_shop_paysLaw_stack a_this_shop_paysLaw_bytes a_this_shop_paysLaw_draft a_this_shop_valuesLaw_names a_this_shop_valuesLaw_code a_this_shop_valuesLaw_stack a_this_shop_valuesLaw_bytes a_this_shop_valuesLaw_draft this_imaged this_images this_bestPaid this_bestNet this_errors this_shop_takings this_shop_costs this_shop_goes this_shop_z this_shop_fed this_shop_waits (0 : Int32) this_shop_paysLaw_drafted this_shop_paysLaw_end this_shop_paysLaw_place this_shop_paysLaw_failed this_shop_valuesLaw_length this_shop_valuesLaw_drafted this_shop_valuesLaw_end this_shop_valuesLaw_place this_shop_valuesLaw_failed) H := hP
        have hD : va_D A (k_X11_untell G a_this a_this_shop a_this_kept a_this_sheetBits a_this_sheetLengths a_this_sheetNumbers a_this_trace a_this_errors a_this_one a_this_second a_this_extra a_this_room a_this_values a_this_best a_this_shop_goods a_this_shop_tills a_this_shop_tape a_this_shop_paysLaw a_this_shop_valuesLaw a_this_shop_waiting a_this_shop_paysLaw_names a_this_shop_paysLaw_code a_this_shop_paysLaw_stack a_this_shop_paysLaw_bytes a_this_shop_paysLaw_draft a_this_shop_valuesLaw_names a_this_shop_valuesLaw_code a_this_shop_valuesLaw_stack a_this_shop_valuesLaw_bytes a_this_shop_valuesLaw_draft this_imaged this_images this_bestPaid this_bestNet this_errors this_shop_takings this_shop_costs this_shop_goes this_shop_z this_shop_fed this_shop_waits (0 : Int32) this_shop_paysLaw_drafted this_shop_paysLaw_end this_shop_paysLaw_place this_shop_paysLaw_failed this_shop_valuesLaw_length this_shop_valuesLaw_drafted this_shop_valuesLaw_end this_shop_valuesLaw_place this_shop_valuesLaw_failed) := hD
        refine lv_iload_n hx hb dX11_untell_42 rfl (lv_at hl 0 rfl) ?_
        have ho := ks hf
        subst ho
        exact kiret hx hb hr hlk hP hD hS hQ dX11_untell_43
  · replace hf := kt c2 hf
    refine lv_aload_n hx hb dX11_untell_9 rfl (lv_at hl 0 rfl) ?_
    refine lv_iconst (v := (1 : Int32)) hx hb dX11_untell_10 (by decide) ?_
    obtain ⟨r9, hr9, hf⟩ := kb hf
    refine kV (As := [.int (1 : Int32)]) (rest := []) ⟨hx, hb, hml, hown, hts⟩ (c_X11_error l G N a_this a_this_shop a_this_kept a_this_sheetBits a_this_sheetLengths a_this_sheetNumbers a_this_trace a_this_errors a_this_one a_this_second a_this_extra a_this_room a_this_values a_this_best (1 : Int32) this_imaged this_images this_bestPaid this_bestNet this_errors r9 hr9) (kcV 1 hts tw_405 tw_80 tw_402 tw_404 tw_0 hd_X11_error ⟨Nat.le_of_ble_eq_true rfl, Nat.le_of_ble_eq_true rfl⟩) dX11_untell_11 hl.1 hK hAm hA hP hD hS 0 (ci := 11) rfl rfl rfl [0, 1] rfl rfl rfl [1] rfl rfl rfl (Nat.le_of_ble_eq_true rfl) ⟨Nat.le_refl _, Nat.le_refl _⟩ (fun H locs hP hD hS => ?_)
    have hP : va_P (gD G) vwCl (k_X11_untell G a_this a_this_shop a_this_kept a_this_sheetBits a_this_sheetLengths a_this_sheetNumbers a_this_trace a_this_errors a_this_one a_this_second a_this_extra a_this_room a_this_values a_this_best a_this_shop_goods a_this_shop_tills a_this_shop_tape a_this_shop_paysLaw a_this_shop_valuesLaw a_this_shop_waiting a_this_shop_paysLaw_names a_this_shop_paysLaw_code a_this_shop_paysLaw_stack a_this_shop_paysLaw_bytes a_this_shop_paysLaw_draft a_this_shop_valuesLaw_names a_this_shop_valuesLaw_code a_this_shop_valuesLaw_stack a_this_shop_valuesLaw_bytes a_this_shop_valuesLaw_draft this_imaged this_images this_bestPaid this_bestNet r9.2 this_shop_takings this_shop_costs this_shop_goes this_shop_z this_shop_fed this_shop_waits this_shop_paysLaw_length this_shop_paysLaw_drafted this_shop_paysLaw_end this_shop_paysLaw_place this_shop_paysLaw_failed this_shop_valuesLaw_length this_shop_valuesLaw_drafted this_shop_valuesLaw_end this_shop_valuesLaw_place this_shop_valuesLaw_failed) H := hP
    have hD : va_D A (k_X11_untell G a_this a_this_shop a_this_kept a_this_sheetBits a_this_sheetLengths a_this_sheetNumbers a_this_trace a_this_errors a_this_one a_this_second a_this_extra a_this_room a_this_values a_this_best a_this_shop_goods a_this_shop_tills a_this_shop_tape a_this_shop_paysLaw a_this_shop_valuesLaw a_this_shop_waiting a_this_shop_paysLaw_names a_this_shop_paysLaw_code a_this_shop_paysLaw_stack a_this_shop_paysLaw_bytes a_this_shop_paysLaw_draft a_this_shop_valuesLaw_names a_this_shop_valuesLaw_code a_this_shop_valuesLaw_stack a_this_shop_valuesLaw_bytes a_this_shop_valuesLaw_draft this_imaged this_images this_bestPaid this_bestNet r9.2 this_shop_takings this_shop_costs this_shop_goes this_shop_z this_shop_fed this_shop_waits this_shop_paysLaw_length this_shop_paysLaw_drafted this_shop_paysLaw_end this_shop_paysLaw_place this_shop_paysLaw_failed this_shop_valuesLaw_length this_shop_valuesLaw_drafted this_shop_valuesLaw_end this_shop_valuesLaw_place this_shop_valuesLaw_failed) := hD
    have ho := ks hf
    subst ho
    exact kiret hx hb hr hlk hP hD hS hQ dX11_untell_14
abbrev k_X11_body (G : KG) (a_this : Nat) (a_this_shop : Nat) (a_this_kept : Nat) (a_this_sheetBits : Nat) (a_this_sheetLengths : Nat) (a_this_sheetNumbers : Nat) (a_this_trace : Nat) (a_this_errors : Nat) (a_this_one : Nat) (a_this_second : Nat) (a_this_extra : Nat) (a_this_room : Nat) (a_this_values : Nat) (a_this_best : Nat) (a_this_trace_bodies : Nat) (this_imaged : Int32) (this_images : Int32) (this_bestPaid : Int32) (this_bestNet : Int32) (this_errors : Nat → Int32) (this_trace_length : Int32) (this_trace_parted : Int32) (this_trace_bodies : Nat → Int32) : va_W := [(a_this, .inr (11, [.ref a_this_shop, .ref a_this_kept, .int this_imaged, .int this_images, .ref a_this_sheetBits, .ref a_this_sheetLengths, .ref a_this_sheetNumbers, .ref a_this_trace, .ref a_this_errors, .ref a_this_one, .ref a_this_second, .ref a_this_extra, .ref a_this_room, .ref a_this_values, .ref a_this_best, .int this_bestPaid, .int this_bestNet])), (a_this_errors, .inl (gI G, 7, .inl this_errors)), (a_this_trace, .inr (10, [.ref a_this_trace_bodies, .int this_trace_length, .int this_trace_parted])), (a_this_trace_bodies, .inl (gI G, 30, .inl this_trace_bodies))]
def f_X11_body (N : Nat) (p0 : Int32) (this_errors : Nat → Int32) (this_trace_length : Int32) (this_trace_bodies : Nat → Int32) : Option (Int32 × (Nat → Int32)) := ((f_X11_within N p0 (0 : Int32) (this_trace_length - (1 : Int32))).bind fun r1 => (if r1 = 0 then ((f_X11_error N (2 : Int32) this_errors).bind fun r3 => (some (r3.1, r3.2))) else (if vin p0 30 = true then (some ((this_trace_bodies p0.toNatClampNeg), this_errors)) else none)))
set_option maxRecDepth 100000 in
set_option maxHeartbeats 4000000 in
theorem c_X11_body (l : Launch) (G : KG) (N : Nat) (a_this : Nat) (a_this_shop : Nat) (a_this_kept : Nat) (a_this_sheetBits : Nat) (a_this_sheetLengths : Nat) (a_this_sheetNumbers : Nat) (a_this_trace : Nat) (a_this_errors : Nat) (a_this_one : Nat) (a_this_second : Nat) (a_this_extra : Nat) (a_this_room : Nat) (a_this_values : Nat) (a_this_best : Nat) (a_this_trace_bodies : Nat) (p0 : Int32) (this_imaged : Int32) (this_images : Int32) (this_bestPaid : Int32) (this_bestNet : Int32) (this_errors : Nat → Int32) (this_trace_length : Int32) (this_trace_parted : Int32) (this_trace_bodies : Nat → Int32)  (out : Int32 × (Nat → Int32)) (hf : f_X11_body N p0 this_errors this_trace_length this_trace_bodies = some out) : KM l G yX11_body (kw yX11_body cX11_body 2 (some .int)) 2 43 [.ref a_this, .int p0] (k_X11_body G a_this a_this_shop a_this_kept a_this_sheetBits a_this_sheetLengths a_this_sheetNumbers a_this_trace a_this_errors a_this_one a_this_second a_this_extra a_this_room a_this_values a_this_best a_this_trace_bodies this_imaged this_images this_bestPaid this_bestNet this_errors this_trace_length this_trace_parted this_trace_bodies) (k_X11_body G a_this a_this_shop a_this_kept a_this_sheetBits a_this_sheetLengths a_this_sheetNumbers a_this_trace a_this_errors a_this_one a_this_second a_this_extra a_this_room a_this_values a_this_best a_this_trace_bodies this_imaged this_images this_bestPaid this_bestNet (out.2) this_trace_length this_trace_parted this_trace_bodies) (some (.int (out.1))) := by
  refine KM.of (by decide) (Nat.le_of_ble_eq_true rfl) ?_
  intro p e s m below meth c A ls args Q Fx0 hP hK hD hA hS hAm hQ hl
  obtain ⟨hx, hb, hr, hml, hts, hown, hlk, hnm⟩ := Fx0
  have hown : s.vm.findClass RX11 = some m.cls := hown
  have hl : lv_has ls 2 [(0, .ref a_this), (1, .int p0)] := hl
  have fl_42 := hts _ tw_340
  have fl_258 := va_Nw.use (A := args) rfl (hAm.1 _ nw_X11_258 rfl)
  have fl_259 := va_Nw.use (A := args) rfl (hAm.1 _ nw_X11_259 rfl)
  unfold f_X11_body at hf
  refine lv_iload_n hx hb dX11_body_0 rfl (lv_at hl 1 rfl) ?_
  refine lv_iconst (v := (0 : Int32)) hx hb dX11_body_1 (by decide) ?_
  refine lv_aload_n hx hb dX11_body_2 rfl (lv_at hl 0 rfl) ?_
  refine va_get (D := gD G) (ci := 11) (C := RX11) (T := TX11) (N := 17) hx hb hts hin_X11 hown hK hP 0 rfl rfl 7 (by decide) fl_42 (fun _ h9 => h9) rfl dX11_body_3 ?_
  refine va_getN (D := gD G) (ci := 10) (C := RX10) (T := TX10) (N := 3) hx hb hts hin_X10 hown hK hP 2 rfl rfl 1 (by decide) fl_258 (fun _ h9 => h9) rfl dX11_body_6 ?_
  refine lv_iconst (v := (1 : Int32)) hx hb dX11_body_9 (by decide) ?_
  refine lv_isub hx hb dX11_body_10 ?_
  obtain ⟨r1, hr1, hf⟩ := kb hf
  refine kS (As := [.int p0, .int (0 : Int32), .int (this_trace_length - (1 : Int32))]) (rest := []) ⟨hx, hb, hml, hown, hts⟩ (c_X11_within l G N p0 (0 : Int32) (this_trace_length - (1 : Int32)) r1 hr1) (kcS 3 hts tw_394 tw_80 tw_392 tw_393 hd_X11_within ⟨Nat.le_of_ble_eq_true rfl, Nat.le_of_ble_eq_true rfl⟩) dX11_body_11 hl.1 hK hAm hA hP hD hS [] rfl rfl rfl [] rfl rfl rfl (Nat.le_of_ble_eq_true rfl) ⟨Nat.le_refl _, Nat.le_refl _⟩ (fun H locs hP hD hS => ?_)
  have hP : va_P (gD G) vwCl (k_X11_body G a_this a_this_shop a_this_kept a_this_sheetBits a_this_sheetLengths a_this_sheetNumbers a_this_trace a_this_errors a_this_one a_this_second a_this_extra a_this_room a_this_values a_this_best a_this_trace_bodies this_imaged this_images this_bestPaid this_bestNet this_errors this_trace_length this_trace_parted this_trace_bodies) H := hP
  have hD : va_D A (k_X11_body G a_this a_this_shop a_this_kept a_this_sheetBits a_this_sheetLengths a_this_sheetNumbers a_this_trace a_this_errors a_this_one a_this_second a_this_extra a_this_room a_this_values a_this_best a_this_trace_bodies this_imaged this_images this_bestPaid this_bestNet this_errors this_trace_length this_trace_parted this_trace_bodies) := hD
  refine lv_if_eq (tgt := 29) hx hb dX11_body_14 (by decide) (fun c2 => ?_) (fun c2 => ?_)
  · replace hf := kt c2 hf
    refine lv_aload_n hx hb dX11_body_29 rfl (lv_at hl 0 rfl) ?_
    refine lv_iconst (v := (2 : Int32)) hx hb dX11_body_30 (by decide) ?_
    obtain ⟨r3, hr3, hf⟩ := kb hf
    refine kV (As := [.int (2 : Int32)]) (rest := []) ⟨hx, hb, hml, hown, hts⟩ (c_X11_error l G N a_this a_this_shop a_this_kept a_this_sheetBits a_this_sheetLengths a_this_sheetNumbers a_this_trace a_this_errors a_this_one a_this_second a_this_extra a_this_room a_this_values a_this_best (2 : Int32) this_imaged this_images this_bestPaid this_bestNet this_errors r3 hr3) (kcV 1 hts tw_405 tw_80 tw_402 tw_404 tw_0 hd_X11_error ⟨Nat.le_of_ble_eq_true rfl, Nat.le_of_ble_eq_true rfl⟩) dX11_body_31 hl.1 hK hAm hA hP hD hS 0 (ci := 11) rfl rfl rfl [0, 1] rfl rfl rfl [1] rfl rfl rfl (Nat.le_of_ble_eq_true rfl) ⟨Nat.le_refl _, Nat.le_refl _⟩ (fun H locs hP hD hS => ?_)
    have hP : va_P (gD G) vwCl (k_X11_body G a_this a_this_shop a_this_kept a_this_sheetBits a_this_sheetLengths a_this_sheetNumbers a_this_trace a_this_errors a_this_one a_this_second a_this_extra a_this_room a_this_values a_this_best a_this_trace_bodies this_imaged this_images this_bestPaid this_bestNet r3.2 this_trace_length this_trace_parted this_trace_bodies) H := hP
    have hD : va_D A (k_X11_body G a_this a_this_shop a_this_kept a_this_sheetBits a_this_sheetLengths a_this_sheetNumbers a_this_trace a_this_errors a_this_one a_this_second a_this_extra a_this_room a_this_values a_this_best a_this_trace_bodies this_imaged this_images this_bestPaid this_bestNet r3.2 this_trace_length this_trace_parted this_trace_bodies) := hD
    have ho := ks hf
    subst ho
    exact kiret hx hb hr hlk hP hD hS hQ dX11_body_34
  · replace hf := kf c2 hf
    refine lv_aload_n hx hb dX11_body_17 rfl (lv_at hl 0 rfl) ?_
    refine va_get (D := gD G) (ci := 11) (C := RX11) (T := TX11) (N := 17) hx hb hts hin_X11 hown hK hP 0 rfl rfl 7 (by decide) fl_42 (fun _ h9 => h9) rfl dX11_body_18 ?_
    refine va_getN (D := gD G) (ci := 10) (C := RX10) (T := TX10) (N := 3) hx hb hts hin_X10 hown hK hP 2 rfl rfl 0 (by decide) fl_259 (fun _ h9 => h9) rfl dX11_body_21 ?_
    refine lv_iload_n hx hb dX11_body_24 rfl (lv_at hl 1 rfl) ?_
    obtain ⟨g4, hf⟩ := kg hf
    refine va_iald hx hb hK hP 3 0 rfl rfl (vin_of g4) dX11_body_25 ?_
    refine lv_goto (tgt := 34) hx hb dX11_body_26 (by decide) ?_
    have ho := ks hf
    subst ho
    exact kiret hx hb hr hlk hP hD hS hQ dX11_body_34
abbrev k_X11_sheet (G : KG) (a_this : Nat) (a_this_shop : Nat) (a_this_kept : Nat) (a_this_sheetBits : Nat) (a_this_sheetLengths : Nat) (a_this_sheetNumbers : Nat) (a_this_trace : Nat) (a_this_errors : Nat) (a_this_one : Nat) (a_this_second : Nat) (a_this_extra : Nat) (a_this_room : Nat) (a_this_values : Nat) (a_this_best : Nat) (e_this_sheetNumbers : Nat → Nat) (this_imaged : Int32) (this_images : Int32) (this_bestPaid : Int32) (this_bestNet : Int32) (this_errors : Nat → Int32) (this_sheetBits : Nat → Int32) (this_sheetLengths : Nat → Int32) (this_sheetNumbers : Nat → Nat → Int32) : va_W := [(a_this, .inr (11, [.ref a_this_shop, .ref a_this_kept, .int this_imaged, .int this_images, .ref a_this_sheetBits, .ref a_this_sheetLengths, .ref a_this_sheetNumbers, .ref a_this_trace, .ref a_this_errors, .ref a_this_one, .ref a_this_second, .ref a_this_extra, .ref a_this_room, .ref a_this_values, .ref a_this_best, .int this_bestPaid, .int this_bestNet])), (a_this_errors, .inl (gI G, 7, .inl this_errors)), (a_this_sheetBits, .inl (gI G, 4, .inl this_sheetBits)), (a_this_sheetLengths, .inl (gI G, 4, .inl this_sheetLengths)), (a_this_sheetNumbers, .inl (gII G, 4, .inr (.inr (.inr (.inr (fun j => some (e_this_sheetNumbers j))))))), (e_this_sheetNumbers 0, .inl (gI G, 24, .inl (this_sheetNumbers 0))), (e_this_sheetNumbers 1, .inl (gI G, 24, .inl (this_sheetNumbers 1))), (e_this_sheetNumbers 2, .inl (gI G, 24, .inl (this_sheetNumbers 2))), (e_this_sheetNumbers 3, .inl (gI G, 24, .inl (this_sheetNumbers 3)))]
def f_X11_sheet_90 (N : Nat) (x1 : Int32) (K : Int32 → (Nat → Nat → Int32) → Option (Int32 × (Nat → Int32) × (Nat → Int32) × (Nat → Int32) × (Nat → Nat → Int32))) : Nat → Int32 → (Nat → Nat → Int32) → Option (Int32 × (Nat → Int32) × (Nat → Int32) × (Nat → Int32) × (Nat → Nat → Int32))
  | 0, _, _ => none
  | n + 1, y4, this_sheetNumbers_v => (if (24 : Int32) ≤ y4 then (K y4 this_sheetNumbers_v) else (if vin x1 4 = true then (if vin y4 24 = true then (f_X11_sheet_90 N x1 K n (y4 + (1 : Int32)) (va_up this_sheetNumbers_v x1.toNatClampNeg (upd (this_sheetNumbers_v x1.toNatClampNeg) y4.toNatClampNeg (0 : Int32)))) else none) else none))
def f_X11_sheet_j86 (N : Nat) (x1 : Int32) (t1 : Int32) (t2 : Int32) (this_errors : Nat → Int32) (this_sheetBits : Nat → Int32) (this_sheetLengths : Nat → Int32) (this_sheetNumbers : Nat → Nat → Int32) : Option (Int32 × (Nat → Int32) × (Nat → Int32) × (Nat → Int32) × (Nat → Nat → Int32)) := (if vin t1 4 = true then (f_X11_sheet_90 N x1 (fun v4_7 this_sheetNumbers_7 => (some ((1 : Int32), this_errors, this_sheetBits, (upd this_sheetLengths t1.toNatClampNeg t2), this_sheetNumbers_7))) N (0 : Int32) this_sheetNumbers) else none)
def f_X11_sheet_j49 (N : Nat) (x1 : Int32) (x2 : Int32) (x3 : Int32) (this_errors : Nat → Int32) (this_sheetBits : Nat → Int32) (this_sheetLengths : Nat → Int32) (this_sheetNumbers : Nat → Nat → Int32) : Option (Int32 × (Nat → Int32) × (Nat → Int32) × (Nat → Int32) × (Nat → Nat → Int32)) := (if x2 = 0 then (if vin x1 4 = true then (if x2 = 0 then (f_X11_sheet_j86 N x1 x1 (0 : Int32) this_errors (upd this_sheetBits x1.toNatClampNeg x2) this_sheetLengths this_sheetNumbers) else (f_X11_sheet_j86 N x1 x1 x3 this_errors (upd this_sheetBits x1.toNatClampNeg x2) this_sheetLengths this_sheetNumbers)) else none) else (if x3 ≤ (24 : Int32) then (if vin x1 4 = true then (if x2 = 0 then (f_X11_sheet_j86 N x1 x1 (0 : Int32) this_errors (upd this_sheetBits x1.toNatClampNeg x2) this_sheetLengths this_sheetNumbers) else (f_X11_sheet_j86 N x1 x1 x3 this_errors (upd this_sheetBits x1.toNatClampNeg x2) this_sheetLengths this_sheetNumbers)) else none) else ((f_X11_error N (1 : Int32) this_errors).bind fun r20 => (some (r20.1, r20.2, this_sheetBits, this_sheetLengths, this_sheetNumbers)))))
def f_X11_sheet (N : Nat) (p0 : Int32) (p1 : Int32) (p2 : Int32) (this_errors : Nat → Int32) (this_sheetBits : Nat → Int32) (this_sheetLengths : Nat → Int32) (this_sheetNumbers : Nat → Nat → Int32) : Option (Int32 × (Nat → Int32) × (Nat → Int32) × (Nat → Int32) × (Nat → Nat → Int32)) := ((f_X11_isSheet N p0).bind fun r21 => (if r21 = 0 then ((f_X11_error N (1 : Int32) this_errors).bind fun r23 => (some (r23.1, r23.2, this_sheetBits, this_sheetLengths, this_sheetNumbers))) else (if p1 = 0 then (if p1 = 0 then (f_X11_sheet_j49 N p0 p1 p2 this_errors this_sheetBits this_sheetLengths this_sheetNumbers) else (if 0 ≤ p2 then (f_X11_sheet_j49 N p0 p1 p2 this_errors this_sheetBits this_sheetLengths this_sheetNumbers) else ((f_X11_error N (3 : Int32) this_errors).bind fun r27 => (some (r27.1, r27.2, this_sheetBits, this_sheetLengths, this_sheetNumbers))))) else (if p1 = (8 : Int32) then (if p1 = 0 then (f_X11_sheet_j49 N p0 p1 p2 this_errors this_sheetBits this_sheetLengths this_sheetNumbers) else (if 0 ≤ p2 then (f_X11_sheet_j49 N p0 p1 p2 this_errors this_sheetBits this_sheetLengths this_sheetNumbers) else ((f_X11_error N (3 : Int32) this_errors).bind fun r31 => (some (r31.1, r31.2, this_sheetBits, this_sheetLengths, this_sheetNumbers))))) else (if p1 = (16 : Int32) then (if p1 = 0 then (f_X11_sheet_j49 N p0 p1 p2 this_errors this_sheetBits this_sheetLengths this_sheetNumbers) else (if 0 ≤ p2 then (f_X11_sheet_j49 N p0 p1 p2 this_errors this_sheetBits this_sheetLengths this_sheetNumbers) else ((f_X11_error N (3 : Int32) this_errors).bind fun r35 => (some (r35.1, r35.2, this_sheetBits, this_sheetLengths, this_sheetNumbers))))) else (if p1 = (32 : Int32) then (if p1 = 0 then (f_X11_sheet_j49 N p0 p1 p2 this_errors this_sheetBits this_sheetLengths this_sheetNumbers) else (if 0 ≤ p2 then (f_X11_sheet_j49 N p0 p1 p2 this_errors this_sheetBits this_sheetLengths this_sheetNumbers) else ((f_X11_error N (3 : Int32) this_errors).bind fun r39 => (some (r39.1, r39.2, this_sheetBits, this_sheetLengths, this_sheetNumbers))))) else ((f_X11_error N (1 : Int32) this_errors).bind fun r40 => (some (r40.1, r40.2, this_sheetBits, this_sheetLengths, this_sheetNumbers)))))))))
set_option maxRecDepth 100000 in
set_option maxHeartbeats 4000000 in
theorem c_X11_sheet (l : Launch) (G : KG) (N : Nat) (a_this : Nat) (a_this_shop : Nat) (a_this_kept : Nat) (a_this_sheetBits : Nat) (a_this_sheetLengths : Nat) (a_this_sheetNumbers : Nat) (a_this_trace : Nat) (a_this_errors : Nat) (a_this_one : Nat) (a_this_second : Nat) (a_this_extra : Nat) (a_this_room : Nat) (a_this_values : Nat) (a_this_best : Nat) (e_this_sheetNumbers : Nat → Nat) (p0 : Int32) (p1 : Int32) (p2 : Int32) (this_imaged : Int32) (this_images : Int32) (this_bestPaid : Int32) (this_bestNet : Int32) (this_errors : Nat → Int32) (this_sheetBits : Nat → Int32) (this_sheetLengths : Nat → Int32) (this_sheetNumbers : Nat → Nat → Int32)  (out : Int32 × (Nat → Int32) × (Nat → Int32) × (Nat → Int32) × (Nat → Nat → Int32)) (hf : f_X11_sheet N p0 p1 p2 this_errors this_sheetBits this_sheetLengths this_sheetNumbers = some out) : KM l G yX11_sheet (kw yX11_sheet cX11_sheet 5 (some .int)) 2 43 [.ref a_this, .int p0, .int p1, .int p2] (k_X11_sheet G a_this a_this_shop a_this_kept a_this_sheetBits a_this_sheetLengths a_this_sheetNumbers a_this_trace a_this_errors a_this_one a_this_second a_this_extra a_this_room a_this_values a_this_best e_this_sheetNumbers this_imaged this_images this_bestPaid this_bestNet this_errors this_sheetBits this_sheetLengths this_sheetNumbers) (k_X11_sheet G a_this a_this_shop a_this_kept a_this_sheetBits a_this_sheetLengths a_this_sheetNumbers a_this_trace a_this_errors a_this_one a_this_second a_this_extra a_this_room a_this_values a_this_best e_this_sheetNumbers this_imaged this_images this_bestPaid this_bestNet (out.2.1) (out.2.2.1) (out.2.2.2.1) (out.2.2.2.2)) (some (.int (out.1))) := by
  refine KM.of (by decide) (Nat.le_of_ble_eq_true rfl) ?_
  intro p e s m below meth c A ls args Q Fx0 hP hK hD hA hS hAm hQ hl
  obtain ⟨hx, hb, hr, hml, hts, hown, hlk, hnm⟩ := Fx0
  have hown : s.vm.findClass RX11 = some m.cls := hown
  have hl : lv_has ls 5 [(0, .ref a_this), (1, .int p0), (2, .int p1), (3, .int p2)] := hl
  have fl_36 := hts _ tw_339
  have fl_27 := hts _ tw_337
  have fl_31 := hts _ tw_338
  unfold f_X11_sheet at hf
  have J86 : ∀ (x1_1 : Int32) (x2_1 : Int32) (x3_1 : Int32) (t1_1 : Int32) (t2_1 : Int32) (this_errors_1 : Nat → Int32) (this_sheetBits_1 : Nat → Int32) (this_sheetLengths_1 : Nat → Int32) (this_sheetNumbers_1 : Nat → Nat → Int32) (H : Heap) (locs : List Loc), va_P (gD G) vwCl (k_X11_sheet G a_this a_this_shop a_this_kept a_this_sheetBits a_this_sheetLengths a_this_sheetNumbers a_this_trace a_this_errors a_this_one a_this_second a_this_extra a_this_room a_this_values a_this_best e_this_sheetNumbers this_imaged this_images this_bestPaid this_bestNet this_errors_1 this_sheetBits_1 this_sheetLengths_1 this_sheetNumbers_1) H → va_D A (k_X11_sheet G a_this a_this_shop a_this_kept a_this_sheetBits a_this_sheetLengths a_this_sheetNumbers a_this_trace a_this_errors a_this_one a_this_second a_this_extra a_this_room a_this_values a_this_best e_this_sheetNumbers this_imaged this_images this_bestPaid this_bestNet this_errors_1 this_sheetBits_1 this_sheetLengths_1 this_sheetNumbers_1) → va_S A s.heap H locs → ∀ (ls : Array Slot), lv_has ls 5 [(0, .ref a_this), (1, .int x1_1), (2, .int x2_1), (3, .int x3_1)] → f_X11_sheet_j86 N x1_1 t1_1 t2_1 this_errors_1 this_sheetBits_1 this_sheetLengths_1 this_sheetNumbers_1 = some out → W p l e (kR 2 0 0 43) s m args below meth c H locs 0 0 Q (F0 m 86 ls [.int t2_1, .int t1_1, .ref a_this_sheetLengths]) := by
    intro x1_1 x2_1 x3_1 t1_1 t2_1 this_errors_1 this_sheetBits_1 this_sheetLengths_1 this_sheetNumbers_1 H locs hP hD hS ls hl hf
    rw [f_X11_sheet_j86] at hf
    obtain ⟨g2, hf⟩ := kg hf
    refine va_iast hx hb hK hP hD hS 3 0 rfl rfl (vin_of g2) dX11_sheet_86 (fun H locs hP hD hS => ?_)
    have hP : va_P (gD G) vwCl (k_X11_sheet G a_this a_this_shop a_this_kept a_this_sheetBits a_this_sheetLengths a_this_sheetNumbers a_this_trace a_this_errors a_this_one a_this_second a_this_extra a_this_room a_this_values a_this_best e_this_sheetNumbers this_imaged this_images this_bestPaid this_bestNet this_errors_1 this_sheetBits_1 (upd this_sheetLengths_1 t1_1.toNatClampNeg t2_1) this_sheetNumbers_1) H := hP
    have hD : va_D A (k_X11_sheet G a_this a_this_shop a_this_kept a_this_sheetBits a_this_sheetLengths a_this_sheetNumbers a_this_trace a_this_errors a_this_one a_this_second a_this_extra a_this_room a_this_values a_this_best e_this_sheetNumbers this_imaged this_images this_bestPaid this_bestNet this_errors_1 this_sheetBits_1 (upd this_sheetLengths_1 t1_1.toNatClampNeg t2_1) this_sheetNumbers_1) := hD
    refine lv_iconst (v := (0 : Int32)) hx hb dX11_sheet_87 (by decide) ?_
    refine lv_istore (lv' := [(4, .int (0 : Int32)), (0, .ref a_this), (1, .int x1_1), (2, .int x2_1), (3, .int x3_1)]) hx hb dX11_sheet_88 hl (by decide) rfl (fun ls hl => ?_)
    have L4 : ∀ (K : Int32 → (Nat → Nat → Int32) → Option (Int32 × (Nat → Int32) × (Nat → Int32) × (Nat → Int32) × (Nat → Nat → Int32))), (∀ (v4_4 : Int32) (this_sheetNumbers_4 : Nat → Nat → Int32) (H : Heap) (locs : List Loc), va_P (gD G) vwCl (k_X11_sheet G a_this a_this_shop a_this_kept a_this_sheetBits a_this_sheetLengths a_this_sheetNumbers a_this_trace a_this_errors a_this_one a_this_second a_this_extra a_this_room a_this_values a_this_best e_this_sheetNumbers this_imaged this_images this_bestPaid this_bestNet this_errors_1 this_sheetBits_1 (upd this_sheetLengths_1 t1_1.toNatClampNeg t2_1) this_sheetNumbers_4) H → va_D A (k_X11_sheet G a_this a_this_shop a_this_kept a_this_sheetBits a_this_sheetLengths a_this_sheetNumbers a_this_trace a_this_errors a_this_one a_this_second a_this_extra a_this_room a_this_values a_this_best e_this_sheetNumbers this_imaged this_images this_bestPaid this_bestNet this_errors_1 this_sheetBits_1 (upd this_sheetLengths_1 t1_1.toNatClampNeg t2_1) this_sheetNumbers_4) → va_S A s.heap H locs → ∀ (ls : Array Slot), lv_has ls 5 [(0, .ref a_this), (1, .int x1_1), (2, .int x2_1), (3, .int x3_1), (4, .int v4_4)] → K v4_4 this_sheetNumbers_4 = some out → W p l e (kR 2 0 0 43) s m args below meth c H locs 0 0 Q (F0 m 113 ls [])) → ∀ (n : Nat), ∀ (v4_4 : Int32) (this_sheetNumbers_4 : Nat → Nat → Int32) (H : Heap) (locs : List Loc), va_P (gD G) vwCl (k_X11_sheet G a_this a_this_shop a_this_kept a_this_sheetBits a_this_sheetLengths a_this_sheetNumbers a_this_trace a_this_errors a_this_one a_this_second a_this_extra a_this_room a_this_values a_this_best e_this_sheetNumbers this_imaged this_images this_bestPaid this_bestNet this_errors_1 this_sheetBits_1 (upd this_sheetLengths_1 t1_1.toNatClampNeg t2_1) this_sheetNumbers_4) H → va_D A (k_X11_sheet G a_this a_this_shop a_this_kept a_this_sheetBits a_this_sheetLengths a_this_sheetNumbers a_this_trace a_this_errors a_this_one a_this_second a_this_extra a_this_room a_this_values a_this_best e_this_sheetNumbers this_imaged this_images this_bestPaid this_bestNet this_errors_1 this_sheetBits_1 (upd this_sheetLengths_1 t1_1.toNatClampNeg t2_1) this_sheetNumbers_4) → va_S A s.heap H locs → ∀ (ls : Array Slot), lv_has ls 5 [(0, .ref a_this), (1, .int x1_1), (2, .int x2_1), (3, .int x3_1), (4, .int v4_4)] → f_X11_sheet_90 N x1_1 K n v4_4 this_sheetNumbers_4 = some out → W p l e (kR 2 0 0 43) s m args below meth c H locs 0 0 Q (F0 m 90 ls []) := by
      intro K hK4 n
      induction n with
      | zero =>
        intro v4_4 this_sheetNumbers_4 H locs hP hD hS ls hl hf
        rw [f_X11_sheet_90] at hf
        cases hf
      | succ n ih =>
        intro v4_4 this_sheetNumbers_4 H locs hP hD hS ls hl hf
        rw [f_X11_sheet_90] at hf
        refine lv_iload hx hb dX11_sheet_90 (lv_at hl 4 rfl) ?_
        refine lv_bipush (v := (24 : Int32)) hx hb dX11_sheet_92 (by decide) ?_
        refine lv_icmp_ge (tgt := 113) hx hb dX11_sheet_94 (by decide) (fun c5 => ?_) (fun c5 => ?_)
        · replace hf := kt c5 hf
          exact hK4 v4_4 this_sheetNumbers_4 _ _ hP hD hS ls (lv_sub hl [0, 1, 2, 3, 4] rfl) hf
        · replace hf := kf c5 hf
          refine lv_aload_n hx hb dX11_sheet_97 rfl (lv_at hl 0 rfl) ?_
          refine va_get (D := gD G) (ci := 11) (C := RX11) (T := TX11) (N := 17) hx hb hts hin_X11 hown hK hP 0 rfl rfl 6 (by decide) fl_36 (fun _ h9 => h9) rfl dX11_sheet_98 ?_
          refine lv_iload_n hx hb dX11_sheet_101 rfl (lv_at hl 1 rfl) ?_
          obtain ⟨g6, hf⟩ := kg hf
          refine ka_aald hx hb hK hP 4 rfl (vin_of g6) dX11_sheet_102 ?_
          refine lv_iload hx hb dX11_sheet_103 (lv_at hl 4 rfl) ?_
          refine lv_iconst (v := (0 : Int32)) hx hb dX11_sheet_105 (by decide) ?_
          obtain ⟨g9, hf⟩ := kg hf
          have w7 : ∀ j, j < 4 → (k_X11_sheet G a_this a_this_shop a_this_kept a_this_sheetBits a_this_sheetLengths a_this_sheetNumbers a_this_trace a_this_errors a_this_one a_this_second a_this_extra a_this_room a_this_values a_this_best e_this_sheetNumbers this_imaged this_images this_bestPaid this_bestNet this_errors_1 this_sheetBits_1 (upd this_sheetLengths_1 t1_1.toNatClampNeg t2_1) this_sheetNumbers_4)[5 + j]? = some (e_this_sheetNumbers j, .inl (gI G, 24, .inl (this_sheetNumbers_4 j))) := fun j hj => match j, hj with | 0, _ => rfl | 1, _ => rfl | 2, _ => rfl | 3, _ => rfl | k + 4, hk => absurd hk (by omega)
          refine va_iast hx hb hK hP hD hS (5 + x1_1.toNatClampNeg) 0 (w7 _ (vin_lt g6)) rfl (vin_of g9) dX11_sheet_106 (fun H locs hP hD hS => ?_)
          have z8 : ∀ j, j < 4 → (k_X11_sheet G a_this a_this_shop a_this_kept a_this_sheetBits a_this_sheetLengths a_this_sheetNumbers a_this_trace a_this_errors a_this_one a_this_second a_this_extra a_this_room a_this_values a_this_best e_this_sheetNumbers this_imaged this_images this_bestPaid this_bestNet this_errors_1 this_sheetBits_1 (upd this_sheetLengths_1 t1_1.toNatClampNeg t2_1) this_sheetNumbers_4).set (5 + j) (e_this_sheetNumbers j, .inl (gI G, 24, .inl (upd (this_sheetNumbers_4 x1_1.toNatClampNeg) v4_4.toNatClampNeg (0 : Int32)))) = (k_X11_sheet G a_this a_this_shop a_this_kept a_this_sheetBits a_this_sheetLengths a_this_sheetNumbers a_this_trace a_this_errors a_this_one a_this_second a_this_extra a_this_room a_this_values a_this_best e_this_sheetNumbers this_imaged this_images this_bestPaid this_bestNet this_errors_1 this_sheetBits_1 (upd this_sheetLengths_1 t1_1.toNatClampNeg t2_1) (va_up this_sheetNumbers_4 j (upd (this_sheetNumbers_4 x1_1.toNatClampNeg) v4_4.toNatClampNeg (0 : Int32)))) := fun j hj => match j, hj with | 0, _ => rfl | 1, _ => rfl | 2, _ => rfl | 3, _ => rfl | k + 4, hk => absurd hk (by omega)
          have hP : va_P (gD G) vwCl (k_X11_sheet G a_this a_this_shop a_this_kept a_this_sheetBits a_this_sheetLengths a_this_sheetNumbers a_this_trace a_this_errors a_this_one a_this_second a_this_extra a_this_room a_this_values a_this_best e_this_sheetNumbers this_imaged this_images this_bestPaid this_bestNet this_errors_1 this_sheetBits_1 (upd this_sheetLengths_1 t1_1.toNatClampNeg t2_1) (va_up this_sheetNumbers_4 x1_1.toNatClampNeg (upd (this_sheetNumbers_4 x1_1.toNatClampNeg) v4_4.toNatClampNeg (0 : Int32)))) H := Eq.mp (congrArg (fun w => va_P (gD G) vwCl w H) (z8 _ (vin_lt g6))) hP
          have hD : va_D A (k_X11_sheet G a_this a_this_shop a_this_kept a_this_sheetBits a_this_sheetLengths a_this_sheetNumbers a_this_trace a_this_errors a_this_one a_this_second a_this_extra a_this_room a_this_values a_this_best e_this_sheetNumbers this_imaged this_images this_bestPaid this_bestNet this_errors_1 this_sheetBits_1 (upd this_sheetLengths_1 t1_1.toNatClampNeg t2_1) (va_up this_sheetNumbers_4 x1_1.toNatClampNeg (upd (this_sheetNumbers_4 x1_1.toNatClampNeg) v4_4.toNatClampNeg (0 : Int32)))) := Eq.mp (congrArg (fun w => va_D A w) (z8 _ (vin_lt g6))) hD
          refine lv_iinc (v := (v4_4 + (1 : Int32))) (lv' := [(4, .int (v4_4 + (1 : Int32))), (0, .ref a_this), (1, .int x1_1), (2, .int x2_1), (3, .int x3_1)]) hx hb dX11_sheet_107 hl (k := 4) rfl rfl (by decide) rfl (fun ls hl => ?_)
          refine lv_goto (tgt := 90) hx hb dX11_sheet_110 (by decide) ?_
          exact ih (v4_4 + (1 : Int32)) (va_up this_sheetNumbers_4 x1_1.toNatClampNeg (upd (this_sheetNumbers_4 x1_1.toNatClampNeg) v4_4.toNatClampNeg (0 : Int32))) _ _ hP hD hS ls (lv_sub hl [1, 2, 3, 4, 0] rfl) hf
    refine L4 _ (fun v4_3 this_sheetNumbers_3 H locs hP hD hS ls hl hf => ?_) N (0 : Int32) this_sheetNumbers_1 _ _ hP hD hS ls (lv_sub hl [1, 2, 3, 4, 0] rfl) hf
    refine lv_iconst (v := (1 : Int32)) hx hb dX11_sheet_113 (by decide) ?_
    have ho := ks hf
    subst ho
    exact kiret hx hb hr hlk hP hD hS hQ dX11_sheet_114
  have J49 : ∀ (x1_10 : Int32) (x2_10 : Int32) (x3_10 : Int32) (this_errors_10 : Nat → Int32) (this_sheetBits_10 : Nat → Int32) (this_sheetLengths_10 : Nat → Int32) (this_sheetNumbers_10 : Nat → Nat → Int32) (H : Heap) (locs : List Loc), va_P (gD G) vwCl (k_X11_sheet G a_this a_this_shop a_this_kept a_this_sheetBits a_this_sheetLengths a_this_sheetNumbers a_this_trace a_this_errors a_this_one a_this_second a_this_extra a_this_room a_this_values a_this_best e_this_sheetNumbers this_imaged this_images this_bestPaid this_bestNet this_errors_10 this_sheetBits_10 this_sheetLengths_10 this_sheetNumbers_10) H → va_D A (k_X11_sheet G a_this a_this_shop a_this_kept a_this_sheetBits a_this_sheetLengths a_this_sheetNumbers a_this_trace a_this_errors a_this_one a_this_second a_this_extra a_this_room a_this_values a_this_best e_this_sheetNumbers this_imaged this_images this_bestPaid this_bestNet this_errors_10 this_sheetBits_10 this_sheetLengths_10 this_sheetNumbers_10) → va_S A s.heap H locs → ∀ (ls : Array Slot), lv_has ls 5 [(0, .ref a_this), (1, .int x1_10), (2, .int x2_10), (3, .int x3_10)] → f_X11_sheet_j49 N x1_10 x2_10 x3_10 this_errors_10 this_sheetBits_10 this_sheetLengths_10 this_sheetNumbers_10 = some out → W p l e (kR 2 0 0 43) s m args below meth c H locs 0 0 Q (F0 m 49 ls []) := by
    intro x1_10 x2_10 x3_10 this_errors_10 this_sheetBits_10 this_sheetLengths_10 this_sheetNumbers_10 H locs hP hD hS ls hl hf
    rw [f_X11_sheet_j49] at hf
    refine lv_iload_n hx hb dX11_sheet_49 rfl (lv_at hl 2 rfl) ?_
    refine lv_if_eq (tgt := 65) hx hb dX11_sheet_50 (by decide) (fun c11 => ?_) (fun c11 => ?_)
    · replace hf := kt c11 hf
      refine lv_aload_n hx hb dX11_sheet_65 rfl (lv_at hl 0 rfl) ?_
      refine va_get (D := gD G) (ci := 11) (C := RX11) (T := TX11) (N := 17) hx hb hts hin_X11 hown hK hP 0 rfl rfl 4 (by decide) fl_27 (fun _ h9 => h9) rfl dX11_sheet_66 ?_
      refine lv_iload_n hx hb dX11_sheet_69 rfl (lv_at hl 1 rfl) ?_
      refine lv_iload_n hx hb dX11_sheet_70 rfl (lv_at hl 2 rfl) ?_
      obtain ⟨g12, hf⟩ := kg hf
      refine va_iast hx hb hK hP hD hS 2 0 rfl rfl (vin_of g12) dX11_sheet_71 (fun H locs hP hD hS => ?_)
      have hP : va_P (gD G) vwCl (k_X11_sheet G a_this a_this_shop a_this_kept a_this_sheetBits a_this_sheetLengths a_this_sheetNumbers a_this_trace a_this_errors a_this_one a_this_second a_this_extra a_this_room a_this_values a_this_best e_this_sheetNumbers this_imaged this_images this_bestPaid this_bestNet this_errors_10 (upd this_sheetBits_10 x1_10.toNatClampNeg x2_10) this_sheetLengths_10 this_sheetNumbers_10) H := hP
      have hD : va_D A (k_X11_sheet G a_this a_this_shop a_this_kept a_this_sheetBits a_this_sheetLengths a_this_sheetNumbers a_this_trace a_this_errors a_this_one a_this_second a_this_extra a_this_room a_this_values a_this_best e_this_sheetNumbers this_imaged this_images this_bestPaid this_bestNet this_errors_10 (upd this_sheetBits_10 x1_10.toNatClampNeg x2_10) this_sheetLengths_10 this_sheetNumbers_10) := hD
      refine lv_aload_n hx hb dX11_sheet_72 rfl (lv_at hl 0 rfl) ?_
      refine va_get (D := gD G) (ci := 11) (C := RX11) (T := TX11) (N := 17) hx hb hts hin_X11 hown hK hP 0 rfl rfl 5 (by decide) fl_31 (fun _ h9 => h9) rfl dX11_sheet_73 ?_
      refine lv_iload_n hx hb dX11_sheet_76 rfl (lv_at hl 1 rfl) ?_
      refine lv_iload_n hx hb dX11_sheet_77 rfl (lv_at hl 2 rfl) ?_
      refine lv_if_ne (tgt := 85) hx hb dX11_sheet_78 (by decide) (fun c13 => ?_) (fun c13 => ?_)
      · replace hf := kf c13 hf
        refine lv_iload_n hx hb dX11_sheet_85 rfl (lv_at hl 3 rfl) ?_
        exact J86 x1_10 x2_10 x3_10 x1_10 x3_10 this_errors_10 (upd this_sheetBits_10 x1_10.toNatClampNeg x2_10) this_sheetLengths_10 this_sheetNumbers_10 _ _ hP hD hS ls (lv_sub hl [0, 1, 2, 3] rfl) hf
      · replace hf := kt c13 hf
        refine lv_iconst (v := (0 : Int32)) hx hb dX11_sheet_81 (by decide) ?_
        refine lv_goto (tgt := 86) hx hb dX11_sheet_82 (by decide) ?_
        exact J86 x1_10 x2_10 x3_10 x1_10 (0 : Int32) this_errors_10 (upd this_sheetBits_10 x1_10.toNatClampNeg x2_10) this_sheetLengths_10 this_sheetNumbers_10 _ _ hP hD hS ls (lv_sub hl [0, 1, 2, 3] rfl) hf
    · replace hf := kf c11 hf
      refine lv_iload_n hx hb dX11_sheet_53 rfl (lv_at hl 3 rfl) ?_
      refine lv_bipush (v := (24 : Int32)) hx hb dX11_sheet_54 (by decide) ?_
      refine lv_icmp_le (tgt := 65) hx hb dX11_sheet_56 (by decide) (fun c14 => ?_) (fun c14 => ?_)
      · replace hf := kt c14 hf
        refine lv_aload_n hx hb dX11_sheet_65 rfl (lv_at hl 0 rfl) ?_
        refine va_get (D := gD G) (ci := 11) (C := RX11) (T := TX11) (N := 17) hx hb hts hin_X11 hown hK hP 0 rfl rfl 4 (by decide) fl_27 (fun _ h9 => h9) rfl dX11_sheet_66 ?_
        refine lv_iload_n hx hb dX11_sheet_69 rfl (lv_at hl 1 rfl) ?_
        refine lv_iload_n hx hb dX11_sheet_70 rfl (lv_at hl 2 rfl) ?_
        obtain ⟨g15, hf⟩ := kg hf
        refine va_iast hx hb hK hP hD hS 2 0 rfl rfl (vin_of g15) dX11_sheet_71 (fun H locs hP hD hS => ?_)
        have hP : va_P (gD G) vwCl (k_X11_sheet G a_this a_this_shop a_this_kept a_this_sheetBits a_this_sheetLengths a_this_sheetNumbers a_this_trace a_this_errors a_this_one a_this_second a_this_extra a_this_room a_this_values a_this_best e_this_sheetNumbers this_imaged this_images this_bestPaid this_bestNet this_errors_10 (upd this_sheetBits_10 x1_10.toNatClampNeg x2_10) this_sheetLengths_10 this_sheetNumbers_10) H := hP
        have hD : va_D A (k_X11_sheet G a_this a_this_shop a_this_kept a_this_sheetBits a_this_sheetLengths a_this_sheetNumbers a_this_trace a_this_errors a_this_one a_this_second a_this_extra a_this_room a_this_values a_this_best e_this_sheetNumbers this_imaged this_images this_bestPaid this_bestNet this_errors_10 (upd this_sheetBits_10 x1_10.toNatClampNeg x2_10) this_sheetLengths_10 this_sheetNumbers_10) := hD
        refine lv_aload_n hx hb dX11_sheet_72 rfl (lv_at hl 0 rfl) ?_
        refine va_get (D := gD G) (ci := 11) (C := RX11) (T := TX11) (N := 17) hx hb hts hin_X11 hown hK hP 0 rfl rfl 5 (by decide) fl_31 (fun _ h9 => h9) rfl dX11_sheet_73 ?_
        refine lv_iload_n hx hb dX11_sheet_76 rfl (lv_at hl 1 rfl) ?_
        refine lv_iload_n hx hb dX11_sheet_77 rfl (lv_at hl 2 rfl) ?_
        refine lv_if_ne (tgt := 85) hx hb dX11_sheet_78 (by decide) (fun c16 => ?_) (fun c16 => ?_)
        · replace hf := kf c16 hf
          refine lv_iload_n hx hb dX11_sheet_85 rfl (lv_at hl 3 rfl) ?_
          exact J86 x1_10 x2_10 x3_10 x1_10 x3_10 this_errors_10 (upd this_sheetBits_10 x1_10.toNatClampNeg x2_10) this_sheetLengths_10 this_sheetNumbers_10 _ _ hP hD hS ls (lv_sub hl [0, 1, 2, 3] rfl) hf
        · replace hf := kt c16 hf
          refine lv_iconst (v := (0 : Int32)) hx hb dX11_sheet_81 (by decide) ?_
          refine lv_goto (tgt := 86) hx hb dX11_sheet_82 (by decide) ?_
          exact J86 x1_10 x2_10 x3_10 x1_10 (0 : Int32) this_errors_10 (upd this_sheetBits_10 x1_10.toNatClampNeg x2_10) this_sheetLengths_10 this_sheetNumbers_10 _ _ hP hD hS ls (lv_sub hl [0, 1, 2, 3] rfl) hf
      · replace hf := kf c14 hf
        refine lv_aload_n hx hb dX11_sheet_59 rfl (lv_at hl 0 rfl) ?_
        refine lv_iconst (v := (1 : Int32)) hx hb dX11_sheet_60 (by decide) ?_
        obtain ⟨r17, hr17, hf⟩ := kb hf
        refine kV (As := [.int (1 : Int32)]) (rest := []) ⟨hx, hb, hml, hown, hts⟩ (c_X11_error l G N a_this a_this_shop a_this_kept a_this_sheetBits a_this_sheetLengths a_this_sheetNumbers a_this_trace a_this_errors a_this_one a_this_second a_this_extra a_this_room a_this_values a_this_best (1 : Int32) this_imaged this_images this_bestPaid this_bestNet this_errors_10 r17 hr17) (kcV 1 hts tw_405 tw_80 tw_402 tw_404 tw_0 hd_X11_error ⟨Nat.le_of_ble_eq_true rfl, Nat.le_of_ble_eq_true rfl⟩) dX11_sheet_61 hl.1 hK hAm hA hP hD hS 0 (ci := 11) rfl rfl rfl [0, 1] rfl rfl rfl [1] rfl rfl rfl (Nat.le_of_ble_eq_true rfl) ⟨Nat.le_refl _, Nat.le_refl _⟩ (fun H locs hP hD hS => ?_)
        have hP : va_P (gD G) vwCl (k_X11_sheet G a_this a_this_shop a_this_kept a_this_sheetBits a_this_sheetLengths a_this_sheetNumbers a_this_trace a_this_errors a_this_one a_this_second a_this_extra a_this_room a_this_values a_this_best e_this_sheetNumbers this_imaged this_images this_bestPaid this_bestNet r17.2 this_sheetBits_10 this_sheetLengths_10 this_sheetNumbers_10) H := hP
        have hD : va_D A (k_X11_sheet G a_this a_this_shop a_this_kept a_this_sheetBits a_this_sheetLengths a_this_sheetNumbers a_this_trace a_this_errors a_this_one a_this_second a_this_extra a_this_room a_this_values a_this_best e_this_sheetNumbers this_imaged this_images this_bestPaid this_bestNet r17.2 this_sheetBits_10 this_sheetLengths_10 this_sheetNumbers_10) := hD
        have ho := ks hf
        subst ho
        exact kiret hx hb hr hlk hP hD hS hQ dX11_sheet_64
  refine lv_iload_n hx hb dX11_sheet_0 rfl (lv_at hl 1 rfl) ?_
  obtain ⟨r18, hr18, hf⟩ := kb hf
  refine kS (As := [.int p0]) (rest := []) ⟨hx, hb, hml, hown, hts⟩ (c_X11_isSheet l G N p0 r18 hr18) (kcS 1 hts tw_682 tw_80 tw_680 tw_681 hd_X11_isSheet ⟨Nat.le_of_ble_eq_true rfl, Nat.le_of_ble_eq_true rfl⟩) dX11_sheet_1 hl.1 hK hAm hA hP hD hS [] rfl rfl rfl [] rfl rfl rfl (Nat.le_of_ble_eq_true rfl) ⟨Nat.le_refl _, Nat.le_refl _⟩ (fun H locs hP hD hS => ?_)
  have hP : va_P (gD G) vwCl (k_X11_sheet G a_this a_this_shop a_this_kept a_this_sheetBits a_this_sheetLengths a_this_sheetNumbers a_this_trace a_this_errors a_this_one a_this_second a_this_extra a_this_room a_this_values a_this_best e_this_sheetNumbers this_imaged this_images this_bestPaid this_bestNet this_errors this_sheetBits this_sheetLengths this_sheetNumbers) H := hP
  have hD : va_D A (k_X11_sheet G a_this a_this_shop a_this_kept a_this_sheetBits a_this_sheetLengths a_this_sheetNumbers a_this_trace a_this_errors a_this_one a_this_second a_this_extra a_this_room a_this_values a_this_best e_this_sheetNumbers this_imaged this_images this_bestPaid this_bestNet this_errors this_sheetBits this_sheetLengths this_sheetNumbers) := hD
  refine lv_if_eq (tgt := 29) hx hb dX11_sheet_4 (by decide) (fun c19 => ?_) (fun c19 => ?_)
  · replace hf := kt c19 hf
    refine lv_aload_n hx hb dX11_sheet_29 rfl (lv_at hl 0 rfl) ?_
    refine lv_iconst (v := (1 : Int32)) hx hb dX11_sheet_30 (by decide) ?_
    obtain ⟨r20, hr20, hf⟩ := kb hf
    refine kV (As := [.int (1 : Int32)]) (rest := []) ⟨hx, hb, hml, hown, hts⟩ (c_X11_error l G N a_this a_this_shop a_this_kept a_this_sheetBits a_this_sheetLengths a_this_sheetNumbers a_this_trace a_this_errors a_this_one a_this_second a_this_extra a_this_room a_this_values a_this_best (1 : Int32) this_imaged this_images this_bestPaid this_bestNet this_errors r20 hr20) (kcV 1 hts tw_405 tw_80 tw_402 tw_404 tw_0 hd_X11_error ⟨Nat.le_of_ble_eq_true rfl, Nat.le_of_ble_eq_true rfl⟩) dX11_sheet_31 hl.1 hK hAm hA hP hD hS 0 (ci := 11) rfl rfl rfl [0, 1] rfl rfl rfl [1] rfl rfl rfl (Nat.le_of_ble_eq_true rfl) ⟨Nat.le_refl _, Nat.le_refl _⟩ (fun H locs hP hD hS => ?_)
    have hP : va_P (gD G) vwCl (k_X11_sheet G a_this a_this_shop a_this_kept a_this_sheetBits a_this_sheetLengths a_this_sheetNumbers a_this_trace a_this_errors a_this_one a_this_second a_this_extra a_this_room a_this_values a_this_best e_this_sheetNumbers this_imaged this_images this_bestPaid this_bestNet r20.2 this_sheetBits this_sheetLengths this_sheetNumbers) H := hP
    have hD : va_D A (k_X11_sheet G a_this a_this_shop a_this_kept a_this_sheetBits a_this_sheetLengths a_this_sheetNumbers a_this_trace a_this_errors a_this_one a_this_second a_this_extra a_this_room a_this_values a_this_best e_this_sheetNumbers this_imaged this_images this_bestPaid this_bestNet r20.2 this_sheetBits this_sheetLengths this_sheetNumbers) := hD
    have ho := ks hf
    subst ho
    exact kiret hx hb hr hlk hP hD hS hQ dX11_sheet_34
  · replace hf := kf c19 hf
    refine lv_iload_n hx hb dX11_sheet_7 rfl (lv_at hl 2 rfl) ?_
    refine lv_if_eq (tgt := 35) hx hb dX11_sheet_8 (by decide) (fun c21 => ?_) (fun c21 => ?_)
    · replace hf := kt c21 hf
      refine lv_iload_n hx hb dX11_sheet_35 rfl (lv_at hl 2 rfl) ?_
      refine lv_if_eq (tgt := 49) hx hb dX11_sheet_36 (by decide) (fun c22 => ?_) (fun c22 => ?_)
      · replace hf := kt c22 hf
        exact J49 p0 p1 p2 this_errors this_sheetBits this_sheetLengths this_sheetNumbers _ _ hP hD hS ls (lv_sub hl [0, 1, 2, 3] rfl) hf
      · replace hf := kf c22 hf
        refine lv_iload_n hx hb dX11_sheet_39 rfl (lv_at hl 3 rfl) ?_
        refine lv_if_ge (tgt := 49) hx hb dX11_sheet_40 (by decide) (fun c23 => ?_) (fun c23 => ?_)
        · replace hf := kt c23 hf
          exact J49 p0 p1 p2 this_errors this_sheetBits this_sheetLengths this_sheetNumbers _ _ hP hD hS ls (lv_sub hl [0, 1, 2, 3] rfl) hf
        · replace hf := kf c23 hf
          refine lv_aload_n hx hb dX11_sheet_43 rfl (lv_at hl 0 rfl) ?_
          refine lv_iconst (v := (3 : Int32)) hx hb dX11_sheet_44 (by decide) ?_
          obtain ⟨r24, hr24, hf⟩ := kb hf
          refine kV (As := [.int (3 : Int32)]) (rest := []) ⟨hx, hb, hml, hown, hts⟩ (c_X11_error l G N a_this a_this_shop a_this_kept a_this_sheetBits a_this_sheetLengths a_this_sheetNumbers a_this_trace a_this_errors a_this_one a_this_second a_this_extra a_this_room a_this_values a_this_best (3 : Int32) this_imaged this_images this_bestPaid this_bestNet this_errors r24 hr24) (kcV 1 hts tw_405 tw_80 tw_402 tw_404 tw_0 hd_X11_error ⟨Nat.le_of_ble_eq_true rfl, Nat.le_of_ble_eq_true rfl⟩) dX11_sheet_45 hl.1 hK hAm hA hP hD hS 0 (ci := 11) rfl rfl rfl [0, 1] rfl rfl rfl [1] rfl rfl rfl (Nat.le_of_ble_eq_true rfl) ⟨Nat.le_refl _, Nat.le_refl _⟩ (fun H locs hP hD hS => ?_)
          have hP : va_P (gD G) vwCl (k_X11_sheet G a_this a_this_shop a_this_kept a_this_sheetBits a_this_sheetLengths a_this_sheetNumbers a_this_trace a_this_errors a_this_one a_this_second a_this_extra a_this_room a_this_values a_this_best e_this_sheetNumbers this_imaged this_images this_bestPaid this_bestNet r24.2 this_sheetBits this_sheetLengths this_sheetNumbers) H := hP
          have hD : va_D A (k_X11_sheet G a_this a_this_shop a_this_kept a_this_sheetBits a_this_sheetLengths a_this_sheetNumbers a_this_trace a_this_errors a_this_one a_this_second a_this_extra a_this_room a_this_values a_this_best e_this_sheetNumbers this_imaged this_images this_bestPaid this_bestNet r24.2 this_sheetBits this_sheetLengths this_sheetNumbers) := hD
          have ho := ks hf
          subst ho
          exact kiret hx hb hr hlk hP hD hS hQ dX11_sheet_48
    · replace hf := kf c21 hf
      refine lv_iload_n hx hb dX11_sheet_11 rfl (lv_at hl 2 rfl) ?_
      refine lv_bipush (v := (8 : Int32)) hx hb dX11_sheet_12 (by decide) ?_
      refine lv_icmp_eq (tgt := 35) hx hb dX11_sheet_14 (by decide) (fun c25 => ?_) (fun c25 => ?_)
      · replace hf := kt c25 hf
        refine lv_iload_n hx hb dX11_sheet_35 rfl (lv_at hl 2 rfl) ?_
        refine lv_if_eq (tgt := 49) hx hb dX11_sheet_36 (by decide) (fun c26 => ?_) (fun c26 => ?_)
        · replace hf := kt c26 hf
          exact J49 p0 p1 p2 this_errors this_sheetBits this_sheetLengths this_sheetNumbers _ _ hP hD hS ls (lv_sub hl [0, 1, 2, 3] rfl) hf
        · replace hf := kf c26 hf
          refine lv_iload_n hx hb dX11_sheet_39 rfl (lv_at hl 3 rfl) ?_
          refine lv_if_ge (tgt := 49) hx hb dX11_sheet_40 (by decide) (fun c27 => ?_) (fun c27 => ?_)
          · replace hf := kt c27 hf
            exact J49 p0 p1 p2 this_errors this_sheetBits this_sheetLengths this_sheetNumbers _ _ hP hD hS ls (lv_sub hl [0, 1, 2, 3] rfl) hf
          · replace hf := kf c27 hf
            refine lv_aload_n hx hb dX11_sheet_43 rfl (lv_at hl 0 rfl) ?_
            refine lv_iconst (v := (3 : Int32)) hx hb dX11_sheet_44 (by decide) ?_
            obtain ⟨r28, hr28, hf⟩ := kb hf
            refine kV (As := [.int (3 : Int32)]) (rest := []) ⟨hx, hb, hml, hown, hts⟩ (c_X11_error l G N a_this a_this_shop a_this_kept a_this_sheetBits a_this_sheetLengths a_this_sheetNumbers a_this_trace a_this_errors a_this_one a_this_second a_this_extra a_this_room a_this_values a_this_best (3 : Int32) this_imaged this_images this_bestPaid this_bestNet this_errors r28 hr28) (kcV 1 hts tw_405 tw_80 tw_402 tw_404 tw_0 hd_X11_error ⟨Nat.le_of_ble_eq_true rfl, Nat.le_of_ble_eq_true rfl⟩) dX11_sheet_45 hl.1 hK hAm hA hP hD hS 0 (ci := 11) rfl rfl rfl [0, 1] rfl rfl rfl [1] rfl rfl rfl (Nat.le_of_ble_eq_true rfl) ⟨Nat.le_refl _, Nat.le_refl _⟩ (fun H locs hP hD hS => ?_)
            have hP : va_P (gD G) vwCl (k_X11_sheet G a_this a_this_shop a_this_kept a_this_sheetBits a_this_sheetLengths a_this_sheetNumbers a_this_trace a_this_errors a_this_one a_this_second a_this_extra a_this_room a_this_values a_this_best e_this_sheetNumbers this_imaged this_images this_bestPaid this_bestNet r28.2 this_sheetBits this_sheetLengths this_sheetNumbers) H := hP
            have hD : va_D A (k_X11_sheet G a_this a_this_shop a_this_kept a_this_sheetBits a_this_sheetLengths a_this_sheetNumbers a_this_trace a_this_errors a_this_one a_this_second a_this_extra a_this_room a_this_values a_this_best e_this_sheetNumbers this_imaged this_images this_bestPaid this_bestNet r28.2 this_sheetBits this_sheetLengths this_sheetNumbers) := hD
            have ho := ks hf
            subst ho
            exact kiret hx hb hr hlk hP hD hS hQ dX11_sheet_48
      · replace hf := kf c25 hf
        refine lv_iload_n hx hb dX11_sheet_17 rfl (lv_at hl 2 rfl) ?_
        refine lv_bipush (v := (16 : Int32)) hx hb dX11_sheet_18 (by decide) ?_
        refine lv_icmp_eq (tgt := 35) hx hb dX11_sheet_20 (by decide) (fun c29 => ?_) (fun c29 => ?_)
        · replace hf := kt c29 hf
          refine lv_iload_n hx hb dX11_sheet_35 rfl (lv_at hl 2 rfl) ?_
          refine lv_if_eq (tgt := 49) hx hb dX11_sheet_36 (by decide) (fun c30 => ?_) (fun c30 => ?_)
          · replace hf := kt c30 hf
            exact J49 p0 p1 p2 this_errors this_sheetBits this_sheetLengths this_sheetNumbers _ _ hP hD hS ls (lv_sub hl [0, 1, 2, 3] rfl) hf
          · replace hf := kf c30 hf
            refine lv_iload_n hx hb dX11_sheet_39 rfl (lv_at hl 3 rfl) ?_
            refine lv_if_ge (tgt := 49) hx hb dX11_sheet_40 (by decide) (fun c31 => ?_) (fun c31 => ?_)
            · replace hf := kt c31 hf
              exact J49 p0 p1 p2 this_errors this_sheetBits this_sheetLengths this_sheetNumbers _ _ hP hD hS ls (lv_sub hl [0, 1, 2, 3] rfl) hf
            · replace hf := kf c31 hf
              refine lv_aload_n hx hb dX11_sheet_43 rfl (lv_at hl 0 rfl) ?_
              refine lv_iconst (v := (3 : Int32)) hx hb dX11_sheet_44 (by decide) ?_
              obtain ⟨r32, hr32, hf⟩ := kb hf
              refine kV (As := [.int (3 : Int32)]) (rest := []) ⟨hx, hb, hml, hown, hts⟩ (c_X11_error l G N a_this a_this_shop a_this_kept a_this_sheetBits a_this_sheetLengths a_this_sheetNumbers a_this_trace a_this_errors a_this_one a_this_second a_this_extra a_this_room a_this_values a_this_best (3 : Int32) this_imaged this_images this_bestPaid this_bestNet this_errors r32 hr32) (kcV 1 hts tw_405 tw_80 tw_402 tw_404 tw_0 hd_X11_error ⟨Nat.le_of_ble_eq_true rfl, Nat.le_of_ble_eq_true rfl⟩) dX11_sheet_45 hl.1 hK hAm hA hP hD hS 0 (ci := 11) rfl rfl rfl [0, 1] rfl rfl rfl [1] rfl rfl rfl (Nat.le_of_ble_eq_true rfl) ⟨Nat.le_refl _, Nat.le_refl _⟩ (fun H locs hP hD hS => ?_)
              have hP : va_P (gD G) vwCl (k_X11_sheet G a_this a_this_shop a_this_kept a_this_sheetBits a_this_sheetLengths a_this_sheetNumbers a_this_trace a_this_errors a_this_one a_this_second a_this_extra a_this_room a_this_values a_this_best e_this_sheetNumbers this_imaged this_images this_bestPaid this_bestNet r32.2 this_sheetBits this_sheetLengths this_sheetNumbers) H := hP
              have hD : va_D A (k_X11_sheet G a_this a_this_shop a_this_kept a_this_sheetBits a_this_sheetLengths a_this_sheetNumbers a_this_trace a_this_errors a_this_one a_this_second a_this_extra a_this_room a_this_values a_this_best e_this_sheetNumbers this_imaged this_images this_bestPaid this_bestNet r32.2 this_sheetBits this_sheetLengths this_sheetNumbers) := hD
              have ho := ks hf
              subst ho
              exact kiret hx hb hr hlk hP hD hS hQ dX11_sheet_48
        · replace hf := kf c29 hf
          refine lv_iload_n hx hb dX11_sheet_23 rfl (lv_at hl 2 rfl) ?_
          refine lv_bipush (v := (32 : Int32)) hx hb dX11_sheet_24 (by decide) ?_
          refine lv_icmp_eq (tgt := 35) hx hb dX11_sheet_26 (by decide) (fun c33 => ?_) (fun c33 => ?_)
          · replace hf := kt c33 hf
            refine lv_iload_n hx hb dX11_sheet_35 rfl (lv_at hl 2 rfl) ?_
            refine lv_if_eq (tgt := 49) hx hb dX11_sheet_36 (by decide) (fun c34 => ?_) (fun c34 => ?_)
            · replace hf := kt c34 hf
              exact J49 p0 p1 p2 this_errors this_sheetBits this_sheetLengths this_sheetNumbers _ _ hP hD hS ls (lv_sub hl [0, 1, 2, 3] rfl) hf
            · replace hf := kf c34 hf
              refine lv_iload_n hx hb dX11_sheet_39 rfl (lv_at hl 3 rfl) ?_
              refine lv_if_ge (tgt := 49) hx hb dX11_sheet_40 (by decide) (fun c35 => ?_) (fun c35 => ?_)
              · replace hf := kt c35 hf
                exact J49 p0 p1 p2 this_errors this_sheetBits this_sheetLengths this_sheetNumbers _ _ hP hD hS ls (lv_sub hl [0, 1, 2, 3] rfl) hf
              · replace hf := kf c35 hf
                refine lv_aload_n hx hb dX11_sheet_43 rfl (lv_at hl 0 rfl) ?_
                refine lv_iconst (v := (3 : Int32)) hx hb dX11_sheet_44 (by decide) ?_
                obtain ⟨r36, hr36, hf⟩ := kb hf
                refine kV (As := [.int (3 : Int32)]) (rest := []) ⟨hx, hb, hml, hown, hts⟩ (c_X11_error l G N a_this a_this_shop a_this_kept a_this_sheetBits a_this_sheetLengths a_this_sheetNumbers a_this_trace a_this_errors a_this_one a_this_second a_this_extra a_this_room a_this_values a_this_best (3 : Int32) this_imaged this_images this_bestPaid this_bestNet this_errors r36 hr36) (kcV 1 hts tw_405 tw_80 tw_402 tw_404 tw_0 hd_X11_error ⟨Nat.le_of_ble_eq_true rfl, Nat.le_of_ble_eq_true rfl⟩) dX11_sheet_45 hl.1 hK hAm hA hP hD hS 0 (ci := 11) rfl rfl rfl [0, 1] rfl rfl rfl [1] rfl rfl rfl (Nat.le_of_ble_eq_true rfl) ⟨Nat.le_refl _, Nat.le_refl _⟩ (fun H locs hP hD hS => ?_)
                have hP : va_P (gD G) vwCl (k_X11_sheet G a_this a_this_shop a_this_kept a_this_sheetBits a_this_sheetLengths a_this_sheetNumbers a_this_trace a_this_errors a_this_one a_this_second a_this_extra a_this_room a_this_values a_this_best e_this_sheetNumbers this_imaged this_images this_bestPaid this_bestNet r36.2 this_sheetBits this_sheetLengths this_sheetNumbers) H := hP
                have hD : va_D A (k_X11_sheet G a_this a_this_shop a_this_kept a_this_sheetBits a_this_sheetLengths a_this_sheetNumbers a_this_trace a_this_errors a_this_one a_this_second a_this_extra a_this_room a_this_values a_this_best e_this_sheetNumbers this_imaged this_images this_bestPaid this_bestNet r36.2 this_sheetBits this_sheetLengths this_sheetNumbers) := hD
                have ho := ks hf
                subst ho
                exact kiret hx hb hr hlk hP hD hS hQ dX11_sheet_48
          · replace hf := kf c33 hf
            refine lv_aload_n hx hb dX11_sheet_29 rfl (lv_at hl 0 rfl) ?_
            refine lv_iconst (v := (1 : Int32)) hx hb dX11_sheet_30 (by decide) ?_
            obtain ⟨r37, hr37, hf⟩ := kb hf
            refine kV (As := [.int (1 : Int32)]) (rest := []) ⟨hx, hb, hml, hown, hts⟩ (c_X11_error l G N a_this a_this_shop a_this_kept a_this_sheetBits a_this_sheetLengths a_this_sheetNumbers a_this_trace a_this_errors a_this_one a_this_second a_this_extra a_this_room a_this_values a_this_best (1 : Int32) this_imaged this_images this_bestPaid this_bestNet this_errors r37 hr37) (kcV 1 hts tw_405 tw_80 tw_402 tw_404 tw_0 hd_X11_error ⟨Nat.le_of_ble_eq_true rfl, Nat.le_of_ble_eq_true rfl⟩) dX11_sheet_31 hl.1 hK hAm hA hP hD hS 0 (ci := 11) rfl rfl rfl [0, 1] rfl rfl rfl [1] rfl rfl rfl (Nat.le_of_ble_eq_true rfl) ⟨Nat.le_refl _, Nat.le_refl _⟩ (fun H locs hP hD hS => ?_)
            have hP : va_P (gD G) vwCl (k_X11_sheet G a_this a_this_shop a_this_kept a_this_sheetBits a_this_sheetLengths a_this_sheetNumbers a_this_trace a_this_errors a_this_one a_this_second a_this_extra a_this_room a_this_values a_this_best e_this_sheetNumbers this_imaged this_images this_bestPaid this_bestNet r37.2 this_sheetBits this_sheetLengths this_sheetNumbers) H := hP
            have hD : va_D A (k_X11_sheet G a_this a_this_shop a_this_kept a_this_sheetBits a_this_sheetLengths a_this_sheetNumbers a_this_trace a_this_errors a_this_one a_this_second a_this_extra a_this_room a_this_values a_this_best e_this_sheetNumbers this_imaged this_images this_bestPaid this_bestNet r37.2 this_sheetBits this_sheetLengths this_sheetNumbers) := hD
            have ho := ks hf
            subst ho
            exact kiret hx hb hr hlk hP hD hS hQ dX11_sheet_34
abbrev k_X11_put (G : KG) (a_this : Nat) (a_this_shop : Nat) (a_this_kept : Nat) (a_this_sheetBits : Nat) (a_this_sheetLengths : Nat) (a_this_sheetNumbers : Nat) (a_this_trace : Nat) (a_this_errors : Nat) (a_this_one : Nat) (a_this_second : Nat) (a_this_extra : Nat) (a_this_room : Nat) (a_this_values : Nat) (a_this_best : Nat) (e_this_sheetNumbers : Nat → Nat) (this_imaged : Int32) (this_images : Int32) (this_bestPaid : Int32) (this_bestNet : Int32) (this_errors : Nat → Int32) (this_sheetBits : Nat → Int32) (this_sheetLengths : Nat → Int32) (this_sheetNumbers : Nat → Nat → Int32) : va_W := [(a_this, .inr (11, [.ref a_this_shop, .ref a_this_kept, .int this_imaged, .int this_images, .ref a_this_sheetBits, .ref a_this_sheetLengths, .ref a_this_sheetNumbers, .ref a_this_trace, .ref a_this_errors, .ref a_this_one, .ref a_this_second, .ref a_this_extra, .ref a_this_room, .ref a_this_values, .ref a_this_best, .int this_bestPaid, .int this_bestNet])), (a_this_errors, .inl (gI G, 7, .inl this_errors)), (a_this_sheetBits, .inl (gI G, 4, .inl this_sheetBits)), (a_this_sheetLengths, .inl (gI G, 4, .inl this_sheetLengths)), (a_this_sheetNumbers, .inl (gII G, 4, .inr (.inr (.inr (.inr (fun j => some (e_this_sheetNumbers j))))))), (e_this_sheetNumbers 0, .inl (gI G, 24, .inl (this_sheetNumbers 0))), (e_this_sheetNumbers 1, .inl (gI G, 24, .inl (this_sheetNumbers 1))), (e_this_sheetNumbers 2, .inl (gI G, 24, .inl (this_sheetNumbers 2))), (e_this_sheetNumbers 3, .inl (gI G, 24, .inl (this_sheetNumbers 3)))]
def f_X11_put (N : Nat) (p0 : Int32) (p1 : Int32) (p2 : Int32) (this_errors : Nat → Int32) (this_sheetBits : Nat → Int32) (this_sheetLengths : Nat → Int32) (this_sheetNumbers : Nat → Nat → Int32) : Option (Int32 × (Nat → Int32) × (Nat → Nat → Int32)) := ((f_X11_isSheet N p0).bind fun r1 => (if r1 = 0 then ((f_X11_error N (1 : Int32) this_errors).bind fun r16 => (some (r16.1, r16.2, this_sheetNumbers))) else ((f_X11_isMissing N p0 this_sheetBits).bind fun r3 => (if r3 = 0 then (if vin p0 4 = true then ((f_X11_within N p1 (0 : Int32) ((this_sheetLengths p0.toNatClampNeg) - (1 : Int32))).bind fun r6 => (if r6 = 0 then ((f_X11_error N (1 : Int32) this_errors).bind fun r14 => (some (r14.1, r14.2, this_sheetNumbers))) else (if vin p0 4 = true then (if vin p0 4 = true then ((f_X11_lowest N p2 (this_sheetBits p0.toNatClampNeg)).bind fun r10 => (if vin p1 24 = true then (some ((1 : Int32), this_errors, (va_up this_sheetNumbers p0.toNatClampNeg (upd (this_sheetNumbers p0.toNatClampNeg) p1.toNatClampNeg r10)))) else none)) else none) else none))) else none) else ((f_X11_error N (2 : Int32) this_errors).bind fun r15 => (some (r15.1, r15.2, this_sheetNumbers)))))))
set_option maxRecDepth 100000 in
set_option maxHeartbeats 4000000 in
theorem c_X11_put (l : Launch) (G : KG) (N : Nat) (a_this : Nat) (a_this_shop : Nat) (a_this_kept : Nat) (a_this_sheetBits : Nat) (a_this_sheetLengths : Nat) (a_this_sheetNumbers : Nat) (a_this_trace : Nat) (a_this_errors : Nat) (a_this_one : Nat) (a_this_second : Nat) (a_this_extra : Nat) (a_this_room : Nat) (a_this_values : Nat) (a_this_best : Nat) (e_this_sheetNumbers : Nat → Nat) (p0 : Int32) (p1 : Int32) (p2 : Int32) (this_imaged : Int32) (this_images : Int32) (this_bestPaid : Int32) (this_bestNet : Int32) (this_errors : Nat → Int32) (this_sheetBits : Nat → Int32) (this_sheetLengths : Nat → Int32) (this_sheetNumbers : Nat → Nat → Int32)  (out : Int32 × (Nat → Int32) × (Nat → Nat → Int32)) (hf : f_X11_put N p0 p1 p2 this_errors this_sheetBits this_sheetLengths this_sheetNumbers = some out) : KM l G yX11_put (kw yX11_put cX11_put 4 (some .int)) 2 43 [.ref a_this, .int p0, .int p1, .int p2] (k_X11_put G a_this a_this_shop a_this_kept a_this_sheetBits a_this_sheetLengths a_this_sheetNumbers a_this_trace a_this_errors a_this_one a_this_second a_this_extra a_this_room a_this_values a_this_best e_this_sheetNumbers this_imaged this_images this_bestPaid this_bestNet this_errors this_sheetBits this_sheetLengths this_sheetNumbers) (k_X11_put G a_this a_this_shop a_this_kept a_this_sheetBits a_this_sheetLengths a_this_sheetNumbers a_this_trace a_this_errors a_this_one a_this_second a_this_extra a_this_room a_this_values a_this_best e_this_sheetNumbers this_imaged this_images this_bestPaid this_bestNet (out.2.1) this_sheetBits this_sheetLengths (out.2.2)) (some (.int (out.1))) := by
  refine KM.of (by decide) (Nat.le_of_ble_eq_true rfl) ?_
  intro p e s m below meth c A ls args Q Fx0 hP hK hD hA hS hAm hQ hl
  obtain ⟨hx, hb, hr, hml, hts, hown, hlk, hnm⟩ := Fx0
  have hown : s.vm.findClass RX11 = some m.cls := hown
  have hl : lv_has ls 4 [(0, .ref a_this), (1, .int p0), (2, .int p1), (3, .int p2)] := hl
  have fl_31 := hts _ tw_338
  have fl_36 := hts _ tw_339
  have fl_27 := hts _ tw_337
  unfold f_X11_put at hf
  refine lv_iload_n hx hb dX11_put_0 rfl (lv_at hl 1 rfl) ?_
  obtain ⟨r1, hr1, hf⟩ := kb hf
  refine kS (As := [.int p0]) (rest := []) ⟨hx, hb, hml, hown, hts⟩ (c_X11_isSheet l G N p0 r1 hr1) (kcS 1 hts tw_682 tw_80 tw_680 tw_681 hd_X11_isSheet ⟨Nat.le_of_ble_eq_true rfl, Nat.le_of_ble_eq_true rfl⟩) dX11_put_1 hl.1 hK hAm hA hP hD hS [] rfl rfl rfl [] rfl rfl rfl (Nat.le_of_ble_eq_true rfl) ⟨Nat.le_refl _, Nat.le_refl _⟩ (fun H locs hP hD hS => ?_)
  have hP : va_P (gD G) vwCl (k_X11_put G a_this a_this_shop a_this_kept a_this_sheetBits a_this_sheetLengths a_this_sheetNumbers a_this_trace a_this_errors a_this_one a_this_second a_this_extra a_this_room a_this_values a_this_best e_this_sheetNumbers this_imaged this_images this_bestPaid this_bestNet this_errors this_sheetBits this_sheetLengths this_sheetNumbers) H := hP
  have hD : va_D A (k_X11_put G a_this a_this_shop a_this_kept a_this_sheetBits a_this_sheetLengths a_this_sheetNumbers a_this_trace a_this_errors a_this_one a_this_second a_this_extra a_this_room a_this_values a_this_best e_this_sheetNumbers this_imaged this_images this_bestPaid this_bestNet this_errors this_sheetBits this_sheetLengths this_sheetNumbers) := hD
  refine lv_if_ne (tgt := 13) hx hb dX11_put_4 (by decide) (fun c2 => ?_) (fun c2 => ?_)
  · replace hf := kf c2 hf
    refine lv_aload_n hx hb dX11_put_13 rfl (lv_at hl 0 rfl) ?_
    refine lv_iload_n hx hb dX11_put_14 rfl (lv_at hl 1 rfl) ?_
    obtain ⟨r3, hr3, hf⟩ := kb hf
    refine kV (As := [.int p0]) (rest := []) ⟨hx, hb, hml, hown, hts⟩ (c_X11_isMissing l G N a_this a_this_shop a_this_kept a_this_sheetBits a_this_sheetLengths a_this_sheetNumbers a_this_trace a_this_errors a_this_one a_this_second a_this_extra a_this_room a_this_values a_this_best p0 this_imaged this_images this_bestPaid this_bestNet this_sheetBits r3 hr3) (kcV 1 hts tw_690 tw_80 tw_687 tw_689 tw_19 hd_X11_isMissing ⟨Nat.le_of_ble_eq_true rfl, Nat.le_of_ble_eq_true rfl⟩) dX11_put_15 hl.1 hK hAm hA hP hD hS 0 (ci := 11) rfl rfl rfl [0, 2] rfl rfl rfl [] rfl rfl rfl (Nat.le_of_ble_eq_true rfl) ⟨Nat.le_refl _, Nat.le_refl _⟩ (fun H locs hP hD hS => ?_)
    have hP : va_P (gD G) vwCl (k_X11_put G a_this a_this_shop a_this_kept a_this_sheetBits a_this_sheetLengths a_this_sheetNumbers a_this_trace a_this_errors a_this_one a_this_second a_this_extra a_this_room a_this_values a_this_best e_this_sheetNumbers this_imaged this_images this_bestPaid this_bestNet this_errors this_sheetBits this_sheetLengths this_sheetNumbers) H := hP
    have hD : va_D A (k_X11_put G a_this a_this_shop a_this_kept a_this_sheetBits a_this_sheetLengths a_this_sheetNumbers a_this_trace a_this_errors a_this_one a_this_second a_this_extra a_this_room a_this_values a_this_best e_this_sheetNumbers this_imaged this_images this_bestPaid this_bestNet this_errors this_sheetBits this_sheetLengths this_sheetNumbers) := hD
    refine lv_if_eq (tgt := 27) hx hb dX11_put_18 (by decide) (fun c4 => ?_) (fun c4 => ?_)
    · replace hf := kt c4 hf
      refine lv_iload_n hx hb dX11_put_27 rfl (lv_at hl 2 rfl) ?_
      refine lv_iconst (v := (0 : Int32)) hx hb dX11_put_28 (by decide) ?_
      refine lv_aload_n hx hb dX11_put_29 rfl (lv_at hl 0 rfl) ?_
      refine va_get (D := gD G) (ci := 11) (C := RX11) (T := TX11) (N := 17) hx hb hts hin_X11 hown hK hP 0 rfl rfl 5 (by decide) fl_31 (fun _ h9 => h9) rfl dX11_put_30 ?_
      refine lv_iload_n hx hb dX11_put_33 rfl (lv_at hl 1 rfl) ?_
      obtain ⟨g5, hf⟩ := kg hf
      refine va_iald hx hb hK hP 3 0 rfl rfl (vin_of g5) dX11_put_34 ?_
      refine lv_iconst (v := (1 : Int32)) hx hb dX11_put_35 (by decide) ?_
      refine lv_isub hx hb dX11_put_36 ?_
      obtain ⟨r6, hr6, hf⟩ := kb hf
      refine kS (As := [.int p1, .int (0 : Int32), .int ((this_sheetLengths p0.toNatClampNeg) - (1 : Int32))]) (rest := []) ⟨hx, hb, hml, hown, hts⟩ (c_X11_within l G N p1 (0 : Int32) ((this_sheetLengths p0.toNatClampNeg) - (1 : Int32)) r6 hr6) (kcS 3 hts tw_394 tw_80 tw_392 tw_393 hd_X11_within ⟨Nat.le_of_ble_eq_true rfl, Nat.le_of_ble_eq_true rfl⟩) dX11_put_37 hl.1 hK hAm hA hP hD hS [] rfl rfl rfl [] rfl rfl rfl (Nat.le_of_ble_eq_true rfl) ⟨Nat.le_refl _, Nat.le_refl _⟩ (fun H locs hP hD hS => ?_)
      have hP : va_P (gD G) vwCl (k_X11_put G a_this a_this_shop a_this_kept a_this_sheetBits a_this_sheetLengths a_this_sheetNumbers a_this_trace a_this_errors a_this_one a_this_second a_this_extra a_this_room a_this_values a_this_best e_this_sheetNumbers this_imaged this_images this_bestPaid this_bestNet this_errors this_sheetBits this_sheetLengths this_sheetNumbers) H := hP
      have hD : va_D A (k_X11_put G a_this a_this_shop a_this_kept a_this_sheetBits a_this_sheetLengths a_this_sheetNumbers a_this_trace a_this_errors a_this_one a_this_second a_this_extra a_this_room a_this_values a_this_best e_this_sheetNumbers this_imaged this_images this_bestPaid this_bestNet this_errors this_sheetBits this_sheetLengths this_sheetNumbers) := hD
      refine lv_if_ne (tgt := 49) hx hb dX11_put_40 (by decide) (fun c7 => ?_) (fun c7 => ?_)
      · replace hf := kf c7 hf
        refine lv_aload_n hx hb dX11_put_49 rfl (lv_at hl 0 rfl) ?_
        refine va_get (D := gD G) (ci := 11) (C := RX11) (T := TX11) (N := 17) hx hb hts hin_X11 hown hK hP 0 rfl rfl 6 (by decide) fl_36 (fun _ h9 => h9) rfl dX11_put_50 ?_
        refine lv_iload_n hx hb dX11_put_53 rfl (lv_at hl 1 rfl) ?_
        obtain ⟨g8, hf⟩ := kg hf
        refine ka_aald hx hb hK hP 4 rfl (vin_of g8) dX11_put_54 ?_
        refine lv_iload_n hx hb dX11_put_55 rfl (lv_at hl 2 rfl) ?_
        refine lv_iload_n hx hb dX11_put_56 rfl (lv_at hl 3 rfl) ?_
        refine lv_aload_n hx hb dX11_put_57 rfl (lv_at hl 0 rfl) ?_
        refine va_get (D := gD G) (ci := 11) (C := RX11) (T := TX11) (N := 17) hx hb hts hin_X11 hown hK hP 0 rfl rfl 4 (by decide) fl_27 (fun _ h9 => h9) rfl dX11_put_58 ?_
        refine lv_iload_n hx hb dX11_put_61 rfl (lv_at hl 1 rfl) ?_
        obtain ⟨g9, hf⟩ := kg hf
        refine va_iald hx hb hK hP 2 0 rfl rfl (vin_of g9) dX11_put_62 ?_
        obtain ⟨r10, hr10, hf⟩ := kb hf
        refine kS (As := [.int p2, .int (this_sheetBits p0.toNatClampNeg)]) (rest := [.int p1, .ref (e_this_sheetNumbers p0.toNatClampNeg)]) ⟨hx, hb, hml, hown, hts⟩ (c_X11_lowest l G N p2 (this_sheetBits p0.toNatClampNeg) r10 hr10) (kcS 2 hts tw_929 tw_80 tw_927 tw_928 hd_X11_lowest ⟨Nat.le_of_ble_eq_true rfl, Nat.le_of_ble_eq_true rfl⟩) dX11_put_63 hl.1 hK hAm hA hP hD hS [] rfl rfl rfl [] rfl rfl rfl (Nat.le_of_ble_eq_true rfl) ⟨Nat.le_refl _, Nat.le_refl _⟩ (fun H locs hP hD hS => ?_)
        have hP : va_P (gD G) vwCl (k_X11_put G a_this a_this_shop a_this_kept a_this_sheetBits a_this_sheetLengths a_this_sheetNumbers a_this_trace a_this_errors a_this_one a_this_second a_this_extra a_this_room a_this_values a_this_best e_this_sheetNumbers this_imaged this_images this_bestPaid this_bestNet this_errors this_sheetBits this_sheetLengths this_sheetNumbers) H := hP
        have hD : va_D A (k_X11_put G a_this a_this_shop a_this_kept a_this_sheetBits a_this_sheetLengths a_this_sheetNumbers a_this_trace a_this_errors a_this_one a_this_second a_this_extra a_this_room a_this_values a_this_best e_this_sheetNumbers this_imaged this_images this_bestPaid this_bestNet this_errors this_sheetBits this_sheetLengths this_sheetNumbers) := hD
        obtain ⟨g13, hf⟩ := kg hf
        have w11 : ∀ j, j < 4 → (k_X11_put G a_this a_this_shop a_this_kept a_this_sheetBits a_this_sheetLengths a_this_sheetNumbers a_this_trace a_this_errors a_this_one a_this_second a_this_extra a_this_room a_this_values a_this_best e_this_sheetNumbers this_imaged this_images this_bestPaid this_bestNet this_errors this_sheetBits this_sheetLengths this_sheetNumbers)[5 + j]? = some (e_this_sheetNumbers j, .inl (gI G, 24, .inl (this_sheetNumbers j))) := fun j hj => match j, hj with | 0, _ => rfl | 1, _ => rfl | 2, _ => rfl | 3, _ => rfl | k + 4, hk => absurd hk (by omega)
        refine va_iast hx hb hK hP hD hS (5 + p0.toNatClampNeg) 0 (w11 _ (vin_lt g8)) rfl (vin_of g13) dX11_put_66 (fun H locs hP hD hS => ?_)
        have z12 : ∀ j, j < 4 → (k_X11_put G a_this a_this_shop a_this_kept a_this_sheetBits a_this_sheetLengths a_this_sheetNumbers a_this_trace a_this_errors a_this_one a_this_second a_this_extra a_this_room a_this_values a_this_best e_this_sheetNumbers this_imaged this_images this_bestPaid this_bestNet this_errors this_sheetBits this_sheetLengths this_sheetNumbers).set (5 + j) (e_this_sheetNumbers j, .inl (gI G, 24, .inl (upd (this_sheetNumbers p0.toNatClampNeg) p1.toNatClampNeg r10))) = (k_X11_put G a_this a_this_shop a_this_kept a_this_sheetBits a_this_sheetLengths a_this_sheetNumbers a_this_trace a_this_errors a_this_one a_this_second a_this_extra a_this_room a_this_values a_this_best e_this_sheetNumbers this_imaged this_images this_bestPaid this_bestNet this_errors this_sheetBits this_sheetLengths (va_up this_sheetNumbers j (upd (this_sheetNumbers p0.toNatClampNeg) p1.toNatClampNeg r10))) := fun j hj => match j, hj with | 0, _ => rfl | 1, _ => rfl | 2, _ => rfl | 3, _ => rfl | k + 4, hk => absurd hk (by omega)
        have hP : va_P (gD G) vwCl (k_X11_put G a_this a_this_shop a_this_kept a_this_sheetBits a_this_sheetLengths a_this_sheetNumbers a_this_trace a_this_errors a_this_one a_this_second a_this_extra a_this_room a_this_values a_this_best e_this_sheetNumbers this_imaged this_images this_bestPaid this_bestNet this_errors this_sheetBits this_sheetLengths (va_up this_sheetNumbers p0.toNatClampNeg (upd (this_sheetNumbers p0.toNatClampNeg) p1.toNatClampNeg r10))) H := Eq.mp (congrArg (fun w => va_P (gD G) vwCl w H) (z12 _ (vin_lt g8))) hP
        have hD : va_D A (k_X11_put G a_this a_this_shop a_this_kept a_this_sheetBits a_this_sheetLengths a_this_sheetNumbers a_this_trace a_this_errors a_this_one a_this_second a_this_extra a_this_room a_this_values a_this_best e_this_sheetNumbers this_imaged this_images this_bestPaid this_bestNet this_errors this_sheetBits this_sheetLengths (va_up this_sheetNumbers p0.toNatClampNeg (upd (this_sheetNumbers p0.toNatClampNeg) p1.toNatClampNeg r10))) := Eq.mp (congrArg (fun w => va_D A w) (z12 _ (vin_lt g8))) hD
        refine lv_iconst (v := (1 : Int32)) hx hb dX11_put_67 (by decide) ?_
        have ho := ks hf
        subst ho
        exact kiret hx hb hr hlk hP hD hS hQ dX11_put_68
      · replace hf := kt c7 hf
        refine lv_aload_n hx hb dX11_put_43 rfl (lv_at hl 0 rfl) ?_
        refine lv_iconst (v := (1 : Int32)) hx hb dX11_put_44 (by decide) ?_
        obtain ⟨r14, hr14, hf⟩ := kb hf
        refine kV (As := [.int (1 : Int32)]) (rest := []) ⟨hx, hb, hml, hown, hts⟩ (c_X11_error l G N a_this a_this_shop a_this_kept a_this_sheetBits a_this_sheetLengths a_this_sheetNumbers a_this_trace a_this_errors a_this_one a_this_second a_this_extra a_this_room a_this_values a_this_best (1 : Int32) this_imaged this_images this_bestPaid this_bestNet this_errors r14 hr14) (kcV 1 hts tw_405 tw_80 tw_402 tw_404 tw_0 hd_X11_error ⟨Nat.le_of_ble_eq_true rfl, Nat.le_of_ble_eq_true rfl⟩) dX11_put_45 hl.1 hK hAm hA hP hD hS 0 (ci := 11) rfl rfl rfl [0, 1] rfl rfl rfl [1] rfl rfl rfl (Nat.le_of_ble_eq_true rfl) ⟨Nat.le_refl _, Nat.le_refl _⟩ (fun H locs hP hD hS => ?_)
        have hP : va_P (gD G) vwCl (k_X11_put G a_this a_this_shop a_this_kept a_this_sheetBits a_this_sheetLengths a_this_sheetNumbers a_this_trace a_this_errors a_this_one a_this_second a_this_extra a_this_room a_this_values a_this_best e_this_sheetNumbers this_imaged this_images this_bestPaid this_bestNet r14.2 this_sheetBits this_sheetLengths this_sheetNumbers) H := hP
        have hD : va_D A (k_X11_put G a_this a_this_shop a_this_kept a_this_sheetBits a_this_sheetLengths a_this_sheetNumbers a_this_trace a_this_errors a_this_one a_this_second a_this_extra a_this_room a_this_values a_this_best e_this_sheetNumbers this_imaged this_images this_bestPaid this_bestNet r14.2 this_sheetBits this_sheetLengths this_sheetNumbers) := hD
        have ho := ks hf
        subst ho
        exact kiret hx hb hr hlk hP hD hS hQ dX11_put_48
    · replace hf := kf c4 hf
      refine lv_aload_n hx hb dX11_put_21 rfl (lv_at hl 0 rfl) ?_
      refine lv_iconst (v := (2 : Int32)) hx hb dX11_put_22 (by decide) ?_
      obtain ⟨r15, hr15, hf⟩ := kb hf
      refine kV (As := [.int (2 : Int32)]) (rest := []) ⟨hx, hb, hml, hown, hts⟩ (c_X11_error l G N a_this a_this_shop a_this_kept a_this_sheetBits a_this_sheetLengths a_this_sheetNumbers a_this_trace a_this_errors a_this_one a_this_second a_this_extra a_this_room a_this_values a_this_best (2 : Int32) this_imaged this_images this_bestPaid this_bestNet this_errors r15 hr15) (kcV 1 hts tw_405 tw_80 tw_402 tw_404 tw_0 hd_X11_error ⟨Nat.le_of_ble_eq_true rfl, Nat.le_of_ble_eq_true rfl⟩) dX11_put_23 hl.1 hK hAm hA hP hD hS 0 (ci := 11) rfl rfl rfl [0, 1] rfl rfl rfl [1] rfl rfl rfl (Nat.le_of_ble_eq_true rfl) ⟨Nat.le_refl _, Nat.le_refl _⟩ (fun H locs hP hD hS => ?_)
      have hP : va_P (gD G) vwCl (k_X11_put G a_this a_this_shop a_this_kept a_this_sheetBits a_this_sheetLengths a_this_sheetNumbers a_this_trace a_this_errors a_this_one a_this_second a_this_extra a_this_room a_this_values a_this_best e_this_sheetNumbers this_imaged this_images this_bestPaid this_bestNet r15.2 this_sheetBits this_sheetLengths this_sheetNumbers) H := hP
      have hD : va_D A (k_X11_put G a_this a_this_shop a_this_kept a_this_sheetBits a_this_sheetLengths a_this_sheetNumbers a_this_trace a_this_errors a_this_one a_this_second a_this_extra a_this_room a_this_values a_this_best e_this_sheetNumbers this_imaged this_images this_bestPaid this_bestNet r15.2 this_sheetBits this_sheetLengths this_sheetNumbers) := hD
      have ho := ks hf
      subst ho
      exact kiret hx hb hr hlk hP hD hS hQ dX11_put_26
  · replace hf := kt c2 hf
    refine lv_aload_n hx hb dX11_put_7 rfl (lv_at hl 0 rfl) ?_
    refine lv_iconst (v := (1 : Int32)) hx hb dX11_put_8 (by decide) ?_
    obtain ⟨r16, hr16, hf⟩ := kb hf
    refine kV (As := [.int (1 : Int32)]) (rest := []) ⟨hx, hb, hml, hown, hts⟩ (c_X11_error l G N a_this a_this_shop a_this_kept a_this_sheetBits a_this_sheetLengths a_this_sheetNumbers a_this_trace a_this_errors a_this_one a_this_second a_this_extra a_this_room a_this_values a_this_best (1 : Int32) this_imaged this_images this_bestPaid this_bestNet this_errors r16 hr16) (kcV 1 hts tw_405 tw_80 tw_402 tw_404 tw_0 hd_X11_error ⟨Nat.le_of_ble_eq_true rfl, Nat.le_of_ble_eq_true rfl⟩) dX11_put_9 hl.1 hK hAm hA hP hD hS 0 (ci := 11) rfl rfl rfl [0, 1] rfl rfl rfl [1] rfl rfl rfl (Nat.le_of_ble_eq_true rfl) ⟨Nat.le_refl _, Nat.le_refl _⟩ (fun H locs hP hD hS => ?_)
    have hP : va_P (gD G) vwCl (k_X11_put G a_this a_this_shop a_this_kept a_this_sheetBits a_this_sheetLengths a_this_sheetNumbers a_this_trace a_this_errors a_this_one a_this_second a_this_extra a_this_room a_this_values a_this_best e_this_sheetNumbers this_imaged this_images this_bestPaid this_bestNet r16.2 this_sheetBits this_sheetLengths this_sheetNumbers) H := hP
    have hD : va_D A (k_X11_put G a_this a_this_shop a_this_kept a_this_sheetBits a_this_sheetLengths a_this_sheetNumbers a_this_trace a_this_errors a_this_one a_this_second a_this_extra a_this_room a_this_values a_this_best e_this_sheetNumbers this_imaged this_images this_bestPaid this_bestNet r16.2 this_sheetBits this_sheetLengths this_sheetNumbers) := hD
    have ho := ks hf
    subst ho
    exact kiret hx hb hr hlk hP hD hS hQ dX11_put_12
abbrev k_X11_move (G : KG) (a_this : Nat) (a_this_shop : Nat) (a_this_kept : Nat) (a_this_sheetBits : Nat) (a_this_sheetLengths : Nat) (a_this_sheetNumbers : Nat) (a_this_trace : Nat) (a_this_errors : Nat) (a_this_one : Nat) (a_this_second : Nat) (a_this_extra : Nat) (a_this_room : Nat) (a_this_values : Nat) (a_this_best : Nat) (e_this_sheetNumbers : Nat → Nat) (this_imaged : Int32) (this_images : Int32) (this_bestPaid : Int32) (this_bestNet : Int32) (this_errors : Nat → Int32) (this_sheetBits : Nat → Int32) (this_sheetLengths : Nat → Int32) (this_sheetNumbers : Nat → Nat → Int32) : va_W := [(a_this, .inr (11, [.ref a_this_shop, .ref a_this_kept, .int this_imaged, .int this_images, .ref a_this_sheetBits, .ref a_this_sheetLengths, .ref a_this_sheetNumbers, .ref a_this_trace, .ref a_this_errors, .ref a_this_one, .ref a_this_second, .ref a_this_extra, .ref a_this_room, .ref a_this_values, .ref a_this_best, .int this_bestPaid, .int this_bestNet])), (a_this_errors, .inl (gI G, 7, .inl this_errors)), (a_this_sheetBits, .inl (gI G, 4, .inl this_sheetBits)), (a_this_sheetLengths, .inl (gI G, 4, .inl this_sheetLengths)), (a_this_sheetNumbers, .inl (gII G, 4, .inr (.inr (.inr (.inr (fun j => some (e_this_sheetNumbers j))))))), (e_this_sheetNumbers 0, .inl (gI G, 24, .inl (this_sheetNumbers 0))), (e_this_sheetNumbers 1, .inl (gI G, 24, .inl (this_sheetNumbers 1))), (e_this_sheetNumbers 2, .inl (gI G, 24, .inl (this_sheetNumbers 2))), (e_this_sheetNumbers 3, .inl (gI G, 24, .inl (this_sheetNumbers 3)))]
def f_X11_move (N : Nat) (p0 : Int32) (p1 : Int32) (p2 : Int32) (p3 : Int32) (p4 : Int32) (this_errors : Nat → Int32) (this_sheetBits : Nat → Int32) (this_sheetLengths : Nat → Int32) (this_sheetNumbers : Nat → Nat → Int32) : Option (Int32 × (Nat → Int32) × (Nat → Nat → Int32)) := ((f_X11_isSheet N p0).bind fun r1 => (if r1 = 0 then ((f_X11_error N (1 : Int32) this_errors).bind fun r3 => (some (r3.1, r3.2, this_sheetNumbers))) else ((f_X11_isSheet N p2).bind fun r4 => (if r4 = 0 then ((f_X11_error N (1 : Int32) this_errors).bind fun r28 => (some (r28.1, r28.2, this_sheetNumbers))) else ((f_X11_isMissing N p0 this_sheetBits).bind fun r6 => (if r6 = 0 then ((f_X11_isMissing N p2 this_sheetBits).bind fun r9 => (if r9 = 0 then (if vin p0 4 = true then (if vin p2 4 = true then (if (this_sheetBits p0.toNatClampNeg) = (this_sheetBits p2.toNatClampNeg) then ((f_X11_stand N p0 p1 p4 this_sheetLengths).bind fun r14 => (if r14 = 0 then ((f_X11_error N (1 : Int32) this_errors).bind fun r16 => (some (r16.1, r16.2, this_sheetNumbers))) else ((f_X11_stand N p2 p3 p4 this_sheetLengths).bind fun r17 => (if r17 = 0 then ((f_X11_error N (1 : Int32) this_errors).bind fun r25 => (some (r25.1, r25.2, this_sheetNumbers))) else (if vin p0 4 = true then (if vin p2 4 = true then (if ¬ p1 < 0 ∧ ¬ p3 < 0 ∧ ¬ p4 < 0 ∧ p1.toNatClampNeg + p4.toNatClampNeg ≤ 24 ∧ p3.toNatClampNeg + p4.toNatClampNeg ≤ 24 then (some (p4, this_errors, (va_up this_sheetNumbers p2.toNatClampNeg (va_cpy (this_sheetNumbers p0.toNatClampNeg) (this_sheetNumbers p2.toNatClampNeg) p1.toNatClampNeg p3.toNatClampNeg p4.toNatClampNeg)))) else none) else none) else none))))) else ((f_X11_error N (5 : Int32) this_errors).bind fun r26 => (some (r26.1, r26.2, this_sheetNumbers)))) else none) else none) else ((f_X11_error N (2 : Int32) this_errors).bind fun r27 => (some (r27.1, r27.2, this_sheetNumbers))))) else ((f_X11_error N (2 : Int32) this_errors).bind fun r8 => (some (r8.1, r8.2, this_sheetNumbers)))))))))
set_option maxRecDepth 100000 in
set_option maxHeartbeats 4000000 in
theorem c_X11_move (l : Launch) (G : KG) (N : Nat) (a_this : Nat) (a_this_shop : Nat) (a_this_kept : Nat) (a_this_sheetBits : Nat) (a_this_sheetLengths : Nat) (a_this_sheetNumbers : Nat) (a_this_trace : Nat) (a_this_errors : Nat) (a_this_one : Nat) (a_this_second : Nat) (a_this_extra : Nat) (a_this_room : Nat) (a_this_values : Nat) (a_this_best : Nat) (e_this_sheetNumbers : Nat → Nat) (p0 : Int32) (p1 : Int32) (p2 : Int32) (p3 : Int32) (p4 : Int32) (this_imaged : Int32) (this_images : Int32) (this_bestPaid : Int32) (this_bestNet : Int32) (this_errors : Nat → Int32) (this_sheetBits : Nat → Int32) (this_sheetLengths : Nat → Int32) (this_sheetNumbers : Nat → Nat → Int32)  (out : Int32 × (Nat → Int32) × (Nat → Nat → Int32)) (hf : f_X11_move N p0 p1 p2 p3 p4 this_errors this_sheetBits this_sheetLengths this_sheetNumbers = some out) : KM l G yX11_move (kw yX11_move cX11_move 6 (some .int)) 2 60 [.ref a_this, .int p0, .int p1, .int p2, .int p3, .int p4] (k_X11_move G a_this a_this_shop a_this_kept a_this_sheetBits a_this_sheetLengths a_this_sheetNumbers a_this_trace a_this_errors a_this_one a_this_second a_this_extra a_this_room a_this_values a_this_best e_this_sheetNumbers this_imaged this_images this_bestPaid this_bestNet this_errors this_sheetBits this_sheetLengths this_sheetNumbers) (k_X11_move G a_this a_this_shop a_this_kept a_this_sheetBits a_this_sheetLengths a_this_sheetNumbers a_this_trace a_this_errors a_this_one a_this_second a_this_extra a_this_room a_this_values a_this_best e_this_sheetNumbers this_imaged this_images this_bestPaid this_bestNet (out.2.1) this_sheetBits this_sheetLengths (out.2.2)) (some (.int (out.1))) := by
  refine KM.of (by decide) (Nat.le_of_ble_eq_true rfl) ?_
  intro p e s m below meth c A ls args Q Fx0 hP hK hD hA hS hAm hQ hl
  obtain ⟨hx, hb, hr, hml, hts, hown, hlk, hnm⟩ := Fx0
  have hown : s.vm.findClass RX11 = some m.cls := hown
  have hl : lv_has ls 6 [(0, .ref a_this), (1, .int p0), (2, .int p1), (3, .int p2), (4, .int p3), (5, .int p4)] := hl
  have fl_27 := hts _ tw_337
  have fl_36 := hts _ tw_339
  unfold f_X11_move at hf
  refine lv_iload_n hx hb dX11_move_0 rfl (lv_at hl 1 rfl) ?_
  obtain ⟨r1, hr1, hf⟩ := kb hf
  refine kS (As := [.int p0]) (rest := []) ⟨hx, hb, hml, hown, hts⟩ (c_X11_isSheet l G N p0 r1 hr1) (kcS 1 hts tw_682 tw_80 tw_680 tw_681 hd_X11_isSheet ⟨Nat.le_of_ble_eq_true rfl, Nat.le_of_ble_eq_true rfl⟩) dX11_move_1 hl.1 hK hAm hA hP hD hS [] rfl rfl rfl [] rfl rfl rfl (Nat.le_of_ble_eq_true rfl) ⟨Nat.le_refl _, Nat.le_refl _⟩ (fun H locs hP hD hS => ?_)
  have hP : va_P (gD G) vwCl (k_X11_move G a_this a_this_shop a_this_kept a_this_sheetBits a_this_sheetLengths a_this_sheetNumbers a_this_trace a_this_errors a_this_one a_this_second a_this_extra a_this_room a_this_values a_this_best e_this_sheetNumbers this_imaged this_images this_bestPaid this_bestNet this_errors this_sheetBits this_sheetLengths this_sheetNumbers) H := hP
  have hD : va_D A (k_X11_move G a_this a_this_shop a_this_kept a_this_sheetBits a_this_sheetLengths a_this_sheetNumbers a_this_trace a_this_errors a_this_one a_this_second a_this_extra a_this_room a_this_values a_this_best e_this_sheetNumbers this_imaged this_images this_bestPaid this_bestNet this_errors this_sheetBits this_sheetLengths this_sheetNumbers) := hD
  refine lv_if_eq (tgt := 14) hx hb dX11_move_4 (by decide) (fun c2 => ?_) (fun c2 => ?_)
  · replace hf := kt c2 hf
    refine lv_aload_n hx hb dX11_move_14 rfl (lv_at hl 0 rfl) ?_
    refine lv_iconst (v := (1 : Int32)) hx hb dX11_move_15 (by decide) ?_
    obtain ⟨r3, hr3, hf⟩ := kb hf
    refine kV (As := [.int (1 : Int32)]) (rest := []) ⟨hx, hb, hml, hown, hts⟩ (c_X11_error l G N a_this a_this_shop a_this_kept a_this_sheetBits a_this_sheetLengths a_this_sheetNumbers a_this_trace a_this_errors a_this_one a_this_second a_this_extra a_this_room a_this_values a_this_best (1 : Int32) this_imaged this_images this_bestPaid this_bestNet this_errors r3 hr3) (kcV 1 hts tw_405 tw_80 tw_402 tw_404 tw_0 hd_X11_error ⟨Nat.le_of_ble_eq_true rfl, Nat.le_of_ble_eq_true rfl⟩) dX11_move_16 hl.1 hK hAm hA hP hD hS 0 (ci := 11) rfl rfl rfl [0, 1] rfl rfl rfl [1] rfl rfl rfl (Nat.le_of_ble_eq_true rfl) ⟨Nat.le_refl _, Nat.le_refl _⟩ (fun H locs hP hD hS => ?_)
    have hP : va_P (gD G) vwCl (k_X11_move G a_this a_this_shop a_this_kept a_this_sheetBits a_this_sheetLengths a_this_sheetNumbers a_this_trace a_this_errors a_this_one a_this_second a_this_extra a_this_room a_this_values a_this_best e_this_sheetNumbers this_imaged this_images this_bestPaid this_bestNet r3.2 this_sheetBits this_sheetLengths this_sheetNumbers) H := hP
    have hD : va_D A (k_X11_move G a_this a_this_shop a_this_kept a_this_sheetBits a_this_sheetLengths a_this_sheetNumbers a_this_trace a_this_errors a_this_one a_this_second a_this_extra a_this_room a_this_values a_this_best e_this_sheetNumbers this_imaged this_images this_bestPaid this_bestNet r3.2 this_sheetBits this_sheetLengths this_sheetNumbers) := hD
    have ho := ks hf
    subst ho
    exact kiret hx hb hr hlk hP hD hS hQ dX11_move_19
  · replace hf := kf c2 hf
    refine lv_iload_n hx hb dX11_move_7 rfl (lv_at hl 3 rfl) ?_
    obtain ⟨r4, hr4, hf⟩ := kb hf
    refine kS (As := [.int p2]) (rest := []) ⟨hx, hb, hml, hown, hts⟩ (c_X11_isSheet l G N p2 r4 hr4) (kcS 1 hts tw_682 tw_80 tw_680 tw_681 hd_X11_isSheet ⟨Nat.le_of_ble_eq_true rfl, Nat.le_of_ble_eq_true rfl⟩) dX11_move_8 hl.1 hK hAm hA hP hD hS [] rfl rfl rfl [] rfl rfl rfl (Nat.le_of_ble_eq_true rfl) ⟨Nat.le_refl _, Nat.le_refl _⟩ (fun H locs hP hD hS => ?_)
    have hP : va_P (gD G) vwCl (k_X11_move G a_this a_this_shop a_this_kept a_this_sheetBits a_this_sheetLengths a_this_sheetNumbers a_this_trace a_this_errors a_this_one a_this_second a_this_extra a_this_room a_this_values a_this_best e_this_sheetNumbers this_imaged this_images this_bestPaid this_bestNet this_errors this_sheetBits this_sheetLengths this_sheetNumbers) H := hP
    have hD : va_D A (k_X11_move G a_this a_this_shop a_this_kept a_this_sheetBits a_this_sheetLengths a_this_sheetNumbers a_this_trace a_this_errors a_this_one a_this_second a_this_extra a_this_room a_this_values a_this_best e_this_sheetNumbers this_imaged this_images this_bestPaid this_bestNet this_errors this_sheetBits this_sheetLengths this_sheetNumbers) := hD
    refine lv_if_ne (tgt := 20) hx hb dX11_move_11 (by decide) (fun c5 => ?_) (fun c5 => ?_)
    · replace hf := kf c5 hf
      refine lv_aload_n hx hb dX11_move_20 rfl (lv_at hl 0 rfl) ?_
      refine lv_iload_n hx hb dX11_move_21 rfl (lv_at hl 1 rfl) ?_
      obtain ⟨r6, hr6, hf⟩ := kb hf
      refine kV (As := [.int p0]) (rest := []) ⟨hx, hb, hml, hown, hts⟩ (c_X11_isMissing l G N a_this a_this_shop a_this_kept a_this_sheetBits a_this_sheetLengths a_this_sheetNumbers a_this_trace a_this_errors a_this_one a_this_second a_this_extra a_this_room a_this_values a_this_best p0 this_imaged this_images this_bestPaid this_bestNet this_sheetBits r6 hr6) (kcV 1 hts tw_690 tw_80 tw_687 tw_689 tw_19 hd_X11_isMissing ⟨Nat.le_of_ble_eq_true rfl, Nat.le_of_ble_eq_true rfl⟩) dX11_move_22 hl.1 hK hAm hA hP hD hS 0 (ci := 11) rfl rfl rfl [0, 2] rfl rfl rfl [] rfl rfl rfl (Nat.le_of_ble_eq_true rfl) ⟨Nat.le_refl _, Nat.le_refl _⟩ (fun H locs hP hD hS => ?_)
      have hP : va_P (gD G) vwCl (k_X11_move G a_this a_this_shop a_this_kept a_this_sheetBits a_this_sheetLengths a_this_sheetNumbers a_this_trace a_this_errors a_this_one a_this_second a_this_extra a_this_room a_this_values a_this_best e_this_sheetNumbers this_imaged this_images this_bestPaid this_bestNet this_errors this_sheetBits this_sheetLengths this_sheetNumbers) H := hP
      have hD : va_D A (k_X11_move G a_this a_this_shop a_this_kept a_this_sheetBits a_this_sheetLengths a_this_sheetNumbers a_this_trace a_this_errors a_this_one a_this_second a_this_extra a_this_room a_this_values a_this_best e_this_sheetNumbers this_imaged this_images this_bestPaid this_bestNet this_errors this_sheetBits this_sheetLengths this_sheetNumbers) := hD
      refine lv_if_ne (tgt := 36) hx hb dX11_move_25 (by decide) (fun c7 => ?_) (fun c7 => ?_)
      · replace hf := kf c7 hf
        refine lv_aload_n hx hb dX11_move_36 rfl (lv_at hl 0 rfl) ?_
        refine lv_iconst (v := (2 : Int32)) hx hb dX11_move_37 (by decide) ?_
        obtain ⟨r8, hr8, hf⟩ := kb hf
        refine kV (As := [.int (2 : Int32)]) (rest := []) ⟨hx, hb, hml, hown, hts⟩ (c_X11_error l G N a_this a_this_shop a_this_kept a_this_sheetBits a_this_sheetLengths a_this_sheetNumbers a_this_trace a_this_errors a_this_one a_this_second a_this_extra a_this_room a_this_values a_this_best (2 : Int32) this_imaged this_images this_bestPaid this_bestNet this_errors r8 hr8) (kcV 1 hts tw_405 tw_80 tw_402 tw_404 tw_0 hd_X11_error ⟨Nat.le_of_ble_eq_true rfl, Nat.le_of_ble_eq_true rfl⟩) dX11_move_38 hl.1 hK hAm hA hP hD hS 0 (ci := 11) rfl rfl rfl [0, 1] rfl rfl rfl [1] rfl rfl rfl (Nat.le_of_ble_eq_true rfl) ⟨Nat.le_refl _, Nat.le_refl _⟩ (fun H locs hP hD hS => ?_)
        have hP : va_P (gD G) vwCl (k_X11_move G a_this a_this_shop a_this_kept a_this_sheetBits a_this_sheetLengths a_this_sheetNumbers a_this_trace a_this_errors a_this_one a_this_second a_this_extra a_this_room a_this_values a_this_best e_this_sheetNumbers this_imaged this_images this_bestPaid this_bestNet r8.2 this_sheetBits this_sheetLengths this_sheetNumbers) H := hP
        have hD : va_D A (k_X11_move G a_this a_this_shop a_this_kept a_this_sheetBits a_this_sheetLengths a_this_sheetNumbers a_this_trace a_this_errors a_this_one a_this_second a_this_extra a_this_room a_this_values a_this_best e_this_sheetNumbers this_imaged this_images this_bestPaid this_bestNet r8.2 this_sheetBits this_sheetLengths this_sheetNumbers) := hD
        have ho := ks hf
        subst ho
        exact kiret hx hb hr hlk hP hD hS hQ dX11_move_41
      · replace hf := kt c7 hf
        refine lv_aload_n hx hb dX11_move_28 rfl (lv_at hl 0 rfl) ?_
        refine lv_iload_n hx hb dX11_move_29 rfl (lv_at hl 3 rfl) ?_
        obtain ⟨r9, hr9, hf⟩ := kb hf
        refine kV (As := [.int p2]) (rest := []) ⟨hx, hb, hml, hown, hts⟩ (c_X11_isMissing l G N a_this a_this_shop a_this_kept a_this_sheetBits a_this_sheetLengths a_this_sheetNumbers a_this_trace a_this_errors a_this_one a_this_second a_this_extra a_this_room a_this_values a_this_best p2 this_imaged this_images this_bestPaid this_bestNet this_sheetBits r9 hr9) (kcV 1 hts tw_690 tw_80 tw_687 tw_689 tw_19 hd_X11_isMissing ⟨Nat.le_of_ble_eq_true rfl, Nat.le_of_ble_eq_true rfl⟩) dX11_move_30 hl.1 hK hAm hA hP hD hS 0 (ci := 11) rfl rfl rfl [0, 2] rfl rfl rfl [] rfl rfl rfl (Nat.le_of_ble_eq_true rfl) ⟨Nat.le_refl _, Nat.le_refl _⟩ (fun H locs hP hD hS => ?_)
        have hP : va_P (gD G) vwCl (k_X11_move G a_this a_this_shop a_this_kept a_this_sheetBits a_this_sheetLengths a_this_sheetNumbers a_this_trace a_this_errors a_this_one a_this_second a_this_extra a_this_room a_this_values a_this_best e_this_sheetNumbers this_imaged this_images this_bestPaid this_bestNet this_errors this_sheetBits this_sheetLengths this_sheetNumbers) H := hP
        have hD : va_D A (k_X11_move G a_this a_this_shop a_this_kept a_this_sheetBits a_this_sheetLengths a_this_sheetNumbers a_this_trace a_this_errors a_this_one a_this_second a_this_extra a_this_room a_this_values a_this_best e_this_sheetNumbers this_imaged this_images this_bestPaid this_bestNet this_errors this_sheetBits this_sheetLengths this_sheetNumbers) := hD
        refine lv_if_eq (tgt := 42) hx hb dX11_move_33 (by decide) (fun c10 => ?_) (fun c10 => ?_)
        · replace hf := kt c10 hf
          refine lv_aload_n hx hb dX11_move_42 rfl (lv_at hl 0 rfl) ?_
          refine va_get (D := gD G) (ci := 11) (C := RX11) (T := TX11) (N := 17) hx hb hts hin_X11 hown hK hP 0 rfl rfl 4 (by decide) fl_27 (fun _ h9 => h9) rfl dX11_move_43 ?_
          refine lv_iload_n hx hb dX11_move_46 rfl (lv_at hl 1 rfl) ?_
          obtain ⟨g11, hf⟩ := kg hf
          refine va_iald hx hb hK hP 2 0 rfl rfl (vin_of g11) dX11_move_47 ?_
          refine lv_aload_n hx hb dX11_move_48 rfl (lv_at hl 0 rfl) ?_
          refine va_get (D := gD G) (ci := 11) (C := RX11) (T := TX11) (N := 17) hx hb hts hin_X11 hown hK hP 0 rfl rfl 4 (by decide) fl_27 (fun _ h9 => h9) rfl dX11_move_49 ?_
          refine lv_iload_n hx hb dX11_move_52 rfl (lv_at hl 3 rfl) ?_
          obtain ⟨g12, hf⟩ := kg hf
          refine va_iald hx hb hK hP 2 0 rfl rfl (vin_of g12) dX11_move_53 ?_
          refine lv_icmp_eq (tgt := 63) hx hb dX11_move_54 (by decide) (fun c13 => ?_) (fun c13 => ?_)
          · replace hf := kt c13 hf
            refine lv_aload_n hx hb dX11_move_63 rfl (lv_at hl 0 rfl) ?_
            refine lv_iload_n hx hb dX11_move_64 rfl (lv_at hl 1 rfl) ?_
            refine lv_iload_n hx hb dX11_move_65 rfl (lv_at hl 2 rfl) ?_
            refine lv_iload hx hb dX11_move_66 (lv_at hl 5 rfl) ?_
            obtain ⟨r14, hr14, hf⟩ := kb hf
            refine kV (As := [.int p0, .int p1, .int p4]) (rest := []) ⟨hx, hb, hml, hown, hts⟩ (c_X11_stand l G N a_this a_this_shop a_this_kept a_this_sheetBits a_this_sheetLengths a_this_sheetNumbers a_this_trace a_this_errors a_this_one a_this_second a_this_extra a_this_room a_this_values a_this_best p0 p1 p4 this_imaged this_images this_bestPaid this_bestNet this_sheetLengths r14 hr14) (kcV 3 hts tw_937 tw_80 tw_934 tw_936 tw_39 hd_X11_stand ⟨Nat.le_of_ble_eq_true rfl, Nat.le_of_ble_eq_true rfl⟩) dX11_move_68 hl.1 hK hAm hA hP hD hS 0 (ci := 11) rfl rfl rfl [0, 3] rfl rfl rfl [] rfl rfl rfl (Nat.le_of_ble_eq_true rfl) ⟨Nat.le_refl _, Nat.le_refl _⟩ (fun H locs hP hD hS => ?_)
            have hP : va_P (gD G) vwCl (k_X11_move G a_this a_this_shop a_this_kept a_this_sheetBits a_this_sheetLengths a_this_sheetNumbers a_this_trace a_this_errors a_this_one a_this_second a_this_extra a_this_room a_this_values a_this_best e_this_sheetNumbers this_imaged this_images this_bestPaid this_bestNet this_errors this_sheetBits this_sheetLengths this_sheetNumbers) H := hP
            have hD : va_D A (k_X11_move G a_this a_this_shop a_this_kept a_this_sheetBits a_this_sheetLengths a_this_sheetNumbers a_this_trace a_this_errors a_this_one a_this_second a_this_extra a_this_room a_this_values a_this_best e_this_sheetNumbers this_imaged this_images this_bestPaid this_bestNet this_errors this_sheetBits this_sheetLengths this_sheetNumbers) := hD
            refine lv_if_eq (tgt := 86) hx hb dX11_move_71 (by decide) (fun c15 => ?_) (fun c15 => ?_)
            · replace hf := kt c15 hf
              refine lv_aload_n hx hb dX11_move_86 rfl (lv_at hl 0 rfl) ?_
              refine lv_iconst (v := (1 : Int32)) hx hb dX11_move_87 (by decide) ?_
              obtain ⟨r16, hr16, hf⟩ := kb hf
              refine kV (As := [.int (1 : Int32)]) (rest := []) ⟨hx, hb, hml, hown, hts⟩ (c_X11_error l G N a_this a_this_shop a_this_kept a_this_sheetBits a_this_sheetLengths a_this_sheetNumbers a_this_trace a_this_errors a_this_one a_this_second a_this_extra a_this_room a_this_values a_this_best (1 : Int32) this_imaged this_images this_bestPaid this_bestNet this_errors r16 hr16) (kcV 1 hts tw_405 tw_80 tw_402 tw_404 tw_0 hd_X11_error ⟨Nat.le_of_ble_eq_true rfl, Nat.le_of_ble_eq_true rfl⟩) dX11_move_88 hl.1 hK hAm hA hP hD hS 0 (ci := 11) rfl rfl rfl [0, 1] rfl rfl rfl [1] rfl rfl rfl (Nat.le_of_ble_eq_true rfl) ⟨Nat.le_refl _, Nat.le_refl _⟩ (fun H locs hP hD hS => ?_)
              have hP : va_P (gD G) vwCl (k_X11_move G a_this a_this_shop a_this_kept a_this_sheetBits a_this_sheetLengths a_this_sheetNumbers a_this_trace a_this_errors a_this_one a_this_second a_this_extra a_this_room a_this_values a_this_best e_this_sheetNumbers this_imaged this_images this_bestPaid this_bestNet r16.2 this_sheetBits this_sheetLengths this_sheetNumbers) H := hP
              have hD : va_D A (k_X11_move G a_this a_this_shop a_this_kept a_this_sheetBits a_this_sheetLengths a_this_sheetNumbers a_this_trace a_this_errors a_this_one a_this_second a_this_extra a_this_room a_this_values a_this_best e_this_sheetNumbers this_imaged this_images this_bestPaid this_bestNet r16.2 this_sheetBits this_sheetLengths this_sheetNumbers) := hD
              have ho := ks hf
              subst ho
              exact kiret hx hb hr hlk hP hD hS hQ dX11_move_91
            · replace hf := kf c15 hf
              refine lv_aload_n hx hb dX11_move_74 rfl (lv_at hl 0 rfl) ?_
              refine lv_iload_n hx hb dX11_move_75 rfl (lv_at hl 3 rfl) ?_
              refine lv_iload hx hb dX11_move_76 (lv_at hl 4 rfl) ?_
              refine lv_iload hx hb dX11_move_78 (lv_at hl 5 rfl) ?_
              obtain ⟨r17, hr17, hf⟩ := kb hf
              refine kV (As := [.int p2, .int p3, .int p4]) (rest := []) ⟨hx, hb, hml, hown, hts⟩ (c_X11_stand l G N a_this a_this_shop a_this_kept a_this_sheetBits a_this_sheetLengths a_this_sheetNumbers a_this_trace a_this_errors a_this_one a_this_second a_this_extra a_this_room a_this_values a_this_best p2 p3 p4 this_imaged this_images this_bestPaid this_bestNet this_sheetLengths r17 hr17) (kcV 3 hts tw_937 tw_80 tw_934 tw_936 tw_39 hd_X11_stand ⟨Nat.le_of_ble_eq_true rfl, Nat.le_of_ble_eq_true rfl⟩) dX11_move_80 hl.1 hK hAm hA hP hD hS 0 (ci := 11) rfl rfl rfl [0, 3] rfl rfl rfl [] rfl rfl rfl (Nat.le_of_ble_eq_true rfl) ⟨Nat.le_refl _, Nat.le_refl _⟩ (fun H locs hP hD hS => ?_)
              have hP : va_P (gD G) vwCl (k_X11_move G a_this a_this_shop a_this_kept a_this_sheetBits a_this_sheetLengths a_this_sheetNumbers a_this_trace a_this_errors a_this_one a_this_second a_this_extra a_this_room a_this_values a_this_best e_this_sheetNumbers this_imaged this_images this_bestPaid this_bestNet this_errors this_sheetBits this_sheetLengths this_sheetNumbers) H := hP
              have hD : va_D A (k_X11_move G a_this a_this_shop a_this_kept a_this_sheetBits a_this_sheetLengths a_this_sheetNumbers a_this_trace a_this_errors a_this_one a_this_second a_this_extra a_this_room a_this_values a_this_best e_this_sheetNumbers this_imaged this_images this_bestPaid this_bestNet this_errors this_sheetBits this_sheetLengths this_sheetNumbers) := hD
              refine lv_if_ne (tgt := 92) hx hb dX11_move_83 (by decide) (fun c18 => ?_) (fun c18 => ?_)
              · replace hf := kf c18 hf
                refine lv_aload_n hx hb dX11_move_92 rfl (lv_at hl 0 rfl) ?_
                refine va_get (D := gD G) (ci := 11) (C := RX11) (T := TX11) (N := 17) hx hb hts hin_X11 hown hK hP 0 rfl rfl 6 (by decide) fl_36 (fun _ h9 => h9) rfl dX11_move_93 ?_
                refine lv_iload_n hx hb dX11_move_96 rfl (lv_at hl 1 rfl) ?_
                obtain ⟨g19, hf⟩ := kg hf
                refine ka_aald hx hb hK hP 4 rfl (vin_of g19) dX11_move_97 ?_
                refine lv_iload_n hx hb dX11_move_98 rfl (lv_at hl 2 rfl) ?_
                refine lv_aload_n hx hb dX11_move_99 rfl (lv_at hl 0 rfl) ?_
                refine va_get (D := gD G) (ci := 11) (C := RX11) (T := TX11) (N := 17) hx hb hts hin_X11 hown hK hP 0 rfl rfl 6 (by decide) fl_36 (fun _ h9 => h9) rfl dX11_move_100 ?_
                refine lv_iload_n hx hb dX11_move_103 rfl (lv_at hl 3 rfl) ?_
                obtain ⟨g20, hf⟩ := kg hf
                refine ka_aald hx hb hK hP 4 rfl (vin_of g20) dX11_move_104 ?_
                refine lv_iload hx hb dX11_move_105 (lv_at hl 4 rfl) ?_
                refine lv_iload hx hb dX11_move_107 (lv_at hl 5 rfl) ?_
                obtain ⟨g24, hf⟩ := kg hf
                have w21 : ∀ j, j < 4 → (k_X11_move G a_this a_this_shop a_this_kept a_this_sheetBits a_this_sheetLengths a_this_sheetNumbers a_this_trace a_this_errors a_this_one a_this_second a_this_extra a_this_room a_this_values a_this_best e_this_sheetNumbers this_imaged this_images this_bestPaid this_bestNet this_errors this_sheetBits this_sheetLengths this_sheetNumbers)[5 + j]? = some (e_this_sheetNumbers j, .inl (gI G, 24, .inl (this_sheetNumbers j))) := fun j hj => match j, hj with | 0, _ => rfl | 1, _ => rfl | 2, _ => rfl | 3, _ => rfl | k + 4, hk => absurd hk (by omega)
                have w22 : ∀ j, j < 4 → (k_X11_move G a_this a_this_shop a_this_kept a_this_sheetBits a_this_sheetLengths a_this_sheetNumbers a_this_trace a_this_errors a_this_one a_this_second a_this_extra a_this_room a_this_values a_this_best e_this_sheetNumbers this_imaged this_images this_bestPaid this_bestNet this_errors this_sheetBits this_sheetLengths this_sheetNumbers)[5 + j]? = some (e_this_sheetNumbers j, .inl (gI G, 24, .inl (this_sheetNumbers j))) := fun j hj => match j, hj with | 0, _ => rfl | 1, _ => rfl | 2, _ => rfl | 3, _ => rfl | k + 4, hk => absurd hk (by omega)
                refine va_copyi hx hb (hml.trans hl.1.symm) hown (hts _ tw_938) (hts _ tw_575) (hts _ tw_574) (hts _ tw_94) hK hP hD hS (5 + p0.toNatClampNeg) (5 + p2.toNatClampNeg) 0 0 (ty := .int) (w21 _ (vin_lt g19)) (w22 _ (vin_lt g20)) rfl rfl rfl g24.1 g24.2.1 g24.2.2.1 g24.2.2.2.1 g24.2.2.2.2 (fun _ _ => rfl) (Nat.le_of_ble_eq_true rfl) (Nat.le_of_ble_eq_true rfl) dX11_move_109 (fun H locs hP hD hS => ?_)
                have z23 : ∀ j, j < 4 → (k_X11_move G a_this a_this_shop a_this_kept a_this_sheetBits a_this_sheetLengths a_this_sheetNumbers a_this_trace a_this_errors a_this_one a_this_second a_this_extra a_this_room a_this_values a_this_best e_this_sheetNumbers this_imaged this_images this_bestPaid this_bestNet this_errors this_sheetBits this_sheetLengths this_sheetNumbers).set (5 + j) (e_this_sheetNumbers j, .inl (gI G, 24, .inl (va_cpy (this_sheetNumbers p0.toNatClampNeg) (this_sheetNumbers p2.toNatClampNeg) p1.toNatClampNeg p3.toNatClampNeg p4.toNatClampNeg))) = (k_X11_move G a_this a_this_shop a_this_kept a_this_sheetBits a_this_sheetLengths a_this_sheetNumbers a_this_trace a_this_errors a_this_one a_this_second a_this_extra a_this_room a_this_values a_this_best e_this_sheetNumbers this_imaged this_images this_bestPaid this_bestNet this_errors this_sheetBits this_sheetLengths (va_up this_sheetNumbers j (va_cpy (this_sheetNumbers p0.toNatClampNeg) (this_sheetNumbers p2.toNatClampNeg) p1.toNatClampNeg p3.toNatClampNeg p4.toNatClampNeg))) := fun j hj => match j, hj with | 0, _ => rfl | 1, _ => rfl | 2, _ => rfl | 3, _ => rfl | k + 4, hk => absurd hk (by omega)
                have hP : va_P (gD G) vwCl (k_X11_move G a_this a_this_shop a_this_kept a_this_sheetBits a_this_sheetLengths a_this_sheetNumbers a_this_trace a_this_errors a_this_one a_this_second a_this_extra a_this_room a_this_values a_this_best e_this_sheetNumbers this_imaged this_images this_bestPaid this_bestNet this_errors this_sheetBits this_sheetLengths (va_up this_sheetNumbers p2.toNatClampNeg (va_cpy (this_sheetNumbers p0.toNatClampNeg) (this_sheetNumbers p2.toNatClampNeg) p1.toNatClampNeg p3.toNatClampNeg p4.toNatClampNeg))) H := Eq.mp (congrArg (fun w => va_P (gD G) vwCl w H) (z23 _ (vin_lt g20))) hP
                have hD : va_D A (k_X11_move G a_this a_this_shop a_this_kept a_this_sheetBits a_this_sheetLengths a_this_sheetNumbers a_this_trace a_this_errors a_this_one a_this_second a_this_extra a_this_room a_this_values a_this_best e_this_sheetNumbers this_imaged this_images this_bestPaid this_bestNet this_errors this_sheetBits this_sheetLengths (va_up this_sheetNumbers p2.toNatClampNeg (va_cpy (this_sheetNumbers p0.toNatClampNeg) (this_sheetNumbers p2.toNatClampNeg) p1.toNatClampNeg p3.toNatClampNeg p4.toNatClampNeg))) := Eq.mp (congrArg (fun w => va_D A w) (z23 _ (vin_lt g20))) hD
                refine lv_iload hx hb dX11_move_112 (lv_at hl 5 rfl) ?_
                have ho := ks hf
                subst ho
                exact kiret hx hb hr hlk hP hD hS hQ dX11_move_114
              · replace hf := kt c18 hf
                refine lv_aload_n hx hb dX11_move_86 rfl (lv_at hl 0 rfl) ?_
                refine lv_iconst (v := (1 : Int32)) hx hb dX11_move_87 (by decide) ?_
                obtain ⟨r25, hr25, hf⟩ := kb hf
                refine kV (As := [.int (1 : Int32)]) (rest := []) ⟨hx, hb, hml, hown, hts⟩ (c_X11_error l G N a_this a_this_shop a_this_kept a_this_sheetBits a_this_sheetLengths a_this_sheetNumbers a_this_trace a_this_errors a_this_one a_this_second a_this_extra a_this_room a_this_values a_this_best (1 : Int32) this_imaged this_images this_bestPaid this_bestNet this_errors r25 hr25) (kcV 1 hts tw_405 tw_80 tw_402 tw_404 tw_0 hd_X11_error ⟨Nat.le_of_ble_eq_true rfl, Nat.le_of_ble_eq_true rfl⟩) dX11_move_88 hl.1 hK hAm hA hP hD hS 0 (ci := 11) rfl rfl rfl [0, 1] rfl rfl rfl [1] rfl rfl rfl (Nat.le_of_ble_eq_true rfl) ⟨Nat.le_refl _, Nat.le_refl _⟩ (fun H locs hP hD hS => ?_)
                have hP : va_P (gD G) vwCl (k_X11_move G a_this a_this_shop a_this_kept a_this_sheetBits a_this_sheetLengths a_this_sheetNumbers a_this_trace a_this_errors a_this_one a_this_second a_this_extra a_this_room a_this_values a_this_best e_this_sheetNumbers this_imaged this_images this_bestPaid this_bestNet r25.2 this_sheetBits this_sheetLengths this_sheetNumbers) H := hP
                have hD : va_D A (k_X11_move G a_this a_this_shop a_this_kept a_this_sheetBits a_this_sheetLengths a_this_sheetNumbers a_this_trace a_this_errors a_this_one a_this_second a_this_extra a_this_room a_this_values a_this_best e_this_sheetNumbers this_imaged this_images this_bestPaid this_bestNet r25.2 this_sheetBits this_sheetLengths this_sheetNumbers) := hD
                have ho := ks hf
                subst ho
                exact kiret hx hb hr hlk hP hD hS hQ dX11_move_91
          · replace hf := kf c13 hf
            refine lv_aload_n hx hb dX11_move_57 rfl (lv_at hl 0 rfl) ?_
            refine lv_iconst (v := (5 : Int32)) hx hb dX11_move_58 (by decide) ?_
            obtain ⟨r26, hr26, hf⟩ := kb hf
            refine kV (As := [.int (5 : Int32)]) (rest := []) ⟨hx, hb, hml, hown, hts⟩ (c_X11_error l G N a_this a_this_shop a_this_kept a_this_sheetBits a_this_sheetLengths a_this_sheetNumbers a_this_trace a_this_errors a_this_one a_this_second a_this_extra a_this_room a_this_values a_this_best (5 : Int32) this_imaged this_images this_bestPaid this_bestNet this_errors r26 hr26) (kcV 1 hts tw_405 tw_80 tw_402 tw_404 tw_0 hd_X11_error ⟨Nat.le_of_ble_eq_true rfl, Nat.le_of_ble_eq_true rfl⟩) dX11_move_59 hl.1 hK hAm hA hP hD hS 0 (ci := 11) rfl rfl rfl [0, 1] rfl rfl rfl [1] rfl rfl rfl (Nat.le_of_ble_eq_true rfl) ⟨Nat.le_refl _, Nat.le_refl _⟩ (fun H locs hP hD hS => ?_)
            have hP : va_P (gD G) vwCl (k_X11_move G a_this a_this_shop a_this_kept a_this_sheetBits a_this_sheetLengths a_this_sheetNumbers a_this_trace a_this_errors a_this_one a_this_second a_this_extra a_this_room a_this_values a_this_best e_this_sheetNumbers this_imaged this_images this_bestPaid this_bestNet r26.2 this_sheetBits this_sheetLengths this_sheetNumbers) H := hP
            have hD : va_D A (k_X11_move G a_this a_this_shop a_this_kept a_this_sheetBits a_this_sheetLengths a_this_sheetNumbers a_this_trace a_this_errors a_this_one a_this_second a_this_extra a_this_room a_this_values a_this_best e_this_sheetNumbers this_imaged this_images this_bestPaid this_bestNet r26.2 this_sheetBits this_sheetLengths this_sheetNumbers) := hD
            have ho := ks hf
            subst ho
            exact kiret hx hb hr hlk hP hD hS hQ dX11_move_62
        · replace hf := kf c10 hf
          refine lv_aload_n hx hb dX11_move_36 rfl (lv_at hl 0 rfl) ?_
          refine lv_iconst (v := (2 : Int32)) hx hb dX11_move_37 (by decide) ?_
          obtain ⟨r27, hr27, hf⟩ := kb hf
          refine kV (As := [.int (2 : Int32)]) (rest := []) ⟨hx, hb, hml, hown, hts⟩ (c_X11_error l G N a_this a_this_shop a_this_kept a_this_sheetBits a_this_sheetLengths a_this_sheetNumbers a_this_trace a_this_errors a_this_one a_this_second a_this_extra a_this_room a_this_values a_this_best (2 : Int32) this_imaged this_images this_bestPaid this_bestNet this_errors r27 hr27) (kcV 1 hts tw_405 tw_80 tw_402 tw_404 tw_0 hd_X11_error ⟨Nat.le_of_ble_eq_true rfl, Nat.le_of_ble_eq_true rfl⟩) dX11_move_38 hl.1 hK hAm hA hP hD hS 0 (ci := 11) rfl rfl rfl [0, 1] rfl rfl rfl [1] rfl rfl rfl (Nat.le_of_ble_eq_true rfl) ⟨Nat.le_refl _, Nat.le_refl _⟩ (fun H locs hP hD hS => ?_)
          have hP : va_P (gD G) vwCl (k_X11_move G a_this a_this_shop a_this_kept a_this_sheetBits a_this_sheetLengths a_this_sheetNumbers a_this_trace a_this_errors a_this_one a_this_second a_this_extra a_this_room a_this_values a_this_best e_this_sheetNumbers this_imaged this_images this_bestPaid this_bestNet r27.2 this_sheetBits this_sheetLengths this_sheetNumbers) H := hP
          have hD : va_D A (k_X11_move G a_this a_this_shop a_this_kept a_this_sheetBits a_this_sheetLengths a_this_sheetNumbers a_this_trace a_this_errors a_this_one a_this_second a_this_extra a_this_room a_this_values a_this_best e_this_sheetNumbers this_imaged this_images this_bestPaid this_bestNet r27.2 this_sheetBits this_sheetLengths this_sheetNumbers) := hD
          have ho := ks hf
          subst ho
          exact kiret hx hb hr hlk hP hD hS hQ dX11_move_41
    · replace hf := kt c5 hf
      refine lv_aload_n hx hb dX11_move_14 rfl (lv_at hl 0 rfl) ?_
      refine lv_iconst (v := (1 : Int32)) hx hb dX11_move_15 (by decide) ?_
      obtain ⟨r28, hr28, hf⟩ := kb hf
      refine kV (As := [.int (1 : Int32)]) (rest := []) ⟨hx, hb, hml, hown, hts⟩ (c_X11_error l G N a_this a_this_shop a_this_kept a_this_sheetBits a_this_sheetLengths a_this_sheetNumbers a_this_trace a_this_errors a_this_one a_this_second a_this_extra a_this_room a_this_values a_this_best (1 : Int32) this_imaged this_images this_bestPaid this_bestNet this_errors r28 hr28) (kcV 1 hts tw_405 tw_80 tw_402 tw_404 tw_0 hd_X11_error ⟨Nat.le_of_ble_eq_true rfl, Nat.le_of_ble_eq_true rfl⟩) dX11_move_16 hl.1 hK hAm hA hP hD hS 0 (ci := 11) rfl rfl rfl [0, 1] rfl rfl rfl [1] rfl rfl rfl (Nat.le_of_ble_eq_true rfl) ⟨Nat.le_refl _, Nat.le_refl _⟩ (fun H locs hP hD hS => ?_)
      have hP : va_P (gD G) vwCl (k_X11_move G a_this a_this_shop a_this_kept a_this_sheetBits a_this_sheetLengths a_this_sheetNumbers a_this_trace a_this_errors a_this_one a_this_second a_this_extra a_this_room a_this_values a_this_best e_this_sheetNumbers this_imaged this_images this_bestPaid this_bestNet r28.2 this_sheetBits this_sheetLengths this_sheetNumbers) H := hP
      have hD : va_D A (k_X11_move G a_this a_this_shop a_this_kept a_this_sheetBits a_this_sheetLengths a_this_sheetNumbers a_this_trace a_this_errors a_this_one a_this_second a_this_extra a_this_room a_this_values a_this_best e_this_sheetNumbers this_imaged this_images this_bestPaid this_bestNet r28.2 this_sheetBits this_sheetLengths this_sheetNumbers) := hD
      have ho := ks hf
      subst ho
      exact kiret hx hb hr hlk hP hD hS hQ dX11_move_19
abbrev k_X11_prices (G : KG) (a_this : Nat) (a_this_shop : Nat) (a_this_kept : Nat) (a_this_sheetBits : Nat) (a_this_sheetLengths : Nat) (a_this_sheetNumbers : Nat) (a_this_trace : Nat) (a_this_errors : Nat) (a_this_one : Nat) (a_this_second : Nat) (a_this_extra : Nat) (a_this_room : Nat) (a_this_values : Nat) (a_this_best : Nat) (e_this_sheetNumbers : Nat → Nat) (a_this_shop_goods : Nat) (a_this_shop_tills : Nat) (a_this_shop_tape : Nat) (a_this_shop_paysLaw : Nat) (a_this_shop_valuesLaw : Nat) (a_this_shop_waiting : Nat) (e_this_shop_goods : Nat → Nat) (this_imaged : Int32) (this_images : Int32) (this_bestPaid : Int32) (this_bestNet : Int32) (this_errors : Nat → Int32) (this_sheetBits : Nat → Int32) (this_sheetLengths : Nat → Int32) (this_sheetNumbers : Nat → Nat → Int32) (this_shop_takings : Int32) (this_shop_costs : Int32) (this_shop_goes : Int32) (this_shop_z : Int32) (this_shop_fed : Int32) (this_shop_waits : Int32) (this_shop_goods : Nat → Nat → Int32) : va_W := [(a_this, .inr (11, [.ref a_this_shop, .ref a_this_kept, .int this_imaged, .int this_images, .ref a_this_sheetBits, .ref a_this_sheetLengths, .ref a_this_sheetNumbers, .ref a_this_trace, .ref a_this_errors, .ref a_this_one, .ref a_this_second, .ref a_this_extra, .ref a_this_room, .ref a_this_values, .ref a_this_best, .int this_bestPaid, .int this_bestNet])), (a_this_errors, .inl (gI G, 7, .inl this_errors)), (a_this_sheetBits, .inl (gI G, 4, .inl this_sheetBits)), (a_this_sheetLengths, .inl (gI G, 4, .inl this_sheetLengths)), (a_this_sheetNumbers, .inl (gII G, 4, .inr (.inr (.inr (.inr (fun j => some (e_this_sheetNumbers j))))))), (e_this_sheetNumbers 0, .inl (gI G, 24, .inl (this_sheetNumbers 0))), (e_this_sheetNumbers 1, .inl (gI G, 24, .inl (this_sheetNumbers 1))), (e_this_sheetNumbers 2, .inl (gI G, 24, .inl (this_sheetNumbers 2))), (e_this_sheetNumbers 3, .inl (gI G, 24, .inl (this_sheetNumbers 3))), (a_this_shop, .inr (7, [.ref a_this_shop_goods, .ref a_this_shop_tills, .int this_shop_takings, .int this_shop_costs, .int this_shop_goes, .int this_shop_z, .ref a_this_shop_tape, .int this_shop_fed, .ref a_this_shop_paysLaw, .ref a_this_shop_valuesLaw, .ref a_this_shop_waiting, .int this_shop_waits])), (a_this_shop_goods, .inl (gII G, 3, .inr (.inr (.inr (.inr (fun j => some (e_this_shop_goods j))))))), (e_this_shop_goods 0, .inl (gI G, 8, .inl (this_shop_goods 0))), (e_this_shop_goods 1, .inl (gI G, 8, .inl (this_shop_goods 1))), (e_this_shop_goods 2, .inl (gI G, 8, .inl (this_shop_goods 2)))]
def f_X11_prices_41 (N : Nat) (x1 : Int32) (x2 : Int32) (this_errors : Nat → Int32) (this_sheetNumbers : Nat → Nat → Int32) (K : Int32 → (Nat → Nat → Int32) → Option (Int32 × (Nat → Int32) × (Nat → Nat → Int32))) : Nat → Int32 → (Nat → Nat → Int32) → Option (Int32 × (Nat → Int32) × (Nat → Nat → Int32))
  | 0, _, _ => none
  | n + 1, y3, this_shop_goods_v => (if x2 ≤ y3 then (K y3 this_shop_goods_v) else (if vin x1 4 = true then (if vin y3 24 = true then ((f_X11_isGood N (0 : Int32) ((this_sheetNumbers x1.toNatClampNeg) y3.toNatClampNeg)).bind fun r10 => (if r10 = 0 then (some (y3, this_errors, this_shop_goods_v)) else (if vin x1 4 = true then (if vin y3 24 = true then (if vin y3 8 = true then (f_X11_prices_41 N x1 x2 this_errors this_sheetNumbers K n (y3 + (1 : Int32)) (va_up this_shop_goods_v 0 (upd (this_shop_goods_v 0) y3.toNatClampNeg ((this_sheetNumbers x1.toNatClampNeg) y3.toNatClampNeg)))) else none) else none) else none))) else none) else none))
def f_X11_prices (N : Nat) (p0 : Int32) (this_errors : Nat → Int32) (this_sheetBits : Nat → Int32) (this_sheetLengths : Nat → Int32) (this_sheetNumbers : Nat → Nat → Int32) (this_shop_goods : Nat → Nat → Int32) : Option (Int32 × (Nat → Int32) × (Nat → Nat → Int32)) := ((f_X11_isSheet N p0).bind fun r1 => (if r1 = 0 then ((f_X11_error N (1 : Int32) this_errors).bind fun r29 => (some (r29.1, r29.2, this_shop_goods))) else ((f_X11_isMissing N p0 this_sheetBits).bind fun r3 => (if r3 = 0 then (if vin p0 4 = true then (f_X11_prices_41 N p0 (if (this_sheetLengths p0.toNatClampNeg) < (8 : Int32) then (this_sheetLengths p0.toNatClampNeg) else (8 : Int32)) this_errors this_sheetNumbers (fun v3_16 this_shop_goods_16 => (some ((if (this_sheetLengths p0.toNatClampNeg) < (8 : Int32) then (this_sheetLengths p0.toNatClampNeg) else (8 : Int32)), this_errors, this_shop_goods_16))) N (0 : Int32) this_shop_goods) else none) else ((f_X11_error N (2 : Int32) this_errors).bind fun r28 => (some (r28.1, r28.2, this_shop_goods)))))))
set_option maxRecDepth 100000 in
set_option maxHeartbeats 4000000 in
theorem c_X11_prices (l : Launch) (G : KG) (N : Nat) (a_this : Nat) (a_this_shop : Nat) (a_this_kept : Nat) (a_this_sheetBits : Nat) (a_this_sheetLengths : Nat) (a_this_sheetNumbers : Nat) (a_this_trace : Nat) (a_this_errors : Nat) (a_this_one : Nat) (a_this_second : Nat) (a_this_extra : Nat) (a_this_room : Nat) (a_this_values : Nat) (a_this_best : Nat) (e_this_sheetNumbers : Nat → Nat) (a_this_shop_goods : Nat) (a_this_shop_tills : Nat) (a_this_shop_tape : Nat) (a_this_shop_paysLaw : Nat) (a_this_shop_valuesLaw : Nat) (a_this_shop_waiting : Nat) (e_this_shop_goods : Nat → Nat) (p0 : Int32) (this_imaged : Int32) (this_images : Int32) (this_bestPaid : Int32) (this_bestNet : Int32) (this_errors : Nat → Int32) (this_sheetBits : Nat → Int32) (this_sheetLengths : Nat → Int32) (this_sheetNumbers : Nat → Nat → Int32) (this_shop_takings : Int32) (this_shop_costs : Int32) (this_shop_goes : Int32) (this_shop_z : Int32) (this_shop_fed : Int32) (this_shop_waits : Int32) (this_shop_goods : Nat → Nat → Int32)  (out : Int32 × (Nat → Int32) × (Nat → Nat → Int32)) (hf : f_X11_prices N p0 this_errors this_sheetBits this_sheetLengths this_sheetNumbers this_shop_goods = some out) : KM l G yX11_prices (kw yX11_prices cX11_prices 4 (some .int)) 2 43 [.ref a_this, .int p0] (k_X11_prices G a_this a_this_shop a_this_kept a_this_sheetBits a_this_sheetLengths a_this_sheetNumbers a_this_trace a_this_errors a_this_one a_this_second a_this_extra a_this_room a_this_values a_this_best e_this_sheetNumbers a_this_shop_goods a_this_shop_tills a_this_shop_tape a_this_shop_paysLaw a_this_shop_valuesLaw a_this_shop_waiting e_this_shop_goods this_imaged this_images this_bestPaid this_bestNet this_errors this_sheetBits this_sheetLengths this_sheetNumbers this_shop_takings this_shop_costs this_shop_goes this_shop_z this_shop_fed this_shop_waits this_shop_goods) (k_X11_prices G a_this a_this_shop a_this_kept a_this_sheetBits a_this_sheetLengths a_this_sheetNumbers a_this_trace a_this_errors a_this_one a_this_second a_this_extra a_this_room a_this_values a_this_best e_this_sheetNumbers a_this_shop_goods a_this_shop_tills a_this_shop_tape a_this_shop_paysLaw a_this_shop_valuesLaw a_this_shop_waiting e_this_shop_goods this_imaged this_images this_bestPaid this_bestNet (out.2.1) this_sheetBits this_sheetLengths this_sheetNumbers this_shop_takings this_shop_costs this_shop_goes this_shop_z this_shop_fed this_shop_waits (out.2.2)) (some (.int (out.1))) := by
  refine KM.of (by decide) (Nat.le_of_ble_eq_true rfl) ?_
  intro p e s m below meth c A ls args Q Fx0 hP hK hD hA hS hAm hQ hl
  obtain ⟨hx, hb, hr, hml, hts, hown, hlk, hnm⟩ := Fx0
  have hown : s.vm.findClass RX11 = some m.cls := hown
  have hl : lv_has ls 4 [(0, .ref a_this), (1, .int p0)] := hl
  have fl_31 := hts _ tw_338
  have fl_36 := hts _ tw_339
  have fl_10 := hts _ tw_333
  have fl_93 := va_Nw.use (A := args) rfl (hAm.1 _ nw_X11_93 rfl)
  unfold f_X11_prices at hf
  refine lv_iload_n hx hb dX11_prices_0 rfl (lv_at hl 1 rfl) ?_
  obtain ⟨r1, hr1, hf⟩ := kb hf
  refine kS (As := [.int p0]) (rest := []) ⟨hx, hb, hml, hown, hts⟩ (c_X11_isSheet l G N p0 r1 hr1) (kcS 1 hts tw_682 tw_80 tw_680 tw_681 hd_X11_isSheet ⟨Nat.le_of_ble_eq_true rfl, Nat.le_of_ble_eq_true rfl⟩) dX11_prices_1 hl.1 hK hAm hA hP hD hS [] rfl rfl rfl [] rfl rfl rfl (Nat.le_of_ble_eq_true rfl) ⟨Nat.le_refl _, Nat.le_refl _⟩ (fun H locs hP hD hS => ?_)
  have hP : va_P (gD G) vwCl (k_X11_prices G a_this a_this_shop a_this_kept a_this_sheetBits a_this_sheetLengths a_this_sheetNumbers a_this_trace a_this_errors a_this_one a_this_second a_this_extra a_this_room a_this_values a_this_best e_this_sheetNumbers a_this_shop_goods a_this_shop_tills a_this_shop_tape a_this_shop_paysLaw a_this_shop_valuesLaw a_this_shop_waiting e_this_shop_goods this_imaged this_images this_bestPaid this_bestNet this_errors this_sheetBits this_sheetLengths this_sheetNumbers this_shop_takings this_shop_costs this_shop_goes this_shop_z this_shop_fed this_shop_waits this_shop_goods) H := hP
  have hD : va_D A (k_X11_prices G a_this a_this_shop a_this_kept a_this_sheetBits a_this_sheetLengths a_this_sheetNumbers a_this_trace a_this_errors a_this_one a_this_second a_this_extra a_this_room a_this_values a_this_best e_this_sheetNumbers a_this_shop_goods a_this_shop_tills a_this_shop_tape a_this_shop_paysLaw a_this_shop_valuesLaw a_this_shop_waiting e_this_shop_goods this_imaged this_images this_bestPaid this_bestNet this_errors this_sheetBits this_sheetLengths this_sheetNumbers this_shop_takings this_shop_costs this_shop_goes this_shop_z this_shop_fed this_shop_waits this_shop_goods) := hD
  refine lv_if_ne (tgt := 13) hx hb dX11_prices_4 (by decide) (fun c2 => ?_) (fun c2 => ?_)
  · replace hf := kf c2 hf
    refine lv_aload_n hx hb dX11_prices_13 rfl (lv_at hl 0 rfl) ?_
    refine lv_iload_n hx hb dX11_prices_14 rfl (lv_at hl 1 rfl) ?_
    obtain ⟨r3, hr3, hf⟩ := kb hf
    refine kV (As := [.int p0]) (rest := []) ⟨hx, hb, hml, hown, hts⟩ (c_X11_isMissing l G N a_this a_this_shop a_this_kept a_this_sheetBits a_this_sheetLengths a_this_sheetNumbers a_this_trace a_this_errors a_this_one a_this_second a_this_extra a_this_room a_this_values a_this_best p0 this_imaged this_images this_bestPaid this_bestNet this_sheetBits r3 hr3) (kcV 1 hts tw_690 tw_80 tw_687 tw_689 tw_19 hd_X11_isMissing ⟨Nat.le_of_ble_eq_true rfl, Nat.le_of_ble_eq_true rfl⟩) dX11_prices_15 hl.1 hK hAm hA hP hD hS 0 (ci := 11) rfl rfl rfl [0, 2] rfl rfl rfl [] rfl rfl rfl (Nat.le_of_ble_eq_true rfl) ⟨Nat.le_refl _, Nat.le_refl _⟩ (fun H locs hP hD hS => ?_)
    have hP : va_P (gD G) vwCl (k_X11_prices G a_this a_this_shop a_this_kept a_this_sheetBits a_this_sheetLengths a_this_sheetNumbers a_this_trace a_this_errors a_this_one a_this_second a_this_extra a_this_room a_this_values a_this_best e_this_sheetNumbers a_this_shop_goods a_this_shop_tills a_this_shop_tape a_this_shop_paysLaw a_this_shop_valuesLaw a_this_shop_waiting e_this_shop_goods this_imaged this_images this_bestPaid this_bestNet this_errors this_sheetBits this_sheetLengths this_sheetNumbers this_shop_takings this_shop_costs this_shop_goes this_shop_z this_shop_fed this_shop_waits this_shop_goods) H := hP
    have hD : va_D A (k_X11_prices G a_this a_this_shop a_this_kept a_this_sheetBits a_this_sheetLengths a_this_sheetNumbers a_this_trace a_this_errors a_this_one a_this_second a_this_extra a_this_room a_this_values a_this_best e_this_sheetNumbers a_this_shop_goods a_this_shop_tills a_this_shop_tape a_this_shop_paysLaw a_this_shop_valuesLaw a_this_shop_waiting e_this_shop_goods this_imaged this_images this_bestPaid this_bestNet this_errors this_sheetBits this_sheetLengths this_sheetNumbers this_shop_takings this_shop_costs this_shop_goes this_shop_z this_shop_fed this_shop_waits this_shop_goods) := hD
    refine lv_if_eq (tgt := 27) hx hb dX11_prices_18 (by decide) (fun c4 => ?_) (fun c4 => ?_)
    · replace hf := kt c4 hf
      refine lv_bipush (v := (8 : Int32)) hx hb dX11_prices_27 (by decide) ?_
      refine lv_aload_n hx hb dX11_prices_29 rfl (lv_at hl 0 rfl) ?_
      refine va_get (D := gD G) (ci := 11) (C := RX11) (T := TX11) (N := 17) hx hb hts hin_X11 hown hK hP 0 rfl rfl 5 (by decide) fl_31 (fun _ h9 => h9) rfl dX11_prices_30 ?_
      refine lv_iload_n hx hb dX11_prices_33 rfl (lv_at hl 1 rfl) ?_
      obtain ⟨g5, hf⟩ := kg hf
      refine va_iald hx hb hK hP 3 0 rfl rfl (vin_of g5) dX11_prices_34 ?_
      refine va_mmin hx hb (hml.trans hl.1.symm) hown (hts _ tw_432) (hts _ tw_433) (hts _ tw_93) (hts _ tw_434) (Nat.le_of_ble_eq_true rfl) (Nat.le_of_ble_eq_true rfl) (Nat.zero_le _) (Nat.zero_le _) dX11_prices_35 ?_
      refine lv_istore_n (lv' := [(2, .int (if (this_sheetLengths p0.toNatClampNeg) < (8 : Int32) then (this_sheetLengths p0.toNatClampNeg) else (8 : Int32))), (0, .ref a_this), (1, .int p0)]) hx hb dX11_prices_38 rfl hl (by decide) rfl (fun ls hl => ?_)
      refine lv_iconst (v := (0 : Int32)) hx hb dX11_prices_39 (by decide) ?_
      refine lv_istore_n (lv' := [(3, .int (0 : Int32)), (2, .int (if (this_sheetLengths p0.toNatClampNeg) < (8 : Int32) then (this_sheetLengths p0.toNatClampNeg) else (8 : Int32))), (0, .ref a_this), (1, .int p0)]) hx hb dX11_prices_40 rfl hl (by decide) rfl (fun ls hl => ?_)
      have L7 : ∀ (K : Int32 → (Nat → Nat → Int32) → Option (Int32 × (Nat → Int32) × (Nat → Nat → Int32))), (∀ (v3_7 : Int32) (this_shop_goods_7 : Nat → Nat → Int32) (H : Heap) (locs : List Loc), va_P (gD G) vwCl (k_X11_prices G a_this a_this_shop a_this_kept a_this_sheetBits a_this_sheetLengths a_this_sheetNumbers a_this_trace a_this_errors a_this_one a_this_second a_this_extra a_this_room a_this_values a_this_best e_this_sheetNumbers a_this_shop_goods a_this_shop_tills a_this_shop_tape a_this_shop_paysLaw a_this_shop_valuesLaw a_this_shop_waiting e_this_shop_goods this_imaged this_images this_bestPaid this_bestNet this_errors this_sheetBits this_sheetLengths this_sheetNumbers this_shop_takings this_shop_costs this_shop_goes this_shop_z this_shop_fed this_shop_waits this_shop_goods_7) H → va_D A (k_X11_prices G a_this a_this_shop a_this_kept a_this_sheetBits a_this_sheetLengths a_this_sheetNumbers a_this_trace a_this_errors a_this_one a_this_second a_this_extra a_this_room a_this_values a_this_best e_this_sheetNumbers a_this_shop_goods a_this_shop_tills a_this_shop_tape a_this_shop_paysLaw a_this_shop_valuesLaw a_this_shop_waiting e_this_shop_goods this_imaged this_images this_bestPaid this_bestNet this_errors this_sheetBits this_sheetLengths this_sheetNumbers this_shop_takings this_shop_costs this_shop_goes this_shop_z this_shop_fed this_shop_waits this_shop_goods_7) → va_S A s.heap H locs → ∀ (ls : Array Slot), lv_has ls 4 [(0, .ref a_this), (1, .int p0), (2, .int (if (this_sheetLengths p0.toNatClampNeg) < (8 : Int32) then (this_sheetLengths p0.toNatClampNeg) else (8 : Int32))), (3, .int v3_7)] → K v3_7 this_shop_goods_7 = some out → W p l e (kR 2 0 0 43) s m args below meth c H locs 0 0 Q (F0 m 88 ls [])) → ∀ (n : Nat), ∀ (v3_7 : Int32) (this_shop_goods_7 : Nat → Nat → Int32) (H : Heap) (locs : List Loc), va_P (gD G) vwCl (k_X11_prices G a_this a_this_shop a_this_kept a_this_sheetBits a_this_sheetLengths a_this_sheetNumbers a_this_trace a_this_errors a_this_one a_this_second a_this_extra a_this_room a_this_values a_this_best e_this_sheetNumbers a_this_shop_goods a_this_shop_tills a_this_shop_tape a_this_shop_paysLaw a_this_shop_valuesLaw a_this_shop_waiting e_this_shop_goods this_imaged this_images this_bestPaid this_bestNet this_errors this_sheetBits this_sheetLengths this_sheetNumbers this_shop_takings this_shop_costs this_shop_goes this_shop_z this_shop_fed this_shop_waits this_shop_goods_7) H → va_D A (k_X11_prices G a_this a_this_shop a_this_kept a_this_sheetBits a_this_sheetLengths a_this_sheetNumbers a_this_trace a_this_errors a_this_one a_this_second a_this_extra a_this_room a_this_values a_this_best e_this_sheetNumbers a_this_shop_goods a_this_shop_tills a_this_shop_tape a_this_shop_paysLaw a_this_shop_valuesLaw a_this_shop_waiting e_this_shop_goods this_imaged this_images this_bestPaid this_bestNet this_errors this_sheetBits this_sheetLengths this_sheetNumbers this_shop_takings this_shop_costs this_shop_goes this_shop_z this_shop_fed this_shop_waits this_shop_goods_7) → va_S A s.heap H locs → ∀ (ls : Array Slot), lv_has ls 4 [(0, .ref a_this), (1, .int p0), (2, .int (if (this_sheetLengths p0.toNatClampNeg) < (8 : Int32) then (this_sheetLengths p0.toNatClampNeg) else (8 : Int32))), (3, .int v3_7)] → f_X11_prices_41 N p0 (if (this_sheetLengths p0.toNatClampNeg) < (8 : Int32) then (this_sheetLengths p0.toNatClampNeg) else (8 : Int32)) this_errors this_sheetNumbers K n v3_7 this_shop_goods_7 = some out → W p l e (kR 2 0 0 43) s m args below meth c H locs 0 0 Q (F0 m 41 ls []) := by
        intro K hK7 n
        induction n with
        | zero =>
          intro v3_7 this_shop_goods_7 H locs hP hD hS ls hl hf
          rw [f_X11_prices_41] at hf
          cases hf
        | succ n ih =>
          intro v3_7 this_shop_goods_7 H locs hP hD hS ls hl hf
          rw [f_X11_prices_41] at hf
          refine lv_iload_n hx hb dX11_prices_41 rfl (lv_at hl 3 rfl) ?_
          refine lv_iload_n hx hb dX11_prices_42 rfl (lv_at hl 2 rfl) ?_
          refine lv_icmp_ge (tgt := 88) hx hb dX11_prices_43 (by decide) (fun c8 => ?_) (fun c8 => ?_)
          · replace hf := kt c8 hf
            exact hK7 v3_7 this_shop_goods_7 _ _ hP hD hS ls (lv_sub hl [0, 1, 2, 3] rfl) hf
          · replace hf := kf c8 hf
            refine lv_iconst (v := (0 : Int32)) hx hb dX11_prices_46 (by decide) ?_
            refine lv_aload_n hx hb dX11_prices_47 rfl (lv_at hl 0 rfl) ?_
            refine va_get (D := gD G) (ci := 11) (C := RX11) (T := TX11) (N := 17) hx hb hts hin_X11 hown hK hP 0 rfl rfl 6 (by decide) fl_36 (fun _ h9 => h9) rfl dX11_prices_48 ?_
            refine lv_iload_n hx hb dX11_prices_51 rfl (lv_at hl 1 rfl) ?_
            obtain ⟨g9, hf⟩ := kg hf
            refine ka_aald hx hb hK hP 4 rfl (vin_of g9) dX11_prices_52 ?_
            refine lv_iload_n hx hb dX11_prices_53 rfl (lv_at hl 3 rfl) ?_
            obtain ⟨g11, hf⟩ := kg hf
            have w10 : ∀ j, j < 4 → (k_X11_prices G a_this a_this_shop a_this_kept a_this_sheetBits a_this_sheetLengths a_this_sheetNumbers a_this_trace a_this_errors a_this_one a_this_second a_this_extra a_this_room a_this_values a_this_best e_this_sheetNumbers a_this_shop_goods a_this_shop_tills a_this_shop_tape a_this_shop_paysLaw a_this_shop_valuesLaw a_this_shop_waiting e_this_shop_goods this_imaged this_images this_bestPaid this_bestNet this_errors this_sheetBits this_sheetLengths this_sheetNumbers this_shop_takings this_shop_costs this_shop_goes this_shop_z this_shop_fed this_shop_waits this_shop_goods_7)[5 + j]? = some (e_this_sheetNumbers j, .inl (gI G, 24, .inl (this_sheetNumbers j))) := fun j hj => match j, hj with | 0, _ => rfl | 1, _ => rfl | 2, _ => rfl | 3, _ => rfl | k + 4, hk => absurd hk (by omega)
            refine va_iald hx hb hK hP (5 + p0.toNatClampNeg) 0 (w10 _ (vin_lt g9)) rfl (vin_of g11) dX11_prices_54 ?_
            obtain ⟨r12, hr12, hf⟩ := kb hf
            refine kS (As := [.int (0 : Int32), .int ((this_sheetNumbers p0.toNatClampNeg) v3_7.toNatClampNeg)]) (rest := []) ⟨hx, hb, hml, hown, hts⟩ (c_X11_isGood l G N (0 : Int32) ((this_sheetNumbers p0.toNatClampNeg) v3_7.toNatClampNeg) r12 hr12) (kcS 2 hts tw_397 tw_80 tw_395 tw_396 hd_X11_isGood ⟨Nat.le_of_ble_eq_true rfl, Nat.le_of_ble_eq_true rfl⟩) dX11_prices_55 hl.1 hK hAm hA hP hD hS [] rfl rfl rfl [] rfl rfl rfl (Nat.le_of_ble_eq_true rfl) ⟨Nat.le_refl _, Nat.le_refl _⟩ (fun H locs hP hD hS => ?_)
            have hP : va_P (gD G) vwCl (k_X11_prices G a_this a_this_shop a_this_kept a_this_sheetBits a_this_sheetLengths a_this_sheetNumbers a_this_trace a_this_errors a_this_one a_this_second a_this_extra a_this_room a_this_values a_this_best e_this_sheetNumbers a_this_shop_goods a_this_shop_tills a_this_shop_tape a_this_shop_paysLaw a_this_shop_valuesLaw a_this_shop_waiting e_this_shop_goods this_imaged this_images this_bestPaid this_bestNet this_errors this_sheetBits this_sheetLengths this_sheetNumbers this_shop_takings this_shop_costs this_shop_goes this_shop_z this_shop_fed this_shop_waits this_shop_goods_7) H := hP
            have hD : va_D A (k_X11_prices G a_this a_this_shop a_this_kept a_this_sheetBits a_this_sheetLengths a_this_sheetNumbers a_this_trace a_this_errors a_this_one a_this_second a_this_extra a_this_room a_this_values a_this_best e_this_sheetNumbers a_this_shop_goods a_this_shop_tills a_this_shop_tape a_this_shop_paysLaw a_this_shop_valuesLaw a_this_shop_waiting e_this_shop_goods this_imaged this_images this_bestPaid this_bestNet this_errors this_sheetBits this_sheetLengths this_sheetNumbers this_shop_takings this_shop_costs this_shop_goes this_shop_z this_shop_fed this_shop_waits this_shop_goods_7) := hD
            refine lv_if_ne (tgt := 63) hx hb dX11_prices_58 (by decide) (fun c13 => ?_) (fun c13 => ?_)
            · replace hf := kf c13 hf
              refine lv_aload_n hx hb dX11_prices_63 rfl (lv_at hl 0 rfl) ?_
              refine va_get (D := gD G) (ci := 11) (C := RX11) (T := TX11) (N := 17) hx hb hts hin_X11 hown hK hP 0 rfl rfl 0 (by decide) fl_10 (fun _ h9 => h9) rfl dX11_prices_64 ?_
              refine va_getN (D := gD G) (ci := 7) (C := RX7) (T := TX7) (N := 12) hx hb hts hin_X7 hown hK hP 9 rfl rfl 0 (by decide) fl_93 (fun _ h9 => h9) rfl dX11_prices_67 ?_
              refine lv_iconst (v := (0 : Int32)) hx hb dX11_prices_70 (by decide) ?_
              refine ka_aald hx hb hK hP 10 rfl (vin_of (by decide)) dX11_prices_71 ?_
              refine lv_iload_n hx hb dX11_prices_72 rfl (lv_at hl 3 rfl) ?_
              refine lv_aload_n hx hb dX11_prices_73 rfl (lv_at hl 0 rfl) ?_
              refine va_get (D := gD G) (ci := 11) (C := RX11) (T := TX11) (N := 17) hx hb hts hin_X11 hown hK hP 0 rfl rfl 6 (by decide) fl_36 (fun _ h9 => h9) rfl dX11_prices_74 ?_
              refine lv_iload_n hx hb dX11_prices_77 rfl (lv_at hl 1 rfl) ?_
              obtain ⟨g14, hf⟩ := kg hf
              refine ka_aald hx hb hK hP 4 rfl (vin_of g14) dX11_prices_78 ?_
              refine lv_iload_n hx hb dX11_prices_79 rfl (lv_at hl 3 rfl) ?_
              obtain ⟨g16, hf⟩ := kg hf
              have w15 : ∀ j, j < 4 → (k_X11_prices G a_this a_this_shop a_this_kept a_this_sheetBits a_this_sheetLengths a_this_sheetNumbers a_this_trace a_this_errors a_this_one a_this_second a_this_extra a_this_room a_this_values a_this_best e_this_sheetNumbers a_this_shop_goods a_this_shop_tills a_this_shop_tape a_this_shop_paysLaw a_this_shop_valuesLaw a_this_shop_waiting e_this_shop_goods this_imaged this_images this_bestPaid this_bestNet this_errors this_sheetBits this_sheetLengths this_sheetNumbers this_shop_takings this_shop_costs this_shop_goes this_shop_z this_shop_fed this_shop_waits this_shop_goods_7)[5 + j]? = some (e_this_sheetNumbers j, .inl (gI G, 24, .inl (this_sheetNumbers j))) := fun j hj => match j, hj with | 0, _ => rfl | 1, _ => rfl | 2, _ => rfl | 3, _ => rfl | k + 4, hk => absurd hk (by omega)
              refine va_iald hx hb hK hP (5 + p0.toNatClampNeg) 0 (w15 _ (vin_lt g14)) rfl (vin_of g16) dX11_prices_80 ?_
              obtain ⟨g17, hf⟩ := kg hf
              refine va_iast hx hb hK hP hD hS 11 0 rfl rfl (vin_of g17) dX11_prices_81 (fun H locs hP hD hS => ?_)
              have hP : va_P (gD G) vwCl (k_X11_prices G a_this a_this_shop a_this_kept a_this_sheetBits a_this_sheetLengths a_this_sheetNumbers a_this_trace a_this_errors a_this_one a_this_second a_this_extra a_this_room a_this_values a_this_best e_this_sheetNumbers a_this_shop_goods a_this_shop_tills a_this_shop_tape a_this_shop_paysLaw a_this_shop_valuesLaw a_this_shop_waiting e_this_shop_goods this_imaged this_images this_bestPaid this_bestNet this_errors this_sheetBits this_sheetLengths this_sheetNumbers this_shop_takings this_shop_costs this_shop_goes this_shop_z this_shop_fed this_shop_waits (va_up this_shop_goods_7 0 (upd (this_shop_goods_7 0) v3_7.toNatClampNeg ((this_sheetNumbers p0.toNatClampNeg) v3_7.toNatClampNeg)))) H := hP
              have hD : va_D A (k_X11_prices G a_this a_this_shop a_this_kept a_this_sheetBits a_this_sheetLengths a_this_sheetNumbers a_this_trace a_this_errors a_this_one a_this_second a_this_extra a_this_room a_this_values a_this_best e_this_sheetNumbers a_this_shop_goods a_this_shop_tills a_this_shop_tape a_this_shop_paysLaw a_this_shop_valuesLaw a_this_shop_waiting e_this_shop_goods this_imaged this_images this_bestPaid this_bestNet this_errors this_sheetBits this_sheetLengths this_sheetNumbers this_shop_takings this_shop_costs this_shop_goes this_shop_z this_shop_fed this_shop_waits (va_up this_shop_goods_7 0 (upd (this_shop_goods_7 0) v3_7.toNatClampNeg ((this_sheetNumbers p0.toNatClampNeg) v3_7.toNatClampNeg)))) := hD
              refine lv_iinc (v := (v3_7 + (1 : Int32))) (lv' := [(3, .int (v3_7 + (1 : Int32))), (0, .ref a_this), (1, .int p0), (2, .int (if (this_sheetLengths p0.toNatClampNeg) < (8 : Int32) then (this_sheetLengths p0.toNatClampNeg) else (8 : Int32)))]) hx hb dX11_prices_82 hl (k := 3) rfl rfl (by decide) rfl (fun ls hl => ?_)
              refine lv_goto (tgt := 41) hx hb dX11_prices_85 (by decide) ?_
              exact ih (v3_7 + (1 : Int32)) (va_up this_shop_goods_7 0 (upd (this_shop_goods_7 0) v3_7.toNatClampNeg ((this_sheetNumbers p0.toNatClampNeg) v3_7.toNatClampNeg))) _ _ hP hD hS ls (lv_sub hl [1, 2, 3, 0] rfl) hf
            · replace hf := kt c13 hf
              refine lv_iload_n hx hb dX11_prices_61 rfl (lv_at hl 3 rfl) ?_
              have ho := ks hf
              subst ho
              exact kiret hx hb hr hlk hP hD hS hQ dX11_prices_62
      refine L7 _ (fun v3_6 this_shop_goods_6 H locs hP hD hS ls hl hf => ?_) N (0 : Int32) this_shop_goods _ _ hP hD hS ls (lv_sub hl [2, 3, 1, 0] rfl) hf
      refine lv_iload_n hx hb dX11_prices_88 rfl (lv_at hl 2 rfl) ?_
      have ho := ks hf
      subst ho
      exact kiret hx hb hr hlk hP hD hS hQ dX11_prices_89
    · replace hf := kf c4 hf
      refine lv_aload_n hx hb dX11_prices_21 rfl (lv_at hl 0 rfl) ?_
      refine lv_iconst (v := (2 : Int32)) hx hb dX11_prices_22 (by decide) ?_
      obtain ⟨r18, hr18, hf⟩ := kb hf
      refine kV (As := [.int (2 : Int32)]) (rest := []) ⟨hx, hb, hml, hown, hts⟩ (c_X11_error l G N a_this a_this_shop a_this_kept a_this_sheetBits a_this_sheetLengths a_this_sheetNumbers a_this_trace a_this_errors a_this_one a_this_second a_this_extra a_this_room a_this_values a_this_best (2 : Int32) this_imaged this_images this_bestPaid this_bestNet this_errors r18 hr18) (kcV 1 hts tw_405 tw_80 tw_402 tw_404 tw_0 hd_X11_error ⟨Nat.le_of_ble_eq_true rfl, Nat.le_of_ble_eq_true rfl⟩) dX11_prices_23 hl.1 hK hAm hA hP hD hS 0 (ci := 11) rfl rfl rfl [0, 1] rfl rfl rfl [1] rfl rfl rfl (Nat.le_of_ble_eq_true rfl) ⟨Nat.le_refl _, Nat.le_refl _⟩ (fun H locs hP hD hS => ?_)
      have hP : va_P (gD G) vwCl (k_X11_prices G a_this a_this_shop a_this_kept a_this_sheetBits a_this_sheetLengths a_this_sheetNumbers a_this_trace a_this_errors a_this_one a_this_second a_this_extra a_this_room a_this_values a_this_best e_this_sheetNumbers a_this_shop_goods a_this_shop_tills a_this_shop_tape a_this_shop_paysLaw a_this_shop_valuesLaw a_this_shop_waiting e_this_shop_goods this_imaged this_images this_bestPaid this_bestNet r18.2 this_sheetBits this_sheetLengths this_sheetNumbers this_shop_takings this_shop_costs this_shop_goes this_shop_z this_shop_fed this_shop_waits this_shop_goods) H := hP
      have hD : va_D A (k_X11_prices G a_this a_this_shop a_this_kept a_this_sheetBits a_this_sheetLengths a_this_sheetNumbers a_this_trace a_this_errors a_this_one a_this_second a_this_extra a_this_room a_this_values a_this_best e_this_sheetNumbers a_this_shop_goods a_this_shop_tills a_this_shop_tape a_this_shop_paysLaw a_this_shop_valuesLaw a_this_shop_waiting e_this_shop_goods this_imaged this_images this_bestPaid this_bestNet r18.2 this_sheetBits this_sheetLengths this_sheetNumbers this_shop_takings this_shop_costs this_shop_goes this_shop_z this_shop_fed this_shop_waits this_shop_goods) := hD
      have ho := ks hf
      subst ho
      exact kiret hx hb hr hlk hP hD hS hQ dX11_prices_26
  · replace hf := kt c2 hf
    refine lv_aload_n hx hb dX11_prices_7 rfl (lv_at hl 0 rfl) ?_
    refine lv_iconst (v := (1 : Int32)) hx hb dX11_prices_8 (by decide) ?_
    obtain ⟨r19, hr19, hf⟩ := kb hf
    refine kV (As := [.int (1 : Int32)]) (rest := []) ⟨hx, hb, hml, hown, hts⟩ (c_X11_error l G N a_this a_this_shop a_this_kept a_this_sheetBits a_this_sheetLengths a_this_sheetNumbers a_this_trace a_this_errors a_this_one a_this_second a_this_extra a_this_room a_this_values a_this_best (1 : Int32) this_imaged this_images this_bestPaid this_bestNet this_errors r19 hr19) (kcV 1 hts tw_405 tw_80 tw_402 tw_404 tw_0 hd_X11_error ⟨Nat.le_of_ble_eq_true rfl, Nat.le_of_ble_eq_true rfl⟩) dX11_prices_9 hl.1 hK hAm hA hP hD hS 0 (ci := 11) rfl rfl rfl [0, 1] rfl rfl rfl [1] rfl rfl rfl (Nat.le_of_ble_eq_true rfl) ⟨Nat.le_refl _, Nat.le_refl _⟩ (fun H locs hP hD hS => ?_)
    have hP : va_P (gD G) vwCl (k_X11_prices G a_this a_this_shop a_this_kept a_this_sheetBits a_this_sheetLengths a_this_sheetNumbers a_this_trace a_this_errors a_this_one a_this_second a_this_extra a_this_room a_this_values a_this_best e_this_sheetNumbers a_this_shop_goods a_this_shop_tills a_this_shop_tape a_this_shop_paysLaw a_this_shop_valuesLaw a_this_shop_waiting e_this_shop_goods this_imaged this_images this_bestPaid this_bestNet r19.2 this_sheetBits this_sheetLengths this_sheetNumbers this_shop_takings this_shop_costs this_shop_goes this_shop_z this_shop_fed this_shop_waits this_shop_goods) H := hP
    have hD : va_D A (k_X11_prices G a_this a_this_shop a_this_kept a_this_sheetBits a_this_sheetLengths a_this_sheetNumbers a_this_trace a_this_errors a_this_one a_this_second a_this_extra a_this_room a_this_values a_this_best e_this_sheetNumbers a_this_shop_goods a_this_shop_tills a_this_shop_tape a_this_shop_paysLaw a_this_shop_valuesLaw a_this_shop_waiting e_this_shop_goods this_imaged this_images this_bestPaid this_bestNet r19.2 this_sheetBits this_sheetLengths this_sheetNumbers this_shop_takings this_shop_costs this_shop_goes this_shop_z this_shop_fed this_shop_waits this_shop_goods) := hD
    have ho := ks hf
    subst ho
    exact kiret hx hb hr hlk hP hD hS hQ dX11_prices_12
abbrev k_X11_restore (G : KG) (a_this : Nat) (a_this_shop : Nat) (a_this_kept : Nat) (a_this_sheetBits : Nat) (a_this_sheetLengths : Nat) (a_this_sheetNumbers : Nat) (a_this_trace : Nat) (a_this_errors : Nat) (a_this_one : Nat) (a_this_second : Nat) (a_this_extra : Nat) (a_this_room : Nat) (a_this_values : Nat) (a_this_best : Nat) (a_this_kept_goods : Nat) (a_this_kept_tills : Nat) (a_this_kept_tape : Nat) (a_this_kept_paysLaw : Nat) (a_this_kept_valuesLaw : Nat) (a_this_kept_waiting : Nat) (e_this_kept_goods : Nat → Nat) (a_this_kept_paysLaw_names : Nat) (a_this_kept_paysLaw_code : Nat) (a_this_kept_paysLaw_stack : Nat) (a_this_kept_paysLaw_bytes : Nat) (a_this_kept_paysLaw_draft : Nat) (e_this_kept_tills : Nat → Nat) (a_this_kept_valuesLaw_names : Nat) (a_this_kept_valuesLaw_code : Nat) (a_this_kept_valuesLaw_stack : Nat) (a_this_kept_valuesLaw_bytes : Nat) (a_this_kept_valuesLaw_draft : Nat) (a_this_shop_goods : Nat) (a_this_shop_tills : Nat) (a_this_shop_tape : Nat) (a_this_shop_paysLaw : Nat) (a_this_shop_valuesLaw : Nat) (a_this_shop_waiting : Nat) (e_this_shop_goods : Nat → Nat) (a_this_shop_paysLaw_names : Nat) (a_this_shop_paysLaw_code : Nat) (a_this_shop_paysLaw_stack : Nat) (a_this_shop_paysLaw_bytes : Nat) (a_this_shop_paysLaw_draft : Nat) (a_this_shop_valuesLaw_names : Nat) (a_this_shop_valuesLaw_code : Nat) (a_this_shop_valuesLaw_stack : Nat) (a_this_shop_valuesLaw_bytes : Nat) (a_this_shop_valuesLaw_draft : Nat) (this_imaged : Int32) (this_images : Int32) (this_bestPaid : Int32) (this_bestNet : Int32) (this_errors : Nat → Int32) (this_kept_takings : Int32) (this_kept_costs : Int32) (this_kept_goes : Int32) (this_kept_z : Int32) (this_kept_fed : Int32) (this_kept_waits : Int32) (this_kept_goods : Nat → Nat → Int32) (this_kept_paysLaw_length : Int32) (this_kept_paysLaw_drafted : Int32) (this_kept_paysLaw_end : Int32) (this_kept_paysLaw_place : Int32) (this_kept_paysLaw_failed : Int32) (this_kept_paysLaw_code : Nat → Int32) (this_kept_tape : Nat → Int32) (this_kept_tills : Nat → Option Nat) (this_kept_tills_k0 : Nat) (this_kept_tills_k1 : Nat) (this_kept_tills_k2 : Nat) (this_kept_tills_k3 : Nat) (this_kept_tills_n : Nat → Int32) (this_kept_tills_m : Nat → Int32) (this_kept_valuesLaw_length : Int32) (this_kept_valuesLaw_drafted : Int32) (this_kept_valuesLaw_end : Int32) (this_kept_valuesLaw_place : Int32) (this_kept_valuesLaw_failed : Int32) (this_kept_valuesLaw_code : Nat → Int32) (this_kept_waiting : Nat → Int32) (this_shop_takings : Int32) (this_shop_costs : Int32) (this_shop_goes : Int32) (this_shop_z : Int32) (this_shop_fed : Int32) (this_shop_waits : Int32) (this_shop_goods : Nat → Nat → Int32) (this_shop_paysLaw_length : Int32) (this_shop_paysLaw_drafted : Int32) (this_shop_paysLaw_end : Int32) (this_shop_paysLaw_place : Int32) (this_shop_paysLaw_failed : Int32) (this_shop_paysLaw_code : Nat → Int32) (this_shop_tape : Nat → Int32) (this_shop_tills : Nat → Option Nat) (this_shop_valuesLaw_length : Int32) (this_shop_valuesLaw_drafted : Int32) (this_shop_valuesLaw_end : Int32) (this_shop_valuesLaw_place : Int32) (this_shop_valuesLaw_failed : Int32) (this_shop_valuesLaw_code : Nat → Int32) (this_shop_waiting : Nat → Int32) : va_W := [(a_this, .inr (11, [.ref a_this_shop, .ref a_this_kept, .int this_imaged, .int this_images, .ref a_this_sheetBits, .ref a_this_sheetLengths, .ref a_this_sheetNumbers, .ref a_this_trace, .ref a_this_errors, .ref a_this_one, .ref a_this_second, .ref a_this_extra, .ref a_this_room, .ref a_this_values, .ref a_this_best, .int this_bestPaid, .int this_bestNet])), (a_this_errors, .inl (gI G, 7, .inl this_errors)), (a_this_kept, .inr (7, [.ref a_this_kept_goods, .ref a_this_kept_tills, .int this_kept_takings, .int this_kept_costs, .int this_kept_goes, .int this_kept_z, .ref a_this_kept_tape, .int this_kept_fed, .ref a_this_kept_paysLaw, .ref a_this_kept_valuesLaw, .ref a_this_kept_waiting, .int this_kept_waits])), (a_this_kept_goods, .inl (gII G, 3, .inr (.inr (.inr (.inr (fun j => some (e_this_kept_goods j))))))), (e_this_kept_goods 0, .inl (gI G, 8, .inl (this_kept_goods 0))), (e_this_kept_goods 1, .inl (gI G, 8, .inl (this_kept_goods 1))), (e_this_kept_goods 2, .inl (gI G, 8, .inl (this_kept_goods 2))), (a_this_kept_paysLaw, .inr (4, [.ref a_this_kept_paysLaw_names, .ref a_this_kept_paysLaw_code, .int this_kept_paysLaw_length, .ref a_this_kept_paysLaw_stack, .ref a_this_kept_paysLaw_bytes, .ref a_this_kept_paysLaw_draft, .int this_kept_paysLaw_drafted, .int this_kept_paysLaw_end, .int this_kept_paysLaw_place, .int this_kept_paysLaw_failed])), (a_this_kept_paysLaw_code, .inl (gI G, 60, .inl this_kept_paysLaw_code)), (a_this_kept_tape, .inl (gI G, 60, .inl this_kept_tape)), (a_this_kept_tills, .inl (gT G, 4, .inr (.inr (.inr (.inr this_kept_tills))))), (e_this_kept_tills 0, .inr (this_kept_tills_k0, [.int (this_kept_tills_n 0), .int (this_kept_tills_m 0)])), (e_this_kept_tills 1, .inr (this_kept_tills_k1, [.int (this_kept_tills_n 1), .int (this_kept_tills_m 1)])), (e_this_kept_tills 2, .inr (this_kept_tills_k2, [.int (this_kept_tills_n 2), .int (this_kept_tills_m 2)])), (e_this_kept_tills 3, .inr (this_kept_tills_k3, [.int (this_kept_tills_n 3), .int (this_kept_tills_m 3)])), (a_this_kept_valuesLaw, .inr (4, [.ref a_this_kept_valuesLaw_names, .ref a_this_kept_valuesLaw_code, .int this_kept_valuesLaw_length, .ref a_this_kept_valuesLaw_stack, .ref a_this_kept_valuesLaw_bytes, .ref a_this_kept_valuesLaw_draft, .int this_kept_valuesLaw_drafted, .int this_kept_valuesLaw_end, .int this_kept_valuesLaw_place, .int this_kept_valuesLaw_failed])), (a_this_kept_valuesLaw_code, .inl (gI G, 60, .inl this_kept_valuesLaw_code)), (a_this_kept_waiting, .inl (gI G, 24, .inl this_kept_waiting)), (a_this_shop, .inr (7, [.ref a_this_shop_goods, .ref a_this_shop_tills, .int this_shop_takings, .int this_shop_costs, .int this_shop_goes, .int this_shop_z, .ref a_this_shop_tape, .int this_shop_fed, .ref a_this_shop_paysLaw, .ref a_this_shop_valuesLaw, .ref a_this_shop_waiting, .int this_shop_waits])), (a_this_shop_goods, .inl (gII G, 3, .inr (.inr (.inr (.inr (fun j => some (e_this_shop_goods j))))))), (e_this_shop_goods 0, .inl (gI G, 8, .inl (this_shop_goods 0))), (e_this_shop_goods 1, .inl (gI G, 8, .inl (this_shop_goods 1))), (e_this_shop_goods 2, .inl (gI G, 8, .inl (this_shop_goods 2))), (a_this_shop_paysLaw, .inr (4, [.ref a_this_shop_paysLaw_names, .ref a_this_shop_paysLaw_code, .int this_shop_paysLaw_length, .ref a_this_shop_paysLaw_stack, .ref a_this_shop_paysLaw_bytes, .ref a_this_shop_paysLaw_draft, .int this_shop_paysLaw_drafted, .int this_shop_paysLaw_end, .int this_shop_paysLaw_place, .int this_shop_paysLaw_failed])), (a_this_shop_paysLaw_code, .inl (gI G, 60, .inl this_shop_paysLaw_code)), (a_this_shop_tape, .inl (gI G, 60, .inl this_shop_tape)), (a_this_shop_tills, .inl (gT G, 4, .inr (.inr (.inr (.inr this_shop_tills))))), (a_this_shop_valuesLaw, .inr (4, [.ref a_this_shop_valuesLaw_names, .ref a_this_shop_valuesLaw_code, .int this_shop_valuesLaw_length, .ref a_this_shop_valuesLaw_stack, .ref a_this_shop_valuesLaw_bytes, .ref a_this_shop_valuesLaw_draft, .int this_shop_valuesLaw_drafted, .int this_shop_valuesLaw_end, .int this_shop_valuesLaw_place, .int this_shop_valuesLaw_failed])), (a_this_shop_valuesLaw_code, .inl (gI G, 60, .inl this_shop_valuesLaw_code)), (a_this_shop_waiting, .inl (gI G, 24, .inl this_shop_waiting))]
def f_X11_restore (N : Nat) (this_imaged : Int32) (this_errors : Nat → Int32) (this_kept_takings : Int32) (this_kept_costs : Int32) (this_kept_goes : Int32) (this_kept_z : Int32) (this_kept_fed : Int32) (this_kept_waits : Int32) (this_kept_goods : Nat → Nat → Int32) (this_kept_paysLaw_length : Int32) (this_kept_paysLaw_code : Nat → Int32) (this_kept_tape : Nat → Int32) (this_kept_tills : Nat → Option Nat) (this_kept_tills_k0 : Nat) (this_kept_tills_k1 : Nat) (this_kept_tills_k2 : Nat) (this_kept_tills_k3 : Nat) (this_kept_tills_n : Nat → Int32) (this_kept_tills_m : Nat → Int32) (this_kept_valuesLaw_length : Int32) (this_kept_valuesLaw_code : Nat → Int32) (this_kept_waiting : Nat → Int32) (this_shop_takings : Int32) (this_shop_costs : Int32) (this_shop_goes : Int32) (this_shop_z : Int32) (this_shop_fed : Int32) (this_shop_waits : Int32) (this_shop_goods : Nat → Nat → Int32) (this_shop_paysLaw_length : Int32) (this_shop_paysLaw_code : Nat → Int32) (this_shop_tape : Nat → Int32) (this_shop_tills : Nat → Option Nat) (this_shop_valuesLaw_length : Int32) (this_shop_valuesLaw_code : Nat → Int32) (this_shop_waiting : Nat → Int32) : Option (Int32 × (Nat → Int32) × (Int32) × (Int32) × (Int32) × (Int32) × (Int32) × (Int32) × (Nat → Nat → Int32) × (Int32) × (Nat → Int32) × (Nat → Int32) × (Nat → Option Nat) × (Int32) × (Nat → Int32) × (Nat → Int32)) := (if this_imaged = 0 then ((f_X11_error N (2 : Int32) this_errors).bind fun r3 => (some (r3.1, r3.2, this_shop_takings, this_shop_costs, this_shop_goes, this_shop_z, this_shop_fed, this_shop_waits, this_shop_goods, this_shop_paysLaw_length, this_shop_paysLaw_code, this_shop_tape, this_shop_tills, this_shop_valuesLaw_length, this_shop_valuesLaw_code, this_shop_waiting))) else ((f_X7_become N this_kept_takings this_kept_costs this_kept_goes this_kept_z this_kept_fed this_kept_waits this_kept_goods this_kept_paysLaw_length this_kept_paysLaw_code this_kept_tape this_kept_tills this_kept_tills_k0 this_kept_tills_k1 this_kept_tills_k2 this_kept_tills_k3 this_kept_tills_n this_kept_tills_m this_kept_valuesLaw_length this_kept_valuesLaw_code this_kept_waiting this_shop_takings this_shop_costs this_shop_goes this_shop_z this_shop_fed this_shop_waits this_shop_goods this_shop_paysLaw_length this_shop_paysLaw_code this_shop_tape this_shop_tills this_shop_valuesLaw_length this_shop_valuesLaw_code this_shop_waiting).bind fun r2 => (some (r2.2.2.1, this_errors, r2.1, r2.2.1, r2.2.2.1, r2.2.2.2.1, r2.2.2.2.2.1, r2.2.2.2.2.2.1, r2.2.2.2.2.2.2.1, r2.2.2.2.2.2.2.2.1, r2.2.2.2.2.2.2.2.2.1, r2.2.2.2.2.2.2.2.2.2.1, r2.2.2.2.2.2.2.2.2.2.2.1, r2.2.2.2.2.2.2.2.2.2.2.2.1, r2.2.2.2.2.2.2.2.2.2.2.2.2.1, r2.2.2.2.2.2.2.2.2.2.2.2.2.2))))
set_option maxRecDepth 100000 in
set_option maxHeartbeats 4000000 in
theorem c_X11_restore (l : Launch) (G : KG) (N : Nat) (a_this : Nat) (a_this_shop : Nat) (a_this_kept : Nat) (a_this_sheetBits : Nat) (a_this_sheetLengths : Nat) (a_this_sheetNumbers : Nat) (a_this_trace : Nat) (a_this_errors : Nat) (a_this_one : Nat) (a_this_second : Nat) (a_this_extra : Nat) (a_this_room : Nat) (a_this_values : Nat) (a_this_best : Nat) (a_this_kept_goods : Nat) (a_this_kept_tills : Nat) (a_this_kept_tape : Nat) (a_this_kept_paysLaw : Nat) (a_this_kept_valuesLaw : Nat) (a_this_kept_waiting : Nat) (e_this_kept_goods : Nat → Nat) (a_this_kept_paysLaw_names : Nat) (a_this_kept_paysLaw_code : Nat) (a_this_kept_paysLaw_stack : Nat) (a_this_kept_paysLaw_bytes : Nat) (a_this_kept_paysLaw_draft : Nat) (e_this_kept_tills : Nat → Nat) (a_this_kept_valuesLaw_names : Nat) (a_this_kept_valuesLaw_code : Nat) (a_this_kept_valuesLaw_stack : Nat) (a_this_kept_valuesLaw_bytes : Nat) (a_this_kept_valuesLaw_draft : Nat) (a_this_shop_goods : Nat) (a_this_shop_tills : Nat) (a_this_shop_tape : Nat) (a_this_shop_paysLaw : Nat) (a_this_shop_valuesLaw : Nat) (a_this_shop_waiting : Nat) (e_this_shop_goods : Nat → Nat) (a_this_shop_paysLaw_names : Nat) (a_this_shop_paysLaw_code : Nat) (a_this_shop_paysLaw_stack : Nat) (a_this_shop_paysLaw_bytes : Nat) (a_this_shop_paysLaw_draft : Nat) (a_this_shop_valuesLaw_names : Nat) (a_this_shop_valuesLaw_code : Nat) (a_this_shop_valuesLaw_stack : Nat) (a_this_shop_valuesLaw_bytes : Nat) (a_this_shop_valuesLaw_draft : Nat) (this_imaged : Int32) (this_images : Int32) (this_bestPaid : Int32) (this_bestNet : Int32) (this_errors : Nat → Int32) (this_kept_takings : Int32) (this_kept_costs : Int32) (this_kept_goes : Int32) (this_kept_z : Int32) (this_kept_fed : Int32) (this_kept_waits : Int32) (this_kept_goods : Nat → Nat → Int32) (this_kept_paysLaw_length : Int32) (this_kept_paysLaw_drafted : Int32) (this_kept_paysLaw_end : Int32) (this_kept_paysLaw_place : Int32) (this_kept_paysLaw_failed : Int32) (this_kept_paysLaw_code : Nat → Int32) (this_kept_tape : Nat → Int32) (this_kept_tills : Nat → Option Nat) (this_kept_tills_k0 : Nat) (this_kept_tills_k1 : Nat) (this_kept_tills_k2 : Nat) (this_kept_tills_k3 : Nat) (this_kept_tills_n : Nat → Int32) (this_kept_tills_m : Nat → Int32) (this_kept_valuesLaw_length : Int32) (this_kept_valuesLaw_drafted : Int32) (this_kept_valuesLaw_end : Int32) (this_kept_valuesLaw_place : Int32) (this_kept_valuesLaw_failed : Int32) (this_kept_valuesLaw_code : Nat → Int32) (this_kept_waiting : Nat → Int32) (this_shop_takings : Int32) (this_shop_costs : Int32) (this_shop_goes : Int32) (this_shop_z : Int32) (this_shop_fed : Int32) (this_shop_waits : Int32) (this_shop_goods : Nat → Nat → Int32) (this_shop_paysLaw_length : Int32) (this_shop_paysLaw_drafted : Int32) (this_shop_paysLaw_end : Int32) (this_shop_paysLaw_place : Int32) (this_shop_paysLaw_failed : Int32) (this_shop_paysLaw_code : Nat → Int32) (this_shop_tape : Nat → Int32) (this_shop_tills : Nat → Option Nat) (this_shop_valuesLaw_length : Int32) (this_shop_valuesLaw_drafted : Int32) (this_shop_valuesLaw_end : Int32) (this_shop_valuesLaw_place : Int32) (this_shop_valuesLaw_failed : Int32) (this_shop_valuesLaw_code : Nat → Int32) (this_shop_waiting : Nat → Int32)  (ht_this_kept_tills : ∀ j : Nat, j < 4 → this_kept_tills j = some (e_this_kept_tills j)) (out : Int32 × (Nat → Int32) × (Int32) × (Int32) × (Int32) × (Int32) × (Int32) × (Int32) × (Nat → Nat → Int32) × (Int32) × (Nat → Int32) × (Nat → Int32) × (Nat → Option Nat) × (Int32) × (Nat → Int32) × (Nat → Int32)) (hf : f_X11_restore N this_imaged this_errors this_kept_takings this_kept_costs this_kept_goes this_kept_z this_kept_fed this_kept_waits this_kept_goods this_kept_paysLaw_length this_kept_paysLaw_code this_kept_tape this_kept_tills this_kept_tills_k0 this_kept_tills_k1 this_kept_tills_k2 this_kept_tills_k3 this_kept_tills_n this_kept_tills_m this_kept_valuesLaw_length this_kept_valuesLaw_code this_kept_waiting this_shop_takings this_shop_costs this_shop_goes this_shop_z this_shop_fed this_shop_waits this_shop_goods this_shop_paysLaw_length this_shop_paysLaw_code this_shop_tape this_shop_tills this_shop_valuesLaw_length this_shop_valuesLaw_code this_shop_waiting = some out) : KM l G yX11_restore (kw yX11_restore cX11_restore 1 (some .int)) 3 103 [.ref a_this] (k_X11_restore G a_this a_this_shop a_this_kept a_this_sheetBits a_this_sheetLengths a_this_sheetNumbers a_this_trace a_this_errors a_this_one a_this_second a_this_extra a_this_room a_this_values a_this_best a_this_kept_goods a_this_kept_tills a_this_kept_tape a_this_kept_paysLaw a_this_kept_valuesLaw a_this_kept_waiting e_this_kept_goods a_this_kept_paysLaw_names a_this_kept_paysLaw_code a_this_kept_paysLaw_stack a_this_kept_paysLaw_bytes a_this_kept_paysLaw_draft e_this_kept_tills a_this_kept_valuesLaw_names a_this_kept_valuesLaw_code a_this_kept_valuesLaw_stack a_this_kept_valuesLaw_bytes a_this_kept_valuesLaw_draft a_this_shop_goods a_this_shop_tills a_this_shop_tape a_this_shop_paysLaw a_this_shop_valuesLaw a_this_shop_waiting e_this_shop_goods a_this_shop_paysLaw_names a_this_shop_paysLaw_code a_this_shop_paysLaw_stack a_this_shop_paysLaw_bytes a_this_shop_paysLaw_draft a_this_shop_valuesLaw_names a_this_shop_valuesLaw_code a_this_shop_valuesLaw_stack a_this_shop_valuesLaw_bytes a_this_shop_valuesLaw_draft this_imaged this_images this_bestPaid this_bestNet this_errors this_kept_takings this_kept_costs this_kept_goes this_kept_z this_kept_fed this_kept_waits this_kept_goods this_kept_paysLaw_length this_kept_paysLaw_drafted this_kept_paysLaw_end this_kept_paysLaw_place this_kept_paysLaw_failed this_kept_paysLaw_code this_kept_tape this_kept_tills this_kept_tills_k0 this_kept_tills_k1 this_kept_tills_k2 this_kept_tills_k3 this_kept_tills_n this_kept_tills_m this_kept_valuesLaw_length this_kept_valuesLaw_drafted this_kept_valuesLaw_end this_kept_valuesLaw_place this_kept_valuesLaw_failed this_kept_valuesLaw_code this_kept_waiting this_shop_takings this_shop_costs this_shop_goes this_shop_z this_shop_fed this_shop_waits this_shop_goods this_shop_paysLaw_length this_shop_paysLaw_drafted this_shop_paysLaw_end this_shop_paysLaw_place this_shop_paysLaw_failed this_shop_paysLaw_code this_shop_tape this_shop_tills this_shop_valuesLaw_length this_shop_valuesLaw_drafted this_shop_valuesLaw_end this_shop_valuesLaw_place this_shop_valuesLaw_failed this_shop_valuesLaw_code this_shop_waiting) (k_X11_restore G a_this a_this_shop a_this_kept a_this_sheetBits a_this_sheetLengths a_this_sheetNumbers a_this_trace a_this_errors a_this_one a_this_second a_this_extra a_this_room a_this_values a_this_best a_this_kept_goods a_this_kept_tills a_this_kept_tape a_this_kept_paysLaw a_this_kept_valuesLaw a_this_kept_waiting e_this_kept_goods a_this_kept_paysLaw_names a_this_kept_paysLaw_code a_this_kept_paysLaw_stack a_this_kept_paysLaw_bytes a_this_kept_paysLaw_draft e_this_kept_tills a_this_kept_valuesLaw_names a_this_kept_valuesLaw_code a_this_kept_valuesLaw_stack a_this_kept_valuesLaw_bytes a_this_kept_valuesLaw_draft a_this_shop_goods a_this_shop_tills a_this_shop_tape a_this_shop_paysLaw a_this_shop_valuesLaw a_this_shop_waiting e_this_shop_goods a_this_shop_paysLaw_names a_this_shop_paysLaw_code a_this_shop_paysLaw_stack a_this_shop_paysLaw_bytes a_this_shop_paysLaw_draft a_this_shop_valuesLaw_names a_this_shop_valuesLaw_code a_this_shop_valuesLaw_stack a_this_shop_valuesLaw_bytes a_this_shop_valuesLaw_draft this_imaged this_images this_bestPaid this_bestNet (out.2.1) this_kept_takings this_kept_costs this_kept_goes this_kept_z this_kept_fed this_kept_waits this_kept_goods this_kept_paysLaw_length this_kept_paysLaw_drafted this_kept_paysLaw_end this_kept_paysLaw_place this_kept_paysLaw_failed this_kept_paysLaw_code this_kept_tape this_kept_tills this_kept_tills_k0 this_kept_tills_k1 this_kept_tills_k2 this_kept_tills_k3 this_kept_tills_n this_kept_tills_m this_kept_valuesLaw_length this_kept_valuesLaw_drafted this_kept_valuesLaw_end this_kept_valuesLaw_place this_kept_valuesLaw_failed this_kept_valuesLaw_code this_kept_waiting (out.2.2.1) (out.2.2.2.1) (out.2.2.2.2.1) (out.2.2.2.2.2.1) (out.2.2.2.2.2.2.1) (out.2.2.2.2.2.2.2.1) (out.2.2.2.2.2.2.2.2.1) (out.2.2.2.2.2.2.2.2.2.1) this_shop_paysLaw_drafted this_shop_paysLaw_end this_shop_paysLaw_place this_shop_paysLaw_failed (out.2.2.2.2.2.2.2.2.2.2.1) (out.2.2.2.2.2.2.2.2.2.2.2.1) (out.2.2.2.2.2.2.2.2.2.2.2.2.1) (out.2.2.2.2.2.2.2.2.2.2.2.2.2.1) this_shop_valuesLaw_drafted this_shop_valuesLaw_end this_shop_valuesLaw_place this_shop_valuesLaw_failed (out.2.2.2.2.2.2.2.2.2.2.2.2.2.2.1) (out.2.2.2.2.2.2.2.2.2.2.2.2.2.2.2)) (some (.int (out.1))) := by
  refine KM.of (by decide) (Nat.le_of_ble_eq_true rfl) ?_
  intro p e s m below meth c A ls args Q Fx0 hP hK hD hA hS hAm hQ hl
  obtain ⟨hx, hb, hr, hml, hts, hown, hlk, hnm⟩ := Fx0
  have hown : s.vm.findClass RX11 = some m.cls := hown
  have hl : lv_has ls 1 [(0, .ref a_this)] := hl
  have fl_19 := hts _ tw_335
  have fl_10 := hts _ tw_333
  have fl_16 := hts _ tw_334
  have fl_278 := va_Nw.use (A := args) rfl (hAm.1 _ nw_X11_278 rfl)
  unfold f_X11_restore at hf
  refine lv_aload_n hx hb dX11_restore_0 rfl (lv_at hl 0 rfl) ?_
  refine va_get (D := gD G) (ci := 11) (C := RX11) (T := TX11) (N := 17) hx hb hts hin_X11 hown hK hP 0 rfl rfl 2 (by decide) fl_19 (fun _ h9 => h9) rfl dX11_restore_1 ?_
  refine lv_if_ne (tgt := 13) hx hb dX11_restore_4 (by decide) (fun c1 => ?_) (fun c1 => ?_)
  · replace hf := kf c1 hf
    refine lv_aload_n hx hb dX11_restore_13 rfl (lv_at hl 0 rfl) ?_
    refine va_get (D := gD G) (ci := 11) (C := RX11) (T := TX11) (N := 17) hx hb hts hin_X11 hown hK hP 0 rfl rfl 0 (by decide) fl_10 (fun _ h9 => h9) rfl dX11_restore_14 ?_
    refine lv_aload_n hx hb dX11_restore_17 rfl (lv_at hl 0 rfl) ?_
    refine va_get (D := gD G) (ci := 11) (C := RX11) (T := TX11) (N := 17) hx hb hts hin_X11 hown hK hP 0 rfl rfl 1 (by decide) fl_16 (fun _ h9 => h9) rfl dX11_restore_18 ?_
    obtain ⟨r2, hr2, hf⟩ := kb hf
    refine kVN (As := [.ref a_this_kept]) (rest := []) ⟨hx, hb, hml, hown, hts⟩ (c_X7_become l G N a_this_kept a_this_kept_goods a_this_kept_tills a_this_kept_tape a_this_kept_paysLaw a_this_kept_valuesLaw a_this_kept_waiting e_this_kept_goods a_this_kept_paysLaw_names a_this_kept_paysLaw_code a_this_kept_paysLaw_stack a_this_kept_paysLaw_bytes a_this_kept_paysLaw_draft e_this_kept_tills a_this_kept_valuesLaw_names a_this_kept_valuesLaw_code a_this_kept_valuesLaw_stack a_this_kept_valuesLaw_bytes a_this_kept_valuesLaw_draft a_this_shop a_this_shop_goods a_this_shop_tills a_this_shop_tape a_this_shop_paysLaw a_this_shop_valuesLaw a_this_shop_waiting e_this_shop_goods a_this_shop_paysLaw_names a_this_shop_paysLaw_code a_this_shop_paysLaw_stack a_this_shop_paysLaw_bytes a_this_shop_paysLaw_draft a_this_shop_valuesLaw_names a_this_shop_valuesLaw_code a_this_shop_valuesLaw_stack a_this_shop_valuesLaw_bytes a_this_shop_valuesLaw_draft this_kept_takings this_kept_costs this_kept_goes this_kept_z this_kept_fed this_kept_waits this_kept_goods this_kept_paysLaw_length this_kept_paysLaw_drafted this_kept_paysLaw_end this_kept_paysLaw_place this_kept_paysLaw_failed this_kept_paysLaw_code this_kept_tape this_kept_tills this_kept_tills_k0 this_kept_tills_k1 this_kept_tills_k2 this_kept_tills_k3 this_kept_tills_n this_kept_tills_m this_kept_valuesLaw_length this_kept_valuesLaw_drafted this_kept_valuesLaw_end this_kept_valuesLaw_place this_kept_valuesLaw_failed this_kept_valuesLaw_code this_kept_waiting this_shop_takings this_shop_costs this_shop_goes this_shop_z this_shop_fed this_shop_waits this_shop_goods this_shop_paysLaw_length this_shop_paysLaw_drafted this_shop_paysLaw_end this_shop_paysLaw_place this_shop_paysLaw_failed this_shop_paysLaw_code this_shop_tape this_shop_tills this_shop_valuesLaw_length this_shop_valuesLaw_drafted this_shop_valuesLaw_end this_shop_valuesLaw_place this_shop_valuesLaw_failed this_shop_valuesLaw_code this_shop_waiting ht_this_kept_tills r2 hr2) ⟨kcN 1 hts hAm nw_X11_274 tw_950 tw_81 hd_X7_become ⟨Nat.le_of_ble_eq_true rfl, Nat.le_of_ble_eq_true rfl⟩, hts _ tw_949, hts _ tw_40⟩ dX11_restore_21 hl.1 hK hAm hA hP hD hS 18 (ci := 7) rfl rfl rfl [2, 3, 4, 5, 6, 7, 8, 9, 10, 11, 12, 13, 14, 15, 16, 17, 18, 19, 20, 21, 22, 23, 24, 25, 26, 27, 28, 29] rfl rfl rfl [16, 17, 18, 19, 20, 21, 22, 23, 24, 25, 26, 27] rfl rfl rfl (Nat.le_of_ble_eq_true rfl) ⟨Nat.le_refl _, Nat.le_refl _⟩ (fun H locs hP hD hS => ?_)
    have hP : va_P (gD G) vwCl (k_X11_restore G a_this a_this_shop a_this_kept a_this_sheetBits a_this_sheetLengths a_this_sheetNumbers a_this_trace a_this_errors a_this_one a_this_second a_this_extra a_this_room a_this_values a_this_best a_this_kept_goods a_this_kept_tills a_this_kept_tape a_this_kept_paysLaw a_this_kept_valuesLaw a_this_kept_waiting e_this_kept_goods a_this_kept_paysLaw_names a_this_kept_paysLaw_code a_this_kept_paysLaw_stack a_this_kept_paysLaw_bytes a_this_kept_paysLaw_draft e_this_kept_tills a_this_kept_valuesLaw_names a_this_kept_valuesLaw_code a_this_kept_valuesLaw_stack a_this_kept_valuesLaw_bytes a_this_kept_valuesLaw_draft a_this_shop_goods a_this_shop_tills a_this_shop_tape a_this_shop_paysLaw a_this_shop_valuesLaw a_this_shop_waiting e_this_shop_goods a_this_shop_paysLaw_names a_this_shop_paysLaw_code a_this_shop_paysLaw_stack a_this_shop_paysLaw_bytes a_this_shop_paysLaw_draft a_this_shop_valuesLaw_names a_this_shop_valuesLaw_code a_this_shop_valuesLaw_stack a_this_shop_valuesLaw_bytes a_this_shop_valuesLaw_draft this_imaged this_images this_bestPaid this_bestNet this_errors this_kept_takings this_kept_costs this_kept_goes this_kept_z this_kept_fed this_kept_waits this_kept_goods this_kept_paysLaw_length this_kept_paysLaw_drafted this_kept_paysLaw_end this_kept_paysLaw_place this_kept_paysLaw_failed this_kept_paysLaw_code this_kept_tape this_kept_tills this_kept_tills_k0 this_kept_tills_k1 this_kept_tills_k2 this_kept_tills_k3 this_kept_tills_n this_kept_tills_m this_kept_valuesLaw_length this_kept_valuesLaw_drafted this_kept_valuesLaw_end this_kept_valuesLaw_place this_kept_valuesLaw_failed this_kept_valuesLaw_code this_kept_waiting r2.1 r2.2.1 r2.2.2.1 r2.2.2.2.1 r2.2.2.2.2.1 r2.2.2.2.2.2.1 r2.2.2.2.2.2.2.1 r2.2.2.2.2.2.2.2.1 this_shop_paysLaw_drafted this_shop_paysLaw_end this_shop_paysLaw_place this_shop_paysLaw_failed r2.2.2.2.2.2.2.2.2.1 r2.2.2.2.2.2.2.2.2.2.1 r2.2.2.2.2.2.2.2.2.2.2.1 r2.2.2.2.2.2.2.2.2.2.2.2.1 this_shop_valuesLaw_drafted this_shop_valuesLaw_end this_shop_valuesLaw_place this_shop_valuesLaw_failed r2.2.2.2.2.2.2.2.2.2.2.2.2.1 r2.2.2.2.2.2.2.2.2.2.2.2.2.2) H := hP
    have hD : va_D A (k_X11_restore G a_this a_this_shop a_this_kept a_this_sheetBits a_this_sheetLengths a_this_sheetNumbers a_this_trace a_this_errors a_this_one a_this_second a_this_extra a_this_room a_this_values a_this_best a_this_kept_goods a_this_kept_tills a_this_kept_tape a_this_kept_paysLaw a_this_kept_valuesLaw a_this_kept_waiting e_this_kept_goods a_this_kept_paysLaw_names a_this_kept_paysLaw_code a_this_kept_paysLaw_stack a_this_kept_paysLaw_bytes a_this_kept_paysLaw_draft e_this_kept_tills a_this_kept_valuesLaw_names a_this_kept_valuesLaw_code a_this_kept_valuesLaw_stack a_this_kept_valuesLaw_bytes a_this_kept_valuesLaw_draft a_this_shop_goods a_this_shop_tills a_this_shop_tape a_this_shop_paysLaw a_this_shop_valuesLaw a_this_shop_waiting e_this_shop_goods a_this_shop_paysLaw_names a_this_shop_paysLaw_code a_this_shop_paysLaw_stack a_this_shop_paysLaw_bytes a_this_shop_paysLaw_draft a_this_shop_valuesLaw_names a_this_shop_valuesLaw_code a_this_shop_valuesLaw_stack a_this_shop_valuesLaw_bytes a_this_shop_valuesLaw_draft this_imaged this_images this_bestPaid this_bestNet this_errors this_kept_takings this_kept_costs this_kept_goes this_kept_z this_kept_fed this_kept_waits this_kept_goods this_kept_paysLaw_length this_kept_paysLaw_drafted this_kept_paysLaw_end this_kept_paysLaw_place this_kept_paysLaw_failed this_kept_paysLaw_code this_kept_tape this_kept_tills this_kept_tills_k0 this_kept_tills_k1 this_kept_tills_k2 this_kept_tills_k3 this_kept_tills_n this_kept_tills_m this_kept_valuesLaw_length this_kept_valuesLaw_drafted this_kept_valuesLaw_end this_kept_valuesLaw_place this_kept_valuesLaw_failed this_kept_valuesLaw_code this_kept_waiting r2.1 r2.2.1 r2.2.2.1 r2.2.2.2.1 r2.2.2.2.2.1 r2.2.2.2.2.2.1 r2.2.2.2.2.2.2.1 r2.2.2.2.2.2.2.2.1 this_shop_paysLaw_drafted this_shop_paysLaw_end this_shop_paysLaw_place this_shop_paysLaw_failed r2.2.2.2.2.2.2.2.2.1 r2.2.2.2.2.2.2.2.2.2.1 r2.2.2.2.2.2.2.2.2.2.2.1 r2.2.2.2.2.2.2.2.2.2.2.2.1 this_shop_valuesLaw_drafted this_shop_valuesLaw_end this_shop_valuesLaw_place this_shop_valuesLaw_failed r2.2.2.2.2.2.2.2.2.2.2.2.2.1 r2.2.2.2.2.2.2.2.2.2.2.2.2.2) := hD
    refine lv_aload_n hx hb dX11_restore_24 rfl (lv_at hl 0 rfl) ?_
    refine va_get (D := gD G) (ci := 11) (C := RX11) (T := TX11) (N := 17) hx hb hts hin_X11 hown hK hP 0 rfl rfl 0 (by decide) fl_10 (fun _ h9 => h9) rfl dX11_restore_25 ?_
    refine va_getN (D := gD G) (ci := 7) (C := RX7) (T := TX7) (N := 12) hx hb hts hin_X7 hown hK hP 18 rfl rfl 4 (by decide) fl_278 (fun _ h9 => h9) rfl dX11_restore_28 ?_
    have ho := ks hf
    subst ho
    exact kiret hx hb hr hlk hP hD hS hQ dX11_restore_31
  · replace hf := kt c1 hf
    refine lv_aload_n hx hb dX11_restore_7 rfl (lv_at hl 0 rfl) ?_
    refine lv_iconst (v := (2 : Int32)) hx hb dX11_restore_8 (by decide) ?_
    obtain ⟨r3, hr3, hf⟩ := kb hf
    refine kV (As := [.int (2 : Int32)]) (rest := []) ⟨hx, hb, hml, hown, hts⟩ (c_X11_error l G N a_this a_this_shop a_this_kept a_this_sheetBits a_this_sheetLengths a_this_sheetNumbers a_this_trace a_this_errors a_this_one a_this_second a_this_extra a_this_room a_this_values a_this_best (2 : Int32) this_imaged this_images this_bestPaid this_bestNet this_errors r3 hr3) (kcV 1 hts tw_405 tw_80 tw_402 tw_404 tw_0 hd_X11_error ⟨Nat.le_of_ble_eq_true rfl, Nat.le_of_ble_eq_true rfl⟩) dX11_restore_9 hl.1 hK hAm hA hP hD hS 0 (ci := 11) rfl rfl rfl [0, 1] rfl rfl rfl [1] rfl rfl rfl (Nat.le_of_ble_eq_true rfl) ⟨Nat.le_refl _, Nat.le_refl _⟩ (fun H locs hP hD hS => ?_)
    have hP : va_P (gD G) vwCl (k_X11_restore G a_this a_this_shop a_this_kept a_this_sheetBits a_this_sheetLengths a_this_sheetNumbers a_this_trace a_this_errors a_this_one a_this_second a_this_extra a_this_room a_this_values a_this_best a_this_kept_goods a_this_kept_tills a_this_kept_tape a_this_kept_paysLaw a_this_kept_valuesLaw a_this_kept_waiting e_this_kept_goods a_this_kept_paysLaw_names a_this_kept_paysLaw_code a_this_kept_paysLaw_stack a_this_kept_paysLaw_bytes a_this_kept_paysLaw_draft e_this_kept_tills a_this_kept_valuesLaw_names a_this_kept_valuesLaw_code a_this_kept_valuesLaw_stack a_this_kept_valuesLaw_bytes a_this_kept_valuesLaw_draft a_this_shop_goods a_this_shop_tills a_this_shop_tape a_this_shop_paysLaw a_this_shop_valuesLaw a_this_shop_waiting e_this_shop_goods a_this_shop_paysLaw_names a_this_shop_paysLaw_code a_this_shop_paysLaw_stack a_this_shop_paysLaw_bytes a_this_shop_paysLaw_draft a_this_shop_valuesLaw_names a_this_shop_valuesLaw_code a_this_shop_valuesLaw_stack a_this_shop_valuesLaw_bytes a_this_shop_valuesLaw_draft this_imaged this_images this_bestPaid this_bestNet r3.2 this_kept_takings this_kept_costs this_kept_goes this_kept_z this_kept_fed this_kept_waits this_kept_goods this_kept_paysLaw_length this_kept_paysLaw_drafted this_kept_paysLaw_end this_kept_paysLaw_place this_kept_paysLaw_failed this_kept_paysLaw_code this_kept_tape this_kept_tills this_kept_tills_k0 this_kept_tills_k1 this_kept_tills_k2 this_kept_tills_k3 this_kept_tills_n this_kept_tills_m this_kept_valuesLaw_length this_kept_valuesLaw_drafted this_kept_valuesLaw_end this_kept_valuesLaw_place this_kept_valuesLaw_failed this_kept_valuesLaw_code this_kept_waiting this_shop_takings this_shop_costs this_shop_goes this_shop_z this_shop_fed this_shop_waits this_shop_goods this_shop_paysLaw_length this_shop_paysLaw_drafted this_shop_paysLaw_end this_shop_paysLaw_place this_shop_paysLaw_failed this_shop_paysLaw_code this_shop_tape this_shop_tills this_shop_valuesLaw_length this_shop_valuesLaw_drafted this_shop_valuesLaw_end this_shop_valuesLaw_place this_shop_valuesLaw_failed this_shop_valuesLaw_code this_shop_waiting) H := hP
    have hD : va_D A (k_X11_restore G a_this a_this_shop a_this_kept a_this_sheetBits a_this_sheetLengths a_this_sheetNumbers a_this_trace a_this_errors a_this_one a_this_second a_this_extra a_this_room a_this_values a_this_best a_this_kept_goods a_this_kept_tills a_this_kept_tape a_this_kept_paysLaw a_this_kept_valuesLaw a_this_kept_waiting e_this_kept_goods a_this_kept_paysLaw_names a_this_kept_paysLaw_code a_this_kept_paysLaw_stack a_this_kept_paysLaw_bytes a_this_kept_paysLaw_draft e_this_kept_tills a_this_kept_valuesLaw_names a_this_kept_valuesLaw_code a_this_kept_valuesLaw_stack a_this_kept_valuesLaw_bytes a_this_kept_valuesLaw_draft a_this_shop_goods a_this_shop_tills a_this_shop_tape a_this_shop_paysLaw a_this_shop_valuesLaw a_this_shop_waiting e_this_shop_goods a_this_shop_paysLaw_names a_this_shop_paysLaw_code a_this_shop_paysLaw_stack a_this_shop_paysLaw_bytes a_this_shop_paysLaw_draft a_this_shop_valuesLaw_names a_this_shop_valuesLaw_code a_this_shop_valuesLaw_stack a_this_shop_valuesLaw_bytes a_this_shop_valuesLaw_draft this_imaged this_images this_bestPaid this_bestNet r3.2 this_kept_takings this_kept_costs this_kept_goes this_kept_z this_kept_fed this_kept_waits this_kept_goods this_kept_paysLaw_length this_kept_paysLaw_drafted this_kept_paysLaw_end this_kept_paysLaw_place this_kept_paysLaw_failed this_kept_paysLaw_code this_kept_tape this_kept_tills this_kept_tills_k0 this_kept_tills_k1 this_kept_tills_k2 this_kept_tills_k3 this_kept_tills_n this_kept_tills_m this_kept_valuesLaw_length this_kept_valuesLaw_drafted this_kept_valuesLaw_end this_kept_valuesLaw_place this_kept_valuesLaw_failed this_kept_valuesLaw_code this_kept_waiting this_shop_takings this_shop_costs this_shop_goes this_shop_z this_shop_fed this_shop_waits this_shop_goods this_shop_paysLaw_length this_shop_paysLaw_drafted this_shop_paysLaw_end this_shop_paysLaw_place this_shop_paysLaw_failed this_shop_paysLaw_code this_shop_tape this_shop_tills this_shop_valuesLaw_length this_shop_valuesLaw_drafted this_shop_valuesLaw_end this_shop_valuesLaw_place this_shop_valuesLaw_failed this_shop_valuesLaw_code this_shop_waiting) := hD
    have ho := ks hf
    subst ho
    exact kiret hx hb hr hlk hP hD hS hQ dX11_restore_12
abbrev k_X11_tell (G : KG) (a_this : Nat) (a_this_shop : Nat) (a_this_kept : Nat) (a_this_sheetBits : Nat) (a_this_sheetLengths : Nat) (a_this_sheetNumbers : Nat) (a_this_trace : Nat) (a_this_errors : Nat) (a_this_one : Nat) (a_this_second : Nat) (a_this_extra : Nat) (a_this_room : Nat) (a_this_values : Nat) (a_this_best : Nat) (a_this_shop_goods : Nat) (a_this_shop_tills : Nat) (a_this_shop_tape : Nat) (a_this_shop_paysLaw : Nat) (a_this_shop_valuesLaw : Nat) (a_this_shop_waiting : Nat) (this_imaged : Int32) (this_images : Int32) (this_bestPaid : Int32) (this_bestNet : Int32) (this_errors : Nat → Int32) (this_shop_takings : Int32) (this_shop_costs : Int32) (this_shop_goes : Int32) (this_shop_z : Int32) (this_shop_fed : Int32) (this_shop_waits : Int32) (this_shop_waiting : Nat → Int32) : va_W := [(a_this, .inr (11, [.ref a_this_shop, .ref a_this_kept, .int this_imaged, .int this_images, .ref a_this_sheetBits, .ref a_this_sheetLengths, .ref a_this_sheetNumbers, .ref a_this_trace, .ref a_this_errors, .ref a_this_one, .ref a_this_second, .ref a_this_extra, .ref a_this_room, .ref a_this_values, .ref a_this_best, .int this_bestPaid, .int this_bestNet])), (a_this_errors, .inl (gI G, 7, .inl this_errors)), (a_this_shop, .inr (7, [.ref a_this_shop_goods, .ref a_this_shop_tills, .int this_shop_takings, .int this_shop_costs, .int this_shop_goes, .int this_shop_z, .ref a_this_shop_tape, .int this_shop_fed, .ref a_this_shop_paysLaw, .ref a_this_shop_valuesLaw, .ref a_this_shop_waiting, .int this_shop_waits])), (a_this_shop_waiting, .inl (gI G, 24, .inl this_shop_waiting))]
def f_X11_tell (N : Nat) (p0 : Int32) (this_errors : Nat → Int32) (this_shop_waits : Int32) (this_shop_waiting : Nat → Int32) : Option (Int32 × (Nat → Int32) × (Int32) × (Nat → Int32)) := (if this_shop_waits < (24 : Int32) then (if vin this_shop_waits 24 = true then (some ((this_shop_waits + (1 : Int32)), this_errors, (this_shop_waits + (1 : Int32)), (upd this_shop_waiting this_shop_waits.toNatClampNeg p0))) else none) else ((f_X11_error N (4 : Int32) this_errors).bind fun r3 => (some (r3.1, r3.2, this_shop_waits, this_shop_waiting))))
set_option maxRecDepth 100000 in
set_option maxHeartbeats 4000000 in
theorem c_X11_tell (l : Launch) (G : KG) (N : Nat) (a_this : Nat) (a_this_shop : Nat) (a_this_kept : Nat) (a_this_sheetBits : Nat) (a_this_sheetLengths : Nat) (a_this_sheetNumbers : Nat) (a_this_trace : Nat) (a_this_errors : Nat) (a_this_one : Nat) (a_this_second : Nat) (a_this_extra : Nat) (a_this_room : Nat) (a_this_values : Nat) (a_this_best : Nat) (a_this_shop_goods : Nat) (a_this_shop_tills : Nat) (a_this_shop_tape : Nat) (a_this_shop_paysLaw : Nat) (a_this_shop_valuesLaw : Nat) (a_this_shop_waiting : Nat) (p0 : Int32) (this_imaged : Int32) (this_images : Int32) (this_bestPaid : Int32) (this_bestNet : Int32) (this_errors : Nat → Int32) (this_shop_takings : Int32) (this_shop_costs : Int32) (this_shop_goes : Int32) (this_shop_z : Int32) (this_shop_fed : Int32) (this_shop_waits : Int32) (this_shop_waiting : Nat → Int32)  (out : Int32 × (Nat → Int32) × (Int32) × (Nat → Int32)) (hf : f_X11_tell N p0 this_errors this_shop_waits this_shop_waiting = some out) : KM l G yX11_tell (kw yX11_tell cX11_tell 2 (some .int)) 2 43 [.ref a_this, .int p0] (k_X11_tell G a_this a_this_shop a_this_kept a_this_sheetBits a_this_sheetLengths a_this_sheetNumbers a_this_trace a_this_errors a_this_one a_this_second a_this_extra a_this_room a_this_values a_this_best a_this_shop_goods a_this_shop_tills a_this_shop_tape a_this_shop_paysLaw a_this_shop_valuesLaw a_this_shop_waiting this_imaged this_images this_bestPaid this_bestNet this_errors this_shop_takings this_shop_costs this_shop_goes this_shop_z this_shop_fed this_shop_waits this_shop_waiting) (k_X11_tell G a_this a_this_shop a_this_kept a_this_sheetBits a_this_sheetLengths a_this_sheetNumbers a_this_trace a_this_errors a_this_one a_this_second a_this_extra a_this_room a_this_values a_this_best a_this_shop_goods a_this_shop_tills a_this_shop_tape a_this_shop_paysLaw a_this_shop_valuesLaw a_this_shop_waiting this_imaged this_images this_bestPaid this_bestNet (out.2.1) this_shop_takings this_shop_costs this_shop_goes this_shop_z this_shop_fed (out.2.2.1) (out.2.2.2)) (some (.int (out.1))) := by
  refine KM.of (by decide) (Nat.le_of_ble_eq_true rfl) ?_
  intro p e s m below meth c A ls args Q Fx0 hP hK hD hA hS hAm hQ hl
  obtain ⟨hx, hb, hr, hml, hts, hown, hlk, hnm⟩ := Fx0
  have hown : s.vm.findClass RX11 = some m.cls := hown
  have hl : lv_has ls 2 [(0, .ref a_this), (1, .int p0)] := hl
  have fl_10 := hts _ tw_333
  have fl_281 := va_Nw.use (A := args) rfl (hAm.1 _ nw_X11_281 rfl)
  have fl_284 := va_Nw.use (A := args) rfl (hAm.1 _ nw_X11_284 rfl)
  unfold f_X11_tell at hf
  refine lv_aload_n hx hb dX11_tell_0 rfl (lv_at hl 0 rfl) ?_
  refine va_get (D := gD G) (ci := 11) (C := RX11) (T := TX11) (N := 17) hx hb hts hin_X11 hown hK hP 0 rfl rfl 0 (by decide) fl_10 (fun _ h9 => h9) rfl dX11_tell_1 ?_
  refine va_getN (D := gD G) (ci := 7) (C := RX7) (T := TX7) (N := 12) hx hb hts hin_X7 hown hK hP 2 rfl rfl 11 (by decide) fl_281 (fun _ h9 => h9) rfl dX11_tell_4 ?_
  refine lv_bipush (v := (24 : Int32)) hx hb dX11_tell_7 (by decide) ?_
  refine lv_icmp_lt (tgt := 18) hx hb dX11_tell_9 (by decide) (fun c1 => ?_) (fun c1 => ?_)
  · replace hf := kt c1 hf
    refine lv_aload_n hx hb dX11_tell_18 rfl (lv_at hl 0 rfl) ?_
    refine va_get (D := gD G) (ci := 11) (C := RX11) (T := TX11) (N := 17) hx hb hts hin_X11 hown hK hP 0 rfl rfl 0 (by decide) fl_10 (fun _ h9 => h9) rfl dX11_tell_19 ?_
    refine va_getN (D := gD G) (ci := 7) (C := RX7) (T := TX7) (N := 12) hx hb hts hin_X7 hown hK hP 2 rfl rfl 10 (by decide) fl_284 (fun _ h9 => h9) rfl dX11_tell_22 ?_
    refine lv_aload_n hx hb dX11_tell_25 rfl (lv_at hl 0 rfl) ?_
    refine va_get (D := gD G) (ci := 11) (C := RX11) (T := TX11) (N := 17) hx hb hts hin_X11 hown hK hP 0 rfl rfl 0 (by decide) fl_10 (fun _ h9 => h9) rfl dX11_tell_26 ?_
    refine va_getN (D := gD G) (ci := 7) (C := RX7) (T := TX7) (N := 12) hx hb hts hin_X7 hown hK hP 2 rfl rfl 11 (by decide) fl_281 (fun _ h9 => h9) rfl dX11_tell_29 ?_
    refine lv_iload_n hx hb dX11_tell_32 rfl (lv_at hl 1 rfl) ?_
    obtain ⟨g2, hf⟩ := kg hf
    refine va_iast hx hb hK hP hD hS 3 0 rfl rfl (vin_of g2) dX11_tell_33 (fun H locs hP hD hS => ?_)
    have hP : va_P (gD G) vwCl (k_X11_tell G a_this a_this_shop a_this_kept a_this_sheetBits a_this_sheetLengths a_this_sheetNumbers a_this_trace a_this_errors a_this_one a_this_second a_this_extra a_this_room a_this_values a_this_best a_this_shop_goods a_this_shop_tills a_this_shop_tape a_this_shop_paysLaw a_this_shop_valuesLaw a_this_shop_waiting this_imaged this_images this_bestPaid this_bestNet this_errors this_shop_takings this_shop_costs this_shop_goes this_shop_z this_shop_fed this_shop_waits (upd this_shop_waiting this_shop_waits.toNatClampNeg p0)) H := hP
    have hD : va_D A (k_X11_tell G a_this a_this_shop a_this_kept a_this_sheetBits a_this_sheetLengths a_this_sheetNumbers a_this_trace a_this_errors a_this_one a_this_second a_this_extra a_this_room a_this_values a_this_best a_this_shop_goods a_this_shop_tills a_this_shop_tape a_this_shop_paysLaw a_this_shop_valuesLaw a_this_shop_waiting this_imaged this_images this_bestPaid this_bestNet this_errors this_shop_takings this_shop_costs this_shop_goes this_shop_z this_shop_fed this_shop_waits (upd this_shop_waiting this_shop_waits.toNatClampNeg p0)) := hD
    refine lv_aload_n hx hb dX11_tell_34 rfl (lv_at hl 0 rfl) ?_
    refine va_get (D := gD G) (ci := 11) (C := RX11) (T := TX11) (N := 17) hx hb hts hin_X11 hown hK hP 0 rfl rfl 0 (by decide) fl_10 (fun _ h9 => h9) rfl dX11_tell_35 ?_
    refine lv_dup hx hb dX11_tell_38 rfl ?_
    refine va_getN (D := gD G) (ci := 7) (C := RX7) (T := TX7) (N := 12) hx hb hts hin_X7 hown hK hP 2 rfl rfl 11 (by decide) fl_281 (fun _ h9 => h9) rfl dX11_tell_39 ?_
    refine lv_iconst (v := (1 : Int32)) hx hb dX11_tell_42 (by decide) ?_
    refine lv_iadd hx hb dX11_tell_43 ?_
    refine va_putN (D := gD G) (ci := 7) (v := .int (this_shop_waits + (1 : Int32))) (ty := .int) (C := RX7) (T := TX7) (N := 12) hx hb hts hin_X7 tyX7 tyX7_ok nmX7 hown hK hP hD hS 2 rfl rfl 11 (by decide) fl_281 (fun _ h9 => h9) rfl (by decide +kernel) rfl rfl (Nat.le_of_ble_eq_true rfl) dX11_tell_44 (fun H locs hP hD hS => ?_)
    have hP : va_P (gD G) vwCl (k_X11_tell G a_this a_this_shop a_this_kept a_this_sheetBits a_this_sheetLengths a_this_sheetNumbers a_this_trace a_this_errors a_this_one a_this_second a_this_extra a_this_room a_this_values a_this_best a_this_shop_goods a_this_shop_tills a_this_shop_tape a_this_shop_paysLaw a_this_shop_valuesLaw a_this_shop_waiting this_imaged this_images this_bestPaid this_bestNet this_errors this_shop_takings this_shop_costs this_shop_goes this_shop_z this_shop_fed (this_shop_waits + (1 : Int32)) (upd this_shop_waiting this_shop_waits.toNatClampNeg p0)) H := hP
    have hD : va_D A (k_X11_tell G a_this a_this_shop a_this_kept a_this_sheetBits a_this_sheetLengths a_this_sheetNumbers a_this_trace a_this_errors a_this_one a_this_second a_this_extra a_this_room a_this_values a_this_best a_this_shop_goods a_this_shop_tills a_this_shop_tape a_this_shop_paysLaw a_this_shop_valuesLaw a_this_shop_waiting this_imaged this_images this_bestPaid this_bestNet this_errors this_shop_takings this_shop_costs this_shop_goes this_shop_z this_shop_fed (this_shop_waits + (1 : Int32)) (upd this_shop_waiting this_shop_waits.toNatClampNeg p0)) := hD
    refine lv_aload_n hx hb dX11_tell_47 rfl (lv_at hl 0 rfl) ?_
    refine va_get (D := gD G) (ci := 11) (C := RX11) (T := TX11) (N := 17) hx hb hts hin_X11 hown hK hP 0 rfl rfl 0 (by decide) fl_10 (fun _ h9 => h9) rfl dX11_tell_48 ?_
    refine va_getN (D := gD G) (ci := 7) (C := RX7) (T := TX7) (N := 12) hx hb hts hin_X7 hown hK hP 2 rfl rfl 11 (by decide) fl_281 (fun _ h9 => h9) rfl dX11_tell_51 ?_
    have ho := ks hf
    subst ho
    exact kiret hx hb hr hlk hP hD hS hQ dX11_tell_54
  · replace hf := kf c1 hf
    refine lv_aload_n hx hb dX11_tell_12 rfl (lv_at hl 0 rfl) ?_
    refine lv_iconst (v := (4 : Int32)) hx hb dX11_tell_13 (by decide) ?_
    obtain ⟨r3, hr3, hf⟩ := kb hf
    refine kV (As := [.int (4 : Int32)]) (rest := []) ⟨hx, hb, hml, hown, hts⟩ (c_X11_error l G N a_this a_this_shop a_this_kept a_this_sheetBits a_this_sheetLengths a_this_sheetNumbers a_this_trace a_this_errors a_this_one a_this_second a_this_extra a_this_room a_this_values a_this_best (4 : Int32) this_imaged this_images this_bestPaid this_bestNet this_errors r3 hr3) (kcV 1 hts tw_405 tw_80 tw_402 tw_404 tw_0 hd_X11_error ⟨Nat.le_of_ble_eq_true rfl, Nat.le_of_ble_eq_true rfl⟩) dX11_tell_14 hl.1 hK hAm hA hP hD hS 0 (ci := 11) rfl rfl rfl [0, 1] rfl rfl rfl [1] rfl rfl rfl (Nat.le_of_ble_eq_true rfl) ⟨Nat.le_refl _, Nat.le_refl _⟩ (fun H locs hP hD hS => ?_)
    have hP : va_P (gD G) vwCl (k_X11_tell G a_this a_this_shop a_this_kept a_this_sheetBits a_this_sheetLengths a_this_sheetNumbers a_this_trace a_this_errors a_this_one a_this_second a_this_extra a_this_room a_this_values a_this_best a_this_shop_goods a_this_shop_tills a_this_shop_tape a_this_shop_paysLaw a_this_shop_valuesLaw a_this_shop_waiting this_imaged this_images this_bestPaid this_bestNet r3.2 this_shop_takings this_shop_costs this_shop_goes this_shop_z this_shop_fed this_shop_waits this_shop_waiting) H := hP
    have hD : va_D A (k_X11_tell G a_this a_this_shop a_this_kept a_this_sheetBits a_this_sheetLengths a_this_sheetNumbers a_this_trace a_this_errors a_this_one a_this_second a_this_extra a_this_room a_this_values a_this_best a_this_shop_goods a_this_shop_tills a_this_shop_tape a_this_shop_paysLaw a_this_shop_valuesLaw a_this_shop_waiting this_imaged this_images this_bestPaid this_bestNet r3.2 this_shop_takings this_shop_costs this_shop_goes this_shop_z this_shop_fed this_shop_waits this_shop_waiting) := hD
    have ho := ks hf
    subst ho
    exact kiret hx hb hr hlk hP hD hS hQ dX11_tell_17
abbrev k_X11_count (G : KG) (a_this : Nat) (a_this_shop : Nat) (a_this_kept : Nat) (a_this_sheetBits : Nat) (a_this_sheetLengths : Nat) (a_this_sheetNumbers : Nat) (a_this_trace : Nat) (a_this_errors : Nat) (a_this_one : Nat) (a_this_second : Nat) (a_this_extra : Nat) (a_this_room : Nat) (a_this_values : Nat) (a_this_best : Nat) (a_this_shop_goods : Nat) (a_this_shop_tills : Nat) (a_this_shop_tape : Nat) (a_this_shop_paysLaw : Nat) (a_this_shop_valuesLaw : Nat) (a_this_shop_waiting : Nat) (e_this_shop_goods : Nat → Nat) (a_this_trace_bodies : Nat) (this_imaged : Int32) (this_images : Int32) (this_bestPaid : Int32) (this_bestNet : Int32) (this_errors : Nat → Int32) (this_shop_takings : Int32) (this_shop_costs : Int32) (this_shop_goes : Int32) (this_shop_z : Int32) (this_shop_fed : Int32) (this_shop_waits : Int32) (this_shop_goods : Nat → Nat → Int32) (this_trace_length : Int32) (this_trace_parted : Int32) : va_W := [(a_this, .inr (11, [.ref a_this_shop, .ref a_this_kept, .int this_imaged, .int this_images, .ref a_this_sheetBits, .ref a_this_sheetLengths, .ref a_this_sheetNumbers, .ref a_this_trace, .ref a_this_errors, .ref a_this_one, .ref a_this_second, .ref a_this_extra, .ref a_this_room, .ref a_this_values, .ref a_this_best, .int this_bestPaid, .int this_bestNet])), (a_this_errors, .inl (gI G, 7, .inl this_errors)), (a_this_shop, .inr (7, [.ref a_this_shop_goods, .ref a_this_shop_tills, .int this_shop_takings, .int this_shop_costs, .int this_shop_goes, .int this_shop_z, .ref a_this_shop_tape, .int this_shop_fed, .ref a_this_shop_paysLaw, .ref a_this_shop_valuesLaw, .ref a_this_shop_waiting, .int this_shop_waits])), (a_this_shop_goods, .inl (gII G, 3, .inr (.inr (.inr (.inr (fun j => some (e_this_shop_goods j))))))), (e_this_shop_goods 0, .inl (gI G, 8, .inl (this_shop_goods 0))), (e_this_shop_goods 1, .inl (gI G, 8, .inl (this_shop_goods 1))), (e_this_shop_goods 2, .inl (gI G, 8, .inl (this_shop_goods 2))), (a_this_trace, .inr (10, [.ref a_this_trace_bodies, .int this_trace_length, .int this_trace_parted]))]
def f_X11_count (N : Nat) (p0 : Int32) (this_errors : Nat → Int32) (this_shop_takings : Int32) (this_shop_costs : Int32) (this_shop_goes : Int32) (this_shop_z : Int32) (this_shop_fed : Int32) (this_shop_waits : Int32) (this_shop_goods : Nat → Nat → Int32) (this_trace_length : Int32) : Option (Int32 × (Nat → Int32)) := (if p0 = (0 : Int32) then (some (this_shop_goes, this_errors)) else (if p0 = (1 : Int32) then (some (this_shop_takings, this_errors)) else (if p0 = (2 : Int32) then (some (this_shop_costs, this_errors)) else (if p0 = (3 : Int32) then ((f_X7_stockOfAll N this_shop_goods).bind fun r5 => (some (r5, this_errors))) else (if p0 = (4 : Int32) then (some (this_shop_fed, this_errors)) else (if p0 = (5 : Int32) then (some (this_shop_waits, this_errors)) else (if p0 = (6 : Int32) then (some (this_trace_length, this_errors)) else (if p0 = (7 : Int32) then (some (this_shop_z, this_errors)) else ((f_X11_error N (1 : Int32) this_errors).bind fun r10 => (some (r10.1, r10.2)))))))))))
set_option maxRecDepth 100000 in
set_option maxHeartbeats 4000000 in
theorem c_X11_count (l : Launch) (G : KG) (N : Nat) (a_this : Nat) (a_this_shop : Nat) (a_this_kept : Nat) (a_this_sheetBits : Nat) (a_this_sheetLengths : Nat) (a_this_sheetNumbers : Nat) (a_this_trace : Nat) (a_this_errors : Nat) (a_this_one : Nat) (a_this_second : Nat) (a_this_extra : Nat) (a_this_room : Nat) (a_this_values : Nat) (a_this_best : Nat) (a_this_shop_goods : Nat) (a_this_shop_tills : Nat) (a_this_shop_tape : Nat) (a_this_shop_paysLaw : Nat) (a_this_shop_valuesLaw : Nat) (a_this_shop_waiting : Nat) (e_this_shop_goods : Nat → Nat) (a_this_trace_bodies : Nat) (p0 : Int32) (this_imaged : Int32) (this_images : Int32) (this_bestPaid : Int32) (this_bestNet : Int32) (this_errors : Nat → Int32) (this_shop_takings : Int32) (this_shop_costs : Int32) (this_shop_goes : Int32) (this_shop_z : Int32) (this_shop_fed : Int32) (this_shop_waits : Int32) (this_shop_goods : Nat → Nat → Int32) (this_trace_length : Int32) (this_trace_parted : Int32)  (out : Int32 × (Nat → Int32)) (hf : f_X11_count N p0 this_errors this_shop_takings this_shop_costs this_shop_goes this_shop_z this_shop_fed this_shop_waits this_shop_goods this_trace_length = some out) : KM l G yX11_count (kw yX11_count cX11_count 2 (some .int)) 2 43 [.ref a_this, .int p0] (k_X11_count G a_this a_this_shop a_this_kept a_this_sheetBits a_this_sheetLengths a_this_sheetNumbers a_this_trace a_this_errors a_this_one a_this_second a_this_extra a_this_room a_this_values a_this_best a_this_shop_goods a_this_shop_tills a_this_shop_tape a_this_shop_paysLaw a_this_shop_valuesLaw a_this_shop_waiting e_this_shop_goods a_this_trace_bodies this_imaged this_images this_bestPaid this_bestNet this_errors this_shop_takings this_shop_costs this_shop_goes this_shop_z this_shop_fed this_shop_waits this_shop_goods this_trace_length this_trace_parted) (k_X11_count G a_this a_this_shop a_this_kept a_this_sheetBits a_this_sheetLengths a_this_sheetNumbers a_this_trace a_this_errors a_this_one a_this_second a_this_extra a_this_room a_this_values a_this_best a_this_shop_goods a_this_shop_tills a_this_shop_tape a_this_shop_paysLaw a_this_shop_valuesLaw a_this_shop_waiting e_this_shop_goods a_this_trace_bodies this_imaged this_images this_bestPaid this_bestNet (out.2) this_shop_takings this_shop_costs this_shop_goes this_shop_z this_shop_fed this_shop_waits this_shop_goods this_trace_length this_trace_parted) (some (.int (out.1))) := by
  refine KM.of (by decide) (Nat.le_of_ble_eq_true rfl) ?_
  intro p e s m below meth c A ls args Q Fx0 hP hK hD hA hS hAm hQ hl
  obtain ⟨hx, hb, hr, hml, hts, hown, hlk, hnm⟩ := Fx0
  have hown : s.vm.findClass RX11 = some m.cls := hown
  have hl : lv_has ls 2 [(0, .ref a_this), (1, .int p0)] := hl
  have fl_10 := hts _ tw_333
  have fl_278 := va_Nw.use (A := args) rfl (hAm.1 _ nw_X11_278 rfl)
  have fl_287 := va_Nw.use (A := args) rfl (hAm.1 _ nw_X11_287 rfl)
  have fl_290 := va_Nw.use (A := args) rfl (hAm.1 _ nw_X11_290 rfl)
  have fl_131 := va_Nw.use (A := args) rfl (hAm.1 _ nw_X11_131 rfl)
  have fl_281 := va_Nw.use (A := args) rfl (hAm.1 _ nw_X11_281 rfl)
  have fl_42 := hts _ tw_340
  have fl_258 := va_Nw.use (A := args) rfl (hAm.1 _ nw_X11_258 rfl)
  have fl_193 := va_Nw.use (A := args) rfl (hAm.1 _ nw_X11_193 rfl)
  unfold f_X11_count at hf
  refine lv_iload_n hx hb dX11_count_0 rfl (lv_at hl 1 rfl) ?_
  by_cases q1 : p0 = (0 : Int32)
  · replace hf := kt q1 hf
    refine lv_tableIn (off := 47) (tgt := 48) hx hb dX11_count_1 (by rw [q1]; decide) (by rw [q1]; decide) (by rw [q1]; rfl) (by decide) ?_
    refine lv_aload_n hx hb dX11_count_48 rfl (lv_at hl 0 rfl) ?_
    refine va_get (D := gD G) (ci := 11) (C := RX11) (T := TX11) (N := 17) hx hb hts hin_X11 hown hK hP 0 rfl rfl 0 (by decide) fl_10 (fun _ h9 => h9) rfl dX11_count_49 ?_
    refine va_getN (D := gD G) (ci := 7) (C := RX7) (T := TX7) (N := 12) hx hb hts hin_X7 hown hK hP 2 rfl rfl 4 (by decide) fl_278 (fun _ h9 => h9) rfl dX11_count_52 ?_
    have ho := ks hf
    subst ho
    exact kiret hx hb hr hlk hP hD hS hQ dX11_count_55
  · replace hf := kf q1 hf
    by_cases q2 : p0 = (1 : Int32)
    · replace hf := kt q2 hf
      refine lv_tableIn (off := 55) (tgt := 56) hx hb dX11_count_1 (by rw [q2]; decide) (by rw [q2]; decide) (by rw [q2]; rfl) (by decide) ?_
      refine lv_aload_n hx hb dX11_count_56 rfl (lv_at hl 0 rfl) ?_
      refine va_get (D := gD G) (ci := 11) (C := RX11) (T := TX11) (N := 17) hx hb hts hin_X11 hown hK hP 0 rfl rfl 0 (by decide) fl_10 (fun _ h9 => h9) rfl dX11_count_57 ?_
      refine va_getN (D := gD G) (ci := 7) (C := RX7) (T := TX7) (N := 12) hx hb hts hin_X7 hown hK hP 2 rfl rfl 2 (by decide) fl_287 (fun _ h9 => h9) rfl dX11_count_60 ?_
      have ho := ks hf
      subst ho
      exact kiret hx hb hr hlk hP hD hS hQ dX11_count_63
    · replace hf := kf q2 hf
      by_cases q3 : p0 = (2 : Int32)
      · replace hf := kt q3 hf
        refine lv_tableIn (off := 63) (tgt := 64) hx hb dX11_count_1 (by rw [q3]; decide) (by rw [q3]; decide) (by rw [q3]; rfl) (by decide) ?_
        refine lv_aload_n hx hb dX11_count_64 rfl (lv_at hl 0 rfl) ?_
        refine va_get (D := gD G) (ci := 11) (C := RX11) (T := TX11) (N := 17) hx hb hts hin_X11 hown hK hP 0 rfl rfl 0 (by decide) fl_10 (fun _ h9 => h9) rfl dX11_count_65 ?_
        refine va_getN (D := gD G) (ci := 7) (C := RX7) (T := TX7) (N := 12) hx hb hts hin_X7 hown hK hP 2 rfl rfl 3 (by decide) fl_290 (fun _ h9 => h9) rfl dX11_count_68 ?_
        have ho := ks hf
        subst ho
        exact kiret hx hb hr hlk hP hD hS hQ dX11_count_71
      · replace hf := kf q3 hf
        by_cases q4 : p0 = (3 : Int32)
        · replace hf := kt q4 hf
          refine lv_tableIn (off := 71) (tgt := 72) hx hb dX11_count_1 (by rw [q4]; decide) (by rw [q4]; decide) (by rw [q4]; rfl) (by decide) ?_
          refine lv_aload_n hx hb dX11_count_72 rfl (lv_at hl 0 rfl) ?_
          refine va_get (D := gD G) (ci := 11) (C := RX11) (T := TX11) (N := 17) hx hb hts hin_X11 hown hK hP 0 rfl rfl 0 (by decide) fl_10 (fun _ h9 => h9) rfl dX11_count_73 ?_
          obtain ⟨r5, hr5, hf⟩ := kb hf
          refine kVN (As := []) (rest := []) ⟨hx, hb, hml, hown, hts⟩ (c_X7_stockOfAll l G N a_this_shop a_this_shop_goods a_this_shop_tills a_this_shop_tape a_this_shop_paysLaw a_this_shop_valuesLaw a_this_shop_waiting e_this_shop_goods this_shop_takings this_shop_costs this_shop_goes this_shop_z this_shop_fed this_shop_waits this_shop_goods r5 hr5) ⟨kcN 0 hts hAm nw_X11_293 tw_975 tw_81 hd_X7_stockOfAll ⟨Nat.le_of_ble_eq_true rfl, Nat.le_of_ble_eq_true rfl⟩, hts _ tw_974, hts _ tw_42⟩ dX11_count_76 hl.1 hK hAm hA hP hD hS 2 (ci := 7) rfl rfl rfl [2, 3, 4, 5, 6] rfl rfl rfl [] rfl rfl rfl (Nat.le_of_ble_eq_true rfl) ⟨Nat.le_refl _, Nat.le_refl _⟩ (fun H locs hP hD hS => ?_)
          have hP : va_P (gD G) vwCl (k_X11_count G a_this a_this_shop a_this_kept a_this_sheetBits a_this_sheetLengths a_this_sheetNumbers a_this_trace a_this_errors a_this_one a_this_second a_this_extra a_this_room a_this_values a_this_best a_this_shop_goods a_this_shop_tills a_this_shop_tape a_this_shop_paysLaw a_this_shop_valuesLaw a_this_shop_waiting e_this_shop_goods a_this_trace_bodies this_imaged this_images this_bestPaid this_bestNet this_errors this_shop_takings this_shop_costs this_shop_goes this_shop_z this_shop_fed this_shop_waits this_shop_goods this_trace_length this_trace_parted) H := hP
          have hD : va_D A (k_X11_count G a_this a_this_shop a_this_kept a_this_sheetBits a_this_sheetLengths a_this_sheetNumbers a_this_trace a_this_errors a_this_one a_this_second a_this_extra a_this_room a_this_values a_this_best a_this_shop_goods a_this_shop_tills a_this_shop_tape a_this_shop_paysLaw a_this_shop_valuesLaw a_this_shop_waiting e_this_shop_goods a_this_trace_bodies this_imaged this_images this_bestPaid this_bestNet this_errors this_shop_takings this_shop_costs this_shop_goes this_shop_z this_shop_fed this_shop_waits this_shop_goods this_trace_length this_trace_parted) := hD
          have ho := ks hf
          subst ho
          exact kiret hx hb hr hlk hP hD hS hQ dX11_count_79
        · replace hf := kf q4 hf
          by_cases q6 : p0 = (4 : Int32)
          · replace hf := kt q6 hf
            refine lv_tableIn (off := 79) (tgt := 80) hx hb dX11_count_1 (by rw [q6]; decide) (by rw [q6]; decide) (by rw [q6]; rfl) (by decide) ?_
            refine lv_aload_n hx hb dX11_count_80 rfl (lv_at hl 0 rfl) ?_
            refine va_get (D := gD G) (ci := 11) (C := RX11) (T := TX11) (N := 17) hx hb hts hin_X11 hown hK hP 0 rfl rfl 0 (by decide) fl_10 (fun _ h9 => h9) rfl dX11_count_81 ?_
            refine va_getN (D := gD G) (ci := 7) (C := RX7) (T := TX7) (N := 12) hx hb hts hin_X7 hown hK hP 2 rfl rfl 7 (by decide) fl_131 (fun _ h9 => h9) rfl dX11_count_84 ?_
            have ho := ks hf
            subst ho
            exact kiret hx hb hr hlk hP hD hS hQ dX11_count_87
          · replace hf := kf q6 hf
            by_cases q7 : p0 = (5 : Int32)
            · replace hf := kt q7 hf
              refine lv_tableIn (off := 87) (tgt := 88) hx hb dX11_count_1 (by rw [q7]; decide) (by rw [q7]; decide) (by rw [q7]; rfl) (by decide) ?_
              refine lv_aload_n hx hb dX11_count_88 rfl (lv_at hl 0 rfl) ?_
              refine va_get (D := gD G) (ci := 11) (C := RX11) (T := TX11) (N := 17) hx hb hts hin_X11 hown hK hP 0 rfl rfl 0 (by decide) fl_10 (fun _ h9 => h9) rfl dX11_count_89 ?_
              refine va_getN (D := gD G) (ci := 7) (C := RX7) (T := TX7) (N := 12) hx hb hts hin_X7 hown hK hP 2 rfl rfl 11 (by decide) fl_281 (fun _ h9 => h9) rfl dX11_count_92 ?_
              have ho := ks hf
              subst ho
              exact kiret hx hb hr hlk hP hD hS hQ dX11_count_95
            · replace hf := kf q7 hf
              by_cases q8 : p0 = (6 : Int32)
              · replace hf := kt q8 hf
                refine lv_tableIn (off := 95) (tgt := 96) hx hb dX11_count_1 (by rw [q8]; decide) (by rw [q8]; decide) (by rw [q8]; rfl) (by decide) ?_
                refine lv_aload_n hx hb dX11_count_96 rfl (lv_at hl 0 rfl) ?_
                refine va_get (D := gD G) (ci := 11) (C := RX11) (T := TX11) (N := 17) hx hb hts hin_X11 hown hK hP 0 rfl rfl 7 (by decide) fl_42 (fun _ h9 => h9) rfl dX11_count_97 ?_
                refine va_getN (D := gD G) (ci := 10) (C := RX10) (T := TX10) (N := 3) hx hb hts hin_X10 hown hK hP 7 rfl rfl 1 (by decide) fl_258 (fun _ h9 => h9) rfl dX11_count_100 ?_
                have ho := ks hf
                subst ho
                exact kiret hx hb hr hlk hP hD hS hQ dX11_count_103
              · replace hf := kf q8 hf
                by_cases q9 : p0 = (7 : Int32)
                · replace hf := kt q9 hf
                  refine lv_tableIn (off := 103) (tgt := 104) hx hb dX11_count_1 (by rw [q9]; decide) (by rw [q9]; decide) (by rw [q9]; rfl) (by decide) ?_
                  refine lv_aload_n hx hb dX11_count_104 rfl (lv_at hl 0 rfl) ?_
                  refine va_get (D := gD G) (ci := 11) (C := RX11) (T := TX11) (N := 17) hx hb hts hin_X11 hown hK hP 0 rfl rfl 0 (by decide) fl_10 (fun _ h9 => h9) rfl dX11_count_105 ?_
                  refine va_getN (D := gD G) (ci := 7) (C := RX7) (T := TX7) (N := 12) hx hb hts hin_X7 hown hK hP 2 rfl rfl 5 (by decide) fl_193 (fun _ h9 => h9) rfl dX11_count_108 ?_
                  have ho := ks hf
                  subst ho
                  exact kiret hx hb hr hlk hP hD hS hQ dX11_count_111
                · replace hf := kf q9 hf
                  have nq1 : (p0).toInt ≠ 0 := fun z => q1 (Int32.toInt_inj.mp (z.trans (by decide)))
                  have nq2 : (p0).toInt ≠ 1 := fun z => q2 (Int32.toInt_inj.mp (z.trans (by decide)))
                  have nq3 : (p0).toInt ≠ 2 := fun z => q3 (Int32.toInt_inj.mp (z.trans (by decide)))
                  have nq4 : (p0).toInt ≠ 3 := fun z => q4 (Int32.toInt_inj.mp (z.trans (by decide)))
                  have nq6 : (p0).toInt ≠ 4 := fun z => q6 (Int32.toInt_inj.mp (z.trans (by decide)))
                  have nq7 : (p0).toInt ≠ 5 := fun z => q7 (Int32.toInt_inj.mp (z.trans (by decide)))
                  have nq8 : (p0).toInt ≠ 6 := fun z => q8 (Int32.toInt_inj.mp (z.trans (by decide)))
                  have nq9 : (p0).toInt ≠ 7 := fun z => q9 (Int32.toInt_inj.mp (z.trans (by decide)))
                  have z11 : (p0).toInt < 0 ∨ 7 < (p0).toInt := by omega
                  refine lv_tableOut (tgt := 112) hx hb dX11_count_1 z11 (by decide) ?_
                  refine lv_aload_n hx hb dX11_count_112 rfl (lv_at hl 0 rfl) ?_
                  refine lv_iconst (v := (1 : Int32)) hx hb dX11_count_113 (by decide) ?_
                  obtain ⟨r10, hr10, hf⟩ := kb hf
                  refine kV (As := [.int (1 : Int32)]) (rest := []) ⟨hx, hb, hml, hown, hts⟩ (c_X11_error l G N a_this a_this_shop a_this_kept a_this_sheetBits a_this_sheetLengths a_this_sheetNumbers a_this_trace a_this_errors a_this_one a_this_second a_this_extra a_this_room a_this_values a_this_best (1 : Int32) this_imaged this_images this_bestPaid this_bestNet this_errors r10 hr10) (kcV 1 hts tw_405 tw_80 tw_402 tw_404 tw_0 hd_X11_error ⟨Nat.le_of_ble_eq_true rfl, Nat.le_of_ble_eq_true rfl⟩) dX11_count_114 hl.1 hK hAm hA hP hD hS 0 (ci := 11) rfl rfl rfl [0, 1] rfl rfl rfl [1] rfl rfl rfl (Nat.le_of_ble_eq_true rfl) ⟨Nat.le_refl _, Nat.le_refl _⟩ (fun H locs hP hD hS => ?_)
                  have hP : va_P (gD G) vwCl (k_X11_count G a_this a_this_shop a_this_kept a_this_sheetBits a_this_sheetLengths a_this_sheetNumbers a_this_trace a_this_errors a_this_one a_this_second a_this_extra a_this_room a_this_values a_this_best a_this_shop_goods a_this_shop_tills a_this_shop_tape a_this_shop_paysLaw a_this_shop_valuesLaw a_this_shop_waiting e_this_shop_goods a_this_trace_bodies this_imaged this_images this_bestPaid this_bestNet r10.2 this_shop_takings this_shop_costs this_shop_goes this_shop_z this_shop_fed this_shop_waits this_shop_goods this_trace_length this_trace_parted) H := hP
                  have hD : va_D A (k_X11_count G a_this a_this_shop a_this_kept a_this_sheetBits a_this_sheetLengths a_this_sheetNumbers a_this_trace a_this_errors a_this_one a_this_second a_this_extra a_this_room a_this_values a_this_best a_this_shop_goods a_this_shop_tills a_this_shop_tape a_this_shop_paysLaw a_this_shop_valuesLaw a_this_shop_waiting e_this_shop_goods a_this_trace_bodies this_imaged this_images this_bestPaid this_bestNet r10.2 this_shop_takings this_shop_costs this_shop_goes this_shop_z this_shop_fed this_shop_waits this_shop_goods this_trace_length this_trace_parted) := hD
                  have ho := ks hf
                  subst ho
                  exact kiret hx hb hr hlk hP hD hS hQ dX11_count_117
abbrev k_X11_told (G : KG) (a_this : Nat) (a_this_shop : Nat) (a_this_kept : Nat) (a_this_sheetBits : Nat) (a_this_sheetLengths : Nat) (a_this_sheetNumbers : Nat) (a_this_trace : Nat) (a_this_errors : Nat) (a_this_one : Nat) (a_this_second : Nat) (a_this_extra : Nat) (a_this_room : Nat) (a_this_values : Nat) (a_this_best : Nat) (this_imaged : Int32) (this_images : Int32) (this_bestPaid : Int32) (this_bestNet : Int32) (this_errors : Nat → Int32) : va_W := [(a_this, .inr (11, [.ref a_this_shop, .ref a_this_kept, .int this_imaged, .int this_images, .ref a_this_sheetBits, .ref a_this_sheetLengths, .ref a_this_sheetNumbers, .ref a_this_trace, .ref a_this_errors, .ref a_this_one, .ref a_this_second, .ref a_this_extra, .ref a_this_room, .ref a_this_values, .ref a_this_best, .int this_bestPaid, .int this_bestNet])), (a_this_errors, .inl (gI G, 7, .inl this_errors))]
def f_X11_told (N : Nat) (p0 : Int32) (this_errors : Nat → Int32) : Option (Int32 × (Nat → Int32)) := ((f_X11_within N p0 (1 : Int32) (6 : Int32)).bind fun r1 => (if r1 = 0 then ((f_X11_error N (1 : Int32) this_errors).bind fun r3 => (some (r3.1, r3.2))) else (if vin p0 7 = true then (some ((this_errors p0.toNatClampNeg), this_errors)) else none)))
set_option maxRecDepth 100000 in
set_option maxHeartbeats 4000000 in
theorem c_X11_told (l : Launch) (G : KG) (N : Nat) (a_this : Nat) (a_this_shop : Nat) (a_this_kept : Nat) (a_this_sheetBits : Nat) (a_this_sheetLengths : Nat) (a_this_sheetNumbers : Nat) (a_this_trace : Nat) (a_this_errors : Nat) (a_this_one : Nat) (a_this_second : Nat) (a_this_extra : Nat) (a_this_room : Nat) (a_this_values : Nat) (a_this_best : Nat) (p0 : Int32) (this_imaged : Int32) (this_images : Int32) (this_bestPaid : Int32) (this_bestNet : Int32) (this_errors : Nat → Int32)  (out : Int32 × (Nat → Int32)) (hf : f_X11_told N p0 this_errors = some out) : KM l G yX11_told (kw yX11_told cX11_told 2 (some .int)) 2 43 [.ref a_this, .int p0] (k_X11_told G a_this a_this_shop a_this_kept a_this_sheetBits a_this_sheetLengths a_this_sheetNumbers a_this_trace a_this_errors a_this_one a_this_second a_this_extra a_this_room a_this_values a_this_best this_imaged this_images this_bestPaid this_bestNet this_errors) (k_X11_told G a_this a_this_shop a_this_kept a_this_sheetBits a_this_sheetLengths a_this_sheetNumbers a_this_trace a_this_errors a_this_one a_this_second a_this_extra a_this_room a_this_values a_this_best this_imaged this_images this_bestPaid this_bestNet (out.2)) (some (.int (out.1))) := by
  refine KM.of (by decide) (Nat.le_of_ble_eq_true rfl) ?_
  intro p e s m below meth c A ls args Q Fx0 hP hK hD hA hS hAm hQ hl
  obtain ⟨hx, hb, hr, hml, hts, hown, hlk, hnm⟩ := Fx0
  have hown : s.vm.findClass RX11 = some m.cls := hown
  have hl : lv_has ls 2 [(0, .ref a_this), (1, .int p0)] := hl
  have fl_46 := hts _ tw_341
  unfold f_X11_told at hf
  refine lv_iload_n hx hb dX11_told_0 rfl (lv_at hl 1 rfl) ?_
  refine lv_iconst (v := (1 : Int32)) hx hb dX11_told_1 (by decide) ?_
  refine lv_bipush (v := (6 : Int32)) hx hb dX11_told_2 (by decide) ?_
  obtain ⟨r1, hr1, hf⟩ := kb hf
  refine kS (As := [.int p0, .int (1 : Int32), .int (6 : Int32)]) (rest := []) ⟨hx, hb, hml, hown, hts⟩ (c_X11_within l G N p0 (1 : Int32) (6 : Int32) r1 hr1) (kcS 3 hts tw_394 tw_80 tw_392 tw_393 hd_X11_within ⟨Nat.le_of_ble_eq_true rfl, Nat.le_of_ble_eq_true rfl⟩) dX11_told_4 hl.1 hK hAm hA hP hD hS [] rfl rfl rfl [] rfl rfl rfl (Nat.le_of_ble_eq_true rfl) ⟨Nat.le_refl _, Nat.le_refl _⟩ (fun H locs hP hD hS => ?_)
  have hP : va_P (gD G) vwCl (k_X11_told G a_this a_this_shop a_this_kept a_this_sheetBits a_this_sheetLengths a_this_sheetNumbers a_this_trace a_this_errors a_this_one a_this_second a_this_extra a_this_room a_this_values a_this_best this_imaged this_images this_bestPaid this_bestNet this_errors) H := hP
  have hD : va_D A (k_X11_told G a_this a_this_shop a_this_kept a_this_sheetBits a_this_sheetLengths a_this_sheetNumbers a_this_trace a_this_errors a_this_one a_this_second a_this_extra a_this_room a_this_values a_this_best this_imaged this_images this_bestPaid this_bestNet this_errors) := hD
  refine lv_if_eq (tgt := 19) hx hb dX11_told_7 (by decide) (fun c2 => ?_) (fun c2 => ?_)
  · replace hf := kt c2 hf
    refine lv_aload_n hx hb dX11_told_19 rfl (lv_at hl 0 rfl) ?_
    refine lv_iconst (v := (1 : Int32)) hx hb dX11_told_20 (by decide) ?_
    obtain ⟨r3, hr3, hf⟩ := kb hf
    refine kV (As := [.int (1 : Int32)]) (rest := []) ⟨hx, hb, hml, hown, hts⟩ (c_X11_error l G N a_this a_this_shop a_this_kept a_this_sheetBits a_this_sheetLengths a_this_sheetNumbers a_this_trace a_this_errors a_this_one a_this_second a_this_extra a_this_room a_this_values a_this_best (1 : Int32) this_imaged this_images this_bestPaid this_bestNet this_errors r3 hr3) (kcV 1 hts tw_405 tw_80 tw_402 tw_404 tw_0 hd_X11_error ⟨Nat.le_of_ble_eq_true rfl, Nat.le_of_ble_eq_true rfl⟩) dX11_told_21 hl.1 hK hAm hA hP hD hS 0 (ci := 11) rfl rfl rfl [0, 1] rfl rfl rfl [1] rfl rfl rfl (Nat.le_of_ble_eq_true rfl) ⟨Nat.le_refl _, Nat.le_refl _⟩ (fun H locs hP hD hS => ?_)
    have hP : va_P (gD G) vwCl (k_X11_told G a_this a_this_shop a_this_kept a_this_sheetBits a_this_sheetLengths a_this_sheetNumbers a_this_trace a_this_errors a_this_one a_this_second a_this_extra a_this_room a_this_values a_this_best this_imaged this_images this_bestPaid this_bestNet r3.2) H := hP
    have hD : va_D A (k_X11_told G a_this a_this_shop a_this_kept a_this_sheetBits a_this_sheetLengths a_this_sheetNumbers a_this_trace a_this_errors a_this_one a_this_second a_this_extra a_this_room a_this_values a_this_best this_imaged this_images this_bestPaid this_bestNet r3.2) := hD
    have ho := ks hf
    subst ho
    exact kiret hx hb hr hlk hP hD hS hQ dX11_told_24
  · replace hf := kf c2 hf
    refine lv_aload_n hx hb dX11_told_10 rfl (lv_at hl 0 rfl) ?_
    refine va_get (D := gD G) (ci := 11) (C := RX11) (T := TX11) (N := 17) hx hb hts hin_X11 hown hK hP 0 rfl rfl 8 (by decide) fl_46 (fun _ h9 => h9) rfl dX11_told_11 ?_
    refine lv_iload_n hx hb dX11_told_14 rfl (lv_at hl 1 rfl) ?_
    obtain ⟨g4, hf⟩ := kg hf
    refine va_iald hx hb hK hP 1 0 rfl rfl (vin_of g4) dX11_told_15 ?_
    refine lv_goto (tgt := 24) hx hb dX11_told_16 (by decide) ?_
    have ho := ks hf
    subst ho
    exact kiret hx hb hr hlk hP hD hS hQ dX11_told_24
abbrev k_X11_refusal_ (G : KG) (a_this : Nat) (a_this_shop : Nat) (a_this_kept : Nat) (a_this_sheetBits : Nat) (a_this_sheetLengths : Nat) (a_this_sheetNumbers : Nat) (a_this_trace : Nat) (a_this_errors : Nat) (a_this_one : Nat) (a_this_second : Nat) (a_this_extra : Nat) (a_this_room : Nat) (a_this_values : Nat) (a_this_best : Nat) (a_this_one_row : Nat) (e_this_sheetNumbers : Nat → Nat) (a_this_shop_goods : Nat) (a_this_shop_tills : Nat) (a_this_shop_tape : Nat) (a_this_shop_paysLaw : Nat) (a_this_shop_valuesLaw : Nat) (a_this_shop_waiting : Nat) (e_this_shop_goods : Nat → Nat) (this_imaged : Int32) (this_images : Int32) (this_bestPaid : Int32) (this_bestNet : Int32) (this_one_things : Int32) (this_one_sum : Int32) (this_one_row : Nat → Int32) (this_sheetBits : Nat → Int32) (this_sheetLengths : Nat → Int32) (this_sheetNumbers : Nat → Nat → Int32) (this_shop_takings : Int32) (this_shop_costs : Int32) (this_shop_goes : Int32) (this_shop_z : Int32) (this_shop_fed : Int32) (this_shop_waits : Int32) (this_shop_goods : Nat → Nat → Int32) : va_W := [(a_this, .inr (11, [.ref a_this_shop, .ref a_this_kept, .int this_imaged, .int this_images, .ref a_this_sheetBits, .ref a_this_sheetLengths, .ref a_this_sheetNumbers, .ref a_this_trace, .ref a_this_errors, .ref a_this_one, .ref a_this_second, .ref a_this_extra, .ref a_this_room, .ref a_this_values, .ref a_this_best, .int this_bestPaid, .int this_bestNet])), (a_this_one, .inr (0, [.ref a_this_one_row, .int this_one_things, .int this_one_sum])), (a_this_one_row, .inl (gI G, 8, .inl this_one_row)), (a_this_sheetBits, .inl (gI G, 4, .inl this_sheetBits)), (a_this_sheetLengths, .inl (gI G, 4, .inl this_sheetLengths)), (a_this_sheetNumbers, .inl (gII G, 4, .inr (.inr (.inr (.inr (fun j => some (e_this_sheetNumbers j))))))), (e_this_sheetNumbers 0, .inl (gI G, 24, .inl (this_sheetNumbers 0))), (e_this_sheetNumbers 1, .inl (gI G, 24, .inl (this_sheetNumbers 1))), (e_this_sheetNumbers 2, .inl (gI G, 24, .inl (this_sheetNumbers 2))), (e_this_sheetNumbers 3, .inl (gI G, 24, .inl (this_sheetNumbers 3))), (a_this_shop, .inr (7, [.ref a_this_shop_goods, .ref a_this_shop_tills, .int this_shop_takings, .int this_shop_costs, .int this_shop_goes, .int this_shop_z, .ref a_this_shop_tape, .int this_shop_fed, .ref a_this_shop_paysLaw, .ref a_this_shop_valuesLaw, .ref a_this_shop_waiting, .int this_shop_waits])), (a_this_shop_goods, .inl (gII G, 3, .inr (.inr (.inr (.inr (fun j => some (e_this_shop_goods j))))))), (e_this_shop_goods 0, .inl (gI G, 8, .inl (this_shop_goods 0))), (e_this_shop_goods 1, .inl (gI G, 8, .inl (this_shop_goods 1))), (e_this_shop_goods 2, .inl (gI G, 8, .inl (this_shop_goods 2)))]
def f_X11_refusal_ (N : Nat) (p0 : Int32) (p1 : Int32) (this_one_things : Int32) (this_one_sum : Int32) (this_one_row : Nat → Int32) (this_sheetBits : Nat → Int32) (this_sheetLengths : Nat → Int32) (this_sheetNumbers : Nat → Nat → Int32) (this_shop_goods : Nat → Nat → Int32) : Option (Int32 × (Int32) × (Int32) × (Nat → Int32)) := ((f_X11_isMissing N p0 this_sheetBits).bind fun r1 => (if r1 = 0 then ((f_X11_reads N p0 this_one_things this_one_sum this_one_row this_sheetLengths this_sheetNumbers this_shop_goods).bind fun r3 => (if r3.1 = 0 then (some ((1 : Int32), r3.2.1, r3.2.2.1, r3.2.2.2)) else (if r3.2.1 ≤ p1 then (some ((0 : Int32), r3.2.1, r3.2.2.1, r3.2.2.2)) else (some ((4 : Int32), r3.2.1, r3.2.2.1, r3.2.2.2))))) else (some ((2 : Int32), this_one_things, this_one_sum, this_one_row))))
set_option maxRecDepth 100000 in
set_option maxHeartbeats 4000000 in
theorem c_X11_refusal_ (l : Launch) (G : KG) (N : Nat) (a_this : Nat) (a_this_shop : Nat) (a_this_kept : Nat) (a_this_sheetBits : Nat) (a_this_sheetLengths : Nat) (a_this_sheetNumbers : Nat) (a_this_trace : Nat) (a_this_errors : Nat) (a_this_one : Nat) (a_this_second : Nat) (a_this_extra : Nat) (a_this_room : Nat) (a_this_values : Nat) (a_this_best : Nat) (a_this_one_row : Nat) (e_this_sheetNumbers : Nat → Nat) (a_this_shop_goods : Nat) (a_this_shop_tills : Nat) (a_this_shop_tape : Nat) (a_this_shop_paysLaw : Nat) (a_this_shop_valuesLaw : Nat) (a_this_shop_waiting : Nat) (e_this_shop_goods : Nat → Nat) (p0 : Int32) (p1 : Int32) (this_imaged : Int32) (this_images : Int32) (this_bestPaid : Int32) (this_bestNet : Int32) (this_one_things : Int32) (this_one_sum : Int32) (this_one_row : Nat → Int32) (this_sheetBits : Nat → Int32) (this_sheetLengths : Nat → Int32) (this_sheetNumbers : Nat → Nat → Int32) (this_shop_takings : Int32) (this_shop_costs : Int32) (this_shop_goes : Int32) (this_shop_z : Int32) (this_shop_fed : Int32) (this_shop_waits : Int32) (this_shop_goods : Nat → Nat → Int32)  (out : Int32 × (Int32) × (Int32) × (Nat → Int32)) (hf : f_X11_refusal_ N p0 p1 this_one_things this_one_sum this_one_row this_sheetBits this_sheetLengths this_sheetNumbers this_shop_goods = some out) : KM l G yX11_refusal_ (kw yX11_refusal_ cX11_refusal_ 3 (some .int)) 3 68 [.ref a_this, .int p0, .int p1] (k_X11_refusal_ G a_this a_this_shop a_this_kept a_this_sheetBits a_this_sheetLengths a_this_sheetNumbers a_this_trace a_this_errors a_this_one a_this_second a_this_extra a_this_room a_this_values a_this_best a_this_one_row e_this_sheetNumbers a_this_shop_goods a_this_shop_tills a_this_shop_tape a_this_shop_paysLaw a_this_shop_valuesLaw a_this_shop_waiting e_this_shop_goods this_imaged this_images this_bestPaid this_bestNet this_one_things this_one_sum this_one_row this_sheetBits this_sheetLengths this_sheetNumbers this_shop_takings this_shop_costs this_shop_goes this_shop_z this_shop_fed this_shop_waits this_shop_goods) (k_X11_refusal_ G a_this a_this_shop a_this_kept a_this_sheetBits a_this_sheetLengths a_this_sheetNumbers a_this_trace a_this_errors a_this_one a_this_second a_this_extra a_this_room a_this_values a_this_best a_this_one_row e_this_sheetNumbers a_this_shop_goods a_this_shop_tills a_this_shop_tape a_this_shop_paysLaw a_this_shop_valuesLaw a_this_shop_waiting e_this_shop_goods this_imaged this_images this_bestPaid this_bestNet (out.2.1) (out.2.2.1) (out.2.2.2) this_sheetBits this_sheetLengths this_sheetNumbers this_shop_takings this_shop_costs this_shop_goes this_shop_z this_shop_fed this_shop_waits this_shop_goods) (some (.int (out.1))) := by
  refine KM.of (by decide) (Nat.le_of_ble_eq_true rfl) ?_
  intro p e s m below meth c A ls args Q Fx0 hP hK hD hA hS hAm hQ hl
  obtain ⟨hx, hb, hr, hml, hts, hown, hlk, hnm⟩ := Fx0
  have hown : s.vm.findClass RX11 = some m.cls := hown
  have hl : lv_has ls 3 [(0, .ref a_this), (1, .int p0), (2, .int p1)] := hl
  have fl_52 := hts _ tw_342
  have fl_160 := va_Nw.use (A := args) rfl (hAm.1 _ nw_X11_160 rfl)
  unfold f_X11_refusal_ at hf
  refine lv_aload_n hx hb dX11_refusal__0 rfl (lv_at hl 0 rfl) ?_
  refine lv_iload_n hx hb dX11_refusal__1 rfl (lv_at hl 1 rfl) ?_
  obtain ⟨r1, hr1, hf⟩ := kb hf
  refine kV (As := [.int p0]) (rest := []) ⟨hx, hb, hml, hown, hts⟩ (c_X11_isMissing l G N a_this a_this_shop a_this_kept a_this_sheetBits a_this_sheetLengths a_this_sheetNumbers a_this_trace a_this_errors a_this_one a_this_second a_this_extra a_this_room a_this_values a_this_best p0 this_imaged this_images this_bestPaid this_bestNet this_sheetBits r1 hr1) (kcV 1 hts tw_690 tw_80 tw_687 tw_689 tw_19 hd_X11_isMissing ⟨Nat.le_of_ble_eq_true rfl, Nat.le_of_ble_eq_true rfl⟩) dX11_refusal__2 hl.1 hK hAm hA hP hD hS 0 (ci := 11) rfl rfl rfl [0, 3] rfl rfl rfl [] rfl rfl rfl (Nat.le_of_ble_eq_true rfl) ⟨Nat.le_refl _, Nat.le_refl _⟩ (fun H locs hP hD hS => ?_)
  have hP : va_P (gD G) vwCl (k_X11_refusal_ G a_this a_this_shop a_this_kept a_this_sheetBits a_this_sheetLengths a_this_sheetNumbers a_this_trace a_this_errors a_this_one a_this_second a_this_extra a_this_room a_this_values a_this_best a_this_one_row e_this_sheetNumbers a_this_shop_goods a_this_shop_tills a_this_shop_tape a_this_shop_paysLaw a_this_shop_valuesLaw a_this_shop_waiting e_this_shop_goods this_imaged this_images this_bestPaid this_bestNet this_one_things this_one_sum this_one_row this_sheetBits this_sheetLengths this_sheetNumbers this_shop_takings this_shop_costs this_shop_goes this_shop_z this_shop_fed this_shop_waits this_shop_goods) H := hP
  have hD : va_D A (k_X11_refusal_ G a_this a_this_shop a_this_kept a_this_sheetBits a_this_sheetLengths a_this_sheetNumbers a_this_trace a_this_errors a_this_one a_this_second a_this_extra a_this_room a_this_values a_this_best a_this_one_row e_this_sheetNumbers a_this_shop_goods a_this_shop_tills a_this_shop_tape a_this_shop_paysLaw a_this_shop_valuesLaw a_this_shop_waiting e_this_shop_goods this_imaged this_images this_bestPaid this_bestNet this_one_things this_one_sum this_one_row this_sheetBits this_sheetLengths this_sheetNumbers this_shop_takings this_shop_costs this_shop_goes this_shop_z this_shop_fed this_shop_waits this_shop_goods) := hD
  refine lv_if_eq (tgt := 10) hx hb dX11_refusal__5 (by decide) (fun c2 => ?_) (fun c2 => ?_)
  · replace hf := kt c2 hf
    refine lv_aload_n hx hb dX11_refusal__10 rfl (lv_at hl 0 rfl) ?_
    refine lv_iload_n hx hb dX11_refusal__11 rfl (lv_at hl 1 rfl) ?_
    refine lv_aload_n hx hb dX11_refusal__12 rfl (lv_at hl 0 rfl) ?_
    refine va_get (D := gD G) (ci := 11) (C := RX11) (T := TX11) (N := 17) hx hb hts hin_X11 hown hK hP 0 rfl rfl 9 (by decide) fl_52 (fun _ h9 => h9) rfl dX11_refusal__13 ?_
    obtain ⟨r3, hr3, hf⟩ := kb hf
    refine kV (As := [.int p0, .ref a_this_one]) (rest := []) ⟨hx, hb, hml, hown, hts⟩ (c_X11_reads l G N a_this_one a_this_one_row a_this a_this_shop a_this_kept a_this_sheetBits a_this_sheetLengths a_this_sheetNumbers a_this_trace a_this_errors a_this_one a_this_second a_this_extra a_this_room a_this_values a_this_best e_this_sheetNumbers a_this_shop_goods a_this_shop_tills a_this_shop_tape a_this_shop_paysLaw a_this_shop_valuesLaw a_this_shop_waiting e_this_shop_goods p0 this_one_things this_one_sum this_one_row this_imaged this_images this_bestPaid this_bestNet this_sheetLengths this_sheetNumbers this_shop_takings this_shop_costs this_shop_goes this_shop_z this_shop_fed this_shop_waits this_shop_goods r3 hr3) (kcV 2 hts tw_694 tw_80 tw_691 tw_693 tw_20 hd_X11_reads ⟨Nat.le_of_ble_eq_true rfl, Nat.le_of_ble_eq_true rfl⟩) dX11_refusal__16 hl.1 hK hAm hA hP hD hS 0 (ci := 11) rfl rfl rfl [1, 2, 0, 4, 5, 6, 7, 8, 9, 10, 11, 12, 13, 14] rfl rfl rfl [0, 1] rfl rfl rfl (Nat.le_of_ble_eq_true rfl) ⟨Nat.le_refl _, Nat.le_refl _⟩ (fun H locs hP hD hS => ?_)
    have hP : va_P (gD G) vwCl (k_X11_refusal_ G a_this a_this_shop a_this_kept a_this_sheetBits a_this_sheetLengths a_this_sheetNumbers a_this_trace a_this_errors a_this_one a_this_second a_this_extra a_this_room a_this_values a_this_best a_this_one_row e_this_sheetNumbers a_this_shop_goods a_this_shop_tills a_this_shop_tape a_this_shop_paysLaw a_this_shop_valuesLaw a_this_shop_waiting e_this_shop_goods this_imaged this_images this_bestPaid this_bestNet r3.2.1 r3.2.2.1 r3.2.2.2 this_sheetBits this_sheetLengths this_sheetNumbers this_shop_takings this_shop_costs this_shop_goes this_shop_z this_shop_fed this_shop_waits this_shop_goods) H := hP
    have hD : va_D A (k_X11_refusal_ G a_this a_this_shop a_this_kept a_this_sheetBits a_this_sheetLengths a_this_sheetNumbers a_this_trace a_this_errors a_this_one a_this_second a_this_extra a_this_room a_this_values a_this_best a_this_one_row e_this_sheetNumbers a_this_shop_goods a_this_shop_tills a_this_shop_tape a_this_shop_paysLaw a_this_shop_valuesLaw a_this_shop_waiting e_this_shop_goods this_imaged this_images this_bestPaid this_bestNet r3.2.1 r3.2.2.1 r3.2.2.2 this_sheetBits this_sheetLengths this_sheetNumbers this_shop_takings this_shop_costs this_shop_goes this_shop_z this_shop_fed this_shop_waits this_shop_goods) := hD
    refine lv_if_ne (tgt := 24) hx hb dX11_refusal__19 (by decide) (fun c4 => ?_) (fun c4 => ?_)
    · replace hf := kf c4 hf
      refine lv_aload_n hx hb dX11_refusal__24 rfl (lv_at hl 0 rfl) ?_
      refine va_get (D := gD G) (ci := 11) (C := RX11) (T := TX11) (N := 17) hx hb hts hin_X11 hown hK hP 0 rfl rfl 9 (by decide) fl_52 (fun _ h9 => h9) rfl dX11_refusal__25 ?_
      refine va_getN (D := gD G) (ci := 0) (C := RX0) (T := TX0) (N := 3) hx hb hts hin_X0 hown hK hP 1 rfl rfl 1 (by decide) fl_160 (fun _ h9 => h9) rfl dX11_refusal__28 ?_
      refine lv_iload_n hx hb dX11_refusal__31 rfl (lv_at hl 2 rfl) ?_
      refine lv_icmp_le (tgt := 39) hx hb dX11_refusal__32 (by decide) (fun c5 => ?_) (fun c5 => ?_)
      · replace hf := kt c5 hf
        refine lv_iconst (v := (0 : Int32)) hx hb dX11_refusal__39 (by decide) ?_
        have ho := ks hf
        subst ho
        exact kiret hx hb hr hlk hP hD hS hQ dX11_refusal__40
      · replace hf := kf c5 hf
        refine lv_iconst (v := (4 : Int32)) hx hb dX11_refusal__35 (by decide) ?_
        refine lv_goto (tgt := 40) hx hb dX11_refusal__36 (by decide) ?_
        have ho := ks hf
        subst ho
        exact kiret hx hb hr hlk hP hD hS hQ dX11_refusal__40
    · replace hf := kt c4 hf
      refine lv_iconst (v := (1 : Int32)) hx hb dX11_refusal__22 (by decide) ?_
      have ho := ks hf
      subst ho
      exact kiret hx hb hr hlk hP hD hS hQ dX11_refusal__23
  · replace hf := kf c2 hf
    refine lv_iconst (v := (2 : Int32)) hx hb dX11_refusal__8 (by decide) ?_
    have ho := ks hf
    subst ho
    exact kiret hx hb hr hlk hP hD hS hQ dX11_refusal__9
abbrev k_X11_basket (G : KG) (a_this : Nat) (a_this_shop : Nat) (a_this_kept : Nat) (a_this_sheetBits : Nat) (a_this_sheetLengths : Nat) (a_this_sheetNumbers : Nat) (a_this_trace : Nat) (a_this_errors : Nat) (a_this_one : Nat) (a_this_second : Nat) (a_this_extra : Nat) (a_this_room : Nat) (a_this_values : Nat) (a_this_best : Nat) (a_this_one_row : Nat) (e_this_sheetNumbers : Nat → Nat) (a_this_shop_goods : Nat) (a_this_shop_tills : Nat) (a_this_shop_tape : Nat) (a_this_shop_paysLaw : Nat) (a_this_shop_valuesLaw : Nat) (a_this_shop_waiting : Nat) (e_this_shop_goods : Nat → Nat) (this_imaged : Int32) (this_images : Int32) (this_bestPaid : Int32) (this_bestNet : Int32) (this_errors : Nat → Int32) (this_one_things : Int32) (this_one_sum : Int32) (this_one_row : Nat → Int32) (this_sheetBits : Nat → Int32) (this_sheetLengths : Nat → Int32) (this_sheetNumbers : Nat → Nat → Int32) (this_shop_takings : Int32) (this_shop_costs : Int32) (this_shop_goes : Int32) (this_shop_z : Int32) (this_shop_fed : Int32) (this_shop_waits : Int32) (this_shop_goods : Nat → Nat → Int32) : va_W := [(a_this, .inr (11, [.ref a_this_shop, .ref a_this_kept, .int this_imaged, .int this_images, .ref a_this_sheetBits, .ref a_this_sheetLengths, .ref a_this_sheetNumbers, .ref a_this_trace, .ref a_this_errors, .ref a_this_one, .ref a_this_second, .ref a_this_extra, .ref a_this_room, .ref a_this_values, .ref a_this_best, .int this_bestPaid, .int this_bestNet])), (a_this_errors, .inl (gI G, 7, .inl this_errors)), (a_this_one, .inr (0, [.ref a_this_one_row, .int this_one_things, .int this_one_sum])), (a_this_one_row, .inl (gI G, 8, .inl this_one_row)), (a_this_sheetBits, .inl (gI G, 4, .inl this_sheetBits)), (a_this_sheetLengths, .inl (gI G, 4, .inl this_sheetLengths)), (a_this_sheetNumbers, .inl (gII G, 4, .inr (.inr (.inr (.inr (fun j => some (e_this_sheetNumbers j))))))), (e_this_sheetNumbers 0, .inl (gI G, 24, .inl (this_sheetNumbers 0))), (e_this_sheetNumbers 1, .inl (gI G, 24, .inl (this_sheetNumbers 1))), (e_this_sheetNumbers 2, .inl (gI G, 24, .inl (this_sheetNumbers 2))), (e_this_sheetNumbers 3, .inl (gI G, 24, .inl (this_sheetNumbers 3))), (a_this_shop, .inr (7, [.ref a_this_shop_goods, .ref a_this_shop_tills, .int this_shop_takings, .int this_shop_costs, .int this_shop_goes, .int this_shop_z, .ref a_this_shop_tape, .int this_shop_fed, .ref a_this_shop_paysLaw, .ref a_this_shop_valuesLaw, .ref a_this_shop_waiting, .int this_shop_waits])), (a_this_shop_goods, .inl (gII G, 3, .inr (.inr (.inr (.inr (fun j => some (e_this_shop_goods j))))))), (e_this_shop_goods 0, .inl (gI G, 8, .inl (this_shop_goods 0))), (e_this_shop_goods 1, .inl (gI G, 8, .inl (this_shop_goods 1))), (e_this_shop_goods 2, .inl (gI G, 8, .inl (this_shop_goods 2)))]
def f_X11_basket (N : Nat) (p0 : Int32) (p1 : Int32) (this_errors : Nat → Int32) (this_one_things : Int32) (this_one_sum : Int32) (this_one_row : Nat → Int32) (this_sheetBits : Nat → Int32) (this_sheetLengths : Nat → Int32) (this_sheetNumbers : Nat → Nat → Int32) (this_shop_goods : Nat → Nat → Int32) : Option (Int32 × (Nat → Int32) × (Int32) × (Int32) × (Nat → Int32)) := ((f_X11_isSheet N p0).bind fun r1 => (if r1 = 0 then ((f_X11_error N (1 : Int32) this_errors).bind fun r3 => (some (r3.1, r3.2, this_one_things, this_one_sum, this_one_row))) else ((f_X11_within N p1 (0 : Int32) (2 : Int32)).bind fun r4 => (if r4 = 0 then ((f_X11_error N (1 : Int32) this_errors).bind fun r12 => (some (r12.1, r12.2, this_one_things, this_one_sum, this_one_row))) else ((f_X11_refusal_ N p0 (30 : Int32) this_one_things this_one_sum this_one_row this_sheetBits this_sheetLengths this_sheetNumbers this_shop_goods).bind fun r6 => (if r6.1 = 0 then (if p1 = 0 then (some (r6.2.1, this_errors, r6.2.1, r6.2.2.1, r6.2.2.2)) else (if p1 = (1 : Int32) then (some (r6.2.2.1, this_errors, r6.2.1, r6.2.2.1, r6.2.2.2)) else ((f_X0_sumBy N (this_shop_goods 1) r6.2.2.2).bind fun r10 => (some (r10, this_errors, r6.2.1, r6.2.2.1, r6.2.2.2))))) else ((f_X11_error N r6.1 this_errors).bind fun r11 => (some (r11.1, r11.2, r6.2.1, r6.2.2.1, r6.2.2.2)))))))))
set_option maxRecDepth 100000 in
set_option maxHeartbeats 4000000 in
theorem c_X11_basket (l : Launch) (G : KG) (N : Nat) (a_this : Nat) (a_this_shop : Nat) (a_this_kept : Nat) (a_this_sheetBits : Nat) (a_this_sheetLengths : Nat) (a_this_sheetNumbers : Nat) (a_this_trace : Nat) (a_this_errors : Nat) (a_this_one : Nat) (a_this_second : Nat) (a_this_extra : Nat) (a_this_room : Nat) (a_this_values : Nat) (a_this_best : Nat) (a_this_one_row : Nat) (e_this_sheetNumbers : Nat → Nat) (a_this_shop_goods : Nat) (a_this_shop_tills : Nat) (a_this_shop_tape : Nat) (a_this_shop_paysLaw : Nat) (a_this_shop_valuesLaw : Nat) (a_this_shop_waiting : Nat) (e_this_shop_goods : Nat → Nat) (p0 : Int32) (p1 : Int32) (this_imaged : Int32) (this_images : Int32) (this_bestPaid : Int32) (this_bestNet : Int32) (this_errors : Nat → Int32) (this_one_things : Int32) (this_one_sum : Int32) (this_one_row : Nat → Int32) (this_sheetBits : Nat → Int32) (this_sheetLengths : Nat → Int32) (this_sheetNumbers : Nat → Nat → Int32) (this_shop_takings : Int32) (this_shop_costs : Int32) (this_shop_goes : Int32) (this_shop_z : Int32) (this_shop_fed : Int32) (this_shop_waits : Int32) (this_shop_goods : Nat → Nat → Int32)  (out : Int32 × (Nat → Int32) × (Int32) × (Int32) × (Nat → Int32)) (hf : f_X11_basket N p0 p1 this_errors this_one_things this_one_sum this_one_row this_sheetBits this_sheetLengths this_sheetNumbers this_shop_goods = some out) : KM l G yX11_basket (kw yX11_basket cX11_basket 4 (some .int)) 4 90 [.ref a_this, .int p0, .int p1] (k_X11_basket G a_this a_this_shop a_this_kept a_this_sheetBits a_this_sheetLengths a_this_sheetNumbers a_this_trace a_this_errors a_this_one a_this_second a_this_extra a_this_room a_this_values a_this_best a_this_one_row e_this_sheetNumbers a_this_shop_goods a_this_shop_tills a_this_shop_tape a_this_shop_paysLaw a_this_shop_valuesLaw a_this_shop_waiting e_this_shop_goods this_imaged this_images this_bestPaid this_bestNet this_errors this_one_things this_one_sum this_one_row this_sheetBits this_sheetLengths this_sheetNumbers this_shop_takings this_shop_costs this_shop_goes this_shop_z this_shop_fed this_shop_waits this_shop_goods) (k_X11_basket G a_this a_this_shop a_this_kept a_this_sheetBits a_this_sheetLengths a_this_sheetNumbers a_this_trace a_this_errors a_this_one a_this_second a_this_extra a_this_room a_this_values a_this_best a_this_one_row e_this_sheetNumbers a_this_shop_goods a_this_shop_tills a_this_shop_tape a_this_shop_paysLaw a_this_shop_valuesLaw a_this_shop_waiting e_this_shop_goods this_imaged this_images this_bestPaid this_bestNet (out.2.1) (out.2.2.1) (out.2.2.2.1) (out.2.2.2.2) this_sheetBits this_sheetLengths this_sheetNumbers this_shop_takings this_shop_costs this_shop_goes this_shop_z this_shop_fed this_shop_waits this_shop_goods) (some (.int (out.1))) := by
  refine KM.of (by decide) (Nat.le_of_ble_eq_true rfl) ?_
  intro p e s m below meth c A ls args Q Fx0 hP hK hD hA hS hAm hQ hl
  obtain ⟨hx, hb, hr, hml, hts, hown, hlk, hnm⟩ := Fx0
  have hown : s.vm.findClass RX11 = some m.cls := hown
  have hl : lv_has ls 4 [(0, .ref a_this), (1, .int p0), (2, .int p1)] := hl
  have fl_52 := hts _ tw_342
  have fl_10 := hts _ tw_333
  have fl_93 := va_Nw.use (A := args) rfl (hAm.1 _ nw_X11_93 rfl)
  have fl_163 := va_Nw.use (A := args) rfl (hAm.1 _ nw_X11_163 rfl)
  have fl_160 := va_Nw.use (A := args) rfl (hAm.1 _ nw_X11_160 rfl)
  unfold f_X11_basket at hf
  refine lv_iload_n hx hb dX11_basket_0 rfl (lv_at hl 1 rfl) ?_
  obtain ⟨r1, hr1, hf⟩ := kb hf
  refine kS (As := [.int p0]) (rest := []) ⟨hx, hb, hml, hown, hts⟩ (c_X11_isSheet l G N p0 r1 hr1) (kcS 1 hts tw_682 tw_80 tw_680 tw_681 hd_X11_isSheet ⟨Nat.le_of_ble_eq_true rfl, Nat.le_of_ble_eq_true rfl⟩) dX11_basket_1 hl.1 hK hAm hA hP hD hS [] rfl rfl rfl [] rfl rfl rfl (Nat.le_of_ble_eq_true rfl) ⟨Nat.le_refl _, Nat.le_refl _⟩ (fun H locs hP hD hS => ?_)
  have hP : va_P (gD G) vwCl (k_X11_basket G a_this a_this_shop a_this_kept a_this_sheetBits a_this_sheetLengths a_this_sheetNumbers a_this_trace a_this_errors a_this_one a_this_second a_this_extra a_this_room a_this_values a_this_best a_this_one_row e_this_sheetNumbers a_this_shop_goods a_this_shop_tills a_this_shop_tape a_this_shop_paysLaw a_this_shop_valuesLaw a_this_shop_waiting e_this_shop_goods this_imaged this_images this_bestPaid this_bestNet this_errors this_one_things this_one_sum this_one_row this_sheetBits this_sheetLengths this_sheetNumbers this_shop_takings this_shop_costs this_shop_goes this_shop_z this_shop_fed this_shop_waits this_shop_goods) H := hP
  have hD : va_D A (k_X11_basket G a_this a_this_shop a_this_kept a_this_sheetBits a_this_sheetLengths a_this_sheetNumbers a_this_trace a_this_errors a_this_one a_this_second a_this_extra a_this_room a_this_values a_this_best a_this_one_row e_this_sheetNumbers a_this_shop_goods a_this_shop_tills a_this_shop_tape a_this_shop_paysLaw a_this_shop_valuesLaw a_this_shop_waiting e_this_shop_goods this_imaged this_images this_bestPaid this_bestNet this_errors this_one_things this_one_sum this_one_row this_sheetBits this_sheetLengths this_sheetNumbers this_shop_takings this_shop_costs this_shop_goes this_shop_z this_shop_fed this_shop_waits this_shop_goods) := hD
  refine lv_if_eq (tgt := 16) hx hb dX11_basket_4 (by decide) (fun c2 => ?_) (fun c2 => ?_)
  · replace hf := kt c2 hf
    refine lv_aload_n hx hb dX11_basket_16 rfl (lv_at hl 0 rfl) ?_
    refine lv_iconst (v := (1 : Int32)) hx hb dX11_basket_17 (by decide) ?_
    obtain ⟨r3, hr3, hf⟩ := kb hf
    refine kV (As := [.int (1 : Int32)]) (rest := []) ⟨hx, hb, hml, hown, hts⟩ (c_X11_error l G N a_this a_this_shop a_this_kept a_this_sheetBits a_this_sheetLengths a_this_sheetNumbers a_this_trace a_this_errors a_this_one a_this_second a_this_extra a_this_room a_this_values a_this_best (1 : Int32) this_imaged this_images this_bestPaid this_bestNet this_errors r3 hr3) (kcV 1 hts tw_405 tw_80 tw_402 tw_404 tw_0 hd_X11_error ⟨Nat.le_of_ble_eq_true rfl, Nat.le_of_ble_eq_true rfl⟩) dX11_basket_18 hl.1 hK hAm hA hP hD hS 0 (ci := 11) rfl rfl rfl [0, 1] rfl rfl rfl [1] rfl rfl rfl (Nat.le_of_ble_eq_true rfl) ⟨Nat.le_refl _, Nat.le_refl _⟩ (fun H locs hP hD hS => ?_)
    have hP : va_P (gD G) vwCl (k_X11_basket G a_this a_this_shop a_this_kept a_this_sheetBits a_this_sheetLengths a_this_sheetNumbers a_this_trace a_this_errors a_this_one a_this_second a_this_extra a_this_room a_this_values a_this_best a_this_one_row e_this_sheetNumbers a_this_shop_goods a_this_shop_tills a_this_shop_tape a_this_shop_paysLaw a_this_shop_valuesLaw a_this_shop_waiting e_this_shop_goods this_imaged this_images this_bestPaid this_bestNet r3.2 this_one_things this_one_sum this_one_row this_sheetBits this_sheetLengths this_sheetNumbers this_shop_takings this_shop_costs this_shop_goes this_shop_z this_shop_fed this_shop_waits this_shop_goods) H := hP
    have hD : va_D A (k_X11_basket G a_this a_this_shop a_this_kept a_this_sheetBits a_this_sheetLengths a_this_sheetNumbers a_this_trace a_this_errors a_this_one a_this_second a_this_extra a_this_room a_this_values a_this_best a_this_one_row e_this_sheetNumbers a_this_shop_goods a_this_shop_tills a_this_shop_tape a_this_shop_paysLaw a_this_shop_valuesLaw a_this_shop_waiting e_this_shop_goods this_imaged this_images this_bestPaid this_bestNet r3.2 this_one_things this_one_sum this_one_row this_sheetBits this_sheetLengths this_sheetNumbers this_shop_takings this_shop_costs this_shop_goes this_shop_z this_shop_fed this_shop_waits this_shop_goods) := hD
    have ho := ks hf
    subst ho
    exact kiret hx hb hr hlk hP hD hS hQ dX11_basket_21
  · replace hf := kf c2 hf
    refine lv_iload_n hx hb dX11_basket_7 rfl (lv_at hl 2 rfl) ?_
    refine lv_iconst (v := (0 : Int32)) hx hb dX11_basket_8 (by decide) ?_
    refine lv_iconst (v := (2 : Int32)) hx hb dX11_basket_9 (by decide) ?_
    obtain ⟨r4, hr4, hf⟩ := kb hf
    refine kS (As := [.int p1, .int (0 : Int32), .int (2 : Int32)]) (rest := []) ⟨hx, hb, hml, hown, hts⟩ (c_X11_within l G N p1 (0 : Int32) (2 : Int32) r4 hr4) (kcS 3 hts tw_394 tw_80 tw_392 tw_393 hd_X11_within ⟨Nat.le_of_ble_eq_true rfl, Nat.le_of_ble_eq_true rfl⟩) dX11_basket_10 hl.1 hK hAm hA hP hD hS [] rfl rfl rfl [] rfl rfl rfl (Nat.le_of_ble_eq_true rfl) ⟨Nat.le_refl _, Nat.le_refl _⟩ (fun H locs hP hD hS => ?_)
    have hP : va_P (gD G) vwCl (k_X11_basket G a_this a_this_shop a_this_kept a_this_sheetBits a_this_sheetLengths a_this_sheetNumbers a_this_trace a_this_errors a_this_one a_this_second a_this_extra a_this_room a_this_values a_this_best a_this_one_row e_this_sheetNumbers a_this_shop_goods a_this_shop_tills a_this_shop_tape a_this_shop_paysLaw a_this_shop_valuesLaw a_this_shop_waiting e_this_shop_goods this_imaged this_images this_bestPaid this_bestNet this_errors this_one_things this_one_sum this_one_row this_sheetBits this_sheetLengths this_sheetNumbers this_shop_takings this_shop_costs this_shop_goes this_shop_z this_shop_fed this_shop_waits this_shop_goods) H := hP
    have hD : va_D A (k_X11_basket G a_this a_this_shop a_this_kept a_this_sheetBits a_this_sheetLengths a_this_sheetNumbers a_this_trace a_this_errors a_this_one a_this_second a_this_extra a_this_room a_this_values a_this_best a_this_one_row e_this_sheetNumbers a_this_shop_goods a_this_shop_tills a_this_shop_tape a_this_shop_paysLaw a_this_shop_valuesLaw a_this_shop_waiting e_this_shop_goods this_imaged this_images this_bestPaid this_bestNet this_errors this_one_things this_one_sum this_one_row this_sheetBits this_sheetLengths this_sheetNumbers this_shop_takings this_shop_costs this_shop_goes this_shop_z this_shop_fed this_shop_waits this_shop_goods) := hD
    refine lv_if_ne (tgt := 22) hx hb dX11_basket_13 (by decide) (fun c5 => ?_) (fun c5 => ?_)
    · replace hf := kf c5 hf
      refine lv_aload_n hx hb dX11_basket_22 rfl (lv_at hl 0 rfl) ?_
      refine lv_iload_n hx hb dX11_basket_23 rfl (lv_at hl 1 rfl) ?_
      refine lv_bipush (v := (30 : Int32)) hx hb dX11_basket_24 (by decide) ?_
      obtain ⟨r6, hr6, hf⟩ := kb hf
      refine kV (As := [.int p0, .int (30 : Int32)]) (rest := []) ⟨hx, hb, hml, hown, hts⟩ (c_X11_refusal_ l G N a_this a_this_shop a_this_kept a_this_sheetBits a_this_sheetLengths a_this_sheetNumbers a_this_trace a_this_errors a_this_one a_this_second a_this_extra a_this_room a_this_values a_this_best a_this_one_row e_this_sheetNumbers a_this_shop_goods a_this_shop_tills a_this_shop_tape a_this_shop_paysLaw a_this_shop_valuesLaw a_this_shop_waiting e_this_shop_goods p0 (30 : Int32) this_imaged this_images this_bestPaid this_bestNet this_one_things this_one_sum this_one_row this_sheetBits this_sheetLengths this_sheetNumbers this_shop_takings this_shop_costs this_shop_goes this_shop_z this_shop_fed this_shop_waits this_shop_goods r6 hr6) (kcV 2 hts tw_686 tw_80 tw_683 tw_685 tw_18 hd_X11_refusal_ ⟨Nat.le_of_ble_eq_true rfl, Nat.le_of_ble_eq_true rfl⟩) dX11_basket_26 hl.1 hK hAm hA hP hD hS 0 (ci := 11) rfl rfl rfl [0, 2, 3, 4, 5, 6, 7, 8, 9, 10, 11, 12, 13, 14, 15] rfl rfl rfl [1, 2] rfl rfl rfl (Nat.le_of_ble_eq_true rfl) ⟨Nat.le_refl _, Nat.le_refl _⟩ (fun H locs hP hD hS => ?_)
      have hP : va_P (gD G) vwCl (k_X11_basket G a_this a_this_shop a_this_kept a_this_sheetBits a_this_sheetLengths a_this_sheetNumbers a_this_trace a_this_errors a_this_one a_this_second a_this_extra a_this_room a_this_values a_this_best a_this_one_row e_this_sheetNumbers a_this_shop_goods a_this_shop_tills a_this_shop_tape a_this_shop_paysLaw a_this_shop_valuesLaw a_this_shop_waiting e_this_shop_goods this_imaged this_images this_bestPaid this_bestNet this_errors r6.2.1 r6.2.2.1 r6.2.2.2 this_sheetBits this_sheetLengths this_sheetNumbers this_shop_takings this_shop_costs this_shop_goes this_shop_z this_shop_fed this_shop_waits this_shop_goods) H := hP
      have hD : va_D A (k_X11_basket G a_this a_this_shop a_this_kept a_this_sheetBits a_this_sheetLengths a_this_sheetNumbers a_this_trace a_this_errors a_this_one a_this_second a_this_extra a_this_room a_this_values a_this_best a_this_one_row e_this_sheetNumbers a_this_shop_goods a_this_shop_tills a_this_shop_tape a_this_shop_paysLaw a_this_shop_valuesLaw a_this_shop_waiting e_this_shop_goods this_imaged this_images this_bestPaid this_bestNet this_errors r6.2.1 r6.2.2.1 r6.2.2.2 this_sheetBits this_sheetLengths this_sheetNumbers this_shop_takings this_shop_costs this_shop_goes this_shop_z this_shop_fed this_shop_waits this_shop_goods) := hD
      refine lv_istore_n (lv' := [(3, .int r6.1), (0, .ref a_this), (1, .int p0), (2, .int p1)]) hx hb dX11_basket_29 rfl hl (by decide) rfl (fun ls hl => ?_)
      refine lv_iload_n hx hb dX11_basket_30 rfl (lv_at hl 0 rfl) ?_
      refine lv_if_eq (tgt := 40) hx hb dX11_basket_31 (by decide) (fun c7 => ?_) (fun c7 => ?_)
      · replace hf := kt c7 hf
        refine lv_iload_n hx hb dX11_basket_40 rfl (lv_at hl 3 rfl) ?_
        refine lv_if_ne (tgt := 52) hx hb dX11_basket_41 (by decide) (fun c8 => ?_) (fun c8 => ?_)
        · replace hf := kf c8 hf
          refine lv_iload_n hx hb dX11_basket_52 rfl (lv_at hl 3 rfl) ?_
          refine lv_iconst (v := (1 : Int32)) hx hb dX11_basket_53 (by decide) ?_
          refine lv_icmp_ne (tgt := 67) hx hb dX11_basket_54 (by decide) (fun c9 => ?_) (fun c9 => ?_)
          · replace hf := kf c9 hf
            refine lv_aload_n hx hb dX11_basket_67 rfl (lv_at hl 1 rfl) ?_
            refine va_get (D := gD G) (ci := 11) (C := RX11) (T := TX11) (N := 17) hx hb hts hin_X11 hown hK hP 0 rfl rfl 9 (by decide) fl_52 (fun _ h9 => h9) rfl dX11_basket_68 ?_
            refine lv_aload_n hx hb dX11_basket_71 rfl (lv_at hl 1 rfl) ?_
            refine va_get (D := gD G) (ci := 11) (C := RX11) (T := TX11) (N := 17) hx hb hts hin_X11 hown hK hP 0 rfl rfl 0 (by decide) fl_10 (fun _ h9 => h9) rfl dX11_basket_72 ?_
            refine va_getN (D := gD G) (ci := 7) (C := RX7) (T := TX7) (N := 12) hx hb hts hin_X7 hown hK hP 11 rfl rfl 0 (by decide) fl_93 (fun _ h9 => h9) rfl dX11_basket_75 ?_
            refine lv_iconst (v := (1 : Int32)) hx hb dX11_basket_78 (by decide) ?_
            refine ka_aald hx hb hK hP 12 rfl (vin_of (by decide)) dX11_basket_79 ?_
            obtain ⟨r10, hr10, hf⟩ := kb hf
            refine kVN (As := [.ref (e_this_shop_goods 1)]) (rest := []) ⟨hx, hb, hml, hown, hts⟩ (c_X0_sumBy l G N (e_this_shop_goods 1) a_this_one a_this_one_row (this_shop_goods 1) r6.2.1 r6.2.2.1 r6.2.2.2 r10 hr10) ⟨kcN 1 hts hAm nw_X11_166 tw_706 tw_91 hd_X0_sumBy ⟨Nat.le_of_ble_eq_true rfl, Nat.le_of_ble_eq_true rfl⟩, hts _ tw_705, hts _ tw_23⟩ dX11_basket_80 hl.1 hK hAm hA hP hD hS 2 (ci := 0) rfl rfl rfl [14, 2, 3] rfl rfl rfl [] rfl rfl rfl (Nat.le_of_ble_eq_true rfl) ⟨Nat.le_refl _, Nat.le_refl _⟩ (fun H locs hP hD hS => ?_)
            have hP : va_P (gD G) vwCl (k_X11_basket G a_this a_this_shop a_this_kept a_this_sheetBits a_this_sheetLengths a_this_sheetNumbers a_this_trace a_this_errors a_this_one a_this_second a_this_extra a_this_room a_this_values a_this_best a_this_one_row e_this_sheetNumbers a_this_shop_goods a_this_shop_tills a_this_shop_tape a_this_shop_paysLaw a_this_shop_valuesLaw a_this_shop_waiting e_this_shop_goods this_imaged this_images this_bestPaid this_bestNet this_errors r6.2.1 r6.2.2.1 r6.2.2.2 this_sheetBits this_sheetLengths this_sheetNumbers this_shop_takings this_shop_costs this_shop_goes this_shop_z this_shop_fed this_shop_waits this_shop_goods) H := hP
            have hD : va_D A (k_X11_basket G a_this a_this_shop a_this_kept a_this_sheetBits a_this_sheetLengths a_this_sheetNumbers a_this_trace a_this_errors a_this_one a_this_second a_this_extra a_this_room a_this_values a_this_best a_this_one_row e_this_sheetNumbers a_this_shop_goods a_this_shop_tills a_this_shop_tape a_this_shop_paysLaw a_this_shop_valuesLaw a_this_shop_waiting e_this_shop_goods this_imaged this_images this_bestPaid this_bestNet this_errors r6.2.1 r6.2.2.1 r6.2.2.2 this_sheetBits this_sheetLengths this_sheetNumbers this_shop_takings this_shop_costs this_shop_goes this_shop_z this_shop_fed this_shop_waits this_shop_goods) := hD
            have ho := ks hf
            subst ho
            exact kiret hx hb hr hlk hP hD hS hQ dX11_basket_83
          · replace hf := kt c9 hf
            refine lv_aload_n hx hb dX11_basket_57 rfl (lv_at hl 1 rfl) ?_
            refine va_get (D := gD G) (ci := 11) (C := RX11) (T := TX11) (N := 17) hx hb hts hin_X11 hown hK hP 0 rfl rfl 9 (by decide) fl_52 (fun _ h9 => h9) rfl dX11_basket_58 ?_
            refine va_getN (D := gD G) (ci := 0) (C := RX0) (T := TX0) (N := 3) hx hb hts hin_X0 hown hK hP 2 rfl rfl 2 (by decide) fl_163 (fun _ h9 => h9) rfl dX11_basket_61 ?_
            refine lv_goto (tgt := 83) hx hb dX11_basket_64 (by decide) ?_
            have ho := ks hf
            subst ho
            exact kiret hx hb hr hlk hP hD hS hQ dX11_basket_83
        · replace hf := kt c8 hf
          refine lv_aload_n hx hb dX11_basket_44 rfl (lv_at hl 1 rfl) ?_
          refine va_get (D := gD G) (ci := 11) (C := RX11) (T := TX11) (N := 17) hx hb hts hin_X11 hown hK hP 0 rfl rfl 9 (by decide) fl_52 (fun _ h9 => h9) rfl dX11_basket_45 ?_
          refine va_getN (D := gD G) (ci := 0) (C := RX0) (T := TX0) (N := 3) hx hb hts hin_X0 hown hK hP 2 rfl rfl 1 (by decide) fl_160 (fun _ h9 => h9) rfl dX11_basket_48 ?_
          have ho := ks hf
          subst ho
          exact kiret hx hb hr hlk hP hD hS hQ dX11_basket_51
      · replace hf := kf c7 hf
        refine lv_aload_n hx hb dX11_basket_34 rfl (lv_at hl 1 rfl) ?_
        refine lv_iload_n hx hb dX11_basket_35 rfl (lv_at hl 0 rfl) ?_
        obtain ⟨r11, hr11, hf⟩ := kb hf
        refine kV (As := [.int r6.1]) (rest := []) ⟨hx, hb, hml, hown, hts⟩ (c_X11_error l G N a_this a_this_shop a_this_kept a_this_sheetBits a_this_sheetLengths a_this_sheetNumbers a_this_trace a_this_errors a_this_one a_this_second a_this_extra a_this_room a_this_values a_this_best r6.1 this_imaged this_images this_bestPaid this_bestNet this_errors r11 hr11) (kcV 1 hts tw_405 tw_80 tw_402 tw_404 tw_0 hd_X11_error ⟨Nat.le_of_ble_eq_true rfl, Nat.le_of_ble_eq_true rfl⟩) dX11_basket_36 hl.1 hK hAm hA hP hD hS 0 (ci := 11) rfl rfl rfl [0, 1] rfl rfl rfl [1] rfl rfl rfl (Nat.le_of_ble_eq_true rfl) ⟨Nat.le_refl _, Nat.le_refl _⟩ (fun H locs hP hD hS => ?_)
        have hP : va_P (gD G) vwCl (k_X11_basket G a_this a_this_shop a_this_kept a_this_sheetBits a_this_sheetLengths a_this_sheetNumbers a_this_trace a_this_errors a_this_one a_this_second a_this_extra a_this_room a_this_values a_this_best a_this_one_row e_this_sheetNumbers a_this_shop_goods a_this_shop_tills a_this_shop_tape a_this_shop_paysLaw a_this_shop_valuesLaw a_this_shop_waiting e_this_shop_goods this_imaged this_images this_bestPaid this_bestNet r11.2 r6.2.1 r6.2.2.1 r6.2.2.2 this_sheetBits this_sheetLengths this_sheetNumbers this_shop_takings this_shop_costs this_shop_goes this_shop_z this_shop_fed this_shop_waits this_shop_goods) H := hP
        have hD : va_D A (k_X11_basket G a_this a_this_shop a_this_kept a_this_sheetBits a_this_sheetLengths a_this_sheetNumbers a_this_trace a_this_errors a_this_one a_this_second a_this_extra a_this_room a_this_values a_this_best a_this_one_row e_this_sheetNumbers a_this_shop_goods a_this_shop_tills a_this_shop_tape a_this_shop_paysLaw a_this_shop_valuesLaw a_this_shop_waiting e_this_shop_goods this_imaged this_images this_bestPaid this_bestNet r11.2 r6.2.1 r6.2.2.1 r6.2.2.2 this_sheetBits this_sheetLengths this_sheetNumbers this_shop_takings this_shop_costs this_shop_goes this_shop_z this_shop_fed this_shop_waits this_shop_goods) := hD
        have ho := ks hf
        subst ho
        exact kiret hx hb hr hlk hP hD hS hQ dX11_basket_39
    · replace hf := kt c5 hf
      refine lv_aload_n hx hb dX11_basket_16 rfl (lv_at hl 0 rfl) ?_
      refine lv_iconst (v := (1 : Int32)) hx hb dX11_basket_17 (by decide) ?_
      obtain ⟨r12, hr12, hf⟩ := kb hf
      refine kV (As := [.int (1 : Int32)]) (rest := []) ⟨hx, hb, hml, hown, hts⟩ (c_X11_error l G N a_this a_this_shop a_this_kept a_this_sheetBits a_this_sheetLengths a_this_sheetNumbers a_this_trace a_this_errors a_this_one a_this_second a_this_extra a_this_room a_this_values a_this_best (1 : Int32) this_imaged this_images this_bestPaid this_bestNet this_errors r12 hr12) (kcV 1 hts tw_405 tw_80 tw_402 tw_404 tw_0 hd_X11_error ⟨Nat.le_of_ble_eq_true rfl, Nat.le_of_ble_eq_true rfl⟩) dX11_basket_18 hl.1 hK hAm hA hP hD hS 0 (ci := 11) rfl rfl rfl [0, 1] rfl rfl rfl [1] rfl rfl rfl (Nat.le_of_ble_eq_true rfl) ⟨Nat.le_refl _, Nat.le_refl _⟩ (fun H locs hP hD hS => ?_)
      have hP : va_P (gD G) vwCl (k_X11_basket G a_this a_this_shop a_this_kept a_this_sheetBits a_this_sheetLengths a_this_sheetNumbers a_this_trace a_this_errors a_this_one a_this_second a_this_extra a_this_room a_this_values a_this_best a_this_one_row e_this_sheetNumbers a_this_shop_goods a_this_shop_tills a_this_shop_tape a_this_shop_paysLaw a_this_shop_valuesLaw a_this_shop_waiting e_this_shop_goods this_imaged this_images this_bestPaid this_bestNet r12.2 this_one_things this_one_sum this_one_row this_sheetBits this_sheetLengths this_sheetNumbers this_shop_takings this_shop_costs this_shop_goes this_shop_z this_shop_fed this_shop_waits this_shop_goods) H := hP
      have hD : va_D A (k_X11_basket G a_this a_this_shop a_this_kept a_this_sheetBits a_this_sheetLengths a_this_sheetNumbers a_this_trace a_this_errors a_this_one a_this_second a_this_extra a_this_room a_this_values a_this_best a_this_one_row e_this_sheetNumbers a_this_shop_goods a_this_shop_tills a_this_shop_tape a_this_shop_paysLaw a_this_shop_valuesLaw a_this_shop_waiting e_this_shop_goods this_imaged this_images this_bestPaid this_bestNet r12.2 this_one_things this_one_sum this_one_row this_sheetBits this_sheetLengths this_sheetNumbers this_shop_takings this_shop_costs this_shop_goes this_shop_z this_shop_fed this_shop_waits this_shop_goods) := hD
      have ho := ks hf
      subst ho
      exact kiret hx hb hr hlk hP hD hS hQ dX11_basket_21
abbrev k_X11_refusal (G : KG) (a_this : Nat) (a_this_shop : Nat) (a_this_kept : Nat) (a_this_sheetBits : Nat) (a_this_sheetLengths : Nat) (a_this_sheetNumbers : Nat) (a_this_trace : Nat) (a_this_errors : Nat) (a_this_one : Nat) (a_this_second : Nat) (a_this_extra : Nat) (a_this_room : Nat) (a_this_values : Nat) (a_this_best : Nat) (a_this_one_row : Nat) (e_this_sheetNumbers : Nat → Nat) (a_this_shop_goods : Nat) (a_this_shop_tills : Nat) (a_this_shop_tape : Nat) (a_this_shop_paysLaw : Nat) (a_this_shop_valuesLaw : Nat) (a_this_shop_waiting : Nat) (e_this_shop_goods : Nat → Nat) (this_imaged : Int32) (this_images : Int32) (this_bestPaid : Int32) (this_bestNet : Int32) (this_one_things : Int32) (this_one_sum : Int32) (this_one_row : Nat → Int32) (this_sheetBits : Nat → Int32) (this_sheetLengths : Nat → Int32) (this_sheetNumbers : Nat → Nat → Int32) (this_shop_takings : Int32) (this_shop_costs : Int32) (this_shop_goes : Int32) (this_shop_z : Int32) (this_shop_fed : Int32) (this_shop_waits : Int32) (this_shop_goods : Nat → Nat → Int32) : va_W := [(a_this, .inr (11, [.ref a_this_shop, .ref a_this_kept, .int this_imaged, .int this_images, .ref a_this_sheetBits, .ref a_this_sheetLengths, .ref a_this_sheetNumbers, .ref a_this_trace, .ref a_this_errors, .ref a_this_one, .ref a_this_second, .ref a_this_extra, .ref a_this_room, .ref a_this_values, .ref a_this_best, .int this_bestPaid, .int this_bestNet])), (a_this_one, .inr (0, [.ref a_this_one_row, .int this_one_things, .int this_one_sum])), (a_this_one_row, .inl (gI G, 8, .inl this_one_row)), (a_this_sheetBits, .inl (gI G, 4, .inl this_sheetBits)), (a_this_sheetLengths, .inl (gI G, 4, .inl this_sheetLengths)), (a_this_sheetNumbers, .inl (gII G, 4, .inr (.inr (.inr (.inr (fun j => some (e_this_sheetNumbers j))))))), (e_this_sheetNumbers 0, .inl (gI G, 24, .inl (this_sheetNumbers 0))), (e_this_sheetNumbers 1, .inl (gI G, 24, .inl (this_sheetNumbers 1))), (e_this_sheetNumbers 2, .inl (gI G, 24, .inl (this_sheetNumbers 2))), (e_this_sheetNumbers 3, .inl (gI G, 24, .inl (this_sheetNumbers 3))), (a_this_shop, .inr (7, [.ref a_this_shop_goods, .ref a_this_shop_tills, .int this_shop_takings, .int this_shop_costs, .int this_shop_goes, .int this_shop_z, .ref a_this_shop_tape, .int this_shop_fed, .ref a_this_shop_paysLaw, .ref a_this_shop_valuesLaw, .ref a_this_shop_waiting, .int this_shop_waits])), (a_this_shop_goods, .inl (gII G, 3, .inr (.inr (.inr (.inr (fun j => some (e_this_shop_goods j))))))), (e_this_shop_goods 0, .inl (gI G, 8, .inl (this_shop_goods 0))), (e_this_shop_goods 1, .inl (gI G, 8, .inl (this_shop_goods 1))), (e_this_shop_goods 2, .inl (gI G, 8, .inl (this_shop_goods 2)))]
def f_X11_refusal (N : Nat) (p0 : Int32) (p1 : Int32) (p2 : Int32) (this_one_things : Int32) (this_one_sum : Int32) (this_one_row : Nat → Int32) (this_sheetBits : Nat → Int32) (this_sheetLengths : Nat → Int32) (this_sheetNumbers : Nat → Nat → Int32) (this_shop_goods : Nat → Nat → Int32) : Option (Int32 × (Int32) × (Int32) × (Nat → Int32)) := ((f_X11_isSheet N p0).bind fun r1 => (if r1 = 0 then (some ((1 : Int32), this_one_things, this_one_sum, this_one_row)) else ((f_X11_isTill N p1).bind fun r3 => (if r3 = 0 then (some ((1 : Int32), this_one_things, this_one_sum, this_one_row)) else ((f_X11_refusal_ N p0 p2 this_one_things this_one_sum this_one_row this_sheetBits this_sheetLengths this_sheetNumbers this_shop_goods).bind fun r5 => (some (r5.1, r5.2.1, r5.2.2.1, r5.2.2.2)))))))
set_option maxRecDepth 100000 in
set_option maxHeartbeats 4000000 in
theorem c_X11_refusal (l : Launch) (G : KG) (N : Nat) (a_this : Nat) (a_this_shop : Nat) (a_this_kept : Nat) (a_this_sheetBits : Nat) (a_this_sheetLengths : Nat) (a_this_sheetNumbers : Nat) (a_this_trace : Nat) (a_this_errors : Nat) (a_this_one : Nat) (a_this_second : Nat) (a_this_extra : Nat) (a_this_room : Nat) (a_this_values : Nat) (a_this_best : Nat) (a_this_one_row : Nat) (e_this_sheetNumbers : Nat → Nat) (a_this_shop_goods : Nat) (a_this_shop_tills : Nat) (a_this_shop_tape : Nat) (a_this_shop_paysLaw : Nat) (a_this_shop_valuesLaw : Nat) (a_this_shop_waiting : Nat) (e_this_shop_goods : Nat → Nat) (p0 : Int32) (p1 : Int32) (p2 : Int32) (this_imaged : Int32) (this_images : Int32) (this_bestPaid : Int32) (this_bestNet : Int32) (this_one_things : Int32) (this_one_sum : Int32) (this_one_row : Nat → Int32) (this_sheetBits : Nat → Int32) (this_sheetLengths : Nat → Int32) (this_sheetNumbers : Nat → Nat → Int32) (this_shop_takings : Int32) (this_shop_costs : Int32) (this_shop_goes : Int32) (this_shop_z : Int32) (this_shop_fed : Int32) (this_shop_waits : Int32) (this_shop_goods : Nat → Nat → Int32)  (out : Int32 × (Int32) × (Int32) × (Nat → Int32)) (hf : f_X11_refusal N p0 p1 p2 this_one_things this_one_sum this_one_row this_sheetBits this_sheetLengths this_sheetNumbers this_shop_goods = some out) : KM l G yX11_refusal (kw yX11_refusal cX11_refusal 4 (some .int)) 4 90 [.ref a_this, .int p0, .int p1, .int p2] (k_X11_refusal G a_this a_this_shop a_this_kept a_this_sheetBits a_this_sheetLengths a_this_sheetNumbers a_this_trace a_this_errors a_this_one a_this_second a_this_extra a_this_room a_this_values a_this_best a_this_one_row e_this_sheetNumbers a_this_shop_goods a_this_shop_tills a_this_shop_tape a_this_shop_paysLaw a_this_shop_valuesLaw a_this_shop_waiting e_this_shop_goods this_imaged this_images this_bestPaid this_bestNet this_one_things this_one_sum this_one_row this_sheetBits this_sheetLengths this_sheetNumbers this_shop_takings this_shop_costs this_shop_goes this_shop_z this_shop_fed this_shop_waits this_shop_goods) (k_X11_refusal G a_this a_this_shop a_this_kept a_this_sheetBits a_this_sheetLengths a_this_sheetNumbers a_this_trace a_this_errors a_this_one a_this_second a_this_extra a_this_room a_this_values a_this_best a_this_one_row e_this_sheetNumbers a_this_shop_goods a_this_shop_tills a_this_shop_tape a_this_shop_paysLaw a_this_shop_valuesLaw a_this_shop_waiting e_this_shop_goods this_imaged this_images this_bestPaid this_bestNet (out.2.1) (out.2.2.1) (out.2.2.2) this_sheetBits this_sheetLengths this_sheetNumbers this_shop_takings this_shop_costs this_shop_goes this_shop_z this_shop_fed this_shop_waits this_shop_goods) (some (.int (out.1))) := by
  refine KM.of (by decide) (Nat.le_of_ble_eq_true rfl) ?_
  intro p e s m below meth c A ls args Q Fx0 hP hK hD hA hS hAm hQ hl
  obtain ⟨hx, hb, hr, hml, hts, hown, hlk, hnm⟩ := Fx0
  have hown : s.vm.findClass RX11 = some m.cls := hown
  have hl : lv_has ls 4 [(0, .ref a_this), (1, .int p0), (2, .int p1), (3, .int p2)] := hl
  unfold f_X11_refusal at hf
  refine lv_iload_n hx hb dX11_refusal_0 rfl (lv_at hl 1 rfl) ?_
  obtain ⟨r1, hr1, hf⟩ := kb hf
  refine kS (As := [.int p0]) (rest := []) ⟨hx, hb, hml, hown, hts⟩ (c_X11_isSheet l G N p0 r1 hr1) (kcS 1 hts tw_682 tw_80 tw_680 tw_681 hd_X11_isSheet ⟨Nat.le_of_ble_eq_true rfl, Nat.le_of_ble_eq_true rfl⟩) dX11_refusal_1 hl.1 hK hAm hA hP hD hS [] rfl rfl rfl [] rfl rfl rfl (Nat.le_of_ble_eq_true rfl) ⟨Nat.le_refl _, Nat.le_refl _⟩ (fun H locs hP hD hS => ?_)
  have hP : va_P (gD G) vwCl (k_X11_refusal G a_this a_this_shop a_this_kept a_this_sheetBits a_this_sheetLengths a_this_sheetNumbers a_this_trace a_this_errors a_this_one a_this_second a_this_extra a_this_room a_this_values a_this_best a_this_one_row e_this_sheetNumbers a_this_shop_goods a_this_shop_tills a_this_shop_tape a_this_shop_paysLaw a_this_shop_valuesLaw a_this_shop_waiting e_this_shop_goods this_imaged this_images this_bestPaid this_bestNet this_one_things this_one_sum this_one_row this_sheetBits this_sheetLengths this_sheetNumbers this_shop_takings this_shop_costs this_shop_goes this_shop_z this_shop_fed this_shop_waits this_shop_goods) H := hP
  have hD : va_D A (k_X11_refusal G a_this a_this_shop a_this_kept a_this_sheetBits a_this_sheetLengths a_this_sheetNumbers a_this_trace a_this_errors a_this_one a_this_second a_this_extra a_this_room a_this_values a_this_best a_this_one_row e_this_sheetNumbers a_this_shop_goods a_this_shop_tills a_this_shop_tape a_this_shop_paysLaw a_this_shop_valuesLaw a_this_shop_waiting e_this_shop_goods this_imaged this_images this_bestPaid this_bestNet this_one_things this_one_sum this_one_row this_sheetBits this_sheetLengths this_sheetNumbers this_shop_takings this_shop_costs this_shop_goes this_shop_z this_shop_fed this_shop_waits this_shop_goods) := hD
  refine lv_if_eq (tgt := 23) hx hb dX11_refusal_4 (by decide) (fun c2 => ?_) (fun c2 => ?_)
  · replace hf := kt c2 hf
    refine lv_iconst (v := (1 : Int32)) hx hb dX11_refusal_23 (by decide) ?_
    have ho := ks hf
    subst ho
    exact kiret hx hb hr hlk hP hD hS hQ dX11_refusal_24
  · replace hf := kf c2 hf
    refine lv_iload_n hx hb dX11_refusal_7 rfl (lv_at hl 2 rfl) ?_
    obtain ⟨r3, hr3, hf⟩ := kb hf
    refine kS (As := [.int p1]) (rest := []) ⟨hx, hb, hml, hown, hts⟩ (c_X11_isTill l G N p1 r3 hr3) (kcS 1 hts tw_444 tw_80 tw_442 tw_443 hd_X11_isTill ⟨Nat.le_of_ble_eq_true rfl, Nat.le_of_ble_eq_true rfl⟩) dX11_refusal_8 hl.1 hK hAm hA hP hD hS [] rfl rfl rfl [] rfl rfl rfl (Nat.le_of_ble_eq_true rfl) ⟨Nat.le_refl _, Nat.le_refl _⟩ (fun H locs hP hD hS => ?_)
    have hP : va_P (gD G) vwCl (k_X11_refusal G a_this a_this_shop a_this_kept a_this_sheetBits a_this_sheetLengths a_this_sheetNumbers a_this_trace a_this_errors a_this_one a_this_second a_this_extra a_this_room a_this_values a_this_best a_this_one_row e_this_sheetNumbers a_this_shop_goods a_this_shop_tills a_this_shop_tape a_this_shop_paysLaw a_this_shop_valuesLaw a_this_shop_waiting e_this_shop_goods this_imaged this_images this_bestPaid this_bestNet this_one_things this_one_sum this_one_row this_sheetBits this_sheetLengths this_sheetNumbers this_shop_takings this_shop_costs this_shop_goes this_shop_z this_shop_fed this_shop_waits this_shop_goods) H := hP
    have hD : va_D A (k_X11_refusal G a_this a_this_shop a_this_kept a_this_sheetBits a_this_sheetLengths a_this_sheetNumbers a_this_trace a_this_errors a_this_one a_this_second a_this_extra a_this_room a_this_values a_this_best a_this_one_row e_this_sheetNumbers a_this_shop_goods a_this_shop_tills a_this_shop_tape a_this_shop_paysLaw a_this_shop_valuesLaw a_this_shop_waiting e_this_shop_goods this_imaged this_images this_bestPaid this_bestNet this_one_things this_one_sum this_one_row this_sheetBits this_sheetLengths this_sheetNumbers this_shop_takings this_shop_costs this_shop_goes this_shop_z this_shop_fed this_shop_waits this_shop_goods) := hD
    refine lv_if_eq (tgt := 23) hx hb dX11_refusal_11 (by decide) (fun c4 => ?_) (fun c4 => ?_)
    · replace hf := kt c4 hf
      refine lv_iconst (v := (1 : Int32)) hx hb dX11_refusal_23 (by decide) ?_
      have ho := ks hf
      subst ho
      exact kiret hx hb hr hlk hP hD hS hQ dX11_refusal_24
    · replace hf := kf c4 hf
      refine lv_aload_n hx hb dX11_refusal_14 rfl (lv_at hl 0 rfl) ?_
      refine lv_iload_n hx hb dX11_refusal_15 rfl (lv_at hl 1 rfl) ?_
      refine lv_iload_n hx hb dX11_refusal_16 rfl (lv_at hl 3 rfl) ?_
      obtain ⟨r5, hr5, hf⟩ := kb hf
      refine kV (As := [.int p0, .int p2]) (rest := []) ⟨hx, hb, hml, hown, hts⟩ (c_X11_refusal_ l G N a_this a_this_shop a_this_kept a_this_sheetBits a_this_sheetLengths a_this_sheetNumbers a_this_trace a_this_errors a_this_one a_this_second a_this_extra a_this_room a_this_values a_this_best a_this_one_row e_this_sheetNumbers a_this_shop_goods a_this_shop_tills a_this_shop_tape a_this_shop_paysLaw a_this_shop_valuesLaw a_this_shop_waiting e_this_shop_goods p0 p2 this_imaged this_images this_bestPaid this_bestNet this_one_things this_one_sum this_one_row this_sheetBits this_sheetLengths this_sheetNumbers this_shop_takings this_shop_costs this_shop_goes this_shop_z this_shop_fed this_shop_waits this_shop_goods r5 hr5) (kcV 2 hts tw_686 tw_80 tw_683 tw_685 tw_18 hd_X11_refusal_ ⟨Nat.le_of_ble_eq_true rfl, Nat.le_of_ble_eq_true rfl⟩) dX11_refusal_17 hl.1 hK hAm hA hP hD hS 0 (ci := 11) rfl rfl rfl [0, 1, 2, 3, 4, 5, 6, 7, 8, 9, 10, 11, 12, 13, 14] rfl rfl rfl [1, 2] rfl rfl rfl (Nat.le_of_ble_eq_true rfl) ⟨Nat.le_refl _, Nat.le_refl _⟩ (fun H locs hP hD hS => ?_)
      have hP : va_P (gD G) vwCl (k_X11_refusal G a_this a_this_shop a_this_kept a_this_sheetBits a_this_sheetLengths a_this_sheetNumbers a_this_trace a_this_errors a_this_one a_this_second a_this_extra a_this_room a_this_values a_this_best a_this_one_row e_this_sheetNumbers a_this_shop_goods a_this_shop_tills a_this_shop_tape a_this_shop_paysLaw a_this_shop_valuesLaw a_this_shop_waiting e_this_shop_goods this_imaged this_images this_bestPaid this_bestNet r5.2.1 r5.2.2.1 r5.2.2.2 this_sheetBits this_sheetLengths this_sheetNumbers this_shop_takings this_shop_costs this_shop_goes this_shop_z this_shop_fed this_shop_waits this_shop_goods) H := hP
      have hD : va_D A (k_X11_refusal G a_this a_this_shop a_this_kept a_this_sheetBits a_this_sheetLengths a_this_sheetNumbers a_this_trace a_this_errors a_this_one a_this_second a_this_extra a_this_room a_this_values a_this_best a_this_one_row e_this_sheetNumbers a_this_shop_goods a_this_shop_tills a_this_shop_tape a_this_shop_paysLaw a_this_shop_valuesLaw a_this_shop_waiting e_this_shop_goods this_imaged this_images this_bestPaid this_bestNet r5.2.1 r5.2.2.1 r5.2.2.2 this_sheetBits this_sheetLengths this_sheetNumbers this_shop_takings this_shop_costs this_shop_goes this_shop_z this_shop_fed this_shop_waits this_shop_goods) := hD
      refine lv_goto (tgt := 24) hx hb dX11_refusal_20 (by decide) ?_
      have ho := ks hf
      subst ho
      exact kiret hx hb hr hlk hP hD hS hQ dX11_refusal_24
