abbrev k_X11_till_err (G : KG) (a_this : Nat) (a_this_shop : Nat) (a_this_kept : Nat) (a_this_sheetBits : Nat) (a_this_sheetLengths : Nat) (a_this_sheetNumbers : Nat) (a_this_trace : Nat) (a_this_errors : Nat) (a_this_one : Nat) (a_this_second : Nat) (a_this_extra : Nat) (a_this_room : Nat) (a_this_values : Nat) (a_this_best : Nat) (this_imaged : Int32) (this_images : Int32) (this_bestPaid : Int32) (this_bestNet : Int32) (this_errors : Nat → Int32) : va_W := [(a_this, .inr (11, [.ref a_this_shop, .ref a_this_kept, .int this_imaged, .int this_images, .ref a_this_sheetBits, .ref a_this_sheetLengths, .ref a_this_sheetNumbers, .ref a_this_trace, .ref a_this_errors, .ref a_this_one, .ref a_this_second, .ref a_this_extra, .ref a_this_room, .ref a_this_values, .ref a_this_best, .int this_bestPaid, .int this_bestNet])), (a_this_errors, .inl (gI G, 7, .inl this_errors))]
def f_X11_till_err (N : Nat) (p0 : Int32) (p1 : Int32) (this_errors : Nat → Int32) : Option (Int32 × (Nat → Int32)) := ((f_X11_isTill N p0).bind fun r1 => (if r1 = 0 then ((f_X11_error N (1 : Int32) this_errors).bind fun r3 => (some (r3.1, r3.2))) else ((f_X11_within N p1 (0 : Int32) (69 : Int32)).bind fun r4 => (if r4 = 0 then ((f_X11_error N (1 : Int32) this_errors).bind fun r6 => (some (r6.1, r6.2))) else none))))
set_option maxRecDepth 100000 in
set_option maxHeartbeats 4000000 in
theorem c_X11_till_err (l : Launch) (G : KG) (N : Nat) (a_this : Nat) (a_this_shop : Nat) (a_this_kept : Nat) (a_this_sheetBits : Nat) (a_this_sheetLengths : Nat) (a_this_sheetNumbers : Nat) (a_this_trace : Nat) (a_this_errors : Nat) (a_this_one : Nat) (a_this_second : Nat) (a_this_extra : Nat) (a_this_room : Nat) (a_this_values : Nat) (a_this_best : Nat) (p0 : Int32) (p1 : Int32) (this_imaged : Int32) (this_images : Int32) (this_bestPaid : Int32) (this_bestNet : Int32) (this_errors : Nat → Int32)  (out : Int32 × (Nat → Int32)) (hf : f_X11_till_err N p0 p1 this_errors = some out) : KM l G yX11_till (kw yX11_till cX11_till 4 (some .int)) 2 43 [.ref a_this, .int p0, .int p1] (k_X11_till_err G a_this a_this_shop a_this_kept a_this_sheetBits a_this_sheetLengths a_this_sheetNumbers a_this_trace a_this_errors a_this_one a_this_second a_this_extra a_this_room a_this_values a_this_best this_imaged this_images this_bestPaid this_bestNet this_errors) (k_X11_till_err G a_this a_this_shop a_this_kept a_this_sheetBits a_this_sheetLengths a_this_sheetNumbers a_this_trace a_this_errors a_this_one a_this_second a_this_extra a_this_room a_this_values a_this_best this_imaged this_images this_bestPaid this_bestNet (out.2)) (some (.int (out.1))) := by
  refine KM.of (by decide) (Nat.le_of_ble_eq_true rfl) ?_
  intro p e s m below meth c A ls args Q Fx0 hP hK hD hA hS hAm hQ hl
  obtain ⟨hx, hb, hr, hml, hts, hown, hlk, hnm⟩ := Fx0
  have hown : s.vm.findClass RX11 = some m.cls := hown
  have hl : lv_has ls 4 [(0, .ref a_this), (1, .int p0), (2, .int p1)] := hl
  unfold f_X11_till_err at hf
  refine lv_iload_n hx hb dX11_till_0 rfl (lv_at hl 1 rfl) ?_
  obtain ⟨r1, hr1, hf⟩ := kb hf
  refine kS (As := [.int p0]) (rest := []) ⟨hx, hb, hml, hown, hts⟩ (c_X11_isTill l G N p0 r1 hr1) (kcS 1 hts tw_444 tw_80 tw_442 tw_443 hd_X11_isTill ⟨Nat.le_of_ble_eq_true rfl, Nat.le_of_ble_eq_true rfl⟩) dX11_till_1 hl.1 hK hAm hA hP hD hS [] rfl rfl rfl [] rfl rfl rfl (Nat.le_of_ble_eq_true rfl) ⟨Nat.le_refl _, Nat.le_refl _⟩ (fun H locs hP hD hS => ?_)
  have hP : va_P (gD G) vwCl (k_X11_till_err G a_this a_this_shop a_this_kept a_this_sheetBits a_this_sheetLengths a_this_sheetNumbers a_this_trace a_this_errors a_this_one a_this_second a_this_extra a_this_room a_this_values a_this_best this_imaged this_images this_bestPaid this_bestNet this_errors) H := hP
  have hD : va_D A (k_X11_till_err G a_this a_this_shop a_this_kept a_this_sheetBits a_this_sheetLengths a_this_sheetNumbers a_this_trace a_this_errors a_this_one a_this_second a_this_extra a_this_room a_this_values a_this_best this_imaged this_images this_bestPaid this_bestNet this_errors) := hD
  refine lv_if_eq (tgt := 17) hx hb dX11_till_4 (by decide) (fun c2 => ?_) (fun c2 => ?_)
  · replace hf := kt c2 hf
    refine lv_aload_n hx hb dX11_till_17 rfl (lv_at hl 0 rfl) ?_
    refine lv_iconst (v := (1 : Int32)) hx hb dX11_till_18 (by decide) ?_
    obtain ⟨r3, hr3, hf⟩ := kb hf
    refine kV (As := [.int (1 : Int32)]) (rest := []) ⟨hx, hb, hml, hown, hts⟩ (c_X11_error l G N a_this a_this_shop a_this_kept a_this_sheetBits a_this_sheetLengths a_this_sheetNumbers a_this_trace a_this_errors a_this_one a_this_second a_this_extra a_this_room a_this_values a_this_best (1 : Int32) this_imaged this_images this_bestPaid this_bestNet this_errors r3 hr3) (kcV 1 hts tw_405 tw_80 tw_402 tw_404 tw_0 hd_X11_error ⟨Nat.le_of_ble_eq_true rfl, Nat.le_of_ble_eq_true rfl⟩) dX11_till_19 hl.1 hK hAm hA hP hD hS 0 (ci := 11) rfl rfl rfl [0, 1] rfl rfl rfl [1] rfl rfl rfl (Nat.le_of_ble_eq_true rfl) ⟨Nat.le_refl _, Nat.le_refl _⟩ (fun H locs hP hD hS => ?_)
    have hP : va_P (gD G) vwCl (k_X11_till_err G a_this a_this_shop a_this_kept a_this_sheetBits a_this_sheetLengths a_this_sheetNumbers a_this_trace a_this_errors a_this_one a_this_second a_this_extra a_this_room a_this_values a_this_best this_imaged this_images this_bestPaid this_bestNet r3.2) H := hP
    have hD : va_D A (k_X11_till_err G a_this a_this_shop a_this_kept a_this_sheetBits a_this_sheetLengths a_this_sheetNumbers a_this_trace a_this_errors a_this_one a_this_second a_this_extra a_this_room a_this_values a_this_best this_imaged this_images this_bestPaid this_bestNet r3.2) := hD
    have ho := ks hf
    subst ho
    exact kiret hx hb hr hlk hP hD hS hQ dX11_till_22
  · replace hf := kf c2 hf
    refine lv_iload_n hx hb dX11_till_7 rfl (lv_at hl 2 rfl) ?_
    refine lv_iconst (v := (0 : Int32)) hx hb dX11_till_8 (by decide) ?_
    refine lv_bipush (v := (69 : Int32)) hx hb dX11_till_9 (by decide) ?_
    obtain ⟨r4, hr4, hf⟩ := kb hf
    refine kS (As := [.int p1, .int (0 : Int32), .int (69 : Int32)]) (rest := []) ⟨hx, hb, hml, hown, hts⟩ (c_X11_within l G N p1 (0 : Int32) (69 : Int32) r4 hr4) (kcS 3 hts tw_394 tw_80 tw_392 tw_393 hd_X11_within ⟨Nat.le_of_ble_eq_true rfl, Nat.le_of_ble_eq_true rfl⟩) dX11_till_11 hl.1 hK hAm hA hP hD hS [] rfl rfl rfl [] rfl rfl rfl (Nat.le_of_ble_eq_true rfl) ⟨Nat.le_refl _, Nat.le_refl _⟩ (fun H locs hP hD hS => ?_)
    have hP : va_P (gD G) vwCl (k_X11_till_err G a_this a_this_shop a_this_kept a_this_sheetBits a_this_sheetLengths a_this_sheetNumbers a_this_trace a_this_errors a_this_one a_this_second a_this_extra a_this_room a_this_values a_this_best this_imaged this_images this_bestPaid this_bestNet this_errors) H := hP
    have hD : va_D A (k_X11_till_err G a_this a_this_shop a_this_kept a_this_sheetBits a_this_sheetLengths a_this_sheetNumbers a_this_trace a_this_errors a_this_one a_this_second a_this_extra a_this_room a_this_values a_this_best this_imaged this_images this_bestPaid this_bestNet this_errors) := hD
    refine lv_if_ne (tgt := 23) hx hb dX11_till_14 (by decide) (fun c5 => ?_) (fun c5 => ?_)
    · replace hf := kf c5 hf
      cases hf
    · replace hf := kt c5 hf
      refine lv_aload_n hx hb dX11_till_17 rfl (lv_at hl 0 rfl) ?_
      refine lv_iconst (v := (1 : Int32)) hx hb dX11_till_18 (by decide) ?_
      obtain ⟨r6, hr6, hf⟩ := kb hf
      refine kV (As := [.int (1 : Int32)]) (rest := []) ⟨hx, hb, hml, hown, hts⟩ (c_X11_error l G N a_this a_this_shop a_this_kept a_this_sheetBits a_this_sheetLengths a_this_sheetNumbers a_this_trace a_this_errors a_this_one a_this_second a_this_extra a_this_room a_this_values a_this_best (1 : Int32) this_imaged this_images this_bestPaid this_bestNet this_errors r6 hr6) (kcV 1 hts tw_405 tw_80 tw_402 tw_404 tw_0 hd_X11_error ⟨Nat.le_of_ble_eq_true rfl, Nat.le_of_ble_eq_true rfl⟩) dX11_till_19 hl.1 hK hAm hA hP hD hS 0 (ci := 11) rfl rfl rfl [0, 1] rfl rfl rfl [1] rfl rfl rfl (Nat.le_of_ble_eq_true rfl) ⟨Nat.le_refl _, Nat.le_refl _⟩ (fun H locs hP hD hS => ?_)
      have hP : va_P (gD G) vwCl (k_X11_till_err G a_this a_this_shop a_this_kept a_this_sheetBits a_this_sheetLengths a_this_sheetNumbers a_this_trace a_this_errors a_this_one a_this_second a_this_extra a_this_room a_this_values a_this_best this_imaged this_images this_bestPaid this_bestNet r6.2) H := hP
      have hD : va_D A (k_X11_till_err G a_this a_this_shop a_this_kept a_this_sheetBits a_this_sheetLengths a_this_sheetNumbers a_this_trace a_this_errors a_this_one a_this_second a_this_extra a_this_room a_this_values a_this_best this_imaged this_images this_bestPaid this_bestNet r6.2) := hD
      have ho := ks hf
      subst ho
      exact kiret hx hb hr hlk hP hD hS hQ dX11_till_22
abbrev k_X11_till_ok (G : KG) (a_this : Nat) (a_this_shop : Nat) (a_this_kept : Nat) (a_this_sheetBits : Nat) (a_this_sheetLengths : Nat) (a_this_sheetNumbers : Nat) (a_this_trace : Nat) (a_this_errors : Nat) (a_this_one : Nat) (a_this_second : Nat) (a_this_extra : Nat) (a_this_room : Nat) (a_this_values : Nat) (a_this_best : Nat) (a_this_shop_goods : Nat) (a_this_shop_tills : Nat) (a_this_shop_tape : Nat) (a_this_shop_paysLaw : Nat) (a_this_shop_valuesLaw : Nat) (a_this_shop_waiting : Nat) (e_this_shop_tills : Nat → Nat) (this_imaged : Int32) (this_images : Int32) (this_bestPaid : Int32) (this_bestNet : Int32) (this_shop_takings : Int32) (this_shop_costs : Int32) (this_shop_goes : Int32) (this_shop_z : Int32) (this_shop_fed : Int32) (this_shop_waits : Int32) (this_shop_tills : Nat → Option Nat) (this_shop_tills_k0 : Nat) (this_shop_tills_k1 : Nat) (this_shop_tills_k2 : Nat) (this_shop_tills_k3 : Nat) (this_shop_tills_n : Nat → Int32) (this_shop_tills_m : Nat → Int32) : va_W := [(a_this, .inr (11, [.ref a_this_shop, .ref a_this_kept, .int this_imaged, .int this_images, .ref a_this_sheetBits, .ref a_this_sheetLengths, .ref a_this_sheetNumbers, .ref a_this_trace, .ref a_this_errors, .ref a_this_one, .ref a_this_second, .ref a_this_extra, .ref a_this_room, .ref a_this_values, .ref a_this_best, .int this_bestPaid, .int this_bestNet])), (a_this_shop, .inr (7, [.ref a_this_shop_goods, .ref a_this_shop_tills, .int this_shop_takings, .int this_shop_costs, .int this_shop_goes, .int this_shop_z, .ref a_this_shop_tape, .int this_shop_fed, .ref a_this_shop_paysLaw, .ref a_this_shop_valuesLaw, .ref a_this_shop_waiting, .int this_shop_waits])), (a_this_shop_tills, .inl (gT G, 4, .inr (.inr (.inr (.inr this_shop_tills))))), (e_this_shop_tills 0, .inr (this_shop_tills_k0, [.int (this_shop_tills_n 0), .int (this_shop_tills_m 0)])), (e_this_shop_tills 1, .inr (this_shop_tills_k1, [.int (this_shop_tills_n 1), .int (this_shop_tills_m 1)])), (e_this_shop_tills 2, .inr (this_shop_tills_k2, [.int (this_shop_tills_n 2), .int (this_shop_tills_m 2)])), (e_this_shop_tills 3, .inr (this_shop_tills_k3, [.int (this_shop_tills_n 3), .int (this_shop_tills_m 3)]))]
def f_X11_till_ok (N : Nat) (p0 : Int32) (p1 : Int32) (this_shop_tills : Nat → Option Nat) (this_shop_tills_k0 : Nat) (this_shop_tills_k1 : Nat) (this_shop_tills_k2 : Nat) (this_shop_tills_k3 : Nat) (this_shop_tills_n : Nat → Int32) (this_shop_tills_m : Nat → Int32) : Option (Int32) := ((f_X11_isTill N p0).bind fun r1 => (if r1 = 0 then none else ((f_X11_within N p1 (0 : Int32) (69 : Int32)).bind fun r3 => (if r3 = 0 then none else (if vin p0 4 = true then (if vin p0 4 = true then ((if (sel4 p0.toNatClampNeg this_shop_tills_k0 this_shop_tills_k1 this_shop_tills_k2 this_shop_tills_k3) = 8 then ((f_X8_kind N).bind fun q8 => some q8) else (if (sel4 p0.toNatClampNeg this_shop_tills_k0 this_shop_tills_k1 this_shop_tills_k2 this_shop_tills_k3) = 1 then ((f_X1_kind N).bind fun q8 => some q8) else (if (sel4 p0.toNatClampNeg this_shop_tills_k0 this_shop_tills_k1 this_shop_tills_k2 this_shop_tills_k3) = 2 then ((f_X2_kind N).bind fun q8 => some q8) else (if (sel4 p0.toNatClampNeg this_shop_tills_k0 this_shop_tills_k1 this_shop_tills_k2 this_shop_tills_k3) = 3 then ((f_X3_kind N).bind fun q8 => some q8) else (if (sel4 p0.toNatClampNeg this_shop_tills_k0 this_shop_tills_k1 this_shop_tills_k2 this_shop_tills_k3) = 5 then ((f_X5_kind N).bind fun q8 => some q8) else (if (sel4 p0.toNatClampNeg this_shop_tills_k0 this_shop_tills_k1 this_shop_tills_k2 this_shop_tills_k3) = 6 then ((f_X6_kind N).bind fun q8 => some q8) else (if (sel4 p0.toNatClampNeg this_shop_tills_k0 this_shop_tills_k1 this_shop_tills_k2 this_shop_tills_k3) = 9 then ((f_X9_kind N).bind fun q8 => some q8) else none))))))).bind fun r7 => (if kOk (sel4 p0.toNatClampNeg this_shop_tills_k0 this_shop_tills_k1 this_shop_tills_k2 this_shop_tills_k3) = true then (some (((10 : Int32) * r7) + (this_shop_tills_m p0.toNatClampNeg))) else none)) else none) else none)))))
set_option maxRecDepth 100000 in
set_option maxHeartbeats 4000000 in
theorem c_X11_till_ok (l : Launch) (G : KG) (N : Nat) (a_this : Nat) (a_this_shop : Nat) (a_this_kept : Nat) (a_this_sheetBits : Nat) (a_this_sheetLengths : Nat) (a_this_sheetNumbers : Nat) (a_this_trace : Nat) (a_this_errors : Nat) (a_this_one : Nat) (a_this_second : Nat) (a_this_extra : Nat) (a_this_room : Nat) (a_this_values : Nat) (a_this_best : Nat) (a_this_shop_goods : Nat) (a_this_shop_tills : Nat) (a_this_shop_tape : Nat) (a_this_shop_paysLaw : Nat) (a_this_shop_valuesLaw : Nat) (a_this_shop_waiting : Nat) (e_this_shop_tills : Nat → Nat) (p0 : Int32) (p1 : Int32) (this_imaged : Int32) (this_images : Int32) (this_bestPaid : Int32) (this_bestNet : Int32) (this_shop_takings : Int32) (this_shop_costs : Int32) (this_shop_goes : Int32) (this_shop_z : Int32) (this_shop_fed : Int32) (this_shop_waits : Int32) (this_shop_tills : Nat → Option Nat) (this_shop_tills_k0 : Nat) (this_shop_tills_k1 : Nat) (this_shop_tills_k2 : Nat) (this_shop_tills_k3 : Nat) (this_shop_tills_n : Nat → Int32) (this_shop_tills_m : Nat → Int32)  (ht_this_shop_tills : ∀ j : Nat, j < 4 → this_shop_tills j = some (e_this_shop_tills j)) (out : Int32) (hf : f_X11_till_ok N p0 p1 this_shop_tills this_shop_tills_k0 this_shop_tills_k1 this_shop_tills_k2 this_shop_tills_k3 this_shop_tills_n this_shop_tills_m = some out) : KX l G yX11_till (kw yX11_till cX11_till 4 (some .int)) 5 100 1 2 [.ref a_this, .int p0, .int p1] (k_X11_till_ok G a_this a_this_shop a_this_kept a_this_sheetBits a_this_sheetLengths a_this_sheetNumbers a_this_trace a_this_errors a_this_one a_this_second a_this_extra a_this_room a_this_values a_this_best a_this_shop_goods a_this_shop_tills a_this_shop_tape a_this_shop_paysLaw a_this_shop_valuesLaw a_this_shop_waiting e_this_shop_tills this_imaged this_images this_bestPaid this_bestNet this_shop_takings this_shop_costs this_shop_goes this_shop_z this_shop_fed this_shop_waits this_shop_tills this_shop_tills_k0 this_shop_tills_k1 this_shop_tills_k2 this_shop_tills_k3 this_shop_tills_n this_shop_tills_m) (fun q9 => ((k_X11_till_ok G a_this a_this_shop a_this_kept a_this_sheetBits a_this_sheetLengths a_this_sheetNumbers a_this_trace a_this_errors a_this_one a_this_second a_this_extra a_this_room a_this_values a_this_best a_this_shop_goods a_this_shop_tills a_this_shop_tape a_this_shop_paysLaw a_this_shop_valuesLaw a_this_shop_waiting e_this_shop_tills this_imaged this_images this_bestPaid this_bestNet this_shop_takings this_shop_costs this_shop_goes this_shop_z this_shop_fed this_shop_waits (va_up this_shop_tills p0.toNatClampNeg (some (q9 0))) this_shop_tills_k0 this_shop_tills_k1 this_shop_tills_k2 this_shop_tills_k3 this_shop_tills_n this_shop_tills_m) ++ [((q9 0), .inr ((tk (p1 / (10 : Int32))), [.int p0, .int (p1 - p1 / (10 : Int32) * (10 : Int32))]))])) (fun q9 => (some (.int out))) := by
  refine KX.of (by decide) (Nat.le_of_ble_eq_true rfl) ?_
  intro p e s m below meth c A ls args Q Fx0 hP hK hD hA hS hAm hQ hl
  obtain ⟨hx, hb, hr, hml, hts, hown, hlk, hnm⟩ := Fx0
  have hown : s.vm.findClass RX11 = some m.cls := hown
  have hl : lv_has ls 4 [(0, .ref a_this), (1, .int p0), (2, .int p1)] := hl
  have fl_10 := hts _ tw_333
  have fl_102 := va_Nw.use (A := args) rfl (hAm.1 _ nw_X11_102 rfl)
  have fl_116 := hts _ tw_185
  unfold f_X11_till_ok at hf
  refine lv_iload_n hx hb dX11_till_0 rfl (lv_at hl 1 rfl) ?_
  obtain ⟨r1, hr1, hf⟩ := kb hf
  refine kS (As := [.int p0]) (rest := []) ⟨hx, hb, hml, hown, hts⟩ (c_X11_isTill l G N p0 r1 hr1) (kcS 1 hts tw_444 tw_80 tw_442 tw_443 hd_X11_isTill ⟨Nat.le_of_ble_eq_true rfl, Nat.le_of_ble_eq_true rfl⟩) dX11_till_1 hl.1 hK hAm hA hP hD hS [] rfl rfl rfl [] rfl rfl rfl (Nat.le_of_ble_eq_true rfl) ⟨Nat.le_of_ble_eq_true rfl, Nat.le_of_ble_eq_true rfl⟩ (fun H locs hP hD hS => ?_)
  have hP : va_P (gD G) vwCl (k_X11_till_ok G a_this a_this_shop a_this_kept a_this_sheetBits a_this_sheetLengths a_this_sheetNumbers a_this_trace a_this_errors a_this_one a_this_second a_this_extra a_this_room a_this_values a_this_best a_this_shop_goods a_this_shop_tills a_this_shop_tape a_this_shop_paysLaw a_this_shop_valuesLaw a_this_shop_waiting e_this_shop_tills this_imaged this_images this_bestPaid this_bestNet this_shop_takings this_shop_costs this_shop_goes this_shop_z this_shop_fed this_shop_waits this_shop_tills this_shop_tills_k0 this_shop_tills_k1 this_shop_tills_k2 this_shop_tills_k3 this_shop_tills_n this_shop_tills_m) H := hP
  have hD : va_D A (k_X11_till_ok G a_this a_this_shop a_this_kept a_this_sheetBits a_this_sheetLengths a_this_sheetNumbers a_this_trace a_this_errors a_this_one a_this_second a_this_extra a_this_room a_this_values a_this_best a_this_shop_goods a_this_shop_tills a_this_shop_tape a_this_shop_paysLaw a_this_shop_valuesLaw a_this_shop_waiting e_this_shop_tills this_imaged this_images this_bestPaid this_bestNet this_shop_takings this_shop_costs this_shop_goes this_shop_z this_shop_fed this_shop_waits this_shop_tills this_shop_tills_k0 this_shop_tills_k1 this_shop_tills_k2 this_shop_tills_k3 this_shop_tills_n this_shop_tills_m) := hD
  refine lv_if_eq (tgt := 17) hx hb dX11_till_4 (by decide) (fun c2 => ?_) (fun c2 => ?_)
  · replace hf := kt c2 hf
    cases hf
  · replace hf := kf c2 hf
    refine lv_iload_n hx hb dX11_till_7 rfl (lv_at hl 2 rfl) ?_
    refine lv_iconst (v := (0 : Int32)) hx hb dX11_till_8 (by decide) ?_
    refine lv_bipush (v := (69 : Int32)) hx hb dX11_till_9 (by decide) ?_
    obtain ⟨r3, hr3, hf⟩ := kb hf
    refine kS (As := [.int p1, .int (0 : Int32), .int (69 : Int32)]) (rest := []) ⟨hx, hb, hml, hown, hts⟩ (c_X11_within l G N p1 (0 : Int32) (69 : Int32) r3 hr3) (kcS 3 hts tw_394 tw_80 tw_392 tw_393 hd_X11_within ⟨Nat.le_of_ble_eq_true rfl, Nat.le_of_ble_eq_true rfl⟩) dX11_till_11 hl.1 hK hAm hA hP hD hS [] rfl rfl rfl [] rfl rfl rfl (Nat.le_of_ble_eq_true rfl) ⟨Nat.le_of_ble_eq_true rfl, Nat.le_of_ble_eq_true rfl⟩ (fun H locs hP hD hS => ?_)
    have hP : va_P (gD G) vwCl (k_X11_till_ok G a_this a_this_shop a_this_kept a_this_sheetBits a_this_sheetLengths a_this_sheetNumbers a_this_trace a_this_errors a_this_one a_this_second a_this_extra a_this_room a_this_values a_this_best a_this_shop_goods a_this_shop_tills a_this_shop_tape a_this_shop_paysLaw a_this_shop_valuesLaw a_this_shop_waiting e_this_shop_tills this_imaged this_images this_bestPaid this_bestNet this_shop_takings this_shop_costs this_shop_goes this_shop_z this_shop_fed this_shop_waits this_shop_tills this_shop_tills_k0 this_shop_tills_k1 this_shop_tills_k2 this_shop_tills_k3 this_shop_tills_n this_shop_tills_m) H := hP
    have hD : va_D A (k_X11_till_ok G a_this a_this_shop a_this_kept a_this_sheetBits a_this_sheetLengths a_this_sheetNumbers a_this_trace a_this_errors a_this_one a_this_second a_this_extra a_this_room a_this_values a_this_best a_this_shop_goods a_this_shop_tills a_this_shop_tape a_this_shop_paysLaw a_this_shop_valuesLaw a_this_shop_waiting e_this_shop_tills this_imaged this_images this_bestPaid this_bestNet this_shop_takings this_shop_costs this_shop_goes this_shop_z this_shop_fed this_shop_waits this_shop_tills this_shop_tills_k0 this_shop_tills_k1 this_shop_tills_k2 this_shop_tills_k3 this_shop_tills_n this_shop_tills_m) := hD
    refine lv_if_ne (tgt := 23) hx hb dX11_till_14 (by decide) (fun c4 => ?_) (fun c4 => ?_)
    · replace hf := kf c4 hf
      refine lv_aload_n hx hb dX11_till_23 rfl (lv_at hl 0 rfl) ?_
      refine va_get (D := gD G) (ci := 11) (C := RX11) (T := TX11) (N := 17) hx hb hts hin_X11 hown hK hP 0 rfl rfl 0 (by decide) fl_10 (fun _ h9 => h9) rfl dX11_till_24 ?_
      refine va_getN (D := gD G) (ci := 7) (C := RX7) (T := TX7) (N := 12) hx hb hts hin_X7 hown hK hP 1 rfl rfl 1 (by decide) fl_102 (fun _ h9 => h9) rfl dX11_till_27 ?_
      refine lv_iload_n hx hb dX11_till_30 rfl (lv_at hl 1 rfl) ?_
      obtain ⟨g5, hf⟩ := kg hf
      refine ka_tald hx hb hK hP 2 rfl (vin_of g5) (ht_this_shop_tills _ (vin_lt g5)) dX11_till_31 ?_
      refine lv_astore_n (lv' := [(3, .ref (e_this_shop_tills p0.toNatClampNeg)), (0, .ref a_this), (1, .int p0), (2, .int p1)]) hx hb dX11_till_32 rfl hl (by decide) rfl (fun ls hl => ?_)
      refine lv_aload_n hx hb dX11_till_33 rfl (lv_at hl 1 rfl) ?_
      refine va_get (D := gD G) (ci := 11) (C := RX11) (T := TX11) (N := 17) hx hb hts hin_X11 hown hK hP 0 rfl rfl 0 (by decide) fl_10 (fun _ h9 => h9) rfl dX11_till_34 ?_
      refine va_getN (D := gD G) (ci := 7) (C := RX7) (T := TX7) (N := 12) hx hb hts hin_X7 hown hK hP 1 rfl rfl 1 (by decide) fl_102 (fun _ h9 => h9) rfl dX11_till_37 ?_
      refine lv_iload_n hx hb dX11_till_40 rfl (lv_at hl 2 rfl) ?_
      refine lv_iload_n hx hb dX11_till_41 rfl (lv_at hl 3 rfl) ?_
      refine lv_bipush (v := (10 : Int32)) hx hb dX11_till_42 (by decide) ?_
      refine lv_idiv hx hb dX11_till_44 (by decide) ?_
      refine lv_iload_n hx hb dX11_till_45 rfl (lv_at hl 2 rfl) ?_
      refine lv_iload_n hx hb dX11_till_46 rfl (lv_at hl 3 rfl) ?_
      refine lv_bipush (v := (10 : Int32)) hx hb dX11_till_47 (by decide) ?_
      refine lv_irem hx hb dX11_till_49 (by decide) ?_
      refine kXS (As := [.int (p1 / (10 : Int32)), .int p0, .int (p1 - p1 / (10 : Int32) * (10 : Int32))]) (rest := [.int p0, .ref a_this_shop_tills]) (wr := (k_X11_till_ok G a_this a_this_shop a_this_kept a_this_sheetBits a_this_sheetLengths a_this_sheetNumbers a_this_trace a_this_errors a_this_one a_this_second a_this_extra a_this_room a_this_values a_this_best a_this_shop_goods a_this_shop_tills a_this_shop_tape a_this_shop_paysLaw a_this_shop_valuesLaw a_this_shop_waiting e_this_shop_tills this_imaged this_images this_bestPaid this_bestNet this_shop_takings this_shop_costs this_shop_goes this_shop_z this_shop_fed this_shop_waits this_shop_tills this_shop_tills_k0 this_shop_tills_k1 this_shop_tills_k2 this_shop_tills_k3 this_shop_tills_n this_shop_tills_m)) ⟨hx, hb, hml, hown, hts⟩ (c_X11_tillOf l G (p1 / (10 : Int32)) p0 (p1 - p1 / (10 : Int32) * (10 : Int32))) ⟨kcBX 3 hts tw_163 tw_80 tw_445 hd_X11_tillOf ⟨Nat.le_of_ble_eq_true rfl, Nat.le_of_ble_eq_true rfl⟩, hts _ tw_162⟩ dX11_till_50 hl.1 hK hAm hA hP hD hS [] [0, 1, 2, 3, 4, 5, 6] rfl rfl rfl rfl (by decide) rfl rfl (Nat.le_of_ble_eq_true rfl) ⟨Nat.le_of_ble_eq_true rfl, Nat.le_of_ble_eq_true rfl⟩ (fun q9 H locs hP hD hS => ?_)
      have hP : va_P (gD G) vwCl ((k_X11_till_ok G a_this a_this_shop a_this_kept a_this_sheetBits a_this_sheetLengths a_this_sheetNumbers a_this_trace a_this_errors a_this_one a_this_second a_this_extra a_this_room a_this_values a_this_best a_this_shop_goods a_this_shop_tills a_this_shop_tape a_this_shop_paysLaw a_this_shop_valuesLaw a_this_shop_waiting e_this_shop_tills this_imaged this_images this_bestPaid this_bestNet this_shop_takings this_shop_costs this_shop_goes this_shop_z this_shop_fed this_shop_waits this_shop_tills this_shop_tills_k0 this_shop_tills_k1 this_shop_tills_k2 this_shop_tills_k3 this_shop_tills_n this_shop_tills_m) ++ [((q9 0), .inr ((tk (p1 / (10 : Int32))), [.int p0, .int (p1 - p1 / (10 : Int32) * (10 : Int32))]))]) H := hP
      have hD : va_D A ((k_X11_till_ok G a_this a_this_shop a_this_kept a_this_sheetBits a_this_sheetLengths a_this_sheetNumbers a_this_trace a_this_errors a_this_one a_this_second a_this_extra a_this_room a_this_values a_this_best a_this_shop_goods a_this_shop_tills a_this_shop_tape a_this_shop_paysLaw a_this_shop_valuesLaw a_this_shop_waiting e_this_shop_tills this_imaged this_images this_bestPaid this_bestNet this_shop_takings this_shop_costs this_shop_goes this_shop_z this_shop_fed this_shop_waits this_shop_tills this_shop_tills_k0 this_shop_tills_k1 this_shop_tills_k2 this_shop_tills_k3 this_shop_tills_n this_shop_tills_m) ++ [((q9 0), .inr ((tk (p1 / (10 : Int32))), [.int p0, .int (p1 - p1 / (10 : Int32) * (10 : Int32))]))]) := hD
      obtain ⟨g6, hf⟩ := kg hf
      refine kast hx hb hK hAm hP hD hS 2 7 rfl rfl (tk_ok _) (vin_of g6) dX11_till_53 (fun H locs hP hD hS => ?_)
      have hP : va_P (gD G) vwCl ((k_X11_till_ok G a_this a_this_shop a_this_kept a_this_sheetBits a_this_sheetLengths a_this_sheetNumbers a_this_trace a_this_errors a_this_one a_this_second a_this_extra a_this_room a_this_values a_this_best a_this_shop_goods a_this_shop_tills a_this_shop_tape a_this_shop_paysLaw a_this_shop_valuesLaw a_this_shop_waiting e_this_shop_tills this_imaged this_images this_bestPaid this_bestNet this_shop_takings this_shop_costs this_shop_goes this_shop_z this_shop_fed this_shop_waits (va_up this_shop_tills p0.toNatClampNeg (some (q9 0))) this_shop_tills_k0 this_shop_tills_k1 this_shop_tills_k2 this_shop_tills_k3 this_shop_tills_n this_shop_tills_m) ++ [((q9 0), .inr ((tk (p1 / (10 : Int32))), [.int p0, .int (p1 - p1 / (10 : Int32) * (10 : Int32))]))]) H := hP
      have hD : va_D A ((k_X11_till_ok G a_this a_this_shop a_this_kept a_this_sheetBits a_this_sheetLengths a_this_sheetNumbers a_this_trace a_this_errors a_this_one a_this_second a_this_extra a_this_room a_this_values a_this_best a_this_shop_goods a_this_shop_tills a_this_shop_tape a_this_shop_paysLaw a_this_shop_valuesLaw a_this_shop_waiting e_this_shop_tills this_imaged this_images this_bestPaid this_bestNet this_shop_takings this_shop_costs this_shop_goes this_shop_z this_shop_fed this_shop_waits (va_up this_shop_tills p0.toNatClampNeg (some (q9 0))) this_shop_tills_k0 this_shop_tills_k1 this_shop_tills_k2 this_shop_tills_k3 this_shop_tills_n this_shop_tills_m) ++ [((q9 0), .inr ((tk (p1 / (10 : Int32))), [.int p0, .int (p1 - p1 / (10 : Int32) * (10 : Int32))]))]) := hD
      refine lv_bipush (v := (10 : Int32)) hx hb dX11_till_54 (by decide) ?_
      refine lv_aload_n hx hb dX11_till_56 rfl (lv_at hl 0 rfl) ?_
      obtain ⟨r7, hr7, hf⟩ := kb hf
      have kk11 : ∀ (H : Heap) (locs : List Loc), va_P (gD G) vwCl ((k_X11_till_ok G a_this a_this_shop a_this_kept a_this_sheetBits a_this_sheetLengths a_this_sheetNumbers a_this_trace a_this_errors a_this_one a_this_second a_this_extra a_this_room a_this_values a_this_best a_this_shop_goods a_this_shop_tills a_this_shop_tape a_this_shop_paysLaw a_this_shop_valuesLaw a_this_shop_waiting e_this_shop_tills this_imaged this_images this_bestPaid this_bestNet this_shop_takings this_shop_costs this_shop_goes this_shop_z this_shop_fed this_shop_waits (va_up this_shop_tills p0.toNatClampNeg (some (q9 0))) this_shop_tills_k0 this_shop_tills_k1 this_shop_tills_k2 this_shop_tills_k3 this_shop_tills_n this_shop_tills_m) ++ [((q9 0), .inr ((tk (p1 / (10 : Int32))), [.int p0, .int (p1 - p1 / (10 : Int32) * (10 : Int32))]))]) H → va_D A ((k_X11_till_ok G a_this a_this_shop a_this_kept a_this_sheetBits a_this_sheetLengths a_this_sheetNumbers a_this_trace a_this_errors a_this_one a_this_second a_this_extra a_this_room a_this_values a_this_best a_this_shop_goods a_this_shop_tills a_this_shop_tape a_this_shop_paysLaw a_this_shop_valuesLaw a_this_shop_waiting e_this_shop_tills this_imaged this_images this_bestPaid this_bestNet this_shop_takings this_shop_costs this_shop_goes this_shop_z this_shop_fed this_shop_waits (va_up this_shop_tills p0.toNatClampNeg (some (q9 0))) this_shop_tills_k0 this_shop_tills_k1 this_shop_tills_k2 this_shop_tills_k3 this_shop_tills_n this_shop_tills_m) ++ [((q9 0), .inr ((tk (p1 / (10 : Int32))), [.int p0, .int (p1 - p1 / (10 : Int32) * (10 : Int32))]))]) → va_S A s.heap H locs → W p l e (kR 5 1 2 100) s m args below meth c H locs (0 + 1) (0 + 2) Q (F0 m 60 ls [.int r7, .int (10 : Int32)]) := by
        intro H locs hP hD hS
        refine lv_imul hx hb dX11_till_60 ?_
        refine lv_aload_n hx hb dX11_till_61 rfl (lv_at hl 0 rfl) ?_
        obtain ⟨g9, hf⟩ := kg hf
        have kk10 : ∀ (H : Heap) (locs : List Loc), va_P (gD G) vwCl ((k_X11_till_ok G a_this a_this_shop a_this_kept a_this_sheetBits a_this_sheetLengths a_this_sheetNumbers a_this_trace a_this_errors a_this_one a_this_second a_this_extra a_this_room a_this_values a_this_best a_this_shop_goods a_this_shop_tills a_this_shop_tape a_this_shop_paysLaw a_this_shop_valuesLaw a_this_shop_waiting e_this_shop_tills this_imaged this_images this_bestPaid this_bestNet this_shop_takings this_shop_costs this_shop_goes this_shop_z this_shop_fed this_shop_waits (va_up this_shop_tills p0.toNatClampNeg (some (q9 0))) this_shop_tills_k0 this_shop_tills_k1 this_shop_tills_k2 this_shop_tills_k3 this_shop_tills_n this_shop_tills_m) ++ [((q9 0), .inr ((tk (p1 / (10 : Int32))), [.int p0, .int (p1 - p1 / (10 : Int32) * (10 : Int32))]))]) H → va_D A ((k_X11_till_ok G a_this a_this_shop a_this_kept a_this_sheetBits a_this_sheetLengths a_this_sheetNumbers a_this_trace a_this_errors a_this_one a_this_second a_this_extra a_this_room a_this_values a_this_best a_this_shop_goods a_this_shop_tills a_this_shop_tape a_this_shop_paysLaw a_this_shop_valuesLaw a_this_shop_waiting e_this_shop_tills this_imaged this_images this_bestPaid this_bestNet this_shop_takings this_shop_costs this_shop_goes this_shop_z this_shop_fed this_shop_waits (va_up this_shop_tills p0.toNatClampNeg (some (q9 0))) this_shop_tills_k0 this_shop_tills_k1 this_shop_tills_k2 this_shop_tills_k3 this_shop_tills_n this_shop_tills_m) ++ [((q9 0), .inr ((tk (p1 / (10 : Int32))), [.int p0, .int (p1 - p1 / (10 : Int32) * (10 : Int32))]))]) → va_S A s.heap H locs → W p l e (kR 5 1 2 100) s m args below meth c H locs (0 + 1) (0 + 2) Q (F0 m 65 ls [.int (this_shop_tills_m p0.toNatClampNeg), .int ((10 : Int32) * r7)]) := by
          intro H locs hP hD hS
          refine lv_iadd hx hb dX11_till_65 ?_
          have ho := ks hf
          subst ho
          exact kXiret hx hb hr hlk q9 hP hD hS hQ rfl rfl dX11_till_66
        refine k4 (vin_lt g5) (fun hj => ?_) (fun hj => ?_) (fun hj => ?_) (fun hj => ?_)
        · rw [hj] at g9 kk10 hP hD ⊢
          rcases kOk_or (show kOk this_shop_tills_k0 = true from g9) with c9 | c9 | c9 | c9 | c9 | c9 | c9
          · subst c9; exact va_get (D := gD G) (ci := 8) (C := RX8) (T := TX8) (N := 2) hx hb hts hin_X8 hown hK hP 3 rfl rfl 1 (by decide) fl_116 (fun _ h9 => h9) rfl dX11_till_62 (kk10 _ _ hP hD hS)
          · subst c9; exact va_get (D := gD G) (ci := 1) (C := RX1) (T := TX1) (N := 2) hx hb hts hin_X1 hown hK hP 3 rfl rfl 1 (by decide) fl_116 (fun _ h9 => h9) rfl dX11_till_62 (kk10 _ _ hP hD hS)
          · subst c9; exact va_get (D := gD G) (ci := 2) (C := RX2) (T := TX2) (N := 2) hx hb hts hin_X2 hown hK hP 3 rfl rfl 1 (by decide) fl_116 (fun _ h9 => h9) rfl dX11_till_62 (kk10 _ _ hP hD hS)
          · subst c9; exact va_get (D := gD G) (ci := 3) (C := RX3) (T := TX3) (N := 2) hx hb hts hin_X3 hown hK hP 3 rfl rfl 1 (by decide) fl_116 (fun _ h9 => h9) rfl dX11_till_62 (kk10 _ _ hP hD hS)
          · subst c9; exact va_get (D := gD G) (ci := 5) (C := RX5) (T := TX5) (N := 2) hx hb hts hin_X5 hown hK hP 3 rfl rfl 1 (by decide) fl_116 (fun _ h9 => h9) rfl dX11_till_62 (kk10 _ _ hP hD hS)
          · subst c9; exact va_get (D := gD G) (ci := 6) (C := RX6) (T := TX6) (N := 2) hx hb hts hin_X6 hown hK hP 3 rfl rfl 1 (by decide) fl_116 (fun _ h9 => h9) rfl dX11_till_62 (kk10 _ _ hP hD hS)
          · subst c9; exact va_get (D := gD G) (ci := 9) (C := RX9) (T := TX9) (N := 2) hx hb hts hin_X9 hown hK hP 3 rfl rfl 1 (by decide) fl_116 (fun _ h9 => h9) rfl dX11_till_62 (kk10 _ _ hP hD hS)
        · rw [hj] at g9 kk10 hP hD ⊢
          rcases kOk_or (show kOk this_shop_tills_k1 = true from g9) with c9 | c9 | c9 | c9 | c9 | c9 | c9
          · subst c9; exact va_get (D := gD G) (ci := 8) (C := RX8) (T := TX8) (N := 2) hx hb hts hin_X8 hown hK hP 4 rfl rfl 1 (by decide) fl_116 (fun _ h9 => h9) rfl dX11_till_62 (kk10 _ _ hP hD hS)
          · subst c9; exact va_get (D := gD G) (ci := 1) (C := RX1) (T := TX1) (N := 2) hx hb hts hin_X1 hown hK hP 4 rfl rfl 1 (by decide) fl_116 (fun _ h9 => h9) rfl dX11_till_62 (kk10 _ _ hP hD hS)
          · subst c9; exact va_get (D := gD G) (ci := 2) (C := RX2) (T := TX2) (N := 2) hx hb hts hin_X2 hown hK hP 4 rfl rfl 1 (by decide) fl_116 (fun _ h9 => h9) rfl dX11_till_62 (kk10 _ _ hP hD hS)
          · subst c9; exact va_get (D := gD G) (ci := 3) (C := RX3) (T := TX3) (N := 2) hx hb hts hin_X3 hown hK hP 4 rfl rfl 1 (by decide) fl_116 (fun _ h9 => h9) rfl dX11_till_62 (kk10 _ _ hP hD hS)
          · subst c9; exact va_get (D := gD G) (ci := 5) (C := RX5) (T := TX5) (N := 2) hx hb hts hin_X5 hown hK hP 4 rfl rfl 1 (by decide) fl_116 (fun _ h9 => h9) rfl dX11_till_62 (kk10 _ _ hP hD hS)
          · subst c9; exact va_get (D := gD G) (ci := 6) (C := RX6) (T := TX6) (N := 2) hx hb hts hin_X6 hown hK hP 4 rfl rfl 1 (by decide) fl_116 (fun _ h9 => h9) rfl dX11_till_62 (kk10 _ _ hP hD hS)
          · subst c9; exact va_get (D := gD G) (ci := 9) (C := RX9) (T := TX9) (N := 2) hx hb hts hin_X9 hown hK hP 4 rfl rfl 1 (by decide) fl_116 (fun _ h9 => h9) rfl dX11_till_62 (kk10 _ _ hP hD hS)
        · rw [hj] at g9 kk10 hP hD ⊢
          rcases kOk_or (show kOk this_shop_tills_k2 = true from g9) with c9 | c9 | c9 | c9 | c9 | c9 | c9
          · subst c9; exact va_get (D := gD G) (ci := 8) (C := RX8) (T := TX8) (N := 2) hx hb hts hin_X8 hown hK hP 5 rfl rfl 1 (by decide) fl_116 (fun _ h9 => h9) rfl dX11_till_62 (kk10 _ _ hP hD hS)
          · subst c9; exact va_get (D := gD G) (ci := 1) (C := RX1) (T := TX1) (N := 2) hx hb hts hin_X1 hown hK hP 5 rfl rfl 1 (by decide) fl_116 (fun _ h9 => h9) rfl dX11_till_62 (kk10 _ _ hP hD hS)
          · subst c9; exact va_get (D := gD G) (ci := 2) (C := RX2) (T := TX2) (N := 2) hx hb hts hin_X2 hown hK hP 5 rfl rfl 1 (by decide) fl_116 (fun _ h9 => h9) rfl dX11_till_62 (kk10 _ _ hP hD hS)
          · subst c9; exact va_get (D := gD G) (ci := 3) (C := RX3) (T := TX3) (N := 2) hx hb hts hin_X3 hown hK hP 5 rfl rfl 1 (by decide) fl_116 (fun _ h9 => h9) rfl dX11_till_62 (kk10 _ _ hP hD hS)
          · subst c9; exact va_get (D := gD G) (ci := 5) (C := RX5) (T := TX5) (N := 2) hx hb hts hin_X5 hown hK hP 5 rfl rfl 1 (by decide) fl_116 (fun _ h9 => h9) rfl dX11_till_62 (kk10 _ _ hP hD hS)
          · subst c9; exact va_get (D := gD G) (ci := 6) (C := RX6) (T := TX6) (N := 2) hx hb hts hin_X6 hown hK hP 5 rfl rfl 1 (by decide) fl_116 (fun _ h9 => h9) rfl dX11_till_62 (kk10 _ _ hP hD hS)
          · subst c9; exact va_get (D := gD G) (ci := 9) (C := RX9) (T := TX9) (N := 2) hx hb hts hin_X9 hown hK hP 5 rfl rfl 1 (by decide) fl_116 (fun _ h9 => h9) rfl dX11_till_62 (kk10 _ _ hP hD hS)
        · rw [hj] at g9 kk10 hP hD ⊢
          rcases kOk_or (show kOk this_shop_tills_k3 = true from g9) with c9 | c9 | c9 | c9 | c9 | c9 | c9
          · subst c9; exact va_get (D := gD G) (ci := 8) (C := RX8) (T := TX8) (N := 2) hx hb hts hin_X8 hown hK hP 6 rfl rfl 1 (by decide) fl_116 (fun _ h9 => h9) rfl dX11_till_62 (kk10 _ _ hP hD hS)
          · subst c9; exact va_get (D := gD G) (ci := 1) (C := RX1) (T := TX1) (N := 2) hx hb hts hin_X1 hown hK hP 6 rfl rfl 1 (by decide) fl_116 (fun _ h9 => h9) rfl dX11_till_62 (kk10 _ _ hP hD hS)
          · subst c9; exact va_get (D := gD G) (ci := 2) (C := RX2) (T := TX2) (N := 2) hx hb hts hin_X2 hown hK hP 6 rfl rfl 1 (by decide) fl_116 (fun _ h9 => h9) rfl dX11_till_62 (kk10 _ _ hP hD hS)
          · subst c9; exact va_get (D := gD G) (ci := 3) (C := RX3) (T := TX3) (N := 2) hx hb hts hin_X3 hown hK hP 6 rfl rfl 1 (by decide) fl_116 (fun _ h9 => h9) rfl dX11_till_62 (kk10 _ _ hP hD hS)
          · subst c9; exact va_get (D := gD G) (ci := 5) (C := RX5) (T := TX5) (N := 2) hx hb hts hin_X5 hown hK hP 6 rfl rfl 1 (by decide) fl_116 (fun _ h9 => h9) rfl dX11_till_62 (kk10 _ _ hP hD hS)
          · subst c9; exact va_get (D := gD G) (ci := 6) (C := RX6) (T := TX6) (N := 2) hx hb hts hin_X6 hown hK hP 6 rfl rfl 1 (by decide) fl_116 (fun _ h9 => h9) rfl dX11_till_62 (kk10 _ _ hP hD hS)
          · subst c9; exact va_get (D := gD G) (ci := 9) (C := RX9) (T := TX9) (N := 2) hx hb hts hin_X9 hown hK hP 6 rfl rfl 1 (by decide) fl_116 (fun _ h9 => h9) rfl dX11_till_62 (kk10 _ _ hP hD hS)
      refine k4 (vin_lt g5) (fun hj => ?_) (fun hj => ?_) (fun hj => ?_) (fun hj => ?_)
      · rw [hj] at hr7 ⊢
        by_cases c9 : this_shop_tills_k0 = 8
        · replace hr7 := kt c9 hr7
          obtain ⟨q8, hq8, hr7⟩ := kb hr7
          have e9 := ks hr7
          subst e9
          subst c9
          exact kV (As := []) (rest := [.int (10 : Int32)]) ⟨hx, hb, hml, hown, hts⟩ (c_X8_kind l G N (e_this_shop_tills 0) r7 hq8) (kcV 0 hts tw_468 tw_83 tw_446 tw_447 tw_448 hd_X8_kind ⟨Nat.le_of_ble_eq_true rfl, Nat.le_of_ble_eq_true rfl⟩) dX11_till_57 hl.1 hK hAm hA hP hD hS 3 (ci := 8) rfl rfl rfl [] rfl rfl rfl [] rfl rfl rfl (Nat.le_of_ble_eq_true rfl) ⟨Nat.le_of_ble_eq_true rfl, Nat.le_of_ble_eq_true rfl⟩ (fun H locs hP hD hS => kk11 H locs hP hD hS)
        · replace hr7 := kf c9 hr7
          by_cases c9 : this_shop_tills_k0 = 1
          · replace hr7 := kt c9 hr7
            obtain ⟨q8, hq8, hr7⟩ := kb hr7
            have e9 := ks hr7
            subst e9
            subst c9
            exact kU (As := []) (rest := [.int (10 : Int32)]) ⟨hx, hb, hml, hown, hts⟩ (c_X1_kind l G N (e_this_shop_tills 0) r7 hq8) (kcU (owner := RX8) (x := yX8_kind) 0 hts tw_452 tw_86 tw_446 tw_449 tw_447 tw_468 tw_450 tw_451 (by decide) hd_X1_kind.2.2 ⟨Nat.le_of_ble_eq_true rfl, Nat.le_of_ble_eq_true rfl⟩) dX11_till_57 hl.1 hK hAm hA hP hD hS 3 (ci := 1) rfl rfl rfl [] rfl rfl rfl [] rfl rfl rfl (Nat.le_of_ble_eq_true rfl) ⟨Nat.le_of_ble_eq_true rfl, Nat.le_of_ble_eq_true rfl⟩ (fun H locs hP hD hS => kk11 H locs hP hD hS)
          · replace hr7 := kf c9 hr7
            by_cases c9 : this_shop_tills_k0 = 2
            · replace hr7 := kt c9 hr7
              obtain ⟨q8, hq8, hr7⟩ := kb hr7
              have e9 := ks hr7
              subst e9
              subst c9
              exact kU (As := []) (rest := [.int (10 : Int32)]) ⟨hx, hb, hml, hown, hts⟩ (c_X2_kind l G N (e_this_shop_tills 0) r7 hq8) (kcU (owner := RX8) (x := yX8_kind) 0 hts tw_455 tw_88 tw_446 tw_449 tw_447 tw_468 tw_453 tw_454 (by decide) hd_X2_kind.2.2 ⟨Nat.le_of_ble_eq_true rfl, Nat.le_of_ble_eq_true rfl⟩) dX11_till_57 hl.1 hK hAm hA hP hD hS 3 (ci := 2) rfl rfl rfl [] rfl rfl rfl [] rfl rfl rfl (Nat.le_of_ble_eq_true rfl) ⟨Nat.le_of_ble_eq_true rfl, Nat.le_of_ble_eq_true rfl⟩ (fun H locs hP hD hS => kk11 H locs hP hD hS)
            · replace hr7 := kf c9 hr7
              by_cases c9 : this_shop_tills_k0 = 3
              · replace hr7 := kt c9 hr7
                obtain ⟨q8, hq8, hr7⟩ := kb hr7
                have e9 := ks hr7
                subst e9
                subst c9
                exact kU (As := []) (rest := [.int (10 : Int32)]) ⟨hx, hb, hml, hown, hts⟩ (c_X3_kind l G N (e_this_shop_tills 0) r7 hq8) (kcU (owner := RX8) (x := yX8_kind) 0 hts tw_458 tw_84 tw_446 tw_449 tw_447 tw_468 tw_456 tw_457 (by decide) hd_X3_kind.2.2 ⟨Nat.le_of_ble_eq_true rfl, Nat.le_of_ble_eq_true rfl⟩) dX11_till_57 hl.1 hK hAm hA hP hD hS 3 (ci := 3) rfl rfl rfl [] rfl rfl rfl [] rfl rfl rfl (Nat.le_of_ble_eq_true rfl) ⟨Nat.le_of_ble_eq_true rfl, Nat.le_of_ble_eq_true rfl⟩ (fun H locs hP hD hS => kk11 H locs hP hD hS)
              · replace hr7 := kf c9 hr7
                by_cases c9 : this_shop_tills_k0 = 5
                · replace hr7 := kt c9 hr7
                  obtain ⟨q8, hq8, hr7⟩ := kb hr7
                  have e9 := ks hr7
                  subst e9
                  subst c9
                  exact kU (As := []) (rest := [.int (10 : Int32)]) ⟨hx, hb, hml, hown, hts⟩ (c_X5_kind l G N (e_this_shop_tills 0) r7 hq8) (kcU (owner := RX8) (x := yX8_kind) 0 hts tw_461 tw_87 tw_446 tw_449 tw_447 tw_468 tw_459 tw_460 (by decide) hd_X5_kind.2.2 ⟨Nat.le_of_ble_eq_true rfl, Nat.le_of_ble_eq_true rfl⟩) dX11_till_57 hl.1 hK hAm hA hP hD hS 3 (ci := 5) rfl rfl rfl [] rfl rfl rfl [] rfl rfl rfl (Nat.le_of_ble_eq_true rfl) ⟨Nat.le_of_ble_eq_true rfl, Nat.le_of_ble_eq_true rfl⟩ (fun H locs hP hD hS => kk11 H locs hP hD hS)
                · replace hr7 := kf c9 hr7
                  by_cases c9 : this_shop_tills_k0 = 6
                  · replace hr7 := kt c9 hr7
                    obtain ⟨q8, hq8, hr7⟩ := kb hr7
                    have e9 := ks hr7
                    subst e9
                    subst c9
                    exact kU (As := []) (rest := [.int (10 : Int32)]) ⟨hx, hb, hml, hown, hts⟩ (c_X6_kind l G N (e_this_shop_tills 0) r7 hq8) (kcU (owner := RX8) (x := yX8_kind) 0 hts tw_464 tw_85 tw_446 tw_449 tw_447 tw_468 tw_462 tw_463 (by decide) hd_X6_kind.2.2 ⟨Nat.le_of_ble_eq_true rfl, Nat.le_of_ble_eq_true rfl⟩) dX11_till_57 hl.1 hK hAm hA hP hD hS 3 (ci := 6) rfl rfl rfl [] rfl rfl rfl [] rfl rfl rfl (Nat.le_of_ble_eq_true rfl) ⟨Nat.le_of_ble_eq_true rfl, Nat.le_of_ble_eq_true rfl⟩ (fun H locs hP hD hS => kk11 H locs hP hD hS)
                  · replace hr7 := kf c9 hr7
                    by_cases c9 : this_shop_tills_k0 = 9
                    · replace hr7 := kt c9 hr7
                      obtain ⟨q8, hq8, hr7⟩ := kb hr7
                      have e9 := ks hr7
                      subst e9
                      subst c9
                      exact kU (As := []) (rest := [.int (10 : Int32)]) ⟨hx, hb, hml, hown, hts⟩ (c_X9_kind l G N (e_this_shop_tills 0) r7 hq8) (kcU (owner := RX8) (x := yX8_kind) 0 hts tw_467 tw_89 tw_446 tw_449 tw_447 tw_468 tw_465 tw_466 (by decide) hd_X9_kind.2.2 ⟨Nat.le_of_ble_eq_true rfl, Nat.le_of_ble_eq_true rfl⟩) dX11_till_57 hl.1 hK hAm hA hP hD hS 3 (ci := 9) rfl rfl rfl [] rfl rfl rfl [] rfl rfl rfl (Nat.le_of_ble_eq_true rfl) ⟨Nat.le_of_ble_eq_true rfl, Nat.le_of_ble_eq_true rfl⟩ (fun H locs hP hD hS => kk11 H locs hP hD hS)
                    · replace hr7 := kf c9 hr7
                      cases hr7
      · rw [hj] at hr7 ⊢
        by_cases c9 : this_shop_tills_k1 = 8
        · replace hr7 := kt c9 hr7
          obtain ⟨q8, hq8, hr7⟩ := kb hr7
          have e9 := ks hr7
          subst e9
          subst c9
          exact kV (As := []) (rest := [.int (10 : Int32)]) ⟨hx, hb, hml, hown, hts⟩ (c_X8_kind l G N (e_this_shop_tills 1) r7 hq8) (kcV 0 hts tw_468 tw_83 tw_446 tw_447 tw_448 hd_X8_kind ⟨Nat.le_of_ble_eq_true rfl, Nat.le_of_ble_eq_true rfl⟩) dX11_till_57 hl.1 hK hAm hA hP hD hS 4 (ci := 8) rfl rfl rfl [] rfl rfl rfl [] rfl rfl rfl (Nat.le_of_ble_eq_true rfl) ⟨Nat.le_of_ble_eq_true rfl, Nat.le_of_ble_eq_true rfl⟩ (fun H locs hP hD hS => kk11 H locs hP hD hS)
        · replace hr7 := kf c9 hr7
          by_cases c9 : this_shop_tills_k1 = 1
          · replace hr7 := kt c9 hr7
            obtain ⟨q8, hq8, hr7⟩ := kb hr7
            have e9 := ks hr7
            subst e9
            subst c9
            exact kU (As := []) (rest := [.int (10 : Int32)]) ⟨hx, hb, hml, hown, hts⟩ (c_X1_kind l G N (e_this_shop_tills 1) r7 hq8) (kcU (owner := RX8) (x := yX8_kind) 0 hts tw_452 tw_86 tw_446 tw_449 tw_447 tw_468 tw_450 tw_451 (by decide) hd_X1_kind.2.2 ⟨Nat.le_of_ble_eq_true rfl, Nat.le_of_ble_eq_true rfl⟩) dX11_till_57 hl.1 hK hAm hA hP hD hS 4 (ci := 1) rfl rfl rfl [] rfl rfl rfl [] rfl rfl rfl (Nat.le_of_ble_eq_true rfl) ⟨Nat.le_of_ble_eq_true rfl, Nat.le_of_ble_eq_true rfl⟩ (fun H locs hP hD hS => kk11 H locs hP hD hS)
          · replace hr7 := kf c9 hr7
            by_cases c9 : this_shop_tills_k1 = 2
            · replace hr7 := kt c9 hr7
              obtain ⟨q8, hq8, hr7⟩ := kb hr7
              have e9 := ks hr7
              subst e9
              subst c9
              exact kU (As := []) (rest := [.int (10 : Int32)]) ⟨hx, hb, hml, hown, hts⟩ (c_X2_kind l G N (e_this_shop_tills 1) r7 hq8) (kcU (owner := RX8) (x := yX8_kind) 0 hts tw_455 tw_88 tw_446 tw_449 tw_447 tw_468 tw_453 tw_454 (by decide) hd_X2_kind.2.2 ⟨Nat.le_of_ble_eq_true rfl, Nat.le_of_ble_eq_true rfl⟩) dX11_till_57 hl.1 hK hAm hA hP hD hS 4 (ci := 2) rfl rfl rfl [] rfl rfl rfl [] rfl rfl rfl (Nat.le_of_ble_eq_true rfl) ⟨Nat.le_of_ble_eq_true rfl, Nat.le_of_ble_eq_true rfl⟩ (fun H locs hP hD hS => kk11 H locs hP hD hS)
            · replace hr7 := kf c9 hr7
              by_cases c9 : this_shop_tills_k1 = 3
              · replace hr7 := kt c9 hr7
                obtain ⟨q8, hq8, hr7⟩ := kb hr7
                have e9 := ks hr7
                subst e9
                subst c9
                exact kU (As := []) (rest := [.int (10 : Int32)]) ⟨hx, hb, hml, hown, hts⟩ (c_X3_kind l G N (e_this_shop_tills 1) r7 hq8) (kcU (owner := RX8) (x := yX8_kind) 0 hts tw_458 tw_84 tw_446 tw_449 tw_447 tw_468 tw_456 tw_457 (by decide) hd_X3_kind.2.2 ⟨Nat.le_of_ble_eq_true rfl, Nat.le_of_ble_eq_true rfl⟩) dX11_till_57 hl.1 hK hAm hA hP hD hS 4 (ci := 3) rfl rfl rfl [] rfl rfl rfl [] rfl rfl rfl (Nat.le_of_ble_eq_true rfl) ⟨Nat.le_of_ble_eq_true rfl, Nat.le_of_ble_eq_true rfl⟩ (fun H locs hP hD hS => kk11 H locs hP hD hS)
              · replace hr7 := kf c9 hr7
                by_cases c9 : this_shop_tills_k1 = 5
                · replace hr7 := kt c9 hr7
                  obtain ⟨q8, hq8, hr7⟩ := kb hr7
                  have e9 := ks hr7
                  subst e9
                  subst c9
                  exact kU (As := []) (rest := [.int (10 : Int32)]) ⟨hx, hb, hml, hown, hts⟩ (c_X5_kind l G N (e_this_shop_tills 1) r7 hq8) (kcU (owner := RX8) (x := yX8_kind) 0 hts tw_461 tw_87 tw_446 tw_449 tw_447 tw_468 tw_459 tw_460 (by decide) hd_X5_kind.2.2 ⟨Nat.le_of_ble_eq_true rfl, Nat.le_of_ble_eq_true rfl⟩) dX11_till_57 hl.1 hK hAm hA hP hD hS 4 (ci := 5) rfl rfl rfl [] rfl rfl rfl [] rfl rfl rfl (Nat.le_of_ble_eq_true rfl) ⟨Nat.le_of_ble_eq_true rfl, Nat.le_of_ble_eq_true rfl⟩ (fun H locs hP hD hS => kk11 H locs hP hD hS)
                · replace hr7 := kf c9 hr7
                  by_cases c9 : this_shop_tills_k1 = 6
                  · replace hr7 := kt c9 hr7
                    obtain ⟨q8, hq8, hr7⟩ := kb hr7
                    have e9 := ks hr7
                    subst e9
                    subst c9
                    exact kU (As := []) (rest := [.int (10 : Int32)]) ⟨hx, hb, hml, hown, hts⟩ (c_X6_kind l G N (e_this_shop_tills 1) r7 hq8) (kcU (owner := RX8) (x := yX8_kind) 0 hts tw_464 tw_85 tw_446 tw_449 tw_447 tw_468 tw_462 tw_463 (by decide) hd_X6_kind.2.2 ⟨Nat.le_of_ble_eq_true rfl, Nat.le_of_ble_eq_true rfl⟩) dX11_till_57 hl.1 hK hAm hA hP hD hS 4 (ci := 6) rfl rfl rfl [] rfl rfl rfl [] rfl rfl rfl (Nat.le_of_ble_eq_true rfl) ⟨Nat.le_of_ble_eq_true rfl, Nat.le_of_ble_eq_true rfl⟩ (fun H locs hP hD hS => kk11 H locs hP hD hS)
                  · replace hr7 := kf c9 hr7
                    by_cases c9 : this_shop_tills_k1 = 9
                    · replace hr7 := kt c9 hr7
                      obtain ⟨q8, hq8, hr7⟩ := kb hr7
                      have e9 := ks hr7
                      subst e9
                      subst c9
                      exact kU (As := []) (rest := [.int (10 : Int32)]) ⟨hx, hb, hml, hown, hts⟩ (c_X9_kind l G N (e_this_shop_tills 1) r7 hq8) (kcU (owner := RX8) (x := yX8_kind) 0 hts tw_467 tw_89 tw_446 tw_449 tw_447 tw_468 tw_465 tw_466 (by decide) hd_X9_kind.2.2 ⟨Nat.le_of_ble_eq_true rfl, Nat.le_of_ble_eq_true rfl⟩) dX11_till_57 hl.1 hK hAm hA hP hD hS 4 (ci := 9) rfl rfl rfl [] rfl rfl rfl [] rfl rfl rfl (Nat.le_of_ble_eq_true rfl) ⟨Nat.le_of_ble_eq_true rfl, Nat.le_of_ble_eq_true rfl⟩ (fun H locs hP hD hS => kk11 H locs hP hD hS)
                    · replace hr7 := kf c9 hr7
                      cases hr7
      · rw [hj] at hr7 ⊢
        by_cases c9 : this_shop_tills_k2 = 8
        · replace hr7 := kt c9 hr7
          obtain ⟨q8, hq8, hr7⟩ := kb hr7
          have e9 := ks hr7
          subst e9
          subst c9
          exact kV (As := []) (rest := [.int (10 : Int32)]) ⟨hx, hb, hml, hown, hts⟩ (c_X8_kind l G N (e_this_shop_tills 2) r7 hq8) (kcV 0 hts tw_468 tw_83 tw_446 tw_447 tw_448 hd_X8_kind ⟨Nat.le_of_ble_eq_true rfl, Nat.le_of_ble_eq_true rfl⟩) dX11_till_57 hl.1 hK hAm hA hP hD hS 5 (ci := 8) rfl rfl rfl [] rfl rfl rfl [] rfl rfl rfl (Nat.le_of_ble_eq_true rfl) ⟨Nat.le_of_ble_eq_true rfl, Nat.le_of_ble_eq_true rfl⟩ (fun H locs hP hD hS => kk11 H locs hP hD hS)
        · replace hr7 := kf c9 hr7
          by_cases c9 : this_shop_tills_k2 = 1
          · replace hr7 := kt c9 hr7
            obtain ⟨q8, hq8, hr7⟩ := kb hr7
            have e9 := ks hr7
            subst e9
            subst c9
            exact kU (As := []) (rest := [.int (10 : Int32)]) ⟨hx, hb, hml, hown, hts⟩ (c_X1_kind l G N (e_this_shop_tills 2) r7 hq8) (kcU (owner := RX8) (x := yX8_kind) 0 hts tw_452 tw_86 tw_446 tw_449 tw_447 tw_468 tw_450 tw_451 (by decide) hd_X1_kind.2.2 ⟨Nat.le_of_ble_eq_true rfl, Nat.le_of_ble_eq_true rfl⟩) dX11_till_57 hl.1 hK hAm hA hP hD hS 5 (ci := 1) rfl rfl rfl [] rfl rfl rfl [] rfl rfl rfl (Nat.le_of_ble_eq_true rfl) ⟨Nat.le_of_ble_eq_true rfl, Nat.le_of_ble_eq_true rfl⟩ (fun H locs hP hD hS => kk11 H locs hP hD hS)
          · replace hr7 := kf c9 hr7
            by_cases c9 : this_shop_tills_k2 = 2
            · replace hr7 := kt c9 hr7
              obtain ⟨q8, hq8, hr7⟩ := kb hr7
              have e9 := ks hr7
              subst e9
              subst c9
              exact kU (As := []) (rest := [.int (10 : Int32)]) ⟨hx, hb, hml, hown, hts⟩ (c_X2_kind l G N (e_this_shop_tills 2) r7 hq8) (kcU (owner := RX8) (x := yX8_kind) 0 hts tw_455 tw_88 tw_446 tw_449 tw_447 tw_468 tw_453 tw_454 (by decide) hd_X2_kind.2.2 ⟨Nat.le_of_ble_eq_true rfl, Nat.le_of_ble_eq_true rfl⟩) dX11_till_57 hl.1 hK hAm hA hP hD hS 5 (ci := 2) rfl rfl rfl [] rfl rfl rfl [] rfl rfl rfl (Nat.le_of_ble_eq_true rfl) ⟨Nat.le_of_ble_eq_true rfl, Nat.le_of_ble_eq_true rfl⟩ (fun H locs hP hD hS => kk11 H locs hP hD hS)
            · replace hr7 := kf c9 hr7
              by_cases c9 : this_shop_tills_k2 = 3
              · replace hr7 := kt c9 hr7
                obtain ⟨q8, hq8, hr7⟩ := kb hr7
                have e9 := ks hr7
                subst e9
                subst c9
                exact kU (As := []) (rest := [.int (10 : Int32)]) ⟨hx, hb, hml, hown, hts⟩ (c_X3_kind l G N (e_this_shop_tills 2) r7 hq8) (kcU (owner := RX8) (x := yX8_kind) 0 hts tw_458 tw_84 tw_446 tw_449 tw_447 tw_468 tw_456 tw_457 (by decide) hd_X3_kind.2.2 ⟨Nat.le_of_ble_eq_true rfl, Nat.le_of_ble_eq_true rfl⟩) dX11_till_57 hl.1 hK hAm hA hP hD hS 5 (ci := 3) rfl rfl rfl [] rfl rfl rfl [] rfl rfl rfl (Nat.le_of_ble_eq_true rfl) ⟨Nat.le_of_ble_eq_true rfl, Nat.le_of_ble_eq_true rfl⟩ (fun H locs hP hD hS => kk11 H locs hP hD hS)
              · replace hr7 := kf c9 hr7
                by_cases c9 : this_shop_tills_k2 = 5
                · replace hr7 := kt c9 hr7
                  obtain ⟨q8, hq8, hr7⟩ := kb hr7
                  have e9 := ks hr7
                  subst e9
                  subst c9
                  exact kU (As := []) (rest := [.int (10 : Int32)]) ⟨hx, hb, hml, hown, hts⟩ (c_X5_kind l G N (e_this_shop_tills 2) r7 hq8) (kcU (owner := RX8) (x := yX8_kind) 0 hts tw_461 tw_87 tw_446 tw_449 tw_447 tw_468 tw_459 tw_460 (by decide) hd_X5_kind.2.2 ⟨Nat.le_of_ble_eq_true rfl, Nat.le_of_ble_eq_true rfl⟩) dX11_till_57 hl.1 hK hAm hA hP hD hS 5 (ci := 5) rfl rfl rfl [] rfl rfl rfl [] rfl rfl rfl (Nat.le_of_ble_eq_true rfl) ⟨Nat.le_of_ble_eq_true rfl, Nat.le_of_ble_eq_true rfl⟩ (fun H locs hP hD hS => kk11 H locs hP hD hS)
                · replace hr7 := kf c9 hr7
                  by_cases c9 : this_shop_tills_k2 = 6
                  · replace hr7 := kt c9 hr7
                    obtain ⟨q8, hq8, hr7⟩ := kb hr7
                    have e9 := ks hr7
                    subst e9
                    subst c9
                    exact kU (As := []) (rest := [.int (10 : Int32)]) ⟨hx, hb, hml, hown, hts⟩ (c_X6_kind l G N (e_this_shop_tills 2) r7 hq8) (kcU (owner := RX8) (x := yX8_kind) 0 hts tw_464 tw_85 tw_446 tw_449 tw_447 tw_468 tw_462 tw_463 (by decide) hd_X6_kind.2.2 ⟨Nat.le_of_ble_eq_true rfl, Nat.le_of_ble_eq_true rfl⟩) dX11_till_57 hl.1 hK hAm hA hP hD hS 5 (ci := 6) rfl rfl rfl [] rfl rfl rfl [] rfl rfl rfl (Nat.le_of_ble_eq_true rfl) ⟨Nat.le_of_ble_eq_true rfl, Nat.le_of_ble_eq_true rfl⟩ (fun H locs hP hD hS => kk11 H locs hP hD hS)
                  · replace hr7 := kf c9 hr7
                    by_cases c9 : this_shop_tills_k2 = 9
                    · replace hr7 := kt c9 hr7
                      obtain ⟨q8, hq8, hr7⟩ := kb hr7
                      have e9 := ks hr7
                      subst e9
                      subst c9
                      exact kU (As := []) (rest := [.int (10 : Int32)]) ⟨hx, hb, hml, hown, hts⟩ (c_X9_kind l G N (e_this_shop_tills 2) r7 hq8) (kcU (owner := RX8) (x := yX8_kind) 0 hts tw_467 tw_89 tw_446 tw_449 tw_447 tw_468 tw_465 tw_466 (by decide) hd_X9_kind.2.2 ⟨Nat.le_of_ble_eq_true rfl, Nat.le_of_ble_eq_true rfl⟩) dX11_till_57 hl.1 hK hAm hA hP hD hS 5 (ci := 9) rfl rfl rfl [] rfl rfl rfl [] rfl rfl rfl (Nat.le_of_ble_eq_true rfl) ⟨Nat.le_of_ble_eq_true rfl, Nat.le_of_ble_eq_true rfl⟩ (fun H locs hP hD hS => kk11 H locs hP hD hS)
                    · replace hr7 := kf c9 hr7
                      cases hr7
      · rw [hj] at hr7 ⊢
        by_cases c9 : this_shop_tills_k3 = 8
        · replace hr7 := kt c9 hr7
          obtain ⟨q8, hq8, hr7⟩ := kb hr7
          have e9 := ks hr7
          subst e9
          subst c9
          exact kV (As := []) (rest := [.int (10 : Int32)]) ⟨hx, hb, hml, hown, hts⟩ (c_X8_kind l G N (e_this_shop_tills 3) r7 hq8) (kcV 0 hts tw_468 tw_83 tw_446 tw_447 tw_448 hd_X8_kind ⟨Nat.le_of_ble_eq_true rfl, Nat.le_of_ble_eq_true rfl⟩) dX11_till_57 hl.1 hK hAm hA hP hD hS 6 (ci := 8) rfl rfl rfl [] rfl rfl rfl [] rfl rfl rfl (Nat.le_of_ble_eq_true rfl) ⟨Nat.le_of_ble_eq_true rfl, Nat.le_of_ble_eq_true rfl⟩ (fun H locs hP hD hS => kk11 H locs hP hD hS)
        · replace hr7 := kf c9 hr7
          by_cases c9 : this_shop_tills_k3 = 1
          · replace hr7 := kt c9 hr7
            obtain ⟨q8, hq8, hr7⟩ := kb hr7
            have e9 := ks hr7
            subst e9
            subst c9
            exact kU (As := []) (rest := [.int (10 : Int32)]) ⟨hx, hb, hml, hown, hts⟩ (c_X1_kind l G N (e_this_shop_tills 3) r7 hq8) (kcU (owner := RX8) (x := yX8_kind) 0 hts tw_452 tw_86 tw_446 tw_449 tw_447 tw_468 tw_450 tw_451 (by decide) hd_X1_kind.2.2 ⟨Nat.le_of_ble_eq_true rfl, Nat.le_of_ble_eq_true rfl⟩) dX11_till_57 hl.1 hK hAm hA hP hD hS 6 (ci := 1) rfl rfl rfl [] rfl rfl rfl [] rfl rfl rfl (Nat.le_of_ble_eq_true rfl) ⟨Nat.le_of_ble_eq_true rfl, Nat.le_of_ble_eq_true rfl⟩ (fun H locs hP hD hS => kk11 H locs hP hD hS)
          · replace hr7 := kf c9 hr7
            by_cases c9 : this_shop_tills_k3 = 2
            · replace hr7 := kt c9 hr7
              obtain ⟨q8, hq8, hr7⟩ := kb hr7
              have e9 := ks hr7
              subst e9
              subst c9
              exact kU (As := []) (rest := [.int (10 : Int32)]) ⟨hx, hb, hml, hown, hts⟩ (c_X2_kind l G N (e_this_shop_tills 3) r7 hq8) (kcU (owner := RX8) (x := yX8_kind) 0 hts tw_455 tw_88 tw_446 tw_449 tw_447 tw_468 tw_453 tw_454 (by decide) hd_X2_kind.2.2 ⟨Nat.le_of_ble_eq_true rfl, Nat.le_of_ble_eq_true rfl⟩) dX11_till_57 hl.1 hK hAm hA hP hD hS 6 (ci := 2) rfl rfl rfl [] rfl rfl rfl [] rfl rfl rfl (Nat.le_of_ble_eq_true rfl) ⟨Nat.le_of_ble_eq_true rfl, Nat.le_of_ble_eq_true rfl⟩ (fun H locs hP hD hS => kk11 H locs hP hD hS)
            · replace hr7 := kf c9 hr7
              by_cases c9 : this_shop_tills_k3 = 3
              · replace hr7 := kt c9 hr7
                obtain ⟨q8, hq8, hr7⟩ := kb hr7
                have e9 := ks hr7
                subst e9
                subst c9
                exact kU (As := []) (rest := [.int (10 : Int32)]) ⟨hx, hb, hml, hown, hts⟩ (c_X3_kind l G N (e_this_shop_tills 3) r7 hq8) (kcU (owner := RX8) (x := yX8_kind) 0 hts tw_458 tw_84 tw_446 tw_449 tw_447 tw_468 tw_456 tw_457 (by decide) hd_X3_kind.2.2 ⟨Nat.le_of_ble_eq_true rfl, Nat.le_of_ble_eq_true rfl⟩) dX11_till_57 hl.1 hK hAm hA hP hD hS 6 (ci := 3) rfl rfl rfl [] rfl rfl rfl [] rfl rfl rfl (Nat.le_of_ble_eq_true rfl) ⟨Nat.le_of_ble_eq_true rfl, Nat.le_of_ble_eq_true rfl⟩ (fun H locs hP hD hS => kk11 H locs hP hD hS)
              · replace hr7 := kf c9 hr7
                by_cases c9 : this_shop_tills_k3 = 5
                · replace hr7 := kt c9 hr7
                  obtain ⟨q8, hq8, hr7⟩ := kb hr7
                  have e9 := ks hr7
                  subst e9
                  subst c9
                  exact kU (As := []) (rest := [.int (10 : Int32)]) ⟨hx, hb, hml, hown, hts⟩ (c_X5_kind l G N (e_this_shop_tills 3) r7 hq8) (kcU (owner := RX8) (x := yX8_kind) 0 hts tw_461 tw_87 tw_446 tw_449 tw_447 tw_468 tw_459 tw_460 (by decide) hd_X5_kind.2.2 ⟨Nat.le_of_ble_eq_true rfl, Nat.le_of_ble_eq_true rfl⟩) dX11_till_57 hl.1 hK hAm hA hP hD hS 6 (ci := 5) rfl rfl rfl [] rfl rfl rfl [] rfl rfl rfl (Nat.le_of_ble_eq_true rfl) ⟨Nat.le_of_ble_eq_true rfl, Nat.le_of_ble_eq_true rfl⟩ (fun H locs hP hD hS => kk11 H locs hP hD hS)
                · replace hr7 := kf c9 hr7
                  by_cases c9 : this_shop_tills_k3 = 6
                  · replace hr7 := kt c9 hr7
                    obtain ⟨q8, hq8, hr7⟩ := kb hr7
                    have e9 := ks hr7
                    subst e9
                    subst c9
                    exact kU (As := []) (rest := [.int (10 : Int32)]) ⟨hx, hb, hml, hown, hts⟩ (c_X6_kind l G N (e_this_shop_tills 3) r7 hq8) (kcU (owner := RX8) (x := yX8_kind) 0 hts tw_464 tw_85 tw_446 tw_449 tw_447 tw_468 tw_462 tw_463 (by decide) hd_X6_kind.2.2 ⟨Nat.le_of_ble_eq_true rfl, Nat.le_of_ble_eq_true rfl⟩) dX11_till_57 hl.1 hK hAm hA hP hD hS 6 (ci := 6) rfl rfl rfl [] rfl rfl rfl [] rfl rfl rfl (Nat.le_of_ble_eq_true rfl) ⟨Nat.le_of_ble_eq_true rfl, Nat.le_of_ble_eq_true rfl⟩ (fun H locs hP hD hS => kk11 H locs hP hD hS)
                  · replace hr7 := kf c9 hr7
                    by_cases c9 : this_shop_tills_k3 = 9
                    · replace hr7 := kt c9 hr7
                      obtain ⟨q8, hq8, hr7⟩ := kb hr7
                      have e9 := ks hr7
                      subst e9
                      subst c9
                      exact kU (As := []) (rest := [.int (10 : Int32)]) ⟨hx, hb, hml, hown, hts⟩ (c_X9_kind l G N (e_this_shop_tills 3) r7 hq8) (kcU (owner := RX8) (x := yX8_kind) 0 hts tw_467 tw_89 tw_446 tw_449 tw_447 tw_468 tw_465 tw_466 (by decide) hd_X9_kind.2.2 ⟨Nat.le_of_ble_eq_true rfl, Nat.le_of_ble_eq_true rfl⟩) dX11_till_57 hl.1 hK hAm hA hP hD hS 6 (ci := 9) rfl rfl rfl [] rfl rfl rfl [] rfl rfl rfl (Nat.le_of_ble_eq_true rfl) ⟨Nat.le_of_ble_eq_true rfl, Nat.le_of_ble_eq_true rfl⟩ (fun H locs hP hD hS => kk11 H locs hP hD hS)
                    · replace hr7 := kf c9 hr7
                      cases hr7
    · replace hf := kt c4 hf
      cases hf
