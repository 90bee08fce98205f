abbrev k_X1_kind (G : KG) : va_W := []
def f_X1_kind (N : Nat) : Option (Int32) := (some (3 : Int32))
set_option maxRecDepth 100000 in
set_option maxHeartbeats 4000000 in
theorem c_X1_kind (l : Launch) (G : KG) (N : Nat) (a_this : Nat)  (out : Int32) (hf : f_X1_kind N = some out) : KM l G yX1_kind (kw yX1_kind cX1_kind 1 (some .int)) 0 0 [.ref a_this] (k_X1_kind G) (k_X1_kind G) (some (.int out)) := by
  refine KM.of (by decide) (Nat.le_of_ble_eq_true rfl) ?_
  intro p e s m below meth c A ls args Q Fx0 hP hK hD hA hS hAm hQ hl
  obtain ⟨hx, hb, hr, hml, hts, hown, hlk, hnm⟩ := Fx0
  have hown : s.vm.findClass RX1 = some m.cls := hown
  have hl : lv_has ls 1 [(0, .ref a_this)] := hl
  unfold f_X1_kind at hf
  refine lv_iconst (v := (3 : Int32)) hx hb dX1_kind_0 (by decide) ?_
  have ho := ks hf
  subst ho
  exact kiret hx hb hr hlk hP hD hS hQ dX1_kind_1
abbrev k_X1_due (G : KG) (a_this : Nat) (this_number : Int32) (this_m : Int32) : va_W := [(a_this, .inr (1, [.int this_number, .int this_m]))]
def f_X1_due (N : Nat) (p0 : Int32) (p1 : Int32) (this_m : Int32) : Option (Int32) := ((f_X11_figureSum N (p0 + this_m) (10 : Int32)).bind fun r1 => (some r1))
set_option maxRecDepth 100000 in
set_option maxHeartbeats 4000000 in
theorem c_X1_due (l : Launch) (G : KG) (N : Nat) (a_p2 : Nat) (a_this : Nat) (p0 : Int32) (p1 : Int32) (this_number : Int32) (this_m : Int32)  (out : Int32) (hf : f_X1_due N p0 p1 this_m = some out) : KM l G yX1_due (kw yX1_due cX1_due 4 (some .int)) 1 24 [.ref a_this, .int p0, .int p1, .ref a_p2] (k_X1_due G a_this this_number this_m) (k_X1_due G a_this this_number this_m) (some (.int out)) := by
  refine KM.of (by decide) (Nat.le_of_ble_eq_true rfl) ?_
  intro p e s m below meth c A ls args Q Fx0 hP hK hD hA hS hAm hQ hl
  obtain ⟨hx, hb, hr, hml, hts, hown, hlk, hnm⟩ := Fx0
  have hown : s.vm.findClass RX1 = some m.cls := hown
  have hl : lv_has ls 4 [(0, .ref a_this), (1, .int p0), (2, .int p1), (3, .ref a_p2)] := hl
  have fl_11 := hts _ tw_179
  have sf_11 := hts _ tw_180
  unfold f_X1_due at hf
  refine lv_iload_n hx hb dX1_due_0 rfl (lv_at hl 1 rfl) ?_
  refine lv_aload_n hx hb dX1_due_1 rfl (lv_at hl 0 rfl) ?_
  refine va_get (D := gD G) (ci := 1) (C := RX1) (T := TX1) (N := 2) hx hb hts hin_X1 hown hK hP 0 rfl rfl 1 (by decide) fl_11 (u_same sf_11) rfl dX1_due_2 ?_
  refine lv_iadd hx hb dX1_due_5 ?_
  refine lv_bipush (v := (10 : Int32)) hx hb dX1_due_6 (by decide) ?_
  obtain ⟨r1, hr1, hf⟩ := kb hf
  refine kSN (As := [.int (p0 + this_m), .int (10 : Int32)]) (rest := []) ⟨hx, hb, hml, hown, hts⟩ (c_X11_figureSum l G N (p0 + this_m) (10 : Int32) r1 hr1) ⟨kcN 2 hts hAm nw_X1_17 tw_512 tw_80 hd_X11_figureSum ⟨Nat.le_of_ble_eq_true rfl, Nat.le_of_ble_eq_true rfl⟩, hts _ tw_511, trivial⟩ dX1_due_8 hl.1 hK hAm hA hP hD hS [] rfl rfl rfl [] rfl rfl rfl (Nat.le_of_ble_eq_true rfl) ⟨Nat.le_refl _, Nat.le_refl _⟩ (fun H locs hP hD hS => ?_)
  have hP : va_P (gD G) vwCl (k_X1_due G a_this this_number this_m) H := hP
  have hD : va_D A (k_X1_due G a_this this_number this_m) := hD
  have ho := ks hf
  subst ho
  exact kiret hx hb hr hlk hP hD hS hQ dX1_due_11
abbrev k_X2_kind (G : KG) : va_W := []
def f_X2_kind (N : Nat) : Option (Int32) := (some (5 : Int32))
set_option maxRecDepth 100000 in
set_option maxHeartbeats 4000000 in
theorem c_X2_kind (l : Launch) (G : KG) (N : Nat) (a_this : Nat)  (out : Int32) (hf : f_X2_kind N = some out) : KM l G yX2_kind (kw yX2_kind cX2_kind 1 (some .int)) 0 0 [.ref a_this] (k_X2_kind G) (k_X2_kind G) (some (.int out)) := by
  refine KM.of (by decide) (Nat.le_of_ble_eq_true rfl) ?_
  intro p e s m below meth c A ls args Q Fx0 hP hK hD hA hS hAm hQ hl
  obtain ⟨hx, hb, hr, hml, hts, hown, hlk, hnm⟩ := Fx0
  have hown : s.vm.findClass RX2 = some m.cls := hown
  have hl : lv_has ls 1 [(0, .ref a_this)] := hl
  unfold f_X2_kind at hf
  refine lv_iconst (v := (5 : Int32)) hx hb dX2_kind_0 (by decide) ?_
  have ho := ks hf
  subst ho
  exact kiret hx hb hr hlk hP hD hS hQ dX2_kind_1
abbrev k_X3_kind (G : KG) : va_W := []
def f_X3_kind (N : Nat) : Option (Int32) := (some (1 : Int32))
set_option maxRecDepth 100000 in
set_option maxHeartbeats 4000000 in
theorem c_X3_kind (l : Launch) (G : KG) (N : Nat) (a_this : Nat)  (out : Int32) (hf : f_X3_kind N = some out) : KM l G yX3_kind (kw yX3_kind cX3_kind 1 (some .int)) 0 0 [.ref a_this] (k_X3_kind G) (k_X3_kind G) (some (.int out)) := by
  refine KM.of (by decide) (Nat.le_of_ble_eq_true rfl) ?_
  intro p e s m below meth c A ls args Q Fx0 hP hK hD hA hS hAm hQ hl
  obtain ⟨hx, hb, hr, hml, hts, hown, hlk, hnm⟩ := Fx0
  have hown : s.vm.findClass RX3 = some m.cls := hown
  have hl : lv_has ls 1 [(0, .ref a_this)] := hl
  unfold f_X3_kind at hf
  refine lv_iconst (v := (1 : Int32)) hx hb dX3_kind_0 (by decide) ?_
  have ho := ks hf
  subst ho
  exact kiret hx hb hr hlk hP hD hS hQ dX3_kind_1
abbrev k_X3_due (G : KG) : va_W := []
def f_X3_due (N : Nat) (p0 : Int32) (p1 : Int32) : Option (Int32) := (some (p0 - p0 / (10 : Int32) * (10 : Int32)))
set_option maxRecDepth 100000 in
set_option maxHeartbeats 4000000 in
theorem c_X3_due (l : Launch) (G : KG) (N : Nat) (a_this : Nat) (a_p2 : Nat) (p0 : Int32) (p1 : Int32)  (out : Int32) (hf : f_X3_due N p0 p1 = some out) : KM l G yX3_due (kw yX3_due cX3_due 4 (some .int)) 0 0 [.ref a_this, .int p0, .int p1, .ref a_p2] (k_X3_due G) (k_X3_due G) (some (.int out)) := by
  refine KM.of (by decide) (Nat.le_of_ble_eq_true rfl) ?_
  intro p e s m below meth c A ls args Q Fx0 hP hK hD hA hS hAm hQ hl
  obtain ⟨hx, hb, hr, hml, hts, hown, hlk, hnm⟩ := Fx0
  have hown : s.vm.findClass RX3 = some m.cls := hown
  have hl : lv_has ls 4 [(0, .ref a_this), (1, .int p0), (2, .int p1), (3, .ref a_p2)] := hl
  unfold f_X3_due at hf
  refine lv_iload_n hx hb dX3_due_0 rfl (lv_at hl 1 rfl) ?_
  refine lv_bipush (v := (10 : Int32)) hx hb dX3_due_1 (by decide) ?_
  refine lv_irem hx hb dX3_due_3 (by decide) ?_
  have ho := ks hf
  subst ho
  exact kiret hx hb hr hlk hP hD hS hQ dX3_due_4
abbrev k_X5_kind (G : KG) : va_W := []
def f_X5_kind (N : Nat) : Option (Int32) := (some (4 : Int32))
set_option maxRecDepth 100000 in
set_option maxHeartbeats 4000000 in
theorem c_X5_kind (l : Launch) (G : KG) (N : Nat) (a_this : Nat)  (out : Int32) (hf : f_X5_kind N = some out) : KM l G yX5_kind (kw yX5_kind cX5_kind 1 (some .int)) 0 0 [.ref a_this] (k_X5_kind G) (k_X5_kind G) (some (.int out)) := by
  refine KM.of (by decide) (Nat.le_of_ble_eq_true rfl) ?_
  intro p e s m below meth c A ls args Q Fx0 hP hK hD hA hS hAm hQ hl
  obtain ⟨hx, hb, hr, hml, hts, hown, hlk, hnm⟩ := Fx0
  have hown : s.vm.findClass RX5 = some m.cls := hown
  have hl : lv_has ls 1 [(0, .ref a_this)] := hl
  unfold f_X5_kind at hf
  refine lv_iconst (v := (4 : Int32)) hx hb dX5_kind_0 (by decide) ?_
  have ho := ks hf
  subst ho
  exact kiret hx hb hr hlk hP hD hS hQ dX5_kind_1
abbrev k_X5_due (G : KG) (a_this : Nat) (this_number : Int32) (this_m : Int32) : va_W := [(a_this, .inr (5, [.int this_number, .int this_m]))]
def f_X5_due (N : Nat) (p0 : Int32) (p1 : Int32) (this_m : Int32) : Option (Int32) := ((f_X11_oneFigure N p0 (this_m + (2 : Int32))).bind fun r1 => (some r1))
set_option maxRecDepth 100000 in
set_option maxHeartbeats 4000000 in
theorem c_X5_due (l : Launch) (G : KG) (N : Nat) (a_p2 : Nat) (a_this : Nat) (p0 : Int32) (p1 : Int32) (this_number : Int32) (this_m : Int32)  (out : Int32) (hf : f_X5_due N p0 p1 this_m = some out) : KM l G yX5_due (kw yX5_due cX5_due 4 (some .int)) 2 47 [.ref a_this, .int p0, .int p1, .ref a_p2] (k_X5_due G a_this this_number this_m) (k_X5_due G a_this this_number this_m) (some (.int out)) := by
  refine KM.of (by decide) (Nat.le_of_ble_eq_true rfl) ?_
  intro p e s m below meth c A ls args Q Fx0 hP hK hD hA hS hAm hQ hl
  obtain ⟨hx, hb, hr, hml, hts, hown, hlk, hnm⟩ := Fx0
  have hown : s.vm.findClass RX5 = some m.cls := hown
  have hl : lv_has ls 4 [(0, .ref a_this), (1, .int p0), (2, .int p1), (3, .ref a_p2)] := hl
  have fl_11 := hts _ tw_181
  have sf_11 := hts _ tw_182
  unfold f_X5_due at hf
  refine lv_iload_n hx hb dX5_due_0 rfl (lv_at hl 1 rfl) ?_
  refine lv_aload_n hx hb dX5_due_1 rfl (lv_at hl 0 rfl) ?_
  refine va_get (D := gD G) (ci := 5) (C := RX5) (T := TX5) (N := 2) hx hb hts hin_X5 hown hK hP 0 rfl rfl 1 (by decide) fl_11 (u_same sf_11) rfl dX5_due_2 ?_
  refine lv_iconst (v := (2 : Int32)) hx hb dX5_due_5 (by decide) ?_
  refine lv_iadd hx hb dX5_due_6 ?_
  obtain ⟨r1, hr1, hf⟩ := kb hf
  refine kSN (As := [.int p0, .int (this_m + (2 : Int32))]) (rest := []) ⟨hx, hb, hml, hown, hts⟩ (c_X11_oneFigure l G N p0 (this_m + (2 : Int32)) r1 hr1) ⟨kcN 2 hts hAm nw_X5_17 tw_543 tw_80 hd_X11_oneFigure ⟨Nat.le_of_ble_eq_true rfl, Nat.le_of_ble_eq_true rfl⟩, hts _ tw_542, trivial⟩ dX5_due_7 hl.1 hK hAm hA hP hD hS [] rfl rfl rfl [] rfl rfl rfl (Nat.le_of_ble_eq_true rfl) ⟨Nat.le_refl _, Nat.le_refl _⟩ (fun H locs hP hD hS => ?_)
  have hP : va_P (gD G) vwCl (k_X5_due G a_this this_number this_m) H := hP
  have hD : va_D A (k_X5_due G a_this this_number this_m) := hD
  have ho := ks hf
  subst ho
  exact kiret hx hb hr hlk hP hD hS hQ dX5_due_10
abbrev k_X6_kind (G : KG) : va_W := []
def f_X6_kind (N : Nat) : Option (Int32) := (some (2 : Int32))
set_option maxRecDepth 100000 in
set_option maxHeartbeats 4000000 in
theorem c_X6_kind (l : Launch) (G : KG) (N : Nat) (a_this : Nat)  (out : Int32) (hf : f_X6_kind N = some out) : KM l G yX6_kind (kw yX6_kind cX6_kind 1 (some .int)) 0 0 [.ref a_this] (k_X6_kind G) (k_X6_kind G) (some (.int out)) := by
  refine KM.of (by decide) (Nat.le_of_ble_eq_true rfl) ?_
  intro p e s m below meth c A ls args Q Fx0 hP hK hD hA hS hAm hQ hl
  obtain ⟨hx, hb, hr, hml, hts, hown, hlk, hnm⟩ := Fx0
  have hown : s.vm.findClass RX6 = some m.cls := hown
  have hl : lv_has ls 1 [(0, .ref a_this)] := hl
  unfold f_X6_kind at hf
  refine lv_iconst (v := (2 : Int32)) hx hb dX6_kind_0 (by decide) ?_
  have ho := ks hf
  subst ho
  exact kiret hx hb hr hlk hP hD hS hQ dX6_kind_1
abbrev k_X6_due (G : KG) : va_W := []
def f_X6_due (N : Nat) (p0 : Int32) (p1 : Int32) : Option (Int32) := ((f_X11_oneFigure N p0 (10 : Int32)).bind fun r1 => (some r1))
set_option maxRecDepth 100000 in
set_option maxHeartbeats 4000000 in
theorem c_X6_due (l : Launch) (G : KG) (N : Nat) (a_this : Nat) (a_p2 : Nat) (p0 : Int32) (p1 : Int32)  (out : Int32) (hf : f_X6_due N p0 p1 = some out) : KM l G yX6_due (kw yX6_due cX6_due 4 (some .int)) 2 47 [.ref a_this, .int p0, .int p1, .ref a_p2] (k_X6_due G) (k_X6_due G) (some (.int out)) := by
  refine KM.of (by decide) (Nat.le_of_ble_eq_true rfl) ?_
  intro p e s m below meth c A ls args Q Fx0 hP hK hD hA hS hAm hQ hl
  obtain ⟨hx, hb, hr, hml, hts, hown, hlk, hnm⟩ := Fx0
  have hown : s.vm.findClass RX6 = some m.cls := hown
  have hl : lv_has ls 4 [(0, .ref a_this), (1, .int p0), (2, .int p1), (3, .ref a_p2)] := hl
  unfold f_X6_due at hf
  refine lv_iload_n hx hb dX6_due_0 rfl (lv_at hl 1 rfl) ?_
  refine lv_bipush (v := (10 : Int32)) hx hb dX6_due_1 (by decide) ?_
  obtain ⟨r1, hr1, hf⟩ := kb hf
  refine kSN (As := [.int p0, .int (10 : Int32)]) (rest := []) ⟨hx, hb, hml, hown, hts⟩ (c_X11_oneFigure l G N p0 (10 : Int32) r1 hr1) ⟨kcN 2 hts hAm nw_X6_11 tw_543 tw_80 hd_X11_oneFigure ⟨Nat.le_of_ble_eq_true rfl, Nat.le_of_ble_eq_true rfl⟩, hts _ tw_542, trivial⟩ dX6_due_3 hl.1 hK hAm hA hP hD hS [] rfl rfl rfl [] rfl rfl rfl (Nat.le_of_ble_eq_true rfl) ⟨Nat.le_refl _, Nat.le_refl _⟩ (fun H locs hP hD hS => ?_)
  have hP : va_P (gD G) vwCl (k_X6_due G) H := hP
  have hD : va_D A (k_X6_due G) := hD
  have ho := ks hf
  subst ho
  exact kiret hx hb hr hlk hP hD hS hQ dX6_due_6
abbrev k_X8_kind (G : KG) : va_W := []
def f_X8_kind (N : Nat) : Option (Int32) := (some (0 : Int32))
set_option maxRecDepth 100000 in
set_option maxHeartbeats 4000000 in
theorem c_X8_kind (l : Launch) (G : KG) (N : Nat) (a_this : Nat)  (out : Int32) (hf : f_X8_kind N = some out) : KM l G yX8_kind (kw yX8_kind cX8_kind 1 (some .int)) 0 0 [.ref a_this] (k_X8_kind G) (k_X8_kind G) (some (.int out)) := by
  refine KM.of (by decide) (Nat.le_of_ble_eq_true rfl) ?_
  intro p e s m below meth c A ls args Q Fx0 hP hK hD hA hS hAm hQ hl
  obtain ⟨hx, hb, hr, hml, hts, hown, hlk, hnm⟩ := Fx0
  have hown : s.vm.findClass RX8 = some m.cls := hown
  have hl : lv_has ls 1 [(0, .ref a_this)] := hl
  unfold f_X8_kind at hf
  refine lv_iconst (v := (0 : Int32)) hx hb dX8_kind_0 (by decide) ?_
  have ho := ks hf
  subst ho
  exact kiret hx hb hr hlk hP hD hS hQ dX8_kind_1
abbrev k_X8_isOf (G : KG) : va_W := []
def f_X8_isOf (N : Nat) (p0 : Int32) : Option (Int32) := (if p0 = 0 then (some (1 : Int32)) else (some (0 : Int32)))
set_option maxRecDepth 100000 in
set_option maxHeartbeats 4000000 in
theorem c_X8_isOf (l : Launch) (G : KG) (N : Nat) (a_this : Nat) (p0 : Int32)  (out : Int32) (hf : f_X8_isOf N p0 = some out) : KM l G yX8_isOf (kw yX8_isOf cX8_isOf 2 (some .boolean)) 0 0 [.ref a_this, .int p0] (k_X8_isOf G) (k_X8_isOf G) (some (.int out)) := by
  refine KM.of (by decide) (Nat.le_of_ble_eq_true rfl) ?_
  intro p e s m below meth c A ls args Q Fx0 hP hK hD hA hS hAm hQ hl
  obtain ⟨hx, hb, hr, hml, hts, hown, hlk, hnm⟩ := Fx0
  have hown : s.vm.findClass RX8 = some m.cls := hown
  have hl : lv_has ls 2 [(0, .ref a_this), (1, .int p0)] := hl
  unfold f_X8_isOf at hf
  refine lv_iload_n hx hb dX8_isOf_0 rfl (lv_at hl 1 rfl) ?_
  refine lv_if_ne (tgt := 8) hx hb dX8_isOf_1 (by decide) (fun c1 => ?_) (fun c1 => ?_)
  · replace hf := kf c1 hf
    refine lv_iconst (v := (0 : Int32)) hx hb dX8_isOf_8 (by decide) ?_
    have ho := ks hf
    subst ho
    exact kzret hx hb hr (Or.inl rfl) hlk hP hD hS hQ dX8_isOf_9
  · replace hf := kt c1 hf
    refine lv_iconst (v := (1 : Int32)) hx hb dX8_isOf_4 (by decide) ?_
    refine lv_goto (tgt := 9) hx hb dX8_isOf_5 (by decide) ?_
    have ho := ks hf
    subst ho
    exact kzret hx hb hr (Or.inr rfl) hlk hP hD hS hQ dX8_isOf_9
abbrev k_X8_due (G : KG) : va_W := []
def f_X8_due (N : Nat) (p0 : Int32) (p1 : Int32) : Option (Int32) := ((f_X11_figureSum N p0 (10 : Int32)).bind fun r1 => (some r1))
set_option maxRecDepth 100000 in
set_option maxHeartbeats 4000000 in
theorem c_X8_due (l : Launch) (G : KG) (N : Nat) (a_this : Nat) (a_p2 : Nat) (p0 : Int32) (p1 : Int32)  (out : Int32) (hf : f_X8_due N p0 p1 = some out) : KM l G yX8_due (kw yX8_due cX8_due 4 (some .int)) 1 24 [.ref a_this, .int p0, .int p1, .ref a_p2] (k_X8_due G) (k_X8_due G) (some (.int out)) := by
  refine KM.of (by decide) (Nat.le_of_ble_eq_true rfl) ?_
  intro p e s m below meth c A ls args Q Fx0 hP hK hD hA hS hAm hQ hl
  obtain ⟨hx, hb, hr, hml, hts, hown, hlk, hnm⟩ := Fx0
  have hown : s.vm.findClass RX8 = some m.cls := hown
  have hl : lv_has ls 4 [(0, .ref a_this), (1, .int p0), (2, .int p1), (3, .ref a_p2)] := hl
  unfold f_X8_due at hf
  refine lv_iload_n hx hb dX8_due_0 rfl (lv_at hl 1 rfl) ?_
  refine lv_bipush (v := (10 : Int32)) hx hb dX8_due_1 (by decide) ?_
  obtain ⟨r1, hr1, hf⟩ := kb hf
  refine kSN (As := [.int p0, .int (10 : Int32)]) (rest := []) ⟨hx, hb, hml, hown, hts⟩ (c_X11_figureSum l G N p0 (10 : Int32) r1 hr1) ⟨kcN 2 hts hAm nw_X8_16 tw_512 tw_80 hd_X11_figureSum ⟨Nat.le_of_ble_eq_true rfl, Nat.le_of_ble_eq_true rfl⟩, hts _ tw_511, trivial⟩ dX8_due_3 hl.1 hK hAm hA hP hD hS [] rfl rfl rfl [] rfl rfl rfl (Nat.le_of_ble_eq_true rfl) ⟨Nat.le_refl _, Nat.le_refl _⟩ (fun H locs hP hD hS => ?_)
  have hP : va_P (gD G) vwCl (k_X8_due G) H := hP
  have hD : va_D A (k_X8_due G) := hD
  have ho := ks hf
  subst ho
  exact kiret hx hb hr hlk hP hD hS hQ dX8_due_6
abbrev k_X9_kind (G : KG) : va_W := []
def f_X9_kind (N : Nat) : Option (Int32) := (some (6 : Int32))
set_option maxRecDepth 100000 in
set_option maxHeartbeats 4000000 in
theorem c_X9_kind (l : Launch) (G : KG) (N : Nat) (a_this : Nat)  (out : Int32) (hf : f_X9_kind N = some out) : KM l G yX9_kind (kw yX9_kind cX9_kind 1 (some .int)) 0 0 [.ref a_this] (k_X9_kind G) (k_X9_kind G) (some (.int out)) := by
  refine KM.of (by decide) (Nat.le_of_ble_eq_true rfl) ?_
  intro p e s m below meth c A ls args Q Fx0 hP hK hD hA hS hAm hQ hl
  obtain ⟨hx, hb, hr, hml, hts, hown, hlk, hnm⟩ := Fx0
  have hown : s.vm.findClass RX9 = some m.cls := hown
  have hl : lv_has ls 1 [(0, .ref a_this)] := hl
  unfold f_X9_kind at hf
  refine lv_bipush (v := (6 : Int32)) hx hb dX9_kind_0 (by decide) ?_
  have ho := ks hf
  subst ho
  exact kiret hx hb hr hlk hP hD hS hQ dX9_kind_2
abbrev k_X8_kind_X3 (G : KG) : va_W := []
def f_X8_kind_X3 (N : Nat) : Option (Int32) := (some (0 : Int32))
set_option maxRecDepth 100000 in
set_option maxHeartbeats 4000000 in
theorem c_X8_kind_X3 (l : Launch) (G : KG) (N : Nat) (a_this : Nat)  (out : Int32) (hf : f_X8_kind_X3 N = some out) : KM l G yX8_kind (kw yX8_kind cX8_kind 1 (some .int)) 0 0 [.ref a_this] (k_X8_kind_X3 G) (k_X8_kind_X3 G) (some (.int out)) := by
  refine KM.of (by decide) (Nat.le_of_ble_eq_true rfl) ?_
  intro p e s m below meth c A ls args Q Fx0 hP hK hD hA hS hAm hQ hl
  obtain ⟨hx, hb, hr, hml, hts, hown, hlk, hnm⟩ := Fx0
  have hown : s.vm.findClass RX8 = some m.cls := hown
  have hl : lv_has ls 1 [(0, .ref a_this)] := hl
  unfold f_X8_kind_X3 at hf
  refine lv_iconst (v := (0 : Int32)) hx hb dX8_kind_0 (by decide) ?_
  have ho := ks hf
  subst ho
  exact kiret hx hb hr hlk hP hD hS hQ dX8_kind_1
abbrev k_X8_isOf_X3 (G : KG) : va_W := []
def f_X8_isOf_X3 (N : Nat) (p0 : Int32) : Option (Int32) := (if p0 = 0 then (some (1 : Int32)) else (some (0 : Int32)))
set_option maxRecDepth 100000 in
set_option maxHeartbeats 4000000 in
theorem c_X8_isOf_X3 (l : Launch) (G : KG) (N : Nat) (a_this : Nat) (p0 : Int32)  (out : Int32) (hf : f_X8_isOf_X3 N p0 = some out) : KM l G yX8_isOf (kw yX8_isOf cX8_isOf 2 (some .boolean)) 0 0 [.ref a_this, .int p0] (k_X8_isOf_X3 G) (k_X8_isOf_X3 G) (some (.int out)) := by
  refine KM.of (by decide) (Nat.le_of_ble_eq_true rfl) ?_
  intro p e s m below meth c A ls args Q Fx0 hP hK hD hA hS hAm hQ hl
  obtain ⟨hx, hb, hr, hml, hts, hown, hlk, hnm⟩ := Fx0
  have hown : s.vm.findClass RX8 = some m.cls := hown
  have hl : lv_has ls 2 [(0, .ref a_this), (1, .int p0)] := hl
  unfold f_X8_isOf_X3 at hf
  refine lv_iload_n hx hb dX8_isOf_0 rfl (lv_at hl 1 rfl) ?_
  refine lv_if_ne (tgt := 8) hx hb dX8_isOf_1 (by decide) (fun c1 => ?_) (fun c1 => ?_)
  · replace hf := kf c1 hf
    refine lv_iconst (v := (0 : Int32)) hx hb dX8_isOf_8 (by decide) ?_
    have ho := ks hf
    subst ho
    exact kzret hx hb hr (Or.inl rfl) hlk hP hD hS hQ dX8_isOf_9
  · replace hf := kt c1 hf
    refine lv_iconst (v := (1 : Int32)) hx hb dX8_isOf_4 (by decide) ?_
    refine lv_goto (tgt := 9) hx hb dX8_isOf_5 (by decide) ?_
    have ho := ks hf
    subst ho
    exact kzret hx hb hr (Or.inr rfl) hlk hP hD hS hQ dX8_isOf_9
abbrev k_X8_due_X3 (G : KG) : va_W := []
def f_X8_due_X3 (N : Nat) (p0 : Int32) (p1 : Int32) : Option (Int32) := ((f_X11_figureSum N p0 (10 : Int32)).bind fun r1 => (some r1))
set_option maxRecDepth 100000 in
set_option maxHeartbeats 4000000 in
theorem c_X8_due_X3 (l : Launch) (G : KG) (N : Nat) (a_this : Nat) (a_p2 : Nat) (p0 : Int32) (p1 : Int32)  (out : Int32) (hf : f_X8_due_X3 N p0 p1 = some out) : KM l G yX8_due (kw yX8_due cX8_due 4 (some .int)) 1 24 [.ref a_this, .int p0, .int p1, .ref a_p2] (k_X8_due_X3 G) (k_X8_due_X3 G) (some (.int out)) := by
  refine KM.of (by decide) (Nat.le_of_ble_eq_true rfl) ?_
  intro p e s m below meth c A ls args Q Fx0 hP hK hD hA hS hAm hQ hl
  obtain ⟨hx, hb, hr, hml, hts, hown, hlk, hnm⟩ := Fx0
  have hown : s.vm.findClass RX8 = some m.cls := hown
  have hl : lv_has ls 4 [(0, .ref a_this), (1, .int p0), (2, .int p1), (3, .ref a_p2)] := hl
  unfold f_X8_due_X3 at hf
  refine lv_iload_n hx hb dX8_due_0 rfl (lv_at hl 1 rfl) ?_
  refine lv_bipush (v := (10 : Int32)) hx hb dX8_due_1 (by decide) ?_
  obtain ⟨r1, hr1, hf⟩ := kb hf
  refine kSN (As := [.int p0, .int (10 : Int32)]) (rest := []) ⟨hx, hb, hml, hown, hts⟩ (c_X11_figureSum l G N p0 (10 : Int32) r1 hr1) ⟨kcN 2 hts hAm nw_X8_16 tw_512 tw_80 hd_X11_figureSum ⟨Nat.le_of_ble_eq_true rfl, Nat.le_of_ble_eq_true rfl⟩, hts _ tw_511, trivial⟩ dX8_due_3 hl.1 hK hAm hA hP hD hS [] rfl rfl rfl [] rfl rfl rfl (Nat.le_of_ble_eq_true rfl) ⟨Nat.le_refl _, Nat.le_refl _⟩ (fun H locs hP hD hS => ?_)
  have hP : va_P (gD G) vwCl (k_X8_due_X3 G) H := hP
  have hD : va_D A (k_X8_due_X3 G) := hD
  have ho := ks hf
  subst ho
  exact kiret hx hb hr hlk hP hD hS hQ dX8_due_6
abbrev k_X8_adds_X3 (G : KG) (a_p0 : Nat) (a_p0_bodies : Nat) (a_this : Nat) (p0_length : Int32) (p0_parted : Int32) (p0_bodies : Nat → Int32) (this_number : Int32) (this_m : Int32) : va_W := [(a_p0, .inr (10, [.ref a_p0_bodies, .int p0_length, .int p0_parted])), (a_p0_bodies, .inl (gI G, 30, .inl p0_bodies)), (a_this, .inr (3, [.int this_number, .int this_m]))]
def f_X8_adds_X3 (N : Nat) (p1 : Int32) (p0_length : Int32) (p0_bodies : Nat → Int32) (this_number : Int32) : Option (Int32 × (Int32) × (Nat → Int32)) := ((f_X10_began N (10 : Int32) p0_length p0_bodies).bind fun r1 => (some ((p1 + this_number), r1.1, r1.2)))
set_option maxRecDepth 100000 in
set_option maxHeartbeats 4000000 in
theorem c_X8_adds_X3 (l : Launch) (G : KG) (N : Nat) (a_p0 : Nat) (a_p0_bodies : Nat) (a_this : Nat) (p1 : Int32) (p0_length : Int32) (p0_parted : Int32) (p0_bodies : Nat → Int32) (this_number : Int32) (this_m : Int32)  (out : Int32 × (Int32) × (Nat → Int32)) (hf : f_X8_adds_X3 N p1 p0_length p0_bodies this_number = some out) : KM l G yX8_adds (kw yX8_adds cX8_adds 3 (some .int)) 1 21 [.ref a_this, .ref a_p0, .int p1] (k_X8_adds_X3 G a_p0 a_p0_bodies a_this p0_length p0_parted p0_bodies this_number this_m) (k_X8_adds_X3 G a_p0 a_p0_bodies a_this (out.2.1) p0_parted (out.2.2) this_number this_m) (some (.int (out.1))) := by
  refine KM.of (by decide) (Nat.le_of_ble_eq_true rfl) ?_
  intro p e s m below meth c A ls args Q Fx0 hP hK hD hA hS hAm hQ hl
  obtain ⟨hx, hb, hr, hml, hts, hown, hlk, hnm⟩ := Fx0
  have hown : s.vm.findClass RX8 = some m.cls := hown
  have hl : lv_has ls 3 [(0, .ref a_this), (1, .ref a_p0), (2, .int p1)] := hl
  have fl_7 := hts _ tw_173
  unfold f_X8_adds_X3 at hf
  refine lv_aload_n hx hb dX8_adds_0 rfl (lv_at hl 1 rfl) ?_
  refine lv_bipush (v := (10 : Int32)) hx hb dX8_adds_1 (by decide) ?_
  obtain ⟨r1, hr1, hf⟩ := kb hf
  refine kVN (As := [.int (10 : Int32)]) (rest := []) ⟨hx, hb, hml, hown, hts⟩ (c_X10_began l G N a_p0 a_p0_bodies (10 : Int32) p0_length p0_parted p0_bodies r1 hr1) ⟨kcN 1 hts hAm nw_X8_22 tw_837 tw_90 hd_X10_began ⟨Nat.le_of_ble_eq_true rfl, Nat.le_of_ble_eq_true rfl⟩, hts _ tw_836, hts _ tw_38⟩ dX8_adds_3 hl.1 hK hAm hA hP hD hS 0 (ci := 10) rfl rfl rfl [0, 1] rfl rfl rfl [0, 1] rfl rfl rfl (Nat.le_of_ble_eq_true rfl) ⟨Nat.le_refl _, Nat.le_refl _⟩ (fun H locs hP hD hS => ?_)
  have hP : va_P (gD G) vwCl (k_X8_adds_X3 G a_p0 a_p0_bodies a_this r1.1 p0_parted r1.2 this_number this_m) H := hP
  have hD : va_D A (k_X8_adds_X3 G a_p0 a_p0_bodies a_this r1.1 p0_parted r1.2 this_number this_m) := hD
  refine lv_iload_n hx hb dX8_adds_6 rfl (lv_at hl 2 rfl) ?_
  refine lv_aload_n hx hb dX8_adds_7 rfl (lv_at hl 0 rfl) ?_
  refine va_get (D := gD G) (ci := 3) (C := RX3) (T := TX3) (N := 2) hx hb hts hin_X3 hown hK hP 2 rfl rfl 0 (by decide) fl_7 (fun _ h9 => h9) rfl dX8_adds_8 ?_
  refine lv_iadd hx hb dX8_adds_11 ?_
  have ho := ks hf
  subst ho
  exact kiret hx hb hr hlk hP hD hS hQ dX8_adds_12
abbrev k_X8_parts_X3 (G : KG) (a_p0 : Nat) (a_p0_bodies : Nat) (a_this : Nat) (p0_length : Int32) (p0_parted : Int32) (p0_bodies : Nat → Int32) (this_number : Int32) (this_m : Int32) : va_W := [(a_p0, .inr (10, [.ref a_p0_bodies, .int p0_length, .int p0_parted])), (a_p0_bodies, .inl (gI G, 30, .inl p0_bodies)), (a_this, .inr (3, [.int this_number, .int this_m]))]
def f_X8_parts_X3 (N : Nat) (p1 : Int32) (p0_length : Int32) (p0_parted : Int32) (p0_bodies : Nat → Int32) (this_number : Int32) (this_m : Int32) : Option (Int32 × (Int32) × (Int32) × (Nat → Int32)) := ((f_X10_began N (13 : Int32) p0_length p0_bodies).bind fun r1 => (if (this_m - this_number) = 0 then (some ((0 : Int32), r1.1, (1 : Int32), r1.2)) else (if ¬ (this_m - this_number) = 0 then (some ((p1 / (this_m - this_number)), r1.1, p0_parted, r1.2)) else none)))
set_option maxRecDepth 100000 in
set_option maxHeartbeats 4000000 in
theorem c_X8_parts_X3 (l : Launch) (G : KG) (N : Nat) (a_p0 : Nat) (a_p0_bodies : Nat) (a_this : Nat) (p1 : Int32) (p0_length : Int32) (p0_parted : Int32) (p0_bodies : Nat → Int32) (this_number : Int32) (this_m : Int32)  (out : Int32 × (Int32) × (Int32) × (Nat → Int32)) (hf : f_X8_parts_X3 N p1 p0_length p0_parted p0_bodies this_number this_m = some out) : KM l G yX8_parts (kw yX8_parts cX8_parts 4 (some .int)) 1 21 [.ref a_this, .ref a_p0, .int p1] (k_X8_parts_X3 G a_p0 a_p0_bodies a_this p0_length p0_parted p0_bodies this_number this_m) (k_X8_parts_X3 G a_p0 a_p0_bodies a_this (out.2.1) (out.2.2.1) (out.2.2.2) this_number this_m) (some (.int (out.1))) := by
  refine KM.of (by decide) (Nat.le_of_ble_eq_true rfl) ?_
  intro p e s m below meth c A ls args Q Fx0 hP hK hD hA hS hAm hQ hl
  obtain ⟨hx, hb, hr, hml, hts, hown, hlk, hnm⟩ := Fx0
  have hown : s.vm.findClass RX8 = some m.cls := hown
  have hl : lv_has ls 4 [(0, .ref a_this), (1, .ref a_p0), (2, .int p1)] := hl
  have fl_13 := hts _ tw_176
  have fl_7 := hts _ tw_173
  have fl_35 := va_Nw.use (A := args) rfl (hAm.1 _ nw_X8_35 rfl)
  unfold f_X8_parts_X3 at hf
  refine lv_aload_n hx hb dX8_parts_0 rfl (lv_at hl 1 rfl) ?_
  refine lv_bipush (v := (13 : Int32)) hx hb dX8_parts_1 (by decide) ?_
  obtain ⟨r1, hr1, hf⟩ := kb hf
  refine kVN (As := [.int (13 : Int32)]) (rest := []) ⟨hx, hb, hml, hown, hts⟩ (c_X10_began l G N a_p0 a_p0_bodies (13 : Int32) p0_length p0_parted p0_bodies r1 hr1) ⟨kcN 1 hts hAm nw_X8_22 tw_837 tw_90 hd_X10_began ⟨Nat.le_of_ble_eq_true rfl, Nat.le_of_ble_eq_true rfl⟩, hts _ tw_836, hts _ tw_38⟩ dX8_parts_3 hl.1 hK hAm hA hP hD hS 0 (ci := 10) rfl rfl rfl [0, 1] rfl rfl rfl [0, 1] rfl rfl rfl (Nat.le_of_ble_eq_true rfl) ⟨Nat.le_refl _, Nat.le_refl _⟩ (fun H locs hP hD hS => ?_)
  have hP : va_P (gD G) vwCl (k_X8_parts_X3 G a_p0 a_p0_bodies a_this r1.1 p0_parted r1.2 this_number this_m) H := hP
  have hD : va_D A (k_X8_parts_X3 G a_p0 a_p0_bodies a_this r1.1 p0_parted r1.2 this_number this_m) := hD
  refine lv_aload_n hx hb dX8_parts_6 rfl (lv_at hl 0 rfl) ?_
  refine va_get (D := gD G) (ci := 3) (C := RX3) (T := TX3) (N := 2) hx hb hts hin_X3 hown hK hP 2 rfl rfl 1 (by decide) fl_13 (fun _ h9 => h9) rfl dX8_parts_7 ?_
  refine lv_aload_n hx hb dX8_parts_10 rfl (lv_at hl 0 rfl) ?_
  refine va_get (D := gD G) (ci := 3) (C := RX3) (T := TX3) (N := 2) hx hb hts hin_X3 hown hK hP 2 rfl rfl 0 (by decide) fl_7 (fun _ h9 => h9) rfl dX8_parts_11 ?_
  refine lv_isub hx hb dX8_parts_14 ?_
  refine lv_istore_n (lv' := [(3, .int (this_m - this_number)), (0, .ref a_this), (1, .ref a_p0), (2, .int p1)]) hx hb dX8_parts_15 rfl hl (by decide) rfl (fun ls hl => ?_)
  refine lv_iload_n hx hb dX8_parts_16 rfl (lv_at hl 0 rfl) ?_
  refine lv_if_ne (tgt := 27) hx hb dX8_parts_17 (by decide) (fun c2 => ?_) (fun c2 => ?_)
  · replace hf := kf c2 hf
    refine lv_iload_n hx hb dX8_parts_27 rfl (lv_at hl 3 rfl) ?_
    refine lv_iload_n hx hb dX8_parts_28 rfl (lv_at hl 0 rfl) ?_
    obtain ⟨g3, hf⟩ := kg hf
    refine lv_idiv hx hb dX8_parts_29 g3 ?_
    have ho := ks hf
    subst ho
    exact kiret hx hb hr hlk hP hD hS hQ dX8_parts_30
  · replace hf := kt c2 hf
    refine lv_aload_n hx hb dX8_parts_20 rfl (lv_at hl 2 rfl) ?_
    refine lv_iconst (v := (1 : Int32)) hx hb dX8_parts_21 (by decide) ?_
    refine va_putN (D := gD G) (ci := 10) (v := .int (1 : Int32)) (ty := .boolean) (C := RX10) (T := TX10) (N := 3) hx hb hts hin_X10 tyX10 tyX10_ok nmX10 hown hK hP hD hS 0 rfl rfl 2 (by decide) fl_35 (fun _ h9 => h9) rfl (by decide +kernel) rfl rfl (Nat.le_of_ble_eq_true rfl) dX8_parts_22 (fun H locs hP hD hS => ?_)
    have hP : va_P (gD G) vwCl (k_X8_parts_X3 G a_p0 a_p0_bodies a_this r1.1 (1 : Int32) r1.2 this_number this_m) H := hP
    have hD : va_D A (k_X8_parts_X3 G a_p0 a_p0_bodies a_this r1.1 (1 : Int32) r1.2 this_number this_m) := hD
    refine lv_iconst (v := (0 : Int32)) hx hb dX8_parts_25 (by decide) ?_
    have ho := ks hf
    subst ho
    exact kiret hx hb hr hlk hP hD hS hQ dX8_parts_26
abbrev k_X8_kind_X6 (G : KG) : va_W := []
def f_X8_kind_X6 (N : Nat) : Option (Int32) := (some (0 : Int32))
set_option maxRecDepth 100000 in
set_option maxHeartbeats 4000000 in
theorem c_X8_kind_X6 (l : Launch) (G : KG) (N : Nat) (a_this : Nat)  (out : Int32) (hf : f_X8_kind_X6 N = some out) : KM l G yX8_kind (kw yX8_kind cX8_kind 1 (some .int)) 0 0 [.ref a_this] (k_X8_kind_X6 G) (k_X8_kind_X6 G) (some (.int out)) := by
  refine KM.of (by decide) (Nat.le_of_ble_eq_true rfl) ?_
  intro p e s m below meth c A ls args Q Fx0 hP hK hD hA hS hAm hQ hl
  obtain ⟨hx, hb, hr, hml, hts, hown, hlk, hnm⟩ := Fx0
  have hown : s.vm.findClass RX8 = some m.cls := hown
  have hl : lv_has ls 1 [(0, .ref a_this)] := hl
  unfold f_X8_kind_X6 at hf
  refine lv_iconst (v := (0 : Int32)) hx hb dX8_kind_0 (by decide) ?_
  have ho := ks hf
  subst ho
  exact kiret hx hb hr hlk hP hD hS hQ dX8_kind_1
abbrev k_X8_isOf_X6 (G : KG) : va_W := []
def f_X8_isOf_X6 (N : Nat) (p0 : Int32) : Option (Int32) := (if p0 = 0 then (some (1 : Int32)) else (some (0 : Int32)))
set_option maxRecDepth 100000 in
set_option maxHeartbeats 4000000 in
theorem c_X8_isOf_X6 (l : Launch) (G : KG) (N : Nat) (a_this : Nat) (p0 : Int32)  (out : Int32) (hf : f_X8_isOf_X6 N p0 = some out) : KM l G yX8_isOf (kw yX8_isOf cX8_isOf 2 (some .boolean)) 0 0 [.ref a_this, .int p0] (k_X8_isOf_X6 G) (k_X8_isOf_X6 G) (some (.int out)) := by
  refine KM.of (by decide) (Nat.le_of_ble_eq_true rfl) ?_
  intro p e s m below meth c A ls args Q Fx0 hP hK hD hA hS hAm hQ hl
  obtain ⟨hx, hb, hr, hml, hts, hown, hlk, hnm⟩ := Fx0
  have hown : s.vm.findClass RX8 = some m.cls := hown
  have hl : lv_has ls 2 [(0, .ref a_this), (1, .int p0)] := hl
  unfold f_X8_isOf_X6 at hf
  refine lv_iload_n hx hb dX8_isOf_0 rfl (lv_at hl 1 rfl) ?_
  refine lv_if_ne (tgt := 8) hx hb dX8_isOf_1 (by decide) (fun c1 => ?_) (fun c1 => ?_)
  · replace hf := kf c1 hf
    refine lv_iconst (v := (0 : Int32)) hx hb dX8_isOf_8 (by decide) ?_
    have ho := ks hf
    subst ho
    exact kzret hx hb hr (Or.inl rfl) hlk hP hD hS hQ dX8_isOf_9
  · replace hf := kt c1 hf
    refine lv_iconst (v := (1 : Int32)) hx hb dX8_isOf_4 (by decide) ?_
    refine lv_goto (tgt := 9) hx hb dX8_isOf_5 (by decide) ?_
    have ho := ks hf
    subst ho
    exact kzret hx hb hr (Or.inr rfl) hlk hP hD hS hQ dX8_isOf_9
abbrev k_X8_due_X6 (G : KG) : va_W := []
def f_X8_due_X6 (N : Nat) (p0 : Int32) (p1 : Int32) : Option (Int32) := ((f_X11_figureSum N p0 (10 : Int32)).bind fun r1 => (some r1))
set_option maxRecDepth 100000 in
set_option maxHeartbeats 4000000 in
theorem c_X8_due_X6 (l : Launch) (G : KG) (N : Nat) (a_this : Nat) (a_p2 : Nat) (p0 : Int32) (p1 : Int32)  (out : Int32) (hf : f_X8_due_X6 N p0 p1 = some out) : KM l G yX8_due (kw yX8_due cX8_due 4 (some .int)) 1 24 [.ref a_this, .int p0, .int p1, .ref a_p2] (k_X8_due_X6 G) (k_X8_due_X6 G) (some (.int out)) := by
  refine KM.of (by decide) (Nat.le_of_ble_eq_true rfl) ?_
  intro p e s m below meth c A ls args Q Fx0 hP hK hD hA hS hAm hQ hl
  obtain ⟨hx, hb, hr, hml, hts, hown, hlk, hnm⟩ := Fx0
  have hown : s.vm.findClass RX8 = some m.cls := hown
  have hl : lv_has ls 4 [(0, .ref a_this), (1, .int p0), (2, .int p1), (3, .ref a_p2)] := hl
  unfold f_X8_due_X6 at hf
  refine lv_iload_n hx hb dX8_due_0 rfl (lv_at hl 1 rfl) ?_
  refine lv_bipush (v := (10 : Int32)) hx hb dX8_due_1 (by decide) ?_
  obtain ⟨r1, hr1, hf⟩ := kb hf
  refine kSN (As := [.int p0, .int (10 : Int32)]) (rest := []) ⟨hx, hb, hml, hown, hts⟩ (c_X11_figureSum l G N p0 (10 : Int32) r1 hr1) ⟨kcN 2 hts hAm nw_X8_16 tw_512 tw_80 hd_X11_figureSum ⟨Nat.le_of_ble_eq_true rfl, Nat.le_of_ble_eq_true rfl⟩, hts _ tw_511, trivial⟩ dX8_due_3 hl.1 hK hAm hA hP hD hS [] rfl rfl rfl [] rfl rfl rfl (Nat.le_of_ble_eq_true rfl) ⟨Nat.le_refl _, Nat.le_refl _⟩ (fun H locs hP hD hS => ?_)
  have hP : va_P (gD G) vwCl (k_X8_due_X6 G) H := hP
  have hD : va_D A (k_X8_due_X6 G) := hD
  have ho := ks hf
  subst ho
  exact kiret hx hb hr hlk hP hD hS hQ dX8_due_6
abbrev k_X8_adds_X6 (G : KG) (a_p0 : Nat) (a_p0_bodies : Nat) (a_this : Nat) (p0_length : Int32) (p0_parted : Int32) (p0_bodies : Nat → Int32) (this_number : Int32) (this_m : Int32) : va_W := [(a_p0, .inr (10, [.ref a_p0_bodies, .int p0_length, .int p0_parted])), (a_p0_bodies, .inl (gI G, 30, .inl p0_bodies)), (a_this, .inr (6, [.int this_number, .int this_m]))]
def f_X8_adds_X6 (N : Nat) (p1 : Int32) (p0_length : Int32) (p0_bodies : Nat → Int32) (this_number : Int32) : Option (Int32 × (Int32) × (Nat → Int32)) := ((f_X10_began N (10 : Int32) p0_length p0_bodies).bind fun r1 => (some ((p1 + this_number), r1.1, r1.2)))
set_option maxRecDepth 100000 in
set_option maxHeartbeats 4000000 in
theorem c_X8_adds_X6 (l : Launch) (G : KG) (N : Nat) (a_p0 : Nat) (a_p0_bodies : Nat) (a_this : Nat) (p1 : Int32) (p0_length : Int32) (p0_parted : Int32) (p0_bodies : Nat → Int32) (this_number : Int32) (this_m : Int32)  (out : Int32 × (Int32) × (Nat → Int32)) (hf : f_X8_adds_X6 N p1 p0_length p0_bodies this_number = some out) : KM l G yX8_adds (kw yX8_adds cX8_adds 3 (some .int)) 1 21 [.ref a_this, .ref a_p0, .int p1] (k_X8_adds_X6 G a_p0 a_p0_bodies a_this p0_length p0_parted p0_bodies this_number this_m) (k_X8_adds_X6 G a_p0 a_p0_bodies a_this (out.2.1) p0_parted (out.2.2) this_number this_m) (some (.int (out.1))) := by
  refine KM.of (by decide) (Nat.le_of_ble_eq_true rfl) ?_
  intro p e s m below meth c A ls args Q Fx0 hP hK hD hA hS hAm hQ hl
  obtain ⟨hx, hb, hr, hml, hts, hown, hlk, hnm⟩ := Fx0
  have hown : s.vm.findClass RX8 = some m.cls := hown
  have hl : lv_has ls 3 [(0, .ref a_this), (1, .ref a_p0), (2, .int p1)] := hl
  have fl_7 := hts _ tw_173
  unfold f_X8_adds_X6 at hf
  refine lv_aload_n hx hb dX8_adds_0 rfl (lv_at hl 1 rfl) ?_
  refine lv_bipush (v := (10 : Int32)) hx hb dX8_adds_1 (by decide) ?_
  obtain ⟨r1, hr1, hf⟩ := kb hf
  refine kVN (As := [.int (10 : Int32)]) (rest := []) ⟨hx, hb, hml, hown, hts⟩ (c_X10_began l G N a_p0 a_p0_bodies (10 : Int32) p0_length p0_parted p0_bodies r1 hr1) ⟨kcN 1 hts hAm nw_X8_22 tw_837 tw_90 hd_X10_began ⟨Nat.le_of_ble_eq_true rfl, Nat.le_of_ble_eq_true rfl⟩, hts _ tw_836, hts _ tw_38⟩ dX8_adds_3 hl.1 hK hAm hA hP hD hS 0 (ci := 10) rfl rfl rfl [0, 1] rfl rfl rfl [0, 1] rfl rfl rfl (Nat.le_of_ble_eq_true rfl) ⟨Nat.le_refl _, Nat.le_refl _⟩ (fun H locs hP hD hS => ?_)
  have hP : va_P (gD G) vwCl (k_X8_adds_X6 G a_p0 a_p0_bodies a_this r1.1 p0_parted r1.2 this_number this_m) H := hP
  have hD : va_D A (k_X8_adds_X6 G a_p0 a_p0_bodies a_this r1.1 p0_parted r1.2 this_number this_m) := hD
  refine lv_iload_n hx hb dX8_adds_6 rfl (lv_at hl 2 rfl) ?_
  refine lv_aload_n hx hb dX8_adds_7 rfl (lv_at hl 0 rfl) ?_
  refine va_get (D := gD G) (ci := 6) (C := RX6) (T := TX6) (N := 2) hx hb hts hin_X6 hown hK hP 2 rfl rfl 0 (by decide) fl_7 (fun _ h9 => h9) rfl dX8_adds_8 ?_
  refine lv_iadd hx hb dX8_adds_11 ?_
  have ho := ks hf
  subst ho
  exact kiret hx hb hr hlk hP hD hS hQ dX8_adds_12
abbrev k_X8_comes_X6 (G : KG) (a_p0 : Nat) (a_p0_bodies : Nat) (a_this : Nat) (p0_length : Int32) (p0_parted : Int32) (p0_bodies : Nat → Int32) (this_number : Int32) (this_m : Int32) : va_W := [(a_p0, .inr (10, [.ref a_p0_bodies, .int p0_length, .int p0_parted])), (a_p0_bodies, .inl (gI G, 30, .inl p0_bodies)), (a_this, .inr (6, [.int this_number, .int this_m]))]
def f_X8_comes_X6 (N : Nat) (p1 : Int32) (p0_length : Int32) (p0_bodies : Nat → Int32) (this_number : Int32) : Option (Int32 × (Int32) × (Nat → Int32)) := ((f_X10_began N (11 : Int32) p0_length p0_bodies).bind fun r1 => ((f_X8_adds_X6 N p1 r1.1 r1.2 this_number).bind fun r2 => (some ((r2.1 * (2 : Int32)), r2.2.1, r2.2.2))))
set_option maxRecDepth 100000 in
set_option maxHeartbeats 4000000 in
theorem c_X8_comes_X6 (l : Launch) (G : KG) (N : Nat) (a_p0 : Nat) (a_p0_bodies : Nat) (a_this : Nat) (p1 : Int32) (p0_length : Int32) (p0_parted : Int32) (p0_bodies : Nat → Int32) (this_number : Int32) (this_m : Int32)  (out : Int32 × (Int32) × (Nat → Int32)) (hf : f_X8_comes_X6 N p1 p0_length p0_bodies this_number = some out) : KM l G yX8_comes (kw yX8_comes cX8_comes 3 (some .int)) 2 43 [.ref a_this, .ref a_p0, .int p1] (k_X8_comes_X6 G a_p0 a_p0_bodies a_this p0_length p0_parted p0_bodies this_number this_m) (k_X8_comes_X6 G a_p0 a_p0_bodies a_this (out.2.1) p0_parted (out.2.2) this_number this_m) (some (.int (out.1))) := by
  refine KM.of (by decide) (Nat.le_of_ble_eq_true rfl) ?_
  intro p e s m below meth c A ls args Q Fx0 hP hK hD hA hS hAm hQ hl
  obtain ⟨hx, hb, hr, hml, hts, hown, hlk, hnm⟩ := Fx0
  have hown : s.vm.findClass RX8 = some m.cls := hown
  have hl : lv_has ls 3 [(0, .ref a_this), (1, .ref a_p0), (2, .int p1)] := hl
  unfold f_X8_comes_X6 at hf
  refine lv_aload_n hx hb dX8_comes_0 rfl (lv_at hl 1 rfl) ?_
  refine lv_bipush (v := (11 : Int32)) hx hb dX8_comes_1 (by decide) ?_
  obtain ⟨r1, hr1, hf⟩ := kb hf
  refine kVN (As := [.int (11 : Int32)]) (rest := []) ⟨hx, hb, hml, hown, hts⟩ (c_X10_began l G N a_p0 a_p0_bodies (11 : Int32) p0_length p0_parted p0_bodies r1 hr1) ⟨kcN 1 hts hAm nw_X8_22 tw_837 tw_90 hd_X10_began ⟨Nat.le_of_ble_eq_true rfl, Nat.le_of_ble_eq_true rfl⟩, hts _ tw_836, hts _ tw_38⟩ dX8_comes_3 hl.1 hK hAm hA hP hD hS 0 (ci := 10) rfl rfl rfl [0, 1] rfl rfl rfl [0, 1] rfl rfl rfl (Nat.le_of_ble_eq_true rfl) ⟨Nat.le_refl _, Nat.le_refl _⟩ (fun H locs hP hD hS => ?_)
  have hP : va_P (gD G) vwCl (k_X8_comes_X6 G a_p0 a_p0_bodies a_this r1.1 p0_parted r1.2 this_number this_m) H := hP
  have hD : va_D A (k_X8_comes_X6 G a_p0 a_p0_bodies a_this r1.1 p0_parted r1.2 this_number this_m) := hD
  refine lv_aload_n hx hb dX8_comes_6 rfl (lv_at hl 0 rfl) ?_
  refine lv_aload_n hx hb dX8_comes_7 rfl (lv_at hl 1 rfl) ?_
  refine lv_iload_n hx hb dX8_comes_8 rfl (lv_at hl 2 rfl) ?_
  obtain ⟨r2, hr2, hf⟩ := kb hf
  refine kU (As := [.ref a_p0, .int p1]) (rest := []) ⟨hx, hb, hml, hown, hts⟩ (c_X8_adds_X6 l G N a_p0 a_p0_bodies a_this p1 r1.1 p0_parted r1.2 this_number this_m r2 hr2) (kcU (owner := RX8) (x := yX8_adds) 2 hts tw_850 tw_83 tw_874 tw_829 tw_827 tw_850 tw_845 tw_827 (by decide) hd_X8_adds.2.2 ⟨Nat.le_of_ble_eq_true rfl, Nat.le_of_ble_eq_true rfl⟩) dX8_comes_9 hl.1 hK hAm hA hP hD hS 2 (ci := 6) rfl rfl rfl [0, 1, 2] rfl rfl rfl [0, 1] rfl rfl rfl (Nat.le_of_ble_eq_true rfl) ⟨Nat.le_refl _, Nat.le_refl _⟩ (fun H locs hP hD hS => ?_)
  have hP : va_P (gD G) vwCl (k_X8_comes_X6 G a_p0 a_p0_bodies a_this r2.2.1 p0_parted r2.2.2 this_number this_m) H := hP
  have hD : va_D A (k_X8_comes_X6 G a_p0 a_p0_bodies a_this r2.2.1 p0_parted r2.2.2 this_number this_m) := hD
  refine lv_iconst (v := (2 : Int32)) hx hb dX8_comes_12 (by decide) ?_
  refine lv_imul hx hb dX8_comes_13 ?_
  have ho := ks hf
  subst ho
  exact kiret hx hb hr hlk hP hD hS hQ dX8_comes_14
abbrev k_X8_parts_X6 (G : KG) (a_p0 : Nat) (a_p0_bodies : Nat) (a_this : Nat) (p0_length : Int32) (p0_parted : Int32) (p0_bodies : Nat → Int32) (this_number : Int32) (this_m : Int32) : va_W := [(a_p0, .inr (10, [.ref a_p0_bodies, .int p0_length, .int p0_parted])), (a_p0_bodies, .inl (gI G, 30, .inl p0_bodies)), (a_this, .inr (6, [.int this_number, .int this_m]))]
def f_X8_parts_X6 (N : Nat) (p1 : Int32) (p0_length : Int32) (p0_parted : Int32) (p0_bodies : Nat → Int32) (this_number : Int32) (this_m : Int32) : Option (Int32 × (Int32) × (Int32) × (Nat → Int32)) := ((f_X10_began N (13 : Int32) p0_length p0_bodies).bind fun r1 => (if (this_m - this_number) = 0 then (some ((0 : Int32), r1.1, (1 : Int32), r1.2)) else (if ¬ (this_m - this_number) = 0 then (some ((p1 / (this_m - this_number)), r1.1, p0_parted, r1.2)) else none)))
set_option maxRecDepth 100000 in
set_option maxHeartbeats 4000000 in
theorem c_X8_parts_X6 (l : Launch) (G : KG) (N : Nat) (a_p0 : Nat) (a_p0_bodies : Nat) (a_this : Nat) (p1 : Int32) (p0_length : Int32) (p0_parted : Int32) (p0_bodies : Nat → Int32) (this_number : Int32) (this_m : Int32)  (out : Int32 × (Int32) × (Int32) × (Nat → Int32)) (hf : f_X8_parts_X6 N p1 p0_length p0_parted p0_bodies this_number this_m = some out) : KM l G yX8_parts (kw yX8_parts cX8_parts 4 (some .int)) 1 21 [.ref a_this, .ref a_p0, .int p1] (k_X8_parts_X6 G a_p0 a_p0_bodies a_this p0_length p0_parted p0_bodies this_number this_m) (k_X8_parts_X6 G a_p0 a_p0_bodies a_this (out.2.1) (out.2.2.1) (out.2.2.2) this_number this_m) (some (.int (out.1))) := by
  refine KM.of (by decide) (Nat.le_of_ble_eq_true rfl) ?_
  intro p e s m below meth c A ls args Q Fx0 hP hK hD hA hS hAm hQ hl
  obtain ⟨hx, hb, hr, hml, hts, hown, hlk, hnm⟩ := Fx0
  have hown : s.vm.findClass RX8 = some m.cls := hown
  have hl : lv_has ls 4 [(0, .ref a_this), (1, .ref a_p0), (2, .int p1)] := hl
  have fl_13 := hts _ tw_176
  have fl_7 := hts _ tw_173
  have fl_35 := va_Nw.use (A := args) rfl (hAm.1 _ nw_X8_35 rfl)
  unfold f_X8_parts_X6 at hf
  refine lv_aload_n hx hb dX8_parts_0 rfl (lv_at hl 1 rfl) ?_
  refine lv_bipush (v := (13 : Int32)) hx hb dX8_parts_1 (by decide) ?_
  obtain ⟨r1, hr1, hf⟩ := kb hf
  refine kVN (As := [.int (13 : Int32)]) (rest := []) ⟨hx, hb, hml, hown, hts⟩ (c_X10_began l G N a_p0 a_p0_bodies (13 : Int32) p0_length p0_parted p0_bodies r1 hr1) ⟨kcN 1 hts hAm nw_X8_22 tw_837 tw_90 hd_X10_began ⟨Nat.le_of_ble_eq_true rfl, Nat.le_of_ble_eq_true rfl⟩, hts _ tw_836, hts _ tw_38⟩ dX8_parts_3 hl.1 hK hAm hA hP hD hS 0 (ci := 10) rfl rfl rfl [0, 1] rfl rfl rfl [0, 1] rfl rfl rfl (Nat.le_of_ble_eq_true rfl) ⟨Nat.le_refl _, Nat.le_refl _⟩ (fun H locs hP hD hS => ?_)
  have hP : va_P (gD G) vwCl (k_X8_parts_X6 G a_p0 a_p0_bodies a_this r1.1 p0_parted r1.2 this_number this_m) H := hP
  have hD : va_D A (k_X8_parts_X6 G a_p0 a_p0_bodies a_this r1.1 p0_parted r1.2 this_number this_m) := hD
  refine lv_aload_n hx hb dX8_parts_6 rfl (lv_at hl 0 rfl) ?_
  refine va_get (D := gD G) (ci := 6) (C := RX6) (T := TX6) (N := 2) hx hb hts hin_X6 hown hK hP 2 rfl rfl 1 (by decide) fl_13 (fun _ h9 => h9) rfl dX8_parts_7 ?_
  refine lv_aload_n hx hb dX8_parts_10 rfl (lv_at hl 0 rfl) ?_
  refine va_get (D := gD G) (ci := 6) (C := RX6) (T := TX6) (N := 2) hx hb hts hin_X6 hown hK hP 2 rfl rfl 0 (by decide) fl_7 (fun _ h9 => h9) rfl dX8_parts_11 ?_
  refine lv_isub hx hb dX8_parts_14 ?_
  refine lv_istore_n (lv' := [(3, .int (this_m - this_number)), (0, .ref a_this), (1, .ref a_p0), (2, .int p1)]) hx hb dX8_parts_15 rfl hl (by decide) rfl (fun ls hl => ?_)
  refine lv_iload_n hx hb dX8_parts_16 rfl (lv_at hl 0 rfl) ?_
  refine lv_if_ne (tgt := 27) hx hb dX8_parts_17 (by decide) (fun c2 => ?_) (fun c2 => ?_)
  · replace hf := kf c2 hf
    refine lv_iload_n hx hb dX8_parts_27 rfl (lv_at hl 3 rfl) ?_
    refine lv_iload_n hx hb dX8_parts_28 rfl (lv_at hl 0 rfl) ?_
    obtain ⟨g3, hf⟩ := kg hf
    refine lv_idiv hx hb dX8_parts_29 g3 ?_
    have ho := ks hf
    subst ho
    exact kiret hx hb hr hlk hP hD hS hQ dX8_parts_30
  · replace hf := kt c2 hf
    refine lv_aload_n hx hb dX8_parts_20 rfl (lv_at hl 2 rfl) ?_
    refine lv_iconst (v := (1 : Int32)) hx hb dX8_parts_21 (by decide) ?_
    refine va_putN (D := gD G) (ci := 10) (v := .int (1 : Int32)) (ty := .boolean) (C := RX10) (T := TX10) (N := 3) hx hb hts hin_X10 tyX10 tyX10_ok nmX10 hown hK hP hD hS 0 rfl rfl 2 (by decide) fl_35 (fun _ h9 => h9) rfl (by decide +kernel) rfl rfl (Nat.le_of_ble_eq_true rfl) dX8_parts_22 (fun H locs hP hD hS => ?_)
    have hP : va_P (gD G) vwCl (k_X8_parts_X6 G a_p0 a_p0_bodies a_this r1.1 (1 : Int32) r1.2 this_number this_m) H := hP
    have hD : va_D A (k_X8_parts_X6 G a_p0 a_p0_bodies a_this r1.1 (1 : Int32) r1.2 this_number this_m) := hD
    refine lv_iconst (v := (0 : Int32)) hx hb dX8_parts_25 (by decide) ?_
    have ho := ks hf
    subst ho
    exact kiret hx hb hr hlk hP hD hS hQ dX8_parts_26
abbrev k_X8_kind_X1 (G : KG) : va_W := []
def f_X8_kind_X1 (N : Nat) : Option (Int32) := (some (0 : Int32))
set_option maxRecDepth 100000 in
set_option maxHeartbeats 4000000 in
theorem c_X8_kind_X1 (l : Launch) (G : KG) (N : Nat) (a_this : Nat)  (out : Int32) (hf : f_X8_kind_X1 N = some out) : KM l G yX8_kind (kw yX8_kind cX8_kind 1 (some .int)) 0 0 [.ref a_this] (k_X8_kind_X1 G) (k_X8_kind_X1 G) (some (.int out)) := by
  refine KM.of (by decide) (Nat.le_of_ble_eq_true rfl) ?_
  intro p e s m below meth c A ls args Q Fx0 hP hK hD hA hS hAm hQ hl
  obtain ⟨hx, hb, hr, hml, hts, hown, hlk, hnm⟩ := Fx0
  have hown : s.vm.findClass RX8 = some m.cls := hown
  have hl : lv_has ls 1 [(0, .ref a_this)] := hl
  unfold f_X8_kind_X1 at hf
  refine lv_iconst (v := (0 : Int32)) hx hb dX8_kind_0 (by decide) ?_
  have ho := ks hf
  subst ho
  exact kiret hx hb hr hlk hP hD hS hQ dX8_kind_1
abbrev k_X8_isOf_X1 (G : KG) : va_W := []
def f_X8_isOf_X1 (N : Nat) (p0 : Int32) : Option (Int32) := (if p0 = 0 then (some (1 : Int32)) else (some (0 : Int32)))
set_option maxRecDepth 100000 in
set_option maxHeartbeats 4000000 in
theorem c_X8_isOf_X1 (l : Launch) (G : KG) (N : Nat) (a_this : Nat) (p0 : Int32)  (out : Int32) (hf : f_X8_isOf_X1 N p0 = some out) : KM l G yX8_isOf (kw yX8_isOf cX8_isOf 2 (some .boolean)) 0 0 [.ref a_this, .int p0] (k_X8_isOf_X1 G) (k_X8_isOf_X1 G) (some (.int out)) := by
  refine KM.of (by decide) (Nat.le_of_ble_eq_true rfl) ?_
  intro p e s m below meth c A ls args Q Fx0 hP hK hD hA hS hAm hQ hl
  obtain ⟨hx, hb, hr, hml, hts, hown, hlk, hnm⟩ := Fx0
  have hown : s.vm.findClass RX8 = some m.cls := hown
  have hl : lv_has ls 2 [(0, .ref a_this), (1, .int p0)] := hl
  unfold f_X8_isOf_X1 at hf
  refine lv_iload_n hx hb dX8_isOf_0 rfl (lv_at hl 1 rfl) ?_
  refine lv_if_ne (tgt := 8) hx hb dX8_isOf_1 (by decide) (fun c1 => ?_) (fun c1 => ?_)
  · replace hf := kf c1 hf
    refine lv_iconst (v := (0 : Int32)) hx hb dX8_isOf_8 (by decide) ?_
    have ho := ks hf
    subst ho
    exact kzret hx hb hr (Or.inl rfl) hlk hP hD hS hQ dX8_isOf_9
  · replace hf := kt c1 hf
    refine lv_iconst (v := (1 : Int32)) hx hb dX8_isOf_4 (by decide) ?_
    refine lv_goto (tgt := 9) hx hb dX8_isOf_5 (by decide) ?_
    have ho := ks hf
    subst ho
    exact kzret hx hb hr (Or.inr rfl) hlk hP hD hS hQ dX8_isOf_9
abbrev k_X8_due_X1 (G : KG) : va_W := []
def f_X8_due_X1 (N : Nat) (p0 : Int32) (p1 : Int32) : Option (Int32) := ((f_X11_figureSum N p0 (10 : Int32)).bind fun r1 => (some r1))
set_option maxRecDepth 100000 in
set_option maxHeartbeats 4000000 in
theorem c_X8_due_X1 (l : Launch) (G : KG) (N : Nat) (a_this : Nat) (a_p2 : Nat) (p0 : Int32) (p1 : Int32)  (out : Int32) (hf : f_X8_due_X1 N p0 p1 = some out) : KM l G yX8_due (kw yX8_due cX8_due 4 (some .int)) 1 24 [.ref a_this, .int p0, .int p1, .ref a_p2] (k_X8_due_X1 G) (k_X8_due_X1 G) (some (.int out)) := by
  refine KM.of (by decide) (Nat.le_of_ble_eq_true rfl) ?_
  intro p e s m below meth c A ls args Q Fx0 hP hK hD hA hS hAm hQ hl
  obtain ⟨hx, hb, hr, hml, hts, hown, hlk, hnm⟩ := Fx0
  have hown : s.vm.findClass RX8 = some m.cls := hown
  have hl : lv_has ls 4 [(0, .ref a_this), (1, .int p0), (2, .int p1), (3, .ref a_p2)] := hl
  unfold f_X8_due_X1 at hf
  refine lv_iload_n hx hb dX8_due_0 rfl (lv_at hl 1 rfl) ?_
  refine lv_bipush (v := (10 : Int32)) hx hb dX8_due_1 (by decide) ?_
  obtain ⟨r1, hr1, hf⟩ := kb hf
  refine kSN (As := [.int p0, .int (10 : Int32)]) (rest := []) ⟨hx, hb, hml, hown, hts⟩ (c_X11_figureSum l G N p0 (10 : Int32) r1 hr1) ⟨kcN 2 hts hAm nw_X8_16 tw_512 tw_80 hd_X11_figureSum ⟨Nat.le_of_ble_eq_true rfl, Nat.le_of_ble_eq_true rfl⟩, hts _ tw_511, trivial⟩ dX8_due_3 hl.1 hK hAm hA hP hD hS [] rfl rfl rfl [] rfl rfl rfl (Nat.le_of_ble_eq_true rfl) ⟨Nat.le_refl _, Nat.le_refl _⟩ (fun H locs hP hD hS => ?_)
  have hP : va_P (gD G) vwCl (k_X8_due_X1 G) H := hP
  have hD : va_D A (k_X8_due_X1 G) := hD
  have ho := ks hf
  subst ho
  exact kiret hx hb hr hlk hP hD hS hQ dX8_due_6
abbrev k_X8_adds_X1 (G : KG) (a_p0 : Nat) (a_p0_bodies : Nat) (a_this : Nat) (p0_length : Int32) (p0_parted : Int32) (p0_bodies : Nat → Int32) (this_number : Int32) (this_m : Int32) : va_W := [(a_p0, .inr (10, [.ref a_p0_bodies, .int p0_length, .int p0_parted])), (a_p0_bodies, .inl (gI G, 30, .inl p0_bodies)), (a_this, .inr (1, [.int this_number, .int this_m]))]
def f_X8_adds_X1 (N : Nat) (p1 : Int32) (p0_length : Int32) (p0_bodies : Nat → Int32) (this_number : Int32) : Option (Int32 × (Int32) × (Nat → Int32)) := ((f_X10_began N (10 : Int32) p0_length p0_bodies).bind fun r1 => (some ((p1 + this_number), r1.1, r1.2)))
set_option maxRecDepth 100000 in
set_option maxHeartbeats 4000000 in
theorem c_X8_adds_X1 (l : Launch) (G : KG) (N : Nat) (a_p0 : Nat) (a_p0_bodies : Nat) (a_this : Nat) (p1 : Int32) (p0_length : Int32) (p0_parted : Int32) (p0_bodies : Nat → Int32) (this_number : Int32) (this_m : Int32)  (out : Int32 × (Int32) × (Nat → Int32)) (hf : f_X8_adds_X1 N p1 p0_length p0_bodies this_number = some out) : KM l G yX8_adds (kw yX8_adds cX8_adds 3 (some .int)) 1 21 [.ref a_this, .ref a_p0, .int p1] (k_X8_adds_X1 G a_p0 a_p0_bodies a_this p0_length p0_parted p0_bodies this_number this_m) (k_X8_adds_X1 G a_p0 a_p0_bodies a_this (out.2.1) p0_parted (out.2.2) this_number this_m) (some (.int (out.1))) := by
  refine KM.of (by decide) (Nat.le_of_ble_eq_true rfl) ?_
  intro p e s m below meth c A ls args Q Fx0 hP hK hD hA hS hAm hQ hl
  obtain ⟨hx, hb, hr, hml, hts, hown, hlk, hnm⟩ := Fx0
  have hown : s.vm.findClass RX8 = some m.cls := hown
  have hl : lv_has ls 3 [(0, .ref a_this), (1, .ref a_p0), (2, .int p1)] := hl
  have fl_7 := hts _ tw_173
  unfold f_X8_adds_X1 at hf
  refine lv_aload_n hx hb dX8_adds_0 rfl (lv_at hl 1 rfl) ?_
  refine lv_bipush (v := (10 : Int32)) hx hb dX8_adds_1 (by decide) ?_
  obtain ⟨r1, hr1, hf⟩ := kb hf
  refine kVN (As := [.int (10 : Int32)]) (rest := []) ⟨hx, hb, hml, hown, hts⟩ (c_X10_began l G N a_p0 a_p0_bodies (10 : Int32) p0_length p0_parted p0_bodies r1 hr1) ⟨kcN 1 hts hAm nw_X8_22 tw_837 tw_90 hd_X10_began ⟨Nat.le_of_ble_eq_true rfl, Nat.le_of_ble_eq_true rfl⟩, hts _ tw_836, hts _ tw_38⟩ dX8_adds_3 hl.1 hK hAm hA hP hD hS 0 (ci := 10) rfl rfl rfl [0, 1] rfl rfl rfl [0, 1] rfl rfl rfl (Nat.le_of_ble_eq_true rfl) ⟨Nat.le_refl _, Nat.le_refl _⟩ (fun H locs hP hD hS => ?_)
  have hP : va_P (gD G) vwCl (k_X8_adds_X1 G a_p0 a_p0_bodies a_this r1.1 p0_parted r1.2 this_number this_m) H := hP
  have hD : va_D A (k_X8_adds_X1 G a_p0 a_p0_bodies a_this r1.1 p0_parted r1.2 this_number this_m) := hD
  refine lv_iload_n hx hb dX8_adds_6 rfl (lv_at hl 2 rfl) ?_
  refine lv_aload_n hx hb dX8_adds_7 rfl (lv_at hl 0 rfl) ?_
  refine va_get (D := gD G) (ci := 1) (C := RX1) (T := TX1) (N := 2) hx hb hts hin_X1 hown hK hP 2 rfl rfl 0 (by decide) fl_7 (fun _ h9 => h9) rfl dX8_adds_8 ?_
  refine lv_iadd hx hb dX8_adds_11 ?_
  have ho := ks hf
  subst ho
  exact kiret hx hb hr hlk hP hD hS hQ dX8_adds_12
abbrev k_X8_comes_X1 (G : KG) (a_p0 : Nat) (a_p0_bodies : Nat) (a_this : Nat) (p0_length : Int32) (p0_parted : Int32) (p0_bodies : Nat → Int32) (this_number : Int32) (this_m : Int32) : va_W := [(a_p0, .inr (10, [.ref a_p0_bodies, .int p0_length, .int p0_parted])), (a_p0_bodies, .inl (gI G, 30, .inl p0_bodies)), (a_this, .inr (1, [.int this_number, .int this_m]))]
def f_X8_comes_X1 (N : Nat) (p1 : Int32) (p0_length : Int32) (p0_bodies : Nat → Int32) (this_number : Int32) : Option (Int32 × (Int32) × (Nat → Int32)) := ((f_X10_began N (11 : Int32) p0_length p0_bodies).bind fun r1 => ((f_X8_adds_X1 N p1 r1.1 r1.2 this_number).bind fun r2 => (some ((r2.1 * (2 : Int32)), r2.2.1, r2.2.2))))
set_option maxRecDepth 100000 in
set_option maxHeartbeats 4000000 in
theorem c_X8_comes_X1 (l : Launch) (G : KG) (N : Nat) (a_p0 : Nat) (a_p0_bodies : Nat) (a_this : Nat) (p1 : Int32) (p0_length : Int32) (p0_parted : Int32) (p0_bodies : Nat → Int32) (this_number : Int32) (this_m : Int32)  (out : Int32 × (Int32) × (Nat → Int32)) (hf : f_X8_comes_X1 N p1 p0_length p0_bodies this_number = some out) : KM l G yX8_comes (kw yX8_comes cX8_comes 3 (some .int)) 2 43 [.ref a_this, .ref a_p0, .int p1] (k_X8_comes_X1 G a_p0 a_p0_bodies a_this p0_length p0_parted p0_bodies this_number this_m) (k_X8_comes_X1 G a_p0 a_p0_bodies a_this (out.2.1) p0_parted (out.2.2) this_number this_m) (some (.int (out.1))) := by
  refine KM.of (by decide) (Nat.le_of_ble_eq_true rfl) ?_
  intro p e s m below meth c A ls args Q Fx0 hP hK hD hA hS hAm hQ hl
  obtain ⟨hx, hb, hr, hml, hts, hown, hlk, hnm⟩ := Fx0
  have hown : s.vm.findClass RX8 = some m.cls := hown
  have hl : lv_has ls 3 [(0, .ref a_this), (1, .ref a_p0), (2, .int p1)] := hl
  unfold f_X8_comes_X1 at hf
  refine lv_aload_n hx hb dX8_comes_0 rfl (lv_at hl 1 rfl) ?_
  refine lv_bipush (v := (11 : Int32)) hx hb dX8_comes_1 (by decide) ?_
  obtain ⟨r1, hr1, hf⟩ := kb hf
  refine kVN (As := [.int (11 : Int32)]) (rest := []) ⟨hx, hb, hml, hown, hts⟩ (c_X10_began l G N a_p0 a_p0_bodies (11 : Int32) p0_length p0_parted p0_bodies r1 hr1) ⟨kcN 1 hts hAm nw_X8_22 tw_837 tw_90 hd_X10_began ⟨Nat.le_of_ble_eq_true rfl, Nat.le_of_ble_eq_true rfl⟩, hts _ tw_836, hts _ tw_38⟩ dX8_comes_3 hl.1 hK hAm hA hP hD hS 0 (ci := 10) rfl rfl rfl [0, 1] rfl rfl rfl [0, 1] rfl rfl rfl (Nat.le_of_ble_eq_true rfl) ⟨Nat.le_refl _, Nat.le_refl _⟩ (fun H locs hP hD hS => ?_)
  have hP : va_P (gD G) vwCl (k_X8_comes_X1 G a_p0 a_p0_bodies a_this r1.1 p0_parted r1.2 this_number this_m) H := hP
  have hD : va_D A (k_X8_comes_X1 G a_p0 a_p0_bodies a_this r1.1 p0_parted r1.2 this_number this_m) := hD
  refine lv_aload_n hx hb dX8_comes_6 rfl (lv_at hl 0 rfl) ?_
  refine lv_aload_n hx hb dX8_comes_7 rfl (lv_at hl 1 rfl) ?_
  refine lv_iload_n hx hb dX8_comes_8 rfl (lv_at hl 2 rfl) ?_
  obtain ⟨r2, hr2, hf⟩ := kb hf
  refine kU (As := [.ref a_p0, .int p1]) (rest := []) ⟨hx, hb, hml, hown, hts⟩ (c_X8_adds_X1 l G N a_p0 a_p0_bodies a_this p1 r1.1 p0_parted r1.2 this_number this_m r2 hr2) (kcU (owner := RX8) (x := yX8_adds) 2 hts tw_850 tw_83 tw_874 tw_829 tw_827 tw_850 tw_830 tw_827 (by decide) hd_X8_adds.2.2 ⟨Nat.le_of_ble_eq_true rfl, Nat.le_of_ble_eq_true rfl⟩) dX8_comes_9 hl.1 hK hAm hA hP hD hS 2 (ci := 1) rfl rfl rfl [0, 1, 2] rfl rfl rfl [0, 1] rfl rfl rfl (Nat.le_of_ble_eq_true rfl) ⟨Nat.le_refl _, Nat.le_refl _⟩ (fun H locs hP hD hS => ?_)
  have hP : va_P (gD G) vwCl (k_X8_comes_X1 G a_p0 a_p0_bodies a_this r2.2.1 p0_parted r2.2.2 this_number this_m) H := hP
  have hD : va_D A (k_X8_comes_X1 G a_p0 a_p0_bodies a_this r2.2.1 p0_parted r2.2.2 this_number this_m) := hD
  refine lv_iconst (v := (2 : Int32)) hx hb dX8_comes_12 (by decide) ?_
  refine lv_imul hx hb dX8_comes_13 ?_
  have ho := ks hf
  subst ho
  exact kiret hx hb hr hlk hP hD hS hQ dX8_comes_14
abbrev k_X8_gives_X1 (G : KG) (a_p0 : Nat) (a_p0_bodies : Nat) (a_this : Nat) (p0_length : Int32) (p0_parted : Int32) (p0_bodies : Nat → Int32) (this_number : Int32) (this_m : Int32) : va_W := [(a_p0, .inr (10, [.ref a_p0_bodies, .int p0_length, .int p0_parted])), (a_p0_bodies, .inl (gI G, 30, .inl p0_bodies)), (a_this, .inr (1, [.int this_number, .int this_m]))]
def f_X8_gives_X1 (N : Nat) (p1 : Int32) (p0_length : Int32) (p0_bodies : Nat → Int32) (this_number : Int32) (this_m : Int32) : Option (Int32 × (Int32) × (Nat → Int32)) := ((f_X10_began N (12 : Int32) p0_length p0_bodies).bind fun r1 => ((f_X8_comes_X1 N p1 r1.1 r1.2 this_number).bind fun r2 => (some ((r2.1 - this_m), r2.2.1, r2.2.2))))
set_option maxRecDepth 100000 in
set_option maxHeartbeats 4000000 in
theorem c_X8_gives_X1 (l : Launch) (G : KG) (N : Nat) (a_p0 : Nat) (a_p0_bodies : Nat) (a_this : Nat) (p1 : Int32) (p0_length : Int32) (p0_parted : Int32) (p0_bodies : Nat → Int32) (this_number : Int32) (this_m : Int32)  (out : Int32 × (Int32) × (Nat → Int32)) (hf : f_X8_gives_X1 N p1 p0_length p0_bodies this_number this_m = some out) : KM l G yX8_gives (kw yX8_gives cX8_gives 3 (some .int)) 3 65 [.ref a_this, .ref a_p0, .int p1] (k_X8_gives_X1 G a_p0 a_p0_bodies a_this p0_length p0_parted p0_bodies this_number this_m) (k_X8_gives_X1 G a_p0 a_p0_bodies a_this (out.2.1) p0_parted (out.2.2) this_number this_m) (some (.int (out.1))) := by
  refine KM.of (by decide) (Nat.le_of_ble_eq_true rfl) ?_
  intro p e s m below meth c A ls args Q Fx0 hP hK hD hA hS hAm hQ hl
  obtain ⟨hx, hb, hr, hml, hts, hown, hlk, hnm⟩ := Fx0
  have hown : s.vm.findClass RX8 = some m.cls := hown
  have hl : lv_has ls 3 [(0, .ref a_this), (1, .ref a_p0), (2, .int p1)] := hl
  have fl_13 := hts _ tw_176
  unfold f_X8_gives_X1 at hf
  refine lv_aload_n hx hb dX8_gives_0 rfl (lv_at hl 1 rfl) ?_
  refine lv_bipush (v := (12 : Int32)) hx hb dX8_gives_1 (by decide) ?_
  obtain ⟨r1, hr1, hf⟩ := kb hf
  refine kVN (As := [.int (12 : Int32)]) (rest := []) ⟨hx, hb, hml, hown, hts⟩ (c_X10_began l G N a_p0 a_p0_bodies (12 : Int32) p0_length p0_parted p0_bodies r1 hr1) ⟨kcN 1 hts hAm nw_X8_22 tw_837 tw_90 hd_X10_began ⟨Nat.le_of_ble_eq_true rfl, Nat.le_of_ble_eq_true rfl⟩, hts _ tw_836, hts _ tw_38⟩ dX8_gives_3 hl.1 hK hAm hA hP hD hS 0 (ci := 10) rfl rfl rfl [0, 1] rfl rfl rfl [0, 1] rfl rfl rfl (Nat.le_of_ble_eq_true rfl) ⟨Nat.le_refl _, Nat.le_refl _⟩ (fun H locs hP hD hS => ?_)
  have hP : va_P (gD G) vwCl (k_X8_gives_X1 G a_p0 a_p0_bodies a_this r1.1 p0_parted r1.2 this_number this_m) H := hP
  have hD : va_D A (k_X8_gives_X1 G a_p0 a_p0_bodies a_this r1.1 p0_parted r1.2 this_number this_m) := hD
  refine lv_aload_n hx hb dX8_gives_6 rfl (lv_at hl 0 rfl) ?_
  refine lv_aload_n hx hb dX8_gives_7 rfl (lv_at hl 1 rfl) ?_
  refine lv_iload_n hx hb dX8_gives_8 rfl (lv_at hl 2 rfl) ?_
  obtain ⟨r2, hr2, hf⟩ := kb hf
  refine kU (As := [.ref a_p0, .int p1]) (rest := []) ⟨hx, hb, hml, hown, hts⟩ (c_X8_comes_X1 l G N a_p0 a_p0_bodies a_this p1 r1.1 p0_parted r1.2 this_number this_m r2 hr2) (kcU (owner := RX8) (x := yX8_comes) 2 hts tw_873 tw_83 tw_895 tw_855 tw_853 tw_873 tw_856 tw_853 (by decide) hd_X8_comes.2.2 ⟨Nat.le_of_ble_eq_true rfl, Nat.le_of_ble_eq_true rfl⟩) dX8_gives_9 hl.1 hK hAm hA hP hD hS 2 (ci := 1) rfl rfl rfl [0, 1, 2] rfl rfl rfl [0, 1] rfl rfl rfl (Nat.le_of_ble_eq_true rfl) ⟨Nat.le_refl _, Nat.le_refl _⟩ (fun H locs hP hD hS => ?_)
  have hP : va_P (gD G) vwCl (k_X8_gives_X1 G a_p0 a_p0_bodies a_this r2.2.1 p0_parted r2.2.2 this_number this_m) H := hP
  have hD : va_D A (k_X8_gives_X1 G a_p0 a_p0_bodies a_this r2.2.1 p0_parted r2.2.2 this_number this_m) := hD
  refine lv_aload_n hx hb dX8_gives_12 rfl (lv_at hl 0 rfl) ?_
  refine va_get (D := gD G) (ci := 1) (C := RX1) (T := TX1) (N := 2) hx hb hts hin_X1 hown hK hP 2 rfl rfl 1 (by decide) fl_13 (fun _ h9 => h9) rfl dX8_gives_13 ?_
  refine lv_isub hx hb dX8_gives_16 ?_
  have ho := ks hf
  subst ho
  exact kiret hx hb hr hlk hP hD hS hQ dX8_gives_17
abbrev k_X8_parts_X1 (G : KG) (a_p0 : Nat) (a_p0_bodies : Nat) (a_this : Nat) (p0_length : Int32) (p0_parted : Int32) (p0_bodies : Nat → Int32) (this_number : Int32) (this_m : Int32) : va_W := [(a_p0, .inr (10, [.ref a_p0_bodies, .int p0_length, .int p0_parted])), (a_p0_bodies, .inl (gI G, 30, .inl p0_bodies)), (a_this, .inr (1, [.int this_number, .int this_m]))]
def f_X8_parts_X1 (N : Nat) (p1 : Int32) (p0_length : Int32) (p0_parted : Int32) (p0_bodies : Nat → Int32) (this_number : Int32) (this_m : Int32) : Option (Int32 × (Int32) × (Int32) × (Nat → Int32)) := ((f_X10_began N (13 : Int32) p0_length p0_bodies).bind fun r1 => (if (this_m - this_number) = 0 then (some ((0 : Int32), r1.1, (1 : Int32), r1.2)) else (if ¬ (this_m - this_number) = 0 then (some ((p1 / (this_m - this_number)), r1.1, p0_parted, r1.2)) else none)))
set_option maxRecDepth 100000 in
set_option maxHeartbeats 4000000 in
theorem c_X8_parts_X1 (l : Launch) (G : KG) (N : Nat) (a_p0 : Nat) (a_p0_bodies : Nat) (a_this : Nat) (p1 : Int32) (p0_length : Int32) (p0_parted : Int32) (p0_bodies : Nat → Int32) (this_number : Int32) (this_m : Int32)  (out : Int32 × (Int32) × (Int32) × (Nat → Int32)) (hf : f_X8_parts_X1 N p1 p0_length p0_parted p0_bodies this_number this_m = some out) : KM l G yX8_parts (kw yX8_parts cX8_parts 4 (some .int)) 1 21 [.ref a_this, .ref a_p0, .int p1] (k_X8_parts_X1 G a_p0 a_p0_bodies a_this p0_length p0_parted p0_bodies this_number this_m) (k_X8_parts_X1 G a_p0 a_p0_bodies a_this (out.2.1) (out.2.2.1) (out.2.2.2) this_number this_m) (some (.int (out.1))) := by
  refine KM.of (by decide) (Nat.le_of_ble_eq_true rfl) ?_
  intro p e s m below meth c A ls args Q Fx0 hP hK hD hA hS hAm hQ hl
  obtain ⟨hx, hb, hr, hml, hts, hown, hlk, hnm⟩ := Fx0
  have hown : s.vm.findClass RX8 = some m.cls := hown
  have hl : lv_has ls 4 [(0, .ref a_this), (1, .ref a_p0), (2, .int p1)] := hl
  have fl_13 := hts _ tw_176
  have fl_7 := hts _ tw_173
  have fl_35 := va_Nw.use (A := args) rfl (hAm.1 _ nw_X8_35 rfl)
  unfold f_X8_parts_X1 at hf
  refine lv_aload_n hx hb dX8_parts_0 rfl (lv_at hl 1 rfl) ?_
  refine lv_bipush (v := (13 : Int32)) hx hb dX8_parts_1 (by decide) ?_
  obtain ⟨r1, hr1, hf⟩ := kb hf
  refine kVN (As := [.int (13 : Int32)]) (rest := []) ⟨hx, hb, hml, hown, hts⟩ (c_X10_began l G N a_p0 a_p0_bodies (13 : Int32) p0_length p0_parted p0_bodies r1 hr1) ⟨kcN 1 hts hAm nw_X8_22 tw_837 tw_90 hd_X10_began ⟨Nat.le_of_ble_eq_true rfl, Nat.le_of_ble_eq_true rfl⟩, hts _ tw_836, hts _ tw_38⟩ dX8_parts_3 hl.1 hK hAm hA hP hD hS 0 (ci := 10) rfl rfl rfl [0, 1] rfl rfl rfl [0, 1] rfl rfl rfl (Nat.le_of_ble_eq_true rfl) ⟨Nat.le_refl _, Nat.le_refl _⟩ (fun H locs hP hD hS => ?_)
  have hP : va_P (gD G) vwCl (k_X8_parts_X1 G a_p0 a_p0_bodies a_this r1.1 p0_parted r1.2 this_number this_m) H := hP
  have hD : va_D A (k_X8_parts_X1 G a_p0 a_p0_bodies a_this r1.1 p0_parted r1.2 this_number this_m) := hD
  refine lv_aload_n hx hb dX8_parts_6 rfl (lv_at hl 0 rfl) ?_
  refine va_get (D := gD G) (ci := 1) (C := RX1) (T := TX1) (N := 2) hx hb hts hin_X1 hown hK hP 2 rfl rfl 1 (by decide) fl_13 (fun _ h9 => h9) rfl dX8_parts_7 ?_
  refine lv_aload_n hx hb dX8_parts_10 rfl (lv_at hl 0 rfl) ?_
  refine va_get (D := gD G) (ci := 1) (C := RX1) (T := TX1) (N := 2) hx hb hts hin_X1 hown hK hP 2 rfl rfl 0 (by decide) fl_7 (fun _ h9 => h9) rfl dX8_parts_11 ?_
  refine lv_isub hx hb dX8_parts_14 ?_
  refine lv_istore_n (lv' := [(3, .int (this_m - this_number)), (0, .ref a_this), (1, .ref a_p0), (2, .int p1)]) hx hb dX8_parts_15 rfl hl (by decide) rfl (fun ls hl => ?_)
  refine lv_iload_n hx hb dX8_parts_16 rfl (lv_at hl 0 rfl) ?_
  refine lv_if_ne (tgt := 27) hx hb dX8_parts_17 (by decide) (fun c2 => ?_) (fun c2 => ?_)
  · replace hf := kf c2 hf
    refine lv_iload_n hx hb dX8_parts_27 rfl (lv_at hl 3 rfl) ?_
    refine lv_iload_n hx hb dX8_parts_28 rfl (lv_at hl 0 rfl) ?_
    obtain ⟨g3, hf⟩ := kg hf
    refine lv_idiv hx hb dX8_parts_29 g3 ?_
    have ho := ks hf
    subst ho
    exact kiret hx hb hr hlk hP hD hS hQ dX8_parts_30
  · replace hf := kt c2 hf
    refine lv_aload_n hx hb dX8_parts_20 rfl (lv_at hl 2 rfl) ?_
    refine lv_iconst (v := (1 : Int32)) hx hb dX8_parts_21 (by decide) ?_
    refine va_putN (D := gD G) (ci := 10) (v := .int (1 : Int32)) (ty := .boolean) (C := RX10) (T := TX10) (N := 3) hx hb hts hin_X10 tyX10 tyX10_ok nmX10 hown hK hP hD hS 0 rfl rfl 2 (by decide) fl_35 (fun _ h9 => h9) rfl (by decide +kernel) rfl rfl (Nat.le_of_ble_eq_true rfl) dX8_parts_22 (fun H locs hP hD hS => ?_)
    have hP : va_P (gD G) vwCl (k_X8_parts_X1 G a_p0 a_p0_bodies a_this r1.1 (1 : Int32) r1.2 this_number this_m) H := hP
    have hD : va_D A (k_X8_parts_X1 G a_p0 a_p0_bodies a_this r1.1 (1 : Int32) r1.2 this_number this_m) := hD
    refine lv_iconst (v := (0 : Int32)) hx hb dX8_parts_25 (by decide) ?_
    have ho := ks hf
    subst ho
    exact kiret hx hb hr hlk hP hD hS hQ dX8_parts_26
abbrev k_X6_kind_X5 (G : KG) : va_W := []
def f_X6_kind_X5 (N : Nat) : Option (Int32) := (some (2 : Int32))
set_option maxRecDepth 100000 in
set_option maxHeartbeats 4000000 in
theorem c_X6_kind_X5 (l : Launch) (G : KG) (N : Nat) (a_this : Nat)  (out : Int32) (hf : f_X6_kind_X5 N = some out) : KM l G yX6_kind (kw yX6_kind cX6_kind 1 (some .int)) 0 0 [.ref a_this] (k_X6_kind_X5 G) (k_X6_kind_X5 G) (some (.int out)) := by
  refine KM.of (by decide) (Nat.le_of_ble_eq_true rfl) ?_
  intro p e s m below meth c A ls args Q Fx0 hP hK hD hA hS hAm hQ hl
  obtain ⟨hx, hb, hr, hml, hts, hown, hlk, hnm⟩ := Fx0
  have hown : s.vm.findClass RX6 = some m.cls := hown
  have hl : lv_has ls 1 [(0, .ref a_this)] := hl
  unfold f_X6_kind_X5 at hf
  refine lv_iconst (v := (2 : Int32)) hx hb dX6_kind_0 (by decide) ?_
  have ho := ks hf
  subst ho
  exact kiret hx hb hr hlk hP hD hS hQ dX6_kind_1
abbrev k_X6_due_X5 (G : KG) : va_W := []
def f_X6_due_X5 (N : Nat) (p0 : Int32) (p1 : Int32) : Option (Int32) := ((f_X11_oneFigure N p0 (10 : Int32)).bind fun r1 => (some r1))
set_option maxRecDepth 100000 in
set_option maxHeartbeats 4000000 in
theorem c_X6_due_X5 (l : Launch) (G : KG) (N : Nat) (a_this : Nat) (a_p2 : Nat) (p0 : Int32) (p1 : Int32)  (out : Int32) (hf : f_X6_due_X5 N p0 p1 = some out) : KM l G yX6_due (kw yX6_due cX6_due 4 (some .int)) 2 47 [.ref a_this, .int p0, .int p1, .ref a_p2] (k_X6_due_X5 G) (k_X6_due_X5 G) (some (.int out)) := by
  refine KM.of (by decide) (Nat.le_of_ble_eq_true rfl) ?_
  intro p e s m below meth c A ls args Q Fx0 hP hK hD hA hS hAm hQ hl
  obtain ⟨hx, hb, hr, hml, hts, hown, hlk, hnm⟩ := Fx0
  have hown : s.vm.findClass RX6 = some m.cls := hown
  have hl : lv_has ls 4 [(0, .ref a_this), (1, .int p0), (2, .int p1), (3, .ref a_p2)] := hl
  unfold f_X6_due_X5 at hf
  refine lv_iload_n hx hb dX6_due_0 rfl (lv_at hl 1 rfl) ?_
  refine lv_bipush (v := (10 : Int32)) hx hb dX6_due_1 (by decide) ?_
  obtain ⟨r1, hr1, hf⟩ := kb hf
  refine kSN (As := [.int p0, .int (10 : Int32)]) (rest := []) ⟨hx, hb, hml, hown, hts⟩ (c_X11_oneFigure l G N p0 (10 : Int32) r1 hr1) ⟨kcN 2 hts hAm nw_X6_11 tw_543 tw_80 hd_X11_oneFigure ⟨Nat.le_of_ble_eq_true rfl, Nat.le_of_ble_eq_true rfl⟩, hts _ tw_542, trivial⟩ dX6_due_3 hl.1 hK hAm hA hP hD hS [] rfl rfl rfl [] rfl rfl rfl (Nat.le_of_ble_eq_true rfl) ⟨Nat.le_refl _, Nat.le_refl _⟩ (fun H locs hP hD hS => ?_)
  have hP : va_P (gD G) vwCl (k_X6_due_X5 G) H := hP
  have hD : va_D A (k_X6_due_X5 G) := hD
  have ho := ks hf
  subst ho
  exact kiret hx hb hr hlk hP hD hS hQ dX6_due_6
abbrev k_X8_kind_X5 (G : KG) : va_W := []
def f_X8_kind_X5 (N : Nat) : Option (Int32) := (some (0 : Int32))
set_option maxRecDepth 100000 in
set_option maxHeartbeats 4000000 in
theorem c_X8_kind_X5 (l : Launch) (G : KG) (N : Nat) (a_this : Nat)  (out : Int32) (hf : f_X8_kind_X5 N = some out) : KM l G yX8_kind (kw yX8_kind cX8_kind 1 (some .int)) 0 0 [.ref a_this] (k_X8_kind_X5 G) (k_X8_kind_X5 G) (some (.int out)) := by
  refine KM.of (by decide) (Nat.le_of_ble_eq_true rfl) ?_
  intro p e s m below meth c A ls args Q Fx0 hP hK hD hA hS hAm hQ hl
  obtain ⟨hx, hb, hr, hml, hts, hown, hlk, hnm⟩ := Fx0
  have hown : s.vm.findClass RX8 = some m.cls := hown
  have hl : lv_has ls 1 [(0, .ref a_this)] := hl
  unfold f_X8_kind_X5 at hf
  refine lv_iconst (v := (0 : Int32)) hx hb dX8_kind_0 (by decide) ?_
  have ho := ks hf
  subst ho
  exact kiret hx hb hr hlk hP hD hS hQ dX8_kind_1
abbrev k_X8_isOf_X5 (G : KG) : va_W := []
def f_X8_isOf_X5 (N : Nat) (p0 : Int32) : Option (Int32) := (if p0 = 0 then (some (1 : Int32)) else (some (0 : Int32)))
set_option maxRecDepth 100000 in
set_option maxHeartbeats 4000000 in
theorem c_X8_isOf_X5 (l : Launch) (G : KG) (N : Nat) (a_this : Nat) (p0 : Int32)  (out : Int32) (hf : f_X8_isOf_X5 N p0 = some out) : KM l G yX8_isOf (kw yX8_isOf cX8_isOf 2 (some .boolean)) 0 0 [.ref a_this, .int p0] (k_X8_isOf_X5 G) (k_X8_isOf_X5 G) (some (.int out)) := by
  refine KM.of (by decide) (Nat.le_of_ble_eq_true rfl) ?_
  intro p e s m below meth c A ls args Q Fx0 hP hK hD hA hS hAm hQ hl
  obtain ⟨hx, hb, hr, hml, hts, hown, hlk, hnm⟩ := Fx0
  have hown : s.vm.findClass RX8 = some m.cls := hown
  have hl : lv_has ls 2 [(0, .ref a_this), (1, .int p0)] := hl
  unfold f_X8_isOf_X5 at hf
  refine lv_iload_n hx hb dX8_isOf_0 rfl (lv_at hl 1 rfl) ?_
  refine lv_if_ne (tgt := 8) hx hb dX8_isOf_1 (by decide) (fun c1 => ?_) (fun c1 => ?_)
  · replace hf := kf c1 hf
    refine lv_iconst (v := (0 : Int32)) hx hb dX8_isOf_8 (by decide) ?_
    have ho := ks hf
    subst ho
    exact kzret hx hb hr (Or.inl rfl) hlk hP hD hS hQ dX8_isOf_9
  · replace hf := kt c1 hf
    refine lv_iconst (v := (1 : Int32)) hx hb dX8_isOf_4 (by decide) ?_
    refine lv_goto (tgt := 9) hx hb dX8_isOf_5 (by decide) ?_
    have ho := ks hf
    subst ho
    exact kzret hx hb hr (Or.inr rfl) hlk hP hD hS hQ dX8_isOf_9
abbrev k_X8_due_X5 (G : KG) : va_W := []
def f_X8_due_X5 (N : Nat) (p0 : Int32) (p1 : Int32) : Option (Int32) := ((f_X11_figureSum N p0 (10 : Int32)).bind fun r1 => (some r1))
set_option maxRecDepth 100000 in
set_option maxHeartbeats 4000000 in
theorem c_X8_due_X5 (l : Launch) (G : KG) (N : Nat) (a_this : Nat) (a_p2 : Nat) (p0 : Int32) (p1 : Int32)  (out : Int32) (hf : f_X8_due_X5 N p0 p1 = some out) : KM l G yX8_due (kw yX8_due cX8_due 4 (some .int)) 1 24 [.ref a_this, .int p0, .int p1, .ref a_p2] (k_X8_due_X5 G) (k_X8_due_X5 G) (some (.int out)) := by
  refine KM.of (by decide) (Nat.le_of_ble_eq_true rfl) ?_
  intro p e s m below meth c A ls args Q Fx0 hP hK hD hA hS hAm hQ hl
  obtain ⟨hx, hb, hr, hml, hts, hown, hlk, hnm⟩ := Fx0
  have hown : s.vm.findClass RX8 = some m.cls := hown
  have hl : lv_has ls 4 [(0, .ref a_this), (1, .int p0), (2, .int p1), (3, .ref a_p2)] := hl
  unfold f_X8_due_X5 at hf
  refine lv_iload_n hx hb dX8_due_0 rfl (lv_at hl 1 rfl) ?_
  refine lv_bipush (v := (10 : Int32)) hx hb dX8_due_1 (by decide) ?_
  obtain ⟨r1, hr1, hf⟩ := kb hf
  refine kSN (As := [.int p0, .int (10 : Int32)]) (rest := []) ⟨hx, hb, hml, hown, hts⟩ (c_X11_figureSum l G N p0 (10 : Int32) r1 hr1) ⟨kcN 2 hts hAm nw_X8_16 tw_512 tw_80 hd_X11_figureSum ⟨Nat.le_of_ble_eq_true rfl, Nat.le_of_ble_eq_true rfl⟩, hts _ tw_511, trivial⟩ dX8_due_3 hl.1 hK hAm hA hP hD hS [] rfl rfl rfl [] rfl rfl rfl (Nat.le_of_ble_eq_true rfl) ⟨Nat.le_refl _, Nat.le_refl _⟩ (fun H locs hP hD hS => ?_)
  have hP : va_P (gD G) vwCl (k_X8_due_X5 G) H := hP
  have hD : va_D A (k_X8_due_X5 G) := hD
  have ho := ks hf
  subst ho
  exact kiret hx hb hr hlk hP hD hS hQ dX8_due_6
abbrev k_X8_adds_X5 (G : KG) (a_p0 : Nat) (a_p0_bodies : Nat) (a_this : Nat) (p0_length : Int32) (p0_parted : Int32) (p0_bodies : Nat → Int32) (this_number : Int32) (this_m : Int32) : va_W := [(a_p0, .inr (10, [.ref a_p0_bodies, .int p0_length, .int p0_parted])), (a_p0_bodies, .inl (gI G, 30, .inl p0_bodies)), (a_this, .inr (5, [.int this_number, .int this_m]))]
def f_X8_adds_X5 (N : Nat) (p1 : Int32) (p0_length : Int32) (p0_bodies : Nat → Int32) (this_number : Int32) : Option (Int32 × (Int32) × (Nat → Int32)) := ((f_X10_began N (10 : Int32) p0_length p0_bodies).bind fun r1 => (some ((p1 + this_number), r1.1, r1.2)))
set_option maxRecDepth 100000 in
set_option maxHeartbeats 4000000 in
theorem c_X8_adds_X5 (l : Launch) (G : KG) (N : Nat) (a_p0 : Nat) (a_p0_bodies : Nat) (a_this : Nat) (p1 : Int32) (p0_length : Int32) (p0_parted : Int32) (p0_bodies : Nat → Int32) (this_number : Int32) (this_m : Int32)  (out : Int32 × (Int32) × (Nat → Int32)) (hf : f_X8_adds_X5 N p1 p0_length p0_bodies this_number = some out) : KM l G yX8_adds (kw yX8_adds cX8_adds 3 (some .int)) 1 21 [.ref a_this, .ref a_p0, .int p1] (k_X8_adds_X5 G a_p0 a_p0_bodies a_this p0_length p0_parted p0_bodies this_number this_m) (k_X8_adds_X5 G a_p0 a_p0_bodies a_this (out.2.1) p0_parted (out.2.2) this_number this_m) (some (.int (out.1))) := by
  refine KM.of (by decide) (Nat.le_of_ble_eq_true rfl) ?_
  intro p e s m below meth c A ls args Q Fx0 hP hK hD hA hS hAm hQ hl
  obtain ⟨hx, hb, hr, hml, hts, hown, hlk, hnm⟩ := Fx0
  have hown : s.vm.findClass RX8 = some m.cls := hown
  have hl : lv_has ls 3 [(0, .ref a_this), (1, .ref a_p0), (2, .int p1)] := hl
  have fl_7 := hts _ tw_173
  unfold f_X8_adds_X5 at hf
  refine lv_aload_n hx hb dX8_adds_0 rfl (lv_at hl 1 rfl) ?_
  refine lv_bipush (v := (10 : Int32)) hx hb dX8_adds_1 (by decide) ?_
  obtain ⟨r1, hr1, hf⟩ := kb hf
  refine kVN (As := [.int (10 : Int32)]) (rest := []) ⟨hx, hb, hml, hown, hts⟩ (c_X10_began l G N a_p0 a_p0_bodies (10 : Int32) p0_length p0_parted p0_bodies r1 hr1) ⟨kcN 1 hts hAm nw_X8_22 tw_837 tw_90 hd_X10_began ⟨Nat.le_of_ble_eq_true rfl, Nat.le_of_ble_eq_true rfl⟩, hts _ tw_836, hts _ tw_38⟩ dX8_adds_3 hl.1 hK hAm hA hP hD hS 0 (ci := 10) rfl rfl rfl [0, 1] rfl rfl rfl [0, 1] rfl rfl rfl (Nat.le_of_ble_eq_true rfl) ⟨Nat.le_refl _, Nat.le_refl _⟩ (fun H locs hP hD hS => ?_)
  have hP : va_P (gD G) vwCl (k_X8_adds_X5 G a_p0 a_p0_bodies a_this r1.1 p0_parted r1.2 this_number this_m) H := hP
  have hD : va_D A (k_X8_adds_X5 G a_p0 a_p0_bodies a_this r1.1 p0_parted r1.2 this_number this_m) := hD
  refine lv_iload_n hx hb dX8_adds_6 rfl (lv_at hl 2 rfl) ?_
  refine lv_aload_n hx hb dX8_adds_7 rfl (lv_at hl 0 rfl) ?_
  refine va_get (D := gD G) (ci := 5) (C := RX5) (T := TX5) (N := 2) hx hb hts hin_X5 hown hK hP 2 rfl rfl 0 (by decide) fl_7 (fun _ h9 => h9) rfl dX8_adds_8 ?_
  refine lv_iadd hx hb dX8_adds_11 ?_
  have ho := ks hf
  subst ho
  exact kiret hx hb hr hlk hP hD hS hQ dX8_adds_12
abbrev k_X8_comes_X5 (G : KG) (a_p0 : Nat) (a_p0_bodies : Nat) (a_this : Nat) (p0_length : Int32) (p0_parted : Int32) (p0_bodies : Nat → Int32) (this_number : Int32) (this_m : Int32) : va_W := [(a_p0, .inr (10, [.ref a_p0_bodies, .int p0_length, .int p0_parted])), (a_p0_bodies, .inl (gI G, 30, .inl p0_bodies)), (a_this, .inr (5, [.int this_number, .int this_m]))]
def f_X8_comes_X5 (N : Nat) (p1 : Int32) (p0_length : Int32) (p0_bodies : Nat → Int32) (this_number : Int32) : Option (Int32 × (Int32) × (Nat → Int32)) := ((f_X10_began N (11 : Int32) p0_length p0_bodies).bind fun r1 => ((f_X8_adds_X5 N p1 r1.1 r1.2 this_number).bind fun r2 => (some ((r2.1 * (2 : Int32)), r2.2.1, r2.2.2))))
set_option maxRecDepth 100000 in
set_option maxHeartbeats 4000000 in
theorem c_X8_comes_X5 (l : Launch) (G : KG) (N : Nat) (a_p0 : Nat) (a_p0_bodies : Nat) (a_this : Nat) (p1 : Int32) (p0_length : Int32) (p0_parted : Int32) (p0_bodies : Nat → Int32) (this_number : Int32) (this_m : Int32)  (out : Int32 × (Int32) × (Nat → Int32)) (hf : f_X8_comes_X5 N p1 p0_length p0_bodies this_number = some out) : KM l G yX8_comes (kw yX8_comes cX8_comes 3 (some .int)) 2 43 [.ref a_this, .ref a_p0, .int p1] (k_X8_comes_X5 G a_p0 a_p0_bodies a_this p0_length p0_parted p0_bodies this_number this_m) (k_X8_comes_X5 G a_p0 a_p0_bodies a_this (out.2.1) p0_parted (out.2.2) this_number this_m) (some (.int (out.1))) := by
  refine KM.of (by decide) (Nat.le_of_ble_eq_true rfl) ?_
  intro p e s m below meth c A ls args Q Fx0 hP hK hD hA hS hAm hQ hl
  obtain ⟨hx, hb, hr, hml, hts, hown, hlk, hnm⟩ := Fx0
  have hown : s.vm.findClass RX8 = some m.cls := hown
  have hl : lv_has ls 3 [(0, .ref a_this), (1, .ref a_p0), (2, .int p1)] := hl
  unfold f_X8_comes_X5 at hf
  refine lv_aload_n hx hb dX8_comes_0 rfl (lv_at hl 1 rfl) ?_
  refine lv_bipush (v := (11 : Int32)) hx hb dX8_comes_1 (by decide) ?_
  obtain ⟨r1, hr1, hf⟩ := kb hf
  refine kVN (As := [.int (11 : Int32)]) (rest := []) ⟨hx, hb, hml, hown, hts⟩ (c_X10_began l G N a_p0 a_p0_bodies (11 : Int32) p0_length p0_parted p0_bodies r1 hr1) ⟨kcN 1 hts hAm nw_X8_22 tw_837 tw_90 hd_X10_began ⟨Nat.le_of_ble_eq_true rfl, Nat.le_of_ble_eq_true rfl⟩, hts _ tw_836, hts _ tw_38⟩ dX8_comes_3 hl.1 hK hAm hA hP hD hS 0 (ci := 10) rfl rfl rfl [0, 1] rfl rfl rfl [0, 1] rfl rfl rfl (Nat.le_of_ble_eq_true rfl) ⟨Nat.le_refl _, Nat.le_refl _⟩ (fun H locs hP hD hS => ?_)
  have hP : va_P (gD G) vwCl (k_X8_comes_X5 G a_p0 a_p0_bodies a_this r1.1 p0_parted r1.2 this_number this_m) H := hP
  have hD : va_D A (k_X8_comes_X5 G a_p0 a_p0_bodies a_this r1.1 p0_parted r1.2 this_number this_m) := hD
  refine lv_aload_n hx hb dX8_comes_6 rfl (lv_at hl 0 rfl) ?_
  refine lv_aload_n hx hb dX8_comes_7 rfl (lv_at hl 1 rfl) ?_
  refine lv_iload_n hx hb dX8_comes_8 rfl (lv_at hl 2 rfl) ?_
  obtain ⟨r2, hr2, hf⟩ := kb hf
  refine kU (As := [.ref a_p0, .int p1]) (rest := []) ⟨hx, hb, hml, hown, hts⟩ (c_X8_adds_X5 l G N a_p0 a_p0_bodies a_this p1 r1.1 p0_parted r1.2 this_number this_m r2 hr2) (kcU (owner := RX8) (x := yX8_adds) 2 hts tw_850 tw_83 tw_874 tw_829 tw_827 tw_850 tw_844 tw_827 (by decide) hd_X8_adds.2.2 ⟨Nat.le_of_ble_eq_true rfl, Nat.le_of_ble_eq_true rfl⟩) dX8_comes_9 hl.1 hK hAm hA hP hD hS 2 (ci := 5) rfl rfl rfl [0, 1, 2] rfl rfl rfl [0, 1] rfl rfl rfl (Nat.le_of_ble_eq_true rfl) ⟨Nat.le_refl _, Nat.le_refl _⟩ (fun H locs hP hD hS => ?_)
  have hP : va_P (gD G) vwCl (k_X8_comes_X5 G a_p0 a_p0_bodies a_this r2.2.1 p0_parted r2.2.2 this_number this_m) H := hP
  have hD : va_D A (k_X8_comes_X5 G a_p0 a_p0_bodies a_this r2.2.1 p0_parted r2.2.2 this_number this_m) := hD
  refine lv_iconst (v := (2 : Int32)) hx hb dX8_comes_12 (by decide) ?_
  refine lv_imul hx hb dX8_comes_13 ?_
  have ho := ks hf
  subst ho
  exact kiret hx hb hr hlk hP hD hS hQ dX8_comes_14
abbrev k_X8_parts_X5 (G : KG) (a_p0 : Nat) (a_p0_bodies : Nat) (a_this : Nat) (p0_length : Int32) (p0_parted : Int32) (p0_bodies : Nat → Int32) (this_number : Int32) (this_m : Int32) : va_W := [(a_p0, .inr (10, [.ref a_p0_bodies, .int p0_length, .int p0_parted])), (a_p0_bodies, .inl (gI G, 30, .inl p0_bodies)), (a_this, .inr (5, [.int this_number, .int this_m]))]
def f_X8_parts_X5 (N : Nat) (p1 : Int32) (p0_length : Int32) (p0_parted : Int32) (p0_bodies : Nat → Int32) (this_number : Int32) (this_m : Int32) : Option (Int32 × (Int32) × (Int32) × (Nat → Int32)) := ((f_X10_began N (13 : Int32) p0_length p0_bodies).bind fun r1 => (if (this_m - this_number) = 0 then (some ((0 : Int32), r1.1, (1 : Int32), r1.2)) else (if ¬ (this_m - this_number) = 0 then (some ((p1 / (this_m - this_number)), r1.1, p0_parted, r1.2)) else none)))
set_option maxRecDepth 100000 in
set_option maxHeartbeats 4000000 in
theorem c_X8_parts_X5 (l : Launch) (G : KG) (N : Nat) (a_p0 : Nat) (a_p0_bodies : Nat) (a_this : Nat) (p1 : Int32) (p0_length : Int32) (p0_parted : Int32) (p0_bodies : Nat → Int32) (this_number : Int32) (this_m : Int32)  (out : Int32 × (Int32) × (Int32) × (Nat → Int32)) (hf : f_X8_parts_X5 N p1 p0_length p0_parted p0_bodies this_number this_m = some out) : KM l G yX8_parts (kw yX8_parts cX8_parts 4 (some .int)) 1 21 [.ref a_this, .ref a_p0, .int p1] (k_X8_parts_X5 G a_p0 a_p0_bodies a_this p0_length p0_parted p0_bodies this_number this_m) (k_X8_parts_X5 G a_p0 a_p0_bodies a_this (out.2.1) (out.2.2.1) (out.2.2.2) this_number this_m) (some (.int (out.1))) := by
  refine KM.of (by decide) (Nat.le_of_ble_eq_true rfl) ?_
  intro p e s m below meth c A ls args Q Fx0 hP hK hD hA hS hAm hQ hl
  obtain ⟨hx, hb, hr, hml, hts, hown, hlk, hnm⟩ := Fx0
  have hown : s.vm.findClass RX8 = some m.cls := hown
  have hl : lv_has ls 4 [(0, .ref a_this), (1, .ref a_p0), (2, .int p1)] := hl
  have fl_13 := hts _ tw_176
  have fl_7 := hts _ tw_173
  have fl_35 := va_Nw.use (A := args) rfl (hAm.1 _ nw_X8_35 rfl)
  unfold f_X8_parts_X5 at hf
  refine lv_aload_n hx hb dX8_parts_0 rfl (lv_at hl 1 rfl) ?_
  refine lv_bipush (v := (13 : Int32)) hx hb dX8_parts_1 (by decide) ?_
  obtain ⟨r1, hr1, hf⟩ := kb hf
  refine kVN (As := [.int (13 : Int32)]) (rest := []) ⟨hx, hb, hml, hown, hts⟩ (c_X10_began l G N a_p0 a_p0_bodies (13 : Int32) p0_length p0_parted p0_bodies r1 hr1) ⟨kcN 1 hts hAm nw_X8_22 tw_837 tw_90 hd_X10_began ⟨Nat.le_of_ble_eq_true rfl, Nat.le_of_ble_eq_true rfl⟩, hts _ tw_836, hts _ tw_38⟩ dX8_parts_3 hl.1 hK hAm hA hP hD hS 0 (ci := 10) rfl rfl rfl [0, 1] rfl rfl rfl [0, 1] rfl rfl rfl (Nat.le_of_ble_eq_true rfl) ⟨Nat.le_refl _, Nat.le_refl _⟩ (fun H locs hP hD hS => ?_)
  have hP : va_P (gD G) vwCl (k_X8_parts_X5 G a_p0 a_p0_bodies a_this r1.1 p0_parted r1.2 this_number this_m) H := hP
  have hD : va_D A (k_X8_parts_X5 G a_p0 a_p0_bodies a_this r1.1 p0_parted r1.2 this_number this_m) := hD
  refine lv_aload_n hx hb dX8_parts_6 rfl (lv_at hl 0 rfl) ?_
  refine va_get (D := gD G) (ci := 5) (C := RX5) (T := TX5) (N := 2) hx hb hts hin_X5 hown hK hP 2 rfl rfl 1 (by decide) fl_13 (fun _ h9 => h9) rfl dX8_parts_7 ?_
  refine lv_aload_n hx hb dX8_parts_10 rfl (lv_at hl 0 rfl) ?_
  refine va_get (D := gD G) (ci := 5) (C := RX5) (T := TX5) (N := 2) hx hb hts hin_X5 hown hK hP 2 rfl rfl 0 (by decide) fl_7 (fun _ h9 => h9) rfl dX8_parts_11 ?_
  refine lv_isub hx hb dX8_parts_14 ?_
  refine lv_istore_n (lv' := [(3, .int (this_m - this_number)), (0, .ref a_this), (1, .ref a_p0), (2, .int p1)]) hx hb dX8_parts_15 rfl hl (by decide) rfl (fun ls hl => ?_)
  refine lv_iload_n hx hb dX8_parts_16 rfl (lv_at hl 0 rfl) ?_
  refine lv_if_ne (tgt := 27) hx hb dX8_parts_17 (by decide) (fun c2 => ?_) (fun c2 => ?_)
  · replace hf := kf c2 hf
    refine lv_iload_n hx hb dX8_parts_27 rfl (lv_at hl 3 rfl) ?_
    refine lv_iload_n hx hb dX8_parts_28 rfl (lv_at hl 0 rfl) ?_
    obtain ⟨g3, hf⟩ := kg hf
    refine lv_idiv hx hb dX8_parts_29 g3 ?_
    have ho := ks hf
    subst ho
    exact kiret hx hb hr hlk hP hD hS hQ dX8_parts_30
  · replace hf := kt c2 hf
    refine lv_aload_n hx hb dX8_parts_20 rfl (lv_at hl 2 rfl) ?_
    refine lv_iconst (v := (1 : Int32)) hx hb dX8_parts_21 (by decide) ?_
    refine va_putN (D := gD G) (ci := 10) (v := .int (1 : Int32)) (ty := .boolean) (C := RX10) (T := TX10) (N := 3) hx hb hts hin_X10 tyX10 tyX10_ok nmX10 hown hK hP hD hS 0 rfl rfl 2 (by decide) fl_35 (fun _ h9 => h9) rfl (by decide +kernel) rfl rfl (Nat.le_of_ble_eq_true rfl) dX8_parts_22 (fun H locs hP hD hS => ?_)
    have hP : va_P (gD G) vwCl (k_X8_parts_X5 G a_p0 a_p0_bodies a_this r1.1 (1 : Int32) r1.2 this_number this_m) H := hP
    have hD : va_D A (k_X8_parts_X5 G a_p0 a_p0_bodies a_this r1.1 (1 : Int32) r1.2 this_number this_m) := hD
    refine lv_iconst (v := (0 : Int32)) hx hb dX8_parts_25 (by decide) ?_
    have ho := ks hf
    subst ho
    exact kiret hx hb hr hlk hP hD hS hQ dX8_parts_26
abbrev k_X3_kind_X2 (G : KG) : va_W := []
def f_X3_kind_X2 (N : Nat) : Option (Int32) := (some (1 : Int32))
set_option maxRecDepth 100000 in
set_option maxHeartbeats 4000000 in
theorem c_X3_kind_X2 (l : Launch) (G : KG) (N : Nat) (a_this : Nat)  (out : Int32) (hf : f_X3_kind_X2 N = some out) : KM l G yX3_kind (kw yX3_kind cX3_kind 1 (some .int)) 0 0 [.ref a_this] (k_X3_kind_X2 G) (k_X3_kind_X2 G) (some (.int out)) := by
  refine KM.of (by decide) (Nat.le_of_ble_eq_true rfl) ?_
  intro p e s m below meth c A ls args Q Fx0 hP hK hD hA hS hAm hQ hl
  obtain ⟨hx, hb, hr, hml, hts, hown, hlk, hnm⟩ := Fx0
  have hown : s.vm.findClass RX3 = some m.cls := hown
  have hl : lv_has ls 1 [(0, .ref a_this)] := hl
  unfold f_X3_kind_X2 at hf
  refine lv_iconst (v := (1 : Int32)) hx hb dX3_kind_0 (by decide) ?_
  have ho := ks hf
  subst ho
  exact kiret hx hb hr hlk hP hD hS hQ dX3_kind_1
abbrev k_X3_due_X2 (G : KG) : va_W := []
def f_X3_due_X2 (N : Nat) (p0 : Int32) (p1 : Int32) : Option (Int32) := (some (p0 - p0 / (10 : Int32) * (10 : Int32)))
set_option maxRecDepth 100000 in
set_option maxHeartbeats 4000000 in
theorem c_X3_due_X2 (l : Launch) (G : KG) (N : Nat) (a_this : Nat) (a_p2 : Nat) (p0 : Int32) (p1 : Int32)  (out : Int32) (hf : f_X3_due_X2 N p0 p1 = some out) : KM l G yX3_due (kw yX3_due cX3_due 4 (some .int)) 0 0 [.ref a_this, .int p0, .int p1, .ref a_p2] (k_X3_due_X2 G) (k_X3_due_X2 G) (some (.int out)) := by
  refine KM.of (by decide) (Nat.le_of_ble_eq_true rfl) ?_
  intro p e s m below meth c A ls args Q Fx0 hP hK hD hA hS hAm hQ hl
  obtain ⟨hx, hb, hr, hml, hts, hown, hlk, hnm⟩ := Fx0
  have hown : s.vm.findClass RX3 = some m.cls := hown
  have hl : lv_has ls 4 [(0, .ref a_this), (1, .int p0), (2, .int p1), (3, .ref a_p2)] := hl
  unfold f_X3_due_X2 at hf
  refine lv_iload_n hx hb dX3_due_0 rfl (lv_at hl 1 rfl) ?_
  refine lv_bipush (v := (10 : Int32)) hx hb dX3_due_1 (by decide) ?_
  refine lv_irem hx hb dX3_due_3 (by decide) ?_
  have ho := ks hf
  subst ho
  exact kiret hx hb hr hlk hP hD hS hQ dX3_due_4
abbrev k_X8_kind_X2 (G : KG) : va_W := []
def f_X8_kind_X2 (N : Nat) : Option (Int32) := (some (0 : Int32))
set_option maxRecDepth 100000 in
set_option maxHeartbeats 4000000 in
theorem c_X8_kind_X2 (l : Launch) (G : KG) (N : Nat) (a_this : Nat)  (out : Int32) (hf : f_X8_kind_X2 N = some out) : KM l G yX8_kind (kw yX8_kind cX8_kind 1 (some .int)) 0 0 [.ref a_this] (k_X8_kind_X2 G) (k_X8_kind_X2 G) (some (.int out)) := by
  refine KM.of (by decide) (Nat.le_of_ble_eq_true rfl) ?_
  intro p e s m below meth c A ls args Q Fx0 hP hK hD hA hS hAm hQ hl
  obtain ⟨hx, hb, hr, hml, hts, hown, hlk, hnm⟩ := Fx0
  have hown : s.vm.findClass RX8 = some m.cls := hown
  have hl : lv_has ls 1 [(0, .ref a_this)] := hl
  unfold f_X8_kind_X2 at hf
  refine lv_iconst (v := (0 : Int32)) hx hb dX8_kind_0 (by decide) ?_
  have ho := ks hf
  subst ho
  exact kiret hx hb hr hlk hP hD hS hQ dX8_kind_1
abbrev k_X8_isOf_X2 (G : KG) : va_W := []
def f_X8_isOf_X2 (N : Nat) (p0 : Int32) : Option (Int32) := (if p0 = 0 then (some (1 : Int32)) else (some (0 : Int32)))
set_option maxRecDepth 100000 in
set_option maxHeartbeats 4000000 in
theorem c_X8_isOf_X2 (l : Launch) (G : KG) (N : Nat) (a_this : Nat) (p0 : Int32)  (out : Int32) (hf : f_X8_isOf_X2 N p0 = some out) : KM l G yX8_isOf (kw yX8_isOf cX8_isOf 2 (some .boolean)) 0 0 [.ref a_this, .int p0] (k_X8_isOf_X2 G) (k_X8_isOf_X2 G) (some (.int out)) := by
  refine KM.of (by decide) (Nat.le_of_ble_eq_true rfl) ?_
  intro p e s m below meth c A ls args Q Fx0 hP hK hD hA hS hAm hQ hl
  obtain ⟨hx, hb, hr, hml, hts, hown, hlk, hnm⟩ := Fx0
  have hown : s.vm.findClass RX8 = some m.cls := hown
  have hl : lv_has ls 2 [(0, .ref a_this), (1, .int p0)] := hl
  unfold f_X8_isOf_X2 at hf
  refine lv_iload_n hx hb dX8_isOf_0 rfl (lv_at hl 1 rfl) ?_
  refine lv_if_ne (tgt := 8) hx hb dX8_isOf_1 (by decide) (fun c1 => ?_) (fun c1 => ?_)
  · replace hf := kf c1 hf
    refine lv_iconst (v := (0 : Int32)) hx hb dX8_isOf_8 (by decide) ?_
    have ho := ks hf
    subst ho
    exact kzret hx hb hr (Or.inl rfl) hlk hP hD hS hQ dX8_isOf_9
  · replace hf := kt c1 hf
    refine lv_iconst (v := (1 : Int32)) hx hb dX8_isOf_4 (by decide) ?_
    refine lv_goto (tgt := 9) hx hb dX8_isOf_5 (by decide) ?_
    have ho := ks hf
    subst ho
    exact kzret hx hb hr (Or.inr rfl) hlk hP hD hS hQ dX8_isOf_9
abbrev k_X8_due_X2 (G : KG) : va_W := []
def f_X8_due_X2 (N : Nat) (p0 : Int32) (p1 : Int32) : Option (Int32) := ((f_X11_figureSum N p0 (10 : Int32)).bind fun r1 => (some r1))
set_option maxRecDepth 100000 in
set_option maxHeartbeats 4000000 in
theorem c_X8_due_X2 (l : Launch) (G : KG) (N : Nat) (a_this : Nat) (a_p2 : Nat) (p0 : Int32) (p1 : Int32)  (out : Int32) (hf : f_X8_due_X2 N p0 p1 = some out) : KM l G yX8_due (kw yX8_due cX8_due 4 (some .int)) 1 24 [.ref a_this, .int p0, .int p1, .ref a_p2] (k_X8_due_X2 G) (k_X8_due_X2 G) (some (.int out)) := by
  refine KM.of (by decide) (Nat.le_of_ble_eq_true rfl) ?_
  intro p e s m below meth c A ls args Q Fx0 hP hK hD hA hS hAm hQ hl
  obtain ⟨hx, hb, hr, hml, hts, hown, hlk, hnm⟩ := Fx0
  have hown : s.vm.findClass RX8 = some m.cls := hown
  have hl : lv_has ls 4 [(0, .ref a_this), (1, .int p0), (2, .int p1), (3, .ref a_p2)] := hl
  unfold f_X8_due_X2 at hf
  refine lv_iload_n hx hb dX8_due_0 rfl (lv_at hl 1 rfl) ?_
  refine lv_bipush (v := (10 : Int32)) hx hb dX8_due_1 (by decide) ?_
  obtain ⟨r1, hr1, hf⟩ := kb hf
  refine kSN (As := [.int p0, .int (10 : Int32)]) (rest := []) ⟨hx, hb, hml, hown, hts⟩ (c_X11_figureSum l G N p0 (10 : Int32) r1 hr1) ⟨kcN 2 hts hAm nw_X8_16 tw_512 tw_80 hd_X11_figureSum ⟨Nat.le_of_ble_eq_true rfl, Nat.le_of_ble_eq_true rfl⟩, hts _ tw_511, trivial⟩ dX8_due_3 hl.1 hK hAm hA hP hD hS [] rfl rfl rfl [] rfl rfl rfl (Nat.le_of_ble_eq_true rfl) ⟨Nat.le_refl _, Nat.le_refl _⟩ (fun H locs hP hD hS => ?_)
  have hP : va_P (gD G) vwCl (k_X8_due_X2 G) H := hP
  have hD : va_D A (k_X8_due_X2 G) := hD
  have ho := ks hf
  subst ho
  exact kiret hx hb hr hlk hP hD hS hQ dX8_due_6
abbrev k_X8_adds_X2 (G : KG) (a_p0 : Nat) (a_p0_bodies : Nat) (a_this : Nat) (p0_length : Int32) (p0_parted : Int32) (p0_bodies : Nat → Int32) (this_number : Int32) (this_m : Int32) : va_W := [(a_p0, .inr (10, [.ref a_p0_bodies, .int p0_length, .int p0_parted])), (a_p0_bodies, .inl (gI G, 30, .inl p0_bodies)), (a_this, .inr (2, [.int this_number, .int this_m]))]
def f_X8_adds_X2 (N : Nat) (p1 : Int32) (p0_length : Int32) (p0_bodies : Nat → Int32) (this_number : Int32) : Option (Int32 × (Int32) × (Nat → Int32)) := ((f_X10_began N (10 : Int32) p0_length p0_bodies).bind fun r1 => (some ((p1 + this_number), r1.1, r1.2)))
set_option maxRecDepth 100000 in
set_option maxHeartbeats 4000000 in
theorem c_X8_adds_X2 (l : Launch) (G : KG) (N : Nat) (a_p0 : Nat) (a_p0_bodies : Nat) (a_this : Nat) (p1 : Int32) (p0_length : Int32) (p0_parted : Int32) (p0_bodies : Nat → Int32) (this_number : Int32) (this_m : Int32)  (out : Int32 × (Int32) × (Nat → Int32)) (hf : f_X8_adds_X2 N p1 p0_length p0_bodies this_number = some out) : KM l G yX8_adds (kw yX8_adds cX8_adds 3 (some .int)) 1 21 [.ref a_this, .ref a_p0, .int p1] (k_X8_adds_X2 G a_p0 a_p0_bodies a_this p0_length p0_parted p0_bodies this_number this_m) (k_X8_adds_X2 G a_p0 a_p0_bodies a_this (out.2.1) p0_parted (out.2.2) this_number this_m) (some (.int (out.1))) := by
  refine KM.of (by decide) (Nat.le_of_ble_eq_true rfl) ?_
  intro p e s m below meth c A ls args Q Fx0 hP hK hD hA hS hAm hQ hl
  obtain ⟨hx, hb, hr, hml, hts, hown, hlk, hnm⟩ := Fx0
  have hown : s.vm.findClass RX8 = some m.cls := hown
  have hl : lv_has ls 3 [(0, .ref a_this), (1, .ref a_p0), (2, .int p1)] := hl
  have fl_7 := hts _ tw_173
  unfold f_X8_adds_X2 at hf
  refine lv_aload_n hx hb dX8_adds_0 rfl (lv_at hl 1 rfl) ?_
  refine lv_bipush (v := (10 : Int32)) hx hb dX8_adds_1 (by decide) ?_
  obtain ⟨r1, hr1, hf⟩ := kb hf
  refine kVN (As := [.int (10 : Int32)]) (rest := []) ⟨hx, hb, hml, hown, hts⟩ (c_X10_began l G N a_p0 a_p0_bodies (10 : Int32) p0_length p0_parted p0_bodies r1 hr1) ⟨kcN 1 hts hAm nw_X8_22 tw_837 tw_90 hd_X10_began ⟨Nat.le_of_ble_eq_true rfl, Nat.le_of_ble_eq_true rfl⟩, hts _ tw_836, hts _ tw_38⟩ dX8_adds_3 hl.1 hK hAm hA hP hD hS 0 (ci := 10) rfl rfl rfl [0, 1] rfl rfl rfl [0, 1] rfl rfl rfl (Nat.le_of_ble_eq_true rfl) ⟨Nat.le_refl _, Nat.le_refl _⟩ (fun H locs hP hD hS => ?_)
  have hP : va_P (gD G) vwCl (k_X8_adds_X2 G a_p0 a_p0_bodies a_this r1.1 p0_parted r1.2 this_number this_m) H := hP
  have hD : va_D A (k_X8_adds_X2 G a_p0 a_p0_bodies a_this r1.1 p0_parted r1.2 this_number this_m) := hD
  refine lv_iload_n hx hb dX8_adds_6 rfl (lv_at hl 2 rfl) ?_
  refine lv_aload_n hx hb dX8_adds_7 rfl (lv_at hl 0 rfl) ?_
  refine va_get (D := gD G) (ci := 2) (C := RX2) (T := TX2) (N := 2) hx hb hts hin_X2 hown hK hP 2 rfl rfl 0 (by decide) fl_7 (fun _ h9 => h9) rfl dX8_adds_8 ?_
  refine lv_iadd hx hb dX8_adds_11 ?_
  have ho := ks hf
  subst ho
  exact kiret hx hb hr hlk hP hD hS hQ dX8_adds_12
abbrev k_X8_parts_X2 (G : KG) (a_p0 : Nat) (a_p0_bodies : Nat) (a_this : Nat) (p0_length : Int32) (p0_parted : Int32) (p0_bodies : Nat → Int32) (this_number : Int32) (this_m : Int32) : va_W := [(a_p0, .inr (10, [.ref a_p0_bodies, .int p0_length, .int p0_parted])), (a_p0_bodies, .inl (gI G, 30, .inl p0_bodies)), (a_this, .inr (2, [.int this_number, .int this_m]))]
def f_X8_parts_X2 (N : Nat) (p1 : Int32) (p0_length : Int32) (p0_parted : Int32) (p0_bodies : Nat → Int32) (this_number : Int32) (this_m : Int32) : Option (Int32 × (Int32) × (Int32) × (Nat → Int32)) := ((f_X10_began N (13 : Int32) p0_length p0_bodies).bind fun r1 => (if (this_m - this_number) = 0 then (some ((0 : Int32), r1.1, (1 : Int32), r1.2)) else (if ¬ (this_m - this_number) = 0 then (some ((p1 / (this_m - this_number)), r1.1, p0_parted, r1.2)) else none)))
set_option maxRecDepth 100000 in
set_option maxHeartbeats 4000000 in
theorem c_X8_parts_X2 (l : Launch) (G : KG) (N : Nat) (a_p0 : Nat) (a_p0_bodies : Nat) (a_this : Nat) (p1 : Int32) (p0_length : Int32) (p0_parted : Int32) (p0_bodies : Nat → Int32) (this_number : Int32) (this_m : Int32)  (out : Int32 × (Int32) × (Int32) × (Nat → Int32)) (hf : f_X8_parts_X2 N p1 p0_length p0_parted p0_bodies this_number this_m = some out) : KM l G yX8_parts (kw yX8_parts cX8_parts 4 (some .int)) 1 21 [.ref a_this, .ref a_p0, .int p1] (k_X8_parts_X2 G a_p0 a_p0_bodies a_this p0_length p0_parted p0_bodies this_number this_m) (k_X8_parts_X2 G a_p0 a_p0_bodies a_this (out.2.1) (out.2.2.1) (out.2.2.2) this_number this_m) (some (.int (out.1))) := by
  refine KM.of (by decide) (Nat.le_of_ble_eq_true rfl) ?_
  intro p e s m below meth c A ls args Q Fx0 hP hK hD hA hS hAm hQ hl
  obtain ⟨hx, hb, hr, hml, hts, hown, hlk, hnm⟩ := Fx0
  have hown : s.vm.findClass RX8 = some m.cls := hown
  have hl : lv_has ls 4 [(0, .ref a_this), (1, .ref a_p0), (2, .int p1)] := hl
  have fl_13 := hts _ tw_176
  have fl_7 := hts _ tw_173
  have fl_35 := va_Nw.use (A := args) rfl (hAm.1 _ nw_X8_35 rfl)
  unfold f_X8_parts_X2 at hf
  refine lv_aload_n hx hb dX8_parts_0 rfl (lv_at hl 1 rfl) ?_
  refine lv_bipush (v := (13 : Int32)) hx hb dX8_parts_1 (by decide) ?_
  obtain ⟨r1, hr1, hf⟩ := kb hf
  refine kVN (As := [.int (13 : Int32)]) (rest := []) ⟨hx, hb, hml, hown, hts⟩ (c_X10_began l G N a_p0 a_p0_bodies (13 : Int32) p0_length p0_parted p0_bodies r1 hr1) ⟨kcN 1 hts hAm nw_X8_22 tw_837 tw_90 hd_X10_began ⟨Nat.le_of_ble_eq_true rfl, Nat.le_of_ble_eq_true rfl⟩, hts _ tw_836, hts _ tw_38⟩ dX8_parts_3 hl.1 hK hAm hA hP hD hS 0 (ci := 10) rfl rfl rfl [0, 1] rfl rfl rfl [0, 1] rfl rfl rfl (Nat.le_of_ble_eq_true rfl) ⟨Nat.le_refl _, Nat.le_refl _⟩ (fun H locs hP hD hS => ?_)
  have hP : va_P (gD G) vwCl (k_X8_parts_X2 G a_p0 a_p0_bodies a_this r1.1 p0_parted r1.2 this_number this_m) H := hP
  have hD : va_D A (k_X8_parts_X2 G a_p0 a_p0_bodies a_this r1.1 p0_parted r1.2 this_number this_m) := hD
  refine lv_aload_n hx hb dX8_parts_6 rfl (lv_at hl 0 rfl) ?_
  refine va_get (D := gD G) (ci := 2) (C := RX2) (T := TX2) (N := 2) hx hb hts hin_X2 hown hK hP 2 rfl rfl 1 (by decide) fl_13 (fun _ h9 => h9) rfl dX8_parts_7 ?_
  refine lv_aload_n hx hb dX8_parts_10 rfl (lv_at hl 0 rfl) ?_
  refine va_get (D := gD G) (ci := 2) (C := RX2) (T := TX2) (N := 2) hx hb hts hin_X2 hown hK hP 2 rfl rfl 0 (by decide) fl_7 (fun _ h9 => h9) rfl dX8_parts_11 ?_
  refine lv_isub hx hb dX8_parts_14 ?_
  refine lv_istore_n (lv' := [(3, .int (this_m - this_number)), (0, .ref a_this), (1, .ref a_p0), (2, .int p1)]) hx hb dX8_parts_15 rfl hl (by decide) rfl (fun ls hl => ?_)
  refine lv_iload_n hx hb dX8_parts_16 rfl (lv_at hl 0 rfl) ?_
  refine lv_if_ne (tgt := 27) hx hb dX8_parts_17 (by decide) (fun c2 => ?_) (fun c2 => ?_)
  · replace hf := kf c2 hf
    refine lv_iload_n hx hb dX8_parts_27 rfl (lv_at hl 3 rfl) ?_
    refine lv_iload_n hx hb dX8_parts_28 rfl (lv_at hl 0 rfl) ?_
    obtain ⟨g3, hf⟩ := kg hf
    refine lv_idiv hx hb dX8_parts_29 g3 ?_
    have ho := ks hf
    subst ho
    exact kiret hx hb hr hlk hP hD hS hQ dX8_parts_30
  · replace hf := kt c2 hf
    refine lv_aload_n hx hb dX8_parts_20 rfl (lv_at hl 2 rfl) ?_
    refine lv_iconst (v := (1 : Int32)) hx hb dX8_parts_21 (by decide) ?_
    refine va_putN (D := gD G) (ci := 10) (v := .int (1 : Int32)) (ty := .boolean) (C := RX10) (T := TX10) (N := 3) hx hb hts hin_X10 tyX10 tyX10_ok nmX10 hown hK hP hD hS 0 rfl rfl 2 (by decide) fl_35 (fun _ h9 => h9) rfl (by decide +kernel) rfl rfl (Nat.le_of_ble_eq_true rfl) dX8_parts_22 (fun H locs hP hD hS => ?_)
    have hP : va_P (gD G) vwCl (k_X8_parts_X2 G a_p0 a_p0_bodies a_this r1.1 (1 : Int32) r1.2 this_number this_m) H := hP
    have hD : va_D A (k_X8_parts_X2 G a_p0 a_p0_bodies a_this r1.1 (1 : Int32) r1.2 this_number this_m) := hD
    refine lv_iconst (v := (0 : Int32)) hx hb dX8_parts_25 (by decide) ?_
    have ho := ks hf
    subst ho
    exact kiret hx hb hr hlk hP hD hS hQ dX8_parts_26
abbrev k_X8_kind_X9 (G : KG) : va_W := []
def f_X8_kind_X9 (N : Nat) : Option (Int32) := (some (0 : Int32))
set_option maxRecDepth 100000 in
set_option maxHeartbeats 4000000 in
theorem c_X8_kind_X9 (l : Launch) (G : KG) (N : Nat) (a_this : Nat)  (out : Int32) (hf : f_X8_kind_X9 N = some out) : KM l G yX8_kind (kw yX8_kind cX8_kind 1 (some .int)) 0 0 [.ref a_this] (k_X8_kind_X9 G) (k_X8_kind_X9 G) (some (.int out)) := by
  refine KM.of (by decide) (Nat.le_of_ble_eq_true rfl) ?_
  intro p e s m below meth c A ls args Q Fx0 hP hK hD hA hS hAm hQ hl
  obtain ⟨hx, hb, hr, hml, hts, hown, hlk, hnm⟩ := Fx0
  have hown : s.vm.findClass RX8 = some m.cls := hown
  have hl : lv_has ls 1 [(0, .ref a_this)] := hl
  unfold f_X8_kind_X9 at hf
  refine lv_iconst (v := (0 : Int32)) hx hb dX8_kind_0 (by decide) ?_
  have ho := ks hf
  subst ho
  exact kiret hx hb hr hlk hP hD hS hQ dX8_kind_1
abbrev k_X8_isOf_X9 (G : KG) : va_W := []
def f_X8_isOf_X9 (N : Nat) (p0 : Int32) : Option (Int32) := (if p0 = 0 then (some (1 : Int32)) else (some (0 : Int32)))
set_option maxRecDepth 100000 in
set_option maxHeartbeats 4000000 in
theorem c_X8_isOf_X9 (l : Launch) (G : KG) (N : Nat) (a_this : Nat) (p0 : Int32)  (out : Int32) (hf : f_X8_isOf_X9 N p0 = some out) : KM l G yX8_isOf (kw yX8_isOf cX8_isOf 2 (some .boolean)) 0 0 [.ref a_this, .int p0] (k_X8_isOf_X9 G) (k_X8_isOf_X9 G) (some (.int out)) := by
  refine KM.of (by decide) (Nat.le_of_ble_eq_true rfl) ?_
  intro p e s m below meth c A ls args Q Fx0 hP hK hD hA hS hAm hQ hl
  obtain ⟨hx, hb, hr, hml, hts, hown, hlk, hnm⟩ := Fx0
  have hown : s.vm.findClass RX8 = some m.cls := hown
  have hl : lv_has ls 2 [(0, .ref a_this), (1, .int p0)] := hl
  unfold f_X8_isOf_X9 at hf
  refine lv_iload_n hx hb dX8_isOf_0 rfl (lv_at hl 1 rfl) ?_
  refine lv_if_ne (tgt := 8) hx hb dX8_isOf_1 (by decide) (fun c1 => ?_) (fun c1 => ?_)
  · replace hf := kf c1 hf
    refine lv_iconst (v := (0 : Int32)) hx hb dX8_isOf_8 (by decide) ?_
    have ho := ks hf
    subst ho
    exact kzret hx hb hr (Or.inl rfl) hlk hP hD hS hQ dX8_isOf_9
  · replace hf := kt c1 hf
    refine lv_iconst (v := (1 : Int32)) hx hb dX8_isOf_4 (by decide) ?_
    refine lv_goto (tgt := 9) hx hb dX8_isOf_5 (by decide) ?_
    have ho := ks hf
    subst ho
    exact kzret hx hb hr (Or.inr rfl) hlk hP hD hS hQ dX8_isOf_9
abbrev k_X8_due_X9 (G : KG) : va_W := []
def f_X8_due_X9 (N : Nat) (p0 : Int32) (p1 : Int32) : Option (Int32) := ((f_X11_figureSum N p0 (10 : Int32)).bind fun r1 => (some r1))
set_option maxRecDepth 100000 in
set_option maxHeartbeats 4000000 in
theorem c_X8_due_X9 (l : Launch) (G : KG) (N : Nat) (a_this : Nat) (a_p2 : Nat) (p0 : Int32) (p1 : Int32)  (out : Int32) (hf : f_X8_due_X9 N p0 p1 = some out) : KM l G yX8_due (kw yX8_due cX8_due 4 (some .int)) 1 24 [.ref a_this, .int p0, .int p1, .ref a_p2] (k_X8_due_X9 G) (k_X8_due_X9 G) (some (.int out)) := by
  refine KM.of (by decide) (Nat.le_of_ble_eq_true rfl) ?_
  intro p e s m below meth c A ls args Q Fx0 hP hK hD hA hS hAm hQ hl
  obtain ⟨hx, hb, hr, hml, hts, hown, hlk, hnm⟩ := Fx0
  have hown : s.vm.findClass RX8 = some m.cls := hown
  have hl : lv_has ls 4 [(0, .ref a_this), (1, .int p0), (2, .int p1), (3, .ref a_p2)] := hl
  unfold f_X8_due_X9 at hf
  refine lv_iload_n hx hb dX8_due_0 rfl (lv_at hl 1 rfl) ?_
  refine lv_bipush (v := (10 : Int32)) hx hb dX8_due_1 (by decide) ?_
  obtain ⟨r1, hr1, hf⟩ := kb hf
  refine kSN (As := [.int p0, .int (10 : Int32)]) (rest := []) ⟨hx, hb, hml, hown, hts⟩ (c_X11_figureSum l G N p0 (10 : Int32) r1 hr1) ⟨kcN 2 hts hAm nw_X8_16 tw_512 tw_80 hd_X11_figureSum ⟨Nat.le_of_ble_eq_true rfl, Nat.le_of_ble_eq_true rfl⟩, hts _ tw_511, trivial⟩ dX8_due_3 hl.1 hK hAm hA hP hD hS [] rfl rfl rfl [] rfl rfl rfl (Nat.le_of_ble_eq_true rfl) ⟨Nat.le_refl _, Nat.le_refl _⟩ (fun H locs hP hD hS => ?_)
  have hP : va_P (gD G) vwCl (k_X8_due_X9 G) H := hP
  have hD : va_D A (k_X8_due_X9 G) := hD
  have ho := ks hf
  subst ho
  exact kiret hx hb hr hlk hP hD hS hQ dX8_due_6
abbrev k_X8_adds_X9 (G : KG) (a_p0 : Nat) (a_p0_bodies : Nat) (a_this : Nat) (p0_length : Int32) (p0_parted : Int32) (p0_bodies : Nat → Int32) (this_number : Int32) (this_m : Int32) : va_W := [(a_p0, .inr (10, [.ref a_p0_bodies, .int p0_length, .int p0_parted])), (a_p0_bodies, .inl (gI G, 30, .inl p0_bodies)), (a_this, .inr (9, [.int this_number, .int this_m]))]
def f_X8_adds_X9 (N : Nat) (p1 : Int32) (p0_length : Int32) (p0_bodies : Nat → Int32) (this_number : Int32) : Option (Int32 × (Int32) × (Nat → Int32)) := ((f_X10_began N (10 : Int32) p0_length p0_bodies).bind fun r1 => (some ((p1 + this_number), r1.1, r1.2)))
set_option maxRecDepth 100000 in
set_option maxHeartbeats 4000000 in
theorem c_X8_adds_X9 (l : Launch) (G : KG) (N : Nat) (a_p0 : Nat) (a_p0_bodies : Nat) (a_this : Nat) (p1 : Int32) (p0_length : Int32) (p0_parted : Int32) (p0_bodies : Nat → Int32) (this_number : Int32) (this_m : Int32)  (out : Int32 × (Int32) × (Nat → Int32)) (hf : f_X8_adds_X9 N p1 p0_length p0_bodies this_number = some out) : KM l G yX8_adds (kw yX8_adds cX8_adds 3 (some .int)) 1 21 [.ref a_this, .ref a_p0, .int p1] (k_X8_adds_X9 G a_p0 a_p0_bodies a_this p0_length p0_parted p0_bodies this_number this_m) (k_X8_adds_X9 G a_p0 a_p0_bodies a_this (out.2.1) p0_parted (out.2.2) this_number this_m) (some (.int (out.1))) := by
  refine KM.of (by decide) (Nat.le_of_ble_eq_true rfl) ?_
  intro p e s m below meth c A ls args Q Fx0 hP hK hD hA hS hAm hQ hl
  obtain ⟨hx, hb, hr, hml, hts, hown, hlk, hnm⟩ := Fx0
  have hown : s.vm.findClass RX8 = some m.cls := hown
  have hl : lv_has ls 3 [(0, .ref a_this), (1, .ref a_p0), (2, .int p1)] := hl
  have fl_7 := hts _ tw_173
  unfold f_X8_adds_X9 at hf
  refine lv_aload_n hx hb dX8_adds_0 rfl (lv_at hl 1 rfl) ?_
  refine lv_bipush (v := (10 : Int32)) hx hb dX8_adds_1 (by decide) ?_
  obtain ⟨r1, hr1, hf⟩ := kb hf
  refine kVN (As := [.int (10 : Int32)]) (rest := []) ⟨hx, hb, hml, hown, hts⟩ (c_X10_began l G N a_p0 a_p0_bodies (10 : Int32) p0_length p0_parted p0_bodies r1 hr1) ⟨kcN 1 hts hAm nw_X8_22 tw_837 tw_90 hd_X10_began ⟨Nat.le_of_ble_eq_true rfl, Nat.le_of_ble_eq_true rfl⟩, hts _ tw_836, hts _ tw_38⟩ dX8_adds_3 hl.1 hK hAm hA hP hD hS 0 (ci := 10) rfl rfl rfl [0, 1] rfl rfl rfl [0, 1] rfl rfl rfl (Nat.le_of_ble_eq_true rfl) ⟨Nat.le_refl _, Nat.le_refl _⟩ (fun H locs hP hD hS => ?_)
  have hP : va_P (gD G) vwCl (k_X8_adds_X9 G a_p0 a_p0_bodies a_this r1.1 p0_parted r1.2 this_number this_m) H := hP
  have hD : va_D A (k_X8_adds_X9 G a_p0 a_p0_bodies a_this r1.1 p0_parted r1.2 this_number this_m) := hD
  refine lv_iload_n hx hb dX8_adds_6 rfl (lv_at hl 2 rfl) ?_
  refine lv_aload_n hx hb dX8_adds_7 rfl (lv_at hl 0 rfl) ?_
  refine va_get (D := gD G) (ci := 9) (C := RX9) (T := TX9) (N := 2) hx hb hts hin_X9 hown hK hP 2 rfl rfl 0 (by decide) fl_7 (fun _ h9 => h9) rfl dX8_adds_8 ?_
  refine lv_iadd hx hb dX8_adds_11 ?_
  have ho := ks hf
  subst ho
  exact kiret hx hb hr hlk hP hD hS hQ dX8_adds_12
abbrev k_X8_parts_X9 (G : KG) (a_p0 : Nat) (a_p0_bodies : Nat) (a_this : Nat) (p0_length : Int32) (p0_parted : Int32) (p0_bodies : Nat → Int32) (this_number : Int32) (this_m : Int32) : va_W := [(a_p0, .inr (10, [.ref a_p0_bodies, .int p0_length, .int p0_parted])), (a_p0_bodies, .inl (gI G, 30, .inl p0_bodies)), (a_this, .inr (9, [.int this_number, .int this_m]))]
def f_X8_parts_X9 (N : Nat) (p1 : Int32) (p0_length : Int32) (p0_parted : Int32) (p0_bodies : Nat → Int32) (this_number : Int32) (this_m : Int32) : Option (Int32 × (Int32) × (Int32) × (Nat → Int32)) := ((f_X10_began N (13 : Int32) p0_length p0_bodies).bind fun r1 => (if (this_m - this_number) = 0 then (some ((0 : Int32), r1.1, (1 : Int32), r1.2)) else (if ¬ (this_m - this_number) = 0 then (some ((p1 / (this_m - this_number)), r1.1, p0_parted, r1.2)) else none)))
set_option maxRecDepth 100000 in
set_option maxHeartbeats 4000000 in
theorem c_X8_parts_X9 (l : Launch) (G : KG) (N : Nat) (a_p0 : Nat) (a_p0_bodies : Nat) (a_this : Nat) (p1 : Int32) (p0_length : Int32) (p0_parted : Int32) (p0_bodies : Nat → Int32) (this_number : Int32) (this_m : Int32)  (out : Int32 × (Int32) × (Int32) × (Nat → Int32)) (hf : f_X8_parts_X9 N p1 p0_length p0_parted p0_bodies this_number this_m = some out) : KM l G yX8_parts (kw yX8_parts cX8_parts 4 (some .int)) 1 21 [.ref a_this, .ref a_p0, .int p1] (k_X8_parts_X9 G a_p0 a_p0_bodies a_this p0_length p0_parted p0_bodies this_number this_m) (k_X8_parts_X9 G a_p0 a_p0_bodies a_this (out.2.1) (out.2.2.1) (out.2.2.2) this_number this_m) (some (.int (out.1))) := by
  refine KM.of (by decide) (Nat.le_of_ble_eq_true rfl) ?_
  intro p e s m below meth c A ls args Q Fx0 hP hK hD hA hS hAm hQ hl
  obtain ⟨hx, hb, hr, hml, hts, hown, hlk, hnm⟩ := Fx0
  have hown : s.vm.findClass RX8 = some m.cls := hown
  have hl : lv_has ls 4 [(0, .ref a_this), (1, .ref a_p0), (2, .int p1)] := hl
  have fl_13 := hts _ tw_176
  have fl_7 := hts _ tw_173
  have fl_35 := va_Nw.use (A := args) rfl (hAm.1 _ nw_X8_35 rfl)
  unfold f_X8_parts_X9 at hf
  refine lv_aload_n hx hb dX8_parts_0 rfl (lv_at hl 1 rfl) ?_
  refine lv_bipush (v := (13 : Int32)) hx hb dX8_parts_1 (by decide) ?_
  obtain ⟨r1, hr1, hf⟩ := kb hf
  refine kVN (As := [.int (13 : Int32)]) (rest := []) ⟨hx, hb, hml, hown, hts⟩ (c_X10_began l G N a_p0 a_p0_bodies (13 : Int32) p0_length p0_parted p0_bodies r1 hr1) ⟨kcN 1 hts hAm nw_X8_22 tw_837 tw_90 hd_X10_began ⟨Nat.le_of_ble_eq_true rfl, Nat.le_of_ble_eq_true rfl⟩, hts _ tw_836, hts _ tw_38⟩ dX8_parts_3 hl.1 hK hAm hA hP hD hS 0 (ci := 10) rfl rfl rfl [0, 1] rfl rfl rfl [0, 1] rfl rfl rfl (Nat.le_of_ble_eq_true rfl) ⟨Nat.le_refl _, Nat.le_refl _⟩ (fun H locs hP hD hS => ?_)
  have hP : va_P (gD G) vwCl (k_X8_parts_X9 G a_p0 a_p0_bodies a_this r1.1 p0_parted r1.2 this_number this_m) H := hP
  have hD : va_D A (k_X8_parts_X9 G a_p0 a_p0_bodies a_this r1.1 p0_parted r1.2 this_number this_m) := hD
  refine lv_aload_n hx hb dX8_parts_6 rfl (lv_at hl 0 rfl) ?_
  refine va_get (D := gD G) (ci := 9) (C := RX9) (T := TX9) (N := 2) hx hb hts hin_X9 hown hK hP 2 rfl rfl 1 (by decide) fl_13 (fun _ h9 => h9) rfl dX8_parts_7 ?_
  refine lv_aload_n hx hb dX8_parts_10 rfl (lv_at hl 0 rfl) ?_
  refine va_get (D := gD G) (ci := 9) (C := RX9) (T := TX9) (N := 2) hx hb hts hin_X9 hown hK hP 2 rfl rfl 0 (by decide) fl_7 (fun _ h9 => h9) rfl dX8_parts_11 ?_
  refine lv_isub hx hb dX8_parts_14 ?_
  refine lv_istore_n (lv' := [(3, .int (this_m - this_number)), (0, .ref a_this), (1, .ref a_p0), (2, .int p1)]) hx hb dX8_parts_15 rfl hl (by decide) rfl (fun ls hl => ?_)
  refine lv_iload_n hx hb dX8_parts_16 rfl (lv_at hl 0 rfl) ?_
  refine lv_if_ne (tgt := 27) hx hb dX8_parts_17 (by decide) (fun c2 => ?_) (fun c2 => ?_)
  · replace hf := kf c2 hf
    refine lv_iload_n hx hb dX8_parts_27 rfl (lv_at hl 3 rfl) ?_
    refine lv_iload_n hx hb dX8_parts_28 rfl (lv_at hl 0 rfl) ?_
    obtain ⟨g3, hf⟩ := kg hf
    refine lv_idiv hx hb dX8_parts_29 g3 ?_
    have ho := ks hf
    subst ho
    exact kiret hx hb hr hlk hP hD hS hQ dX8_parts_30
  · replace hf := kt c2 hf
    refine lv_aload_n hx hb dX8_parts_20 rfl (lv_at hl 2 rfl) ?_
    refine lv_iconst (v := (1 : Int32)) hx hb dX8_parts_21 (by decide) ?_
    refine va_putN (D := gD G) (ci := 10) (v := .int (1 : Int32)) (ty := .boolean) (C := RX10) (T := TX10) (N := 3) hx hb hts hin_X10 tyX10 tyX10_ok nmX10 hown hK hP hD hS 0 rfl rfl 2 (by decide) fl_35 (fun _ h9 => h9) rfl (by decide +kernel) rfl rfl (Nat.le_of_ble_eq_true rfl) dX8_parts_22 (fun H locs hP hD hS => ?_)
    have hP : va_P (gD G) vwCl (k_X8_parts_X9 G a_p0 a_p0_bodies a_this r1.1 (1 : Int32) r1.2 this_number this_m) H := hP
    have hD : va_D A (k_X8_parts_X9 G a_p0 a_p0_bodies a_this r1.1 (1 : Int32) r1.2 this_number this_m) := hD
    refine lv_iconst (v := (0 : Int32)) hx hb dX8_parts_25 (by decide) ?_
    have ho := ks hf
    subst ho
    exact kiret hx hb hr hlk hP hD hS hQ dX8_parts_26
abbrev k_X1_isOf (G : KG) (a_this : Nat) (this_number : Int32) (this_m : Int32) : va_W := [(a_this, .inr (1, [.int this_number, .int this_m]))]
def f_X1_isOf (N : Nat) (p0 : Int32) : Option (Int32) := (if p0 = (3 : Int32) then (some (1 : Int32)) else ((f_X8_isOf_X1 N p0).bind fun r2 => (if r2 = 0 then (some (0 : Int32)) else (some (1 : Int32)))))
set_option maxRecDepth 100000 in
set_option maxHeartbeats 4000000 in
theorem c_X1_isOf (l : Launch) (G : KG) (N : Nat) (a_this : Nat) (p0 : Int32) (this_number : Int32) (this_m : Int32)  (out : Int32) (hf : f_X1_isOf N p0 = some out) : KM l G yX1_isOf (kw yX1_isOf cX1_isOf 2 (some .boolean)) 1 21 [.ref a_this, .int p0] (k_X1_isOf G a_this this_number this_m) (k_X1_isOf G a_this this_number this_m) (some (.int out)) := by
  refine KM.of (by decide) (Nat.le_of_ble_eq_true rfl) ?_
  intro p e s m below meth c A ls args Q Fx0 hP hK hD hA hS hAm hQ hl
  obtain ⟨hx, hb, hr, hml, hts, hown, hlk, hnm⟩ := Fx0
  have hown : s.vm.findClass RX1 = some m.cls := hown
  have hl : lv_has ls 2 [(0, .ref a_this), (1, .int p0)] := hl
  unfold f_X1_isOf at hf
  refine lv_iload_n hx hb dX1_isOf_0 rfl (lv_at hl 1 rfl) ?_
  refine lv_iconst (v := (3 : Int32)) hx hb dX1_isOf_1 (by decide) ?_
  refine lv_icmp_eq (tgt := 13) hx hb dX1_isOf_2 (by decide) (fun c1 => ?_) (fun c1 => ?_)
  · replace hf := kt c1 hf
    refine lv_iconst (v := (1 : Int32)) hx hb dX1_isOf_13 (by decide) ?_
    refine lv_goto (tgt := 18) hx hb dX1_isOf_14 (by decide) ?_
    have ho := ks hf
    subst ho
    exact kzret hx hb hr (Or.inr rfl) hlk hP hD hS hQ dX1_isOf_18
  · replace hf := kf c1 hf
    refine lv_aload_n hx hb dX1_isOf_5 rfl (lv_at hl 0 rfl) ?_
    refine lv_iload_n hx hb dX1_isOf_6 rfl (lv_at hl 1 rfl) ?_
    obtain ⟨r2, hr2, hf⟩ := kb hf
    refine kSU (As := [.int p0]) (rest := []) ⟨hx, hb, hml, hown, hts⟩ (c_X8_isOf_X1 l G N a_this p0 r2 hr2) (kcSU 1 hts tw_505 tw_83 tw_484 tw_480 tw_208 tw_478 (by decide) hd_X8_isOf ⟨Nat.le_of_ble_eq_true rfl, Nat.le_of_ble_eq_true rfl⟩) dX1_isOf_7 hl.1 hK hAm hA hP hD hS 0 (ci := 1) rfl rfl [] rfl rfl rfl [] rfl rfl rfl (Nat.le_of_ble_eq_true rfl) ⟨Nat.le_refl _, Nat.le_refl _⟩ (fun H locs hP hD hS => ?_)
    have hP : va_P (gD G) vwCl (k_X1_isOf G a_this this_number this_m) H := hP
    have hD : va_D A (k_X1_isOf G a_this this_number this_m) := hD
    refine lv_if_eq (tgt := 17) hx hb dX1_isOf_10 (by decide) (fun c3 => ?_) (fun c3 => ?_)
    · replace hf := kt c3 hf
      refine lv_iconst (v := (0 : Int32)) hx hb dX1_isOf_17 (by decide) ?_
      have ho := ks hf
      subst ho
      exact kzret hx hb hr (Or.inl rfl) hlk hP hD hS hQ dX1_isOf_18
    · replace hf := kf c3 hf
      refine lv_iconst (v := (1 : Int32)) hx hb dX1_isOf_13 (by decide) ?_
      refine lv_goto (tgt := 18) hx hb dX1_isOf_14 (by decide) ?_
      have ho := ks hf
      subst ho
      exact kzret hx hb hr (Or.inr rfl) hlk hP hD hS hQ dX1_isOf_18
abbrev k_X1_gives (G : KG) (a_p0 : Nat) (a_p0_bodies : Nat) (a_this : Nat) (p0_length : Int32) (p0_parted : Int32) (p0_bodies : Nat → Int32) (this_number : Int32) (this_m : Int32) : va_W := [(a_p0, .inr (10, [.ref a_p0_bodies, .int p0_length, .int p0_parted])), (a_p0_bodies, .inl (gI G, 30, .inl p0_bodies)), (a_this, .inr (1, [.int this_number, .int this_m]))]
def f_X1_gives (N : Nat) (p1 : Int32) (p0_length : Int32) (p0_bodies : Nat → Int32) (this_number : Int32) (this_m : Int32) : Option (Int32 × (Int32) × (Nat → Int32)) := ((f_X10_began N (40 : Int32) p0_length p0_bodies).bind fun r1 => ((f_X8_gives_X1 N (p1 / (2 : Int32)) r1.1 r1.2 this_number this_m).bind fun r2 => (some (r2.1, r2.2.1, r2.2.2))))
set_option maxRecDepth 100000 in
set_option maxHeartbeats 4000000 in
theorem c_X1_gives (l : Launch) (G : KG) (N : Nat) (a_p0 : Nat) (a_p0_bodies : Nat) (a_this : Nat) (p1 : Int32) (p0_length : Int32) (p0_parted : Int32) (p0_bodies : Nat → Int32) (this_number : Int32) (this_m : Int32)  (out : Int32 × (Int32) × (Nat → Int32)) (hf : f_X1_gives N p1 p0_length p0_bodies this_number this_m = some out) : KM l G yX1_gives (kw yX1_gives cX1_gives 3 (some .int)) 4 87 [.ref a_this, .ref a_p0, .int p1] (k_X1_gives G a_p0 a_p0_bodies a_this p0_length p0_parted p0_bodies this_number this_m) (k_X1_gives G a_p0 a_p0_bodies a_this (out.2.1) p0_parted (out.2.2) this_number this_m) (some (.int (out.1))) := by
  refine KM.of (by decide) (Nat.le_of_ble_eq_true rfl) ?_
  intro p e s m below meth c A ls args Q Fx0 hP hK hD hA hS hAm hQ hl
  obtain ⟨hx, hb, hr, hml, hts, hown, hlk, hnm⟩ := Fx0
  have hown : s.vm.findClass RX1 = some m.cls := hown
  have hl : lv_has ls 3 [(0, .ref a_this), (1, .ref a_p0), (2, .int p1)] := hl
  unfold f_X1_gives at hf
  refine lv_aload_n hx hb dX1_gives_0 rfl (lv_at hl 1 rfl) ?_
  refine lv_bipush (v := (40 : Int32)) hx hb dX1_gives_1 (by decide) ?_
  obtain ⟨r1, hr1, hf⟩ := kb hf
  refine kVN (As := [.int (40 : Int32)]) (rest := []) ⟨hx, hb, hml, hown, hts⟩ (c_X10_began l G N a_p0 a_p0_bodies (40 : Int32) p0_length p0_parted p0_bodies r1 hr1) ⟨kcN 1 hts hAm nw_X1_23 tw_837 tw_90 hd_X10_began ⟨Nat.le_of_ble_eq_true rfl, Nat.le_of_ble_eq_true rfl⟩, hts _ tw_836, hts _ tw_38⟩ dX1_gives_3 hl.1 hK hAm hA hP hD hS 0 (ci := 10) rfl rfl rfl [0, 1] rfl rfl rfl [0, 1] rfl rfl rfl (Nat.le_of_ble_eq_true rfl) ⟨Nat.le_refl _, Nat.le_refl _⟩ (fun H locs hP hD hS => ?_)
  have hP : va_P (gD G) vwCl (k_X1_gives G a_p0 a_p0_bodies a_this r1.1 p0_parted r1.2 this_number this_m) H := hP
  have hD : va_D A (k_X1_gives G a_p0 a_p0_bodies a_this r1.1 p0_parted r1.2 this_number this_m) := hD
  refine lv_aload_n hx hb dX1_gives_6 rfl (lv_at hl 0 rfl) ?_
  refine lv_aload_n hx hb dX1_gives_7 rfl (lv_at hl 1 rfl) ?_
  refine lv_iload_n hx hb dX1_gives_8 rfl (lv_at hl 2 rfl) ?_
  refine lv_iconst (v := (2 : Int32)) hx hb dX1_gives_9 (by decide) ?_
  refine lv_idiv hx hb dX1_gives_10 (by decide) ?_
  obtain ⟨r2, hr2, hf⟩ := kb hf
  refine kSU (As := [.ref a_p0, .int (p1 / (2 : Int32))]) (rest := []) ⟨hx, hb, hml, hown, hts⟩ (c_X8_gives_X1 l G N a_p0 a_p0_bodies a_this (p1 / (2 : Int32)) r1.1 p0_parted r1.2 this_number this_m r2 hr2) (kcSU 2 hts tw_894 tw_83 tw_883 tw_878 tw_208 tw_876 (by decide) hd_X8_gives ⟨Nat.le_of_ble_eq_true rfl, Nat.le_of_ble_eq_true rfl⟩) dX1_gives_11 hl.1 hK hAm hA hP hD hS 2 (ci := 1) rfl rfl [0, 1, 2] rfl rfl rfl [0, 1] rfl rfl rfl (Nat.le_of_ble_eq_true rfl) ⟨Nat.le_refl _, Nat.le_refl _⟩ (fun H locs hP hD hS => ?_)
  have hP : va_P (gD G) vwCl (k_X1_gives G a_p0 a_p0_bodies a_this r2.2.1 p0_parted r2.2.2 this_number this_m) H := hP
  have hD : va_D A (k_X1_gives G a_p0 a_p0_bodies a_this r2.2.1 p0_parted r2.2.2 this_number this_m) := hD
  have ho := ks hf
  subst ho
  exact kiret hx hb hr hlk hP hD hS hQ dX1_gives_14
abbrev k_X2_due (G : KG) (a_this : Nat) (this_number : Int32) (this_m : Int32) : va_W := [(a_this, .inr (2, [.int this_number, .int this_m]))]
def f_X2_due (N : Nat) (p0 : Int32) (p1 : Int32) (this_m : Int32) : Option (Int32) := ((f_X3_due_X2 N p0 p1).bind fun r1 => (some (if this_m < r1 then r1 else this_m)))
set_option maxRecDepth 100000 in
set_option maxHeartbeats 4000000 in
theorem c_X2_due (l : Launch) (G : KG) (N : Nat) (a_p2 : Nat) (a_this : Nat) (p0 : Int32) (p1 : Int32) (this_number : Int32) (this_m : Int32)  (out : Int32) (hf : f_X2_due N p0 p1 this_m = some out) : KM l G yX2_due (kw yX2_due cX2_due 4 (some .int)) 1 23 [.ref a_this, .int p0, .int p1, .ref a_p2] (k_X2_due G a_this this_number this_m) (k_X2_due G a_this this_number this_m) (some (.int out)) := by
  refine KM.of (by decide) (Nat.le_of_ble_eq_true rfl) ?_
  intro p e s m below meth c A ls args Q Fx0 hP hK hD hA hS hAm hQ hl
  obtain ⟨hx, hb, hr, hml, hts, hown, hlk, hnm⟩ := Fx0
  have hown : s.vm.findClass RX2 = some m.cls := hown
  have hl : lv_has ls 4 [(0, .ref a_this), (1, .int p0), (2, .int p1), (3, .ref a_p2)] := hl
  have fl_11 := hts _ tw_177
  have sf_11 := hts _ tw_178
  unfold f_X2_due at hf
  refine lv_aload_n hx hb dX2_due_0 rfl (lv_at hl 0 rfl) ?_
  refine va_get (D := gD G) (ci := 2) (C := RX2) (T := TX2) (N := 2) hx hb hts hin_X2 hown hK hP 0 rfl rfl 1 (by decide) fl_11 (u_same sf_11) rfl dX2_due_1 ?_
  refine lv_aload_n hx hb dX2_due_4 rfl (lv_at hl 0 rfl) ?_
  refine lv_iload_n hx hb dX2_due_5 rfl (lv_at hl 1 rfl) ?_
  refine lv_iload_n hx hb dX2_due_6 rfl (lv_at hl 2 rfl) ?_
  refine lv_aload_n hx hb dX2_due_7 rfl (lv_at hl 3 rfl) ?_
  obtain ⟨r1, hr1, hf⟩ := kb hf
  refine kSU (As := [.int p0, .int p1, .ref a_p2]) (rest := [.int this_m]) ⟨hx, hb, hml, hown, hts⟩ (c_X3_due_X2 l G N a_this a_p2 p0 p1 r1 hr1) (kcSU 3 hts tw_535 tw_84 tw_533 tw_1408 tw_226 tw_534 (by decide) hd_X3_due ⟨Nat.le_of_ble_eq_true rfl, Nat.le_of_ble_eq_true rfl⟩) dX2_due_8 hl.1 hK hAm hA hP hD hS 0 (ci := 2) rfl rfl [] rfl rfl rfl [] rfl rfl rfl (Nat.le_of_ble_eq_true rfl) ⟨Nat.le_refl _, Nat.le_refl _⟩ (fun H locs hP hD hS => ?_)
  have hP : va_P (gD G) vwCl (k_X2_due G a_this this_number this_m) H := hP
  have hD : va_D A (k_X2_due G a_this this_number this_m) := hD
  refine va_mmax hx hb (hml.trans hl.1.symm) hown (hts _ tw_536) (hts _ tw_436) (hts _ tw_93) (hts _ tw_437) (Nat.le_of_ble_eq_true rfl) (Nat.le_of_ble_eq_true rfl) (Nat.zero_le _) (Nat.zero_le _) dX2_due_11 ?_
  have ho := ks hf
  subst ho
  exact kiret hx hb hr hlk hP hD hS hQ dX2_due_14
abbrev k_X3_isOf (G : KG) (a_this : Nat) (this_number : Int32) (this_m : Int32) : va_W := [(a_this, .inr (3, [.int this_number, .int this_m]))]
def f_X3_isOf (N : Nat) (p0 : Int32) : Option (Int32) := (if p0 = (1 : Int32) then (some (1 : Int32)) else ((f_X8_isOf_X3 N p0).bind fun r2 => (if r2 = 0 then (some (0 : Int32)) else (some (1 : Int32)))))
set_option maxRecDepth 100000 in
set_option maxHeartbeats 4000000 in
theorem c_X3_isOf (l : Launch) (G : KG) (N : Nat) (a_this : Nat) (p0 : Int32) (this_number : Int32) (this_m : Int32)  (out : Int32) (hf : f_X3_isOf N p0 = some out) : KM l G yX3_isOf (kw yX3_isOf cX3_isOf 2 (some .boolean)) 1 21 [.ref a_this, .int p0] (k_X3_isOf G a_this this_number this_m) (k_X3_isOf G a_this this_number this_m) (some (.int out)) := by
  refine KM.of (by decide) (Nat.le_of_ble_eq_true rfl) ?_
  intro p e s m below meth c A ls args Q Fx0 hP hK hD hA hS hAm hQ hl
  obtain ⟨hx, hb, hr, hml, hts, hown, hlk, hnm⟩ := Fx0
  have hown : s.vm.findClass RX3 = some m.cls := hown
  have hl : lv_has ls 2 [(0, .ref a_this), (1, .int p0)] := hl
  unfold f_X3_isOf at hf
  refine lv_iload_n hx hb dX3_isOf_0 rfl (lv_at hl 1 rfl) ?_
  refine lv_iconst (v := (1 : Int32)) hx hb dX3_isOf_1 (by decide) ?_
  refine lv_icmp_eq (tgt := 13) hx hb dX3_isOf_2 (by decide) (fun c1 => ?_) (fun c1 => ?_)
  · replace hf := kt c1 hf
    refine lv_iconst (v := (1 : Int32)) hx hb dX3_isOf_13 (by decide) ?_
    refine lv_goto (tgt := 18) hx hb dX3_isOf_14 (by decide) ?_
    have ho := ks hf
    subst ho
    exact kzret hx hb hr (Or.inr rfl) hlk hP hD hS hQ dX3_isOf_18
  · replace hf := kf c1 hf
    refine lv_aload_n hx hb dX3_isOf_5 rfl (lv_at hl 0 rfl) ?_
    refine lv_iload_n hx hb dX3_isOf_6 rfl (lv_at hl 1 rfl) ?_
    obtain ⟨r2, hr2, hf⟩ := kb hf
    refine kSU (As := [.int p0]) (rest := []) ⟨hx, hb, hml, hown, hts⟩ (c_X8_isOf_X3 l G N a_this p0 r2 hr2) (kcSU 1 hts tw_505 tw_83 tw_491 tw_480 tw_190 tw_478 (by decide) hd_X8_isOf ⟨Nat.le_of_ble_eq_true rfl, Nat.le_of_ble_eq_true rfl⟩) dX3_isOf_7 hl.1 hK hAm hA hP hD hS 0 (ci := 3) rfl rfl [] rfl rfl rfl [] rfl rfl rfl (Nat.le_of_ble_eq_true rfl) ⟨Nat.le_refl _, Nat.le_refl _⟩ (fun H locs hP hD hS => ?_)
    have hP : va_P (gD G) vwCl (k_X3_isOf G a_this this_number this_m) H := hP
    have hD : va_D A (k_X3_isOf G a_this this_number this_m) := hD
    refine lv_if_eq (tgt := 17) hx hb dX3_isOf_10 (by decide) (fun c3 => ?_) (fun c3 => ?_)
    · replace hf := kt c3 hf
      refine lv_iconst (v := (0 : Int32)) hx hb dX3_isOf_17 (by decide) ?_
      have ho := ks hf
      subst ho
      exact kzret hx hb hr (Or.inl rfl) hlk hP hD hS hQ dX3_isOf_18
    · replace hf := kf c3 hf
      refine lv_iconst (v := (1 : Int32)) hx hb dX3_isOf_13 (by decide) ?_
      refine lv_goto (tgt := 18) hx hb dX3_isOf_14 (by decide) ?_
      have ho := ks hf
      subst ho
      exact kzret hx hb hr (Or.inr rfl) hlk hP hD hS hQ dX3_isOf_18
abbrev k_X3_adds (G : KG) (a_p0 : Nat) (a_p0_bodies : Nat) (a_this : Nat) (p0_length : Int32) (p0_parted : Int32) (p0_bodies : Nat → Int32) (this_number : Int32) (this_m : Int32) : va_W := [(a_p0, .inr (10, [.ref a_p0_bodies, .int p0_length, .int p0_parted])), (a_p0_bodies, .inl (gI G, 30, .inl p0_bodies)), (a_this, .inr (3, [.int this_number, .int this_m]))]
def f_X3_adds (N : Nat) (p1 : Int32) (p0_length : Int32) (p0_bodies : Nat → Int32) (this_number : Int32) : Option (Int32 × (Int32) × (Nat → Int32)) := ((f_X10_began N (20 : Int32) p0_length p0_bodies).bind fun r1 => ((f_X8_adds_X3 N p1 r1.1 r1.2 this_number).bind fun r2 => (some ((r2.1 - (9 : Int32)), r2.2.1, r2.2.2))))
set_option maxRecDepth 100000 in
set_option maxHeartbeats 4000000 in
theorem c_X3_adds (l : Launch) (G : KG) (N : Nat) (a_p0 : Nat) (a_p0_bodies : Nat) (a_this : Nat) (p1 : Int32) (p0_length : Int32) (p0_parted : Int32) (p0_bodies : Nat → Int32) (this_number : Int32) (this_m : Int32)  (out : Int32 × (Int32) × (Nat → Int32)) (hf : f_X3_adds N p1 p0_length p0_bodies this_number = some out) : KM l G yX3_adds (kw yX3_adds cX3_adds 3 (some .int)) 2 43 [.ref a_this, .ref a_p0, .int p1] (k_X3_adds G a_p0 a_p0_bodies a_this p0_length p0_parted p0_bodies this_number this_m) (k_X3_adds G a_p0 a_p0_bodies a_this (out.2.1) p0_parted (out.2.2) this_number this_m) (some (.int (out.1))) := by
  refine KM.of (by decide) (Nat.le_of_ble_eq_true rfl) ?_
  intro p e s m below meth c A ls args Q Fx0 hP hK hD hA hS hAm hQ hl
  obtain ⟨hx, hb, hr, hml, hts, hown, hlk, hnm⟩ := Fx0
  have hown : s.vm.findClass RX3 = some m.cls := hown
  have hl : lv_has ls 3 [(0, .ref a_this), (1, .ref a_p0), (2, .int p1)] := hl
  unfold f_X3_adds at hf
  refine lv_aload_n hx hb dX3_adds_0 rfl (lv_at hl 1 rfl) ?_
  refine lv_bipush (v := (20 : Int32)) hx hb dX3_adds_1 (by decide) ?_
  obtain ⟨r1, hr1, hf⟩ := kb hf
  refine kVN (As := [.int (20 : Int32)]) (rest := []) ⟨hx, hb, hml, hown, hts⟩ (c_X10_began l G N a_p0 a_p0_bodies (20 : Int32) p0_length p0_parted p0_bodies r1 hr1) ⟨kcN 1 hts hAm nw_X3_11 tw_837 tw_90 hd_X10_began ⟨Nat.le_of_ble_eq_true rfl, Nat.le_of_ble_eq_true rfl⟩, hts _ tw_836, hts _ tw_38⟩ dX3_adds_3 hl.1 hK hAm hA hP hD hS 0 (ci := 10) rfl rfl rfl [0, 1] rfl rfl rfl [0, 1] rfl rfl rfl (Nat.le_of_ble_eq_true rfl) ⟨Nat.le_refl _, Nat.le_refl _⟩ (fun H locs hP hD hS => ?_)
  have hP : va_P (gD G) vwCl (k_X3_adds G a_p0 a_p0_bodies a_this r1.1 p0_parted r1.2 this_number this_m) H := hP
  have hD : va_D A (k_X3_adds G a_p0 a_p0_bodies a_this r1.1 p0_parted r1.2 this_number this_m) := hD
  refine lv_aload_n hx hb dX3_adds_6 rfl (lv_at hl 0 rfl) ?_
  refine lv_aload_n hx hb dX3_adds_7 rfl (lv_at hl 1 rfl) ?_
  refine lv_iload_n hx hb dX3_adds_8 rfl (lv_at hl 2 rfl) ?_
  obtain ⟨r2, hr2, hf⟩ := kb hf
  refine kSU (As := [.ref a_p0, .int p1]) (rest := []) ⟨hx, hb, hml, hown, hts⟩ (c_X8_adds_X3 l G N a_p0 a_p0_bodies a_this p1 r1.1 p0_parted r1.2 this_number this_m r2 hr2) (kcSU 2 hts tw_850 tw_83 tw_842 tw_829 tw_190 tw_827 (by decide) hd_X8_adds ⟨Nat.le_of_ble_eq_true rfl, Nat.le_of_ble_eq_true rfl⟩) dX3_adds_9 hl.1 hK hAm hA hP hD hS 2 (ci := 3) rfl rfl [0, 1, 2] rfl rfl rfl [0, 1] rfl rfl rfl (Nat.le_of_ble_eq_true rfl) ⟨Nat.le_refl _, Nat.le_refl _⟩ (fun H locs hP hD hS => ?_)
  have hP : va_P (gD G) vwCl (k_X3_adds G a_p0 a_p0_bodies a_this r2.2.1 p0_parted r2.2.2 this_number this_m) H := hP
  have hD : va_D A (k_X3_adds G a_p0 a_p0_bodies a_this r2.2.1 p0_parted r2.2.2 this_number this_m) := hD
  refine lv_bipush (v := (9 : Int32)) hx hb dX3_adds_12 (by decide) ?_
  refine lv_isub hx hb dX3_adds_14 ?_
  have ho := ks hf
  subst ho
  exact kiret hx hb hr hlk hP hD hS hQ dX3_adds_15
abbrev k_X6_isOf (G : KG) (a_this : Nat) (this_number : Int32) (this_m : Int32) : va_W := [(a_this, .inr (6, [.int this_number, .int this_m]))]
def f_X6_isOf (N : Nat) (p0 : Int32) : Option (Int32) := (if p0 = (2 : Int32) then (some (1 : Int32)) else ((f_X8_isOf_X6 N p0).bind fun r2 => (if r2 = 0 then (some (0 : Int32)) else (some (1 : Int32)))))
set_option maxRecDepth 100000 in
set_option maxHeartbeats 4000000 in
theorem c_X6_isOf (l : Launch) (G : KG) (N : Nat) (a_this : Nat) (p0 : Int32) (this_number : Int32) (this_m : Int32)  (out : Int32) (hf : f_X6_isOf N p0 = some out) : KM l G yX6_isOf (kw yX6_isOf cX6_isOf 2 (some .boolean)) 1 21 [.ref a_this, .int p0] (k_X6_isOf G a_this this_number this_m) (k_X6_isOf G a_this this_number this_m) (some (.int out)) := by
  refine KM.of (by decide) (Nat.le_of_ble_eq_true rfl) ?_
  intro p e s m below meth c A ls args Q Fx0 hP hK hD hA hS hAm hQ hl
  obtain ⟨hx, hb, hr, hml, hts, hown, hlk, hnm⟩ := Fx0
  have hown : s.vm.findClass RX6 = some m.cls := hown
  have hl : lv_has ls 2 [(0, .ref a_this), (1, .int p0)] := hl
  unfold f_X6_isOf at hf
  refine lv_iload_n hx hb dX6_isOf_0 rfl (lv_at hl 1 rfl) ?_
  refine lv_iconst (v := (2 : Int32)) hx hb dX6_isOf_1 (by decide) ?_
  refine lv_icmp_eq (tgt := 13) hx hb dX6_isOf_2 (by decide) (fun c1 => ?_) (fun c1 => ?_)
  · replace hf := kt c1 hf
    refine lv_iconst (v := (1 : Int32)) hx hb dX6_isOf_13 (by decide) ?_
    refine lv_goto (tgt := 18) hx hb dX6_isOf_14 (by decide) ?_
    have ho := ks hf
    subst ho
    exact kzret hx hb hr (Or.inr rfl) hlk hP hD hS hQ dX6_isOf_18
  · replace hf := kf c1 hf
    refine lv_aload_n hx hb dX6_isOf_5 rfl (lv_at hl 0 rfl) ?_
    refine lv_iload_n hx hb dX6_isOf_6 rfl (lv_at hl 1 rfl) ?_
    obtain ⟨r2, hr2, hf⟩ := kb hf
    refine kSU (As := [.int p0]) (rest := []) ⟨hx, hb, hml, hown, hts⟩ (c_X8_isOf_X6 l G N a_this p0 r2 hr2) (kcSU 1 hts tw_505 tw_83 tw_499 tw_480 tw_199 tw_478 (by decide) hd_X8_isOf ⟨Nat.le_of_ble_eq_true rfl, Nat.le_of_ble_eq_true rfl⟩) dX6_isOf_7 hl.1 hK hAm hA hP hD hS 0 (ci := 6) rfl rfl [] rfl rfl rfl [] rfl rfl rfl (Nat.le_of_ble_eq_true rfl) ⟨Nat.le_refl _, Nat.le_refl _⟩ (fun H locs hP hD hS => ?_)
    have hP : va_P (gD G) vwCl (k_X6_isOf G a_this this_number this_m) H := hP
    have hD : va_D A (k_X6_isOf G a_this this_number this_m) := hD
    refine lv_if_eq (tgt := 17) hx hb dX6_isOf_10 (by decide) (fun c3 => ?_) (fun c3 => ?_)
    · replace hf := kt c3 hf
      refine lv_iconst (v := (0 : Int32)) hx hb dX6_isOf_17 (by decide) ?_
      have ho := ks hf
      subst ho
      exact kzret hx hb hr (Or.inl rfl) hlk hP hD hS hQ dX6_isOf_18
    · replace hf := kf c3 hf
      refine lv_iconst (v := (1 : Int32)) hx hb dX6_isOf_13 (by decide) ?_
      refine lv_goto (tgt := 18) hx hb dX6_isOf_14 (by decide) ?_
      have ho := ks hf
      subst ho
      exact kzret hx hb hr (Or.inr rfl) hlk hP hD hS hQ dX6_isOf_18
abbrev k_X6_comes (G : KG) (a_p0 : Nat) (a_p0_bodies : Nat) (a_this : Nat) (p0_length : Int32) (p0_parted : Int32) (p0_bodies : Nat → Int32) (this_number : Int32) (this_m : Int32) : va_W := [(a_p0, .inr (10, [.ref a_p0_bodies, .int p0_length, .int p0_parted])), (a_p0_bodies, .inl (gI G, 30, .inl p0_bodies)), (a_this, .inr (6, [.int this_number, .int this_m]))]
def f_X6_comes (N : Nat) (p1 : Int32) (p0_length : Int32) (p0_bodies : Nat → Int32) (this_number : Int32) : Option (Int32 × (Int32) × (Nat → Int32)) := ((f_X10_began N (30 : Int32) p0_length p0_bodies).bind fun r1 => ((f_X8_comes_X6 N p1 r1.1 r1.2 this_number).bind fun r2 => (some (((0 : Int32) - r2.1), r2.2.1, r2.2.2))))
set_option maxRecDepth 100000 in
set_option maxHeartbeats 4000000 in
theorem c_X6_comes (l : Launch) (G : KG) (N : Nat) (a_p0 : Nat) (a_p0_bodies : Nat) (a_this : Nat) (p1 : Int32) (p0_length : Int32) (p0_parted : Int32) (p0_bodies : Nat → Int32) (this_number : Int32) (this_m : Int32)  (out : Int32 × (Int32) × (Nat → Int32)) (hf : f_X6_comes N p1 p0_length p0_bodies this_number = some out) : KM l G yX6_comes (kw yX6_comes cX6_comes 3 (some .int)) 3 65 [.ref a_this, .ref a_p0, .int p1] (k_X6_comes G a_p0 a_p0_bodies a_this p0_length p0_parted p0_bodies this_number this_m) (k_X6_comes G a_p0 a_p0_bodies a_this (out.2.1) p0_parted (out.2.2) this_number this_m) (some (.int (out.1))) := by
  refine KM.of (by decide) (Nat.le_of_ble_eq_true rfl) ?_
  intro p e s m below meth c A ls args Q Fx0 hP hK hD hA hS hAm hQ hl
  obtain ⟨hx, hb, hr, hml, hts, hown, hlk, hnm⟩ := Fx0
  have hown : s.vm.findClass RX6 = some m.cls := hown
  have hl : lv_has ls 3 [(0, .ref a_this), (1, .ref a_p0), (2, .int p1)] := hl
  unfold f_X6_comes at hf
  refine lv_aload_n hx hb dX6_comes_0 rfl (lv_at hl 1 rfl) ?_
  refine lv_bipush (v := (30 : Int32)) hx hb dX6_comes_1 (by decide) ?_
  obtain ⟨r1, hr1, hf⟩ := kb hf
  refine kVN (As := [.int (30 : Int32)]) (rest := []) ⟨hx, hb, hml, hown, hts⟩ (c_X10_began l G N a_p0 a_p0_bodies (30 : Int32) p0_length p0_parted p0_bodies r1 hr1) ⟨kcN 1 hts hAm nw_X6_17 tw_837 tw_90 hd_X10_began ⟨Nat.le_of_ble_eq_true rfl, Nat.le_of_ble_eq_true rfl⟩, hts _ tw_836, hts _ tw_38⟩ dX6_comes_3 hl.1 hK hAm hA hP hD hS 0 (ci := 10) rfl rfl rfl [0, 1] rfl rfl rfl [0, 1] rfl rfl rfl (Nat.le_of_ble_eq_true rfl) ⟨Nat.le_refl _, Nat.le_refl _⟩ (fun H locs hP hD hS => ?_)
  have hP : va_P (gD G) vwCl (k_X6_comes G a_p0 a_p0_bodies a_this r1.1 p0_parted r1.2 this_number this_m) H := hP
  have hD : va_D A (k_X6_comes G a_p0 a_p0_bodies a_this r1.1 p0_parted r1.2 this_number this_m) := hD
  refine lv_iconst (v := (0 : Int32)) hx hb dX6_comes_6 (by decide) ?_
  refine lv_aload_n hx hb dX6_comes_7 rfl (lv_at hl 0 rfl) ?_
  refine lv_aload_n hx hb dX6_comes_8 rfl (lv_at hl 1 rfl) ?_
  refine lv_iload_n hx hb dX6_comes_9 rfl (lv_at hl 2 rfl) ?_
  obtain ⟨r2, hr2, hf⟩ := kb hf
  refine kSU (As := [.ref a_p0, .int p1]) (rest := [.int (0 : Int32)]) ⟨hx, hb, hml, hown, hts⟩ (c_X8_comes_X6 l G N a_p0 a_p0_bodies a_this p1 r1.1 p0_parted r1.2 this_number this_m r2 hr2) (kcSU 2 hts tw_873 tw_83 tw_867 tw_855 tw_199 tw_853 (by decide) hd_X8_comes ⟨Nat.le_of_ble_eq_true rfl, Nat.le_of_ble_eq_true rfl⟩) dX6_comes_10 hl.1 hK hAm hA hP hD hS 2 (ci := 6) rfl rfl [0, 1, 2] rfl rfl rfl [0, 1] rfl rfl rfl (Nat.le_of_ble_eq_true rfl) ⟨Nat.le_refl _, Nat.le_refl _⟩ (fun H locs hP hD hS => ?_)
  have hP : va_P (gD G) vwCl (k_X6_comes G a_p0 a_p0_bodies a_this r2.2.1 p0_parted r2.2.2 this_number this_m) H := hP
  have hD : va_D A (k_X6_comes G a_p0 a_p0_bodies a_this r2.2.1 p0_parted r2.2.2 this_number this_m) := hD
  refine lv_isub hx hb dX6_comes_13 ?_
  have ho := ks hf
  subst ho
  exact kiret hx hb hr hlk hP hD hS hQ dX6_comes_14
abbrev k_X8_adds (G : KG) (a_p0 : Nat) (a_p0_bodies : Nat) (a_this : Nat) (p0_length : Int32) (p0_parted : Int32) (p0_bodies : Nat → Int32) (this_number : Int32) (this_m : Int32) : va_W := [(a_p0, .inr (10, [.ref a_p0_bodies, .int p0_length, .int p0_parted])), (a_p0_bodies, .inl (gI G, 30, .inl p0_bodies)), (a_this, .inr (8, [.int this_number, .int this_m]))]
def f_X8_adds (N : Nat) (p1 : Int32) (p0_length : Int32) (p0_bodies : Nat → Int32) (this_number : Int32) : Option (Int32 × (Int32) × (Nat → Int32)) := ((f_X10_began N (10 : Int32) p0_length p0_bodies).bind fun r1 => (some ((p1 + this_number), r1.1, r1.2)))
set_option maxRecDepth 100000 in
set_option maxHeartbeats 4000000 in
theorem c_X8_adds (l : Launch) (G : KG) (N : Nat) (a_p0 : Nat) (a_p0_bodies : Nat) (a_this : Nat) (p1 : Int32) (p0_length : Int32) (p0_parted : Int32) (p0_bodies : Nat → Int32) (this_number : Int32) (this_m : Int32)  (out : Int32 × (Int32) × (Nat → Int32)) (hf : f_X8_adds N p1 p0_length p0_bodies this_number = some out) : KM l G yX8_adds (kw yX8_adds cX8_adds 3 (some .int)) 1 21 [.ref a_this, .ref a_p0, .int p1] (k_X8_adds G a_p0 a_p0_bodies a_this p0_length p0_parted p0_bodies this_number this_m) (k_X8_adds G a_p0 a_p0_bodies a_this (out.2.1) p0_parted (out.2.2) this_number this_m) (some (.int (out.1))) := by
  refine KM.of (by decide) (Nat.le_of_ble_eq_true rfl) ?_
  intro p e s m below meth c A ls args Q Fx0 hP hK hD hA hS hAm hQ hl
  obtain ⟨hx, hb, hr, hml, hts, hown, hlk, hnm⟩ := Fx0
  have hown : s.vm.findClass RX8 = some m.cls := hown
  have hl : lv_has ls 3 [(0, .ref a_this), (1, .ref a_p0), (2, .int p1)] := hl
  have fl_7 := hts _ tw_173
  unfold f_X8_adds at hf
  refine lv_aload_n hx hb dX8_adds_0 rfl (lv_at hl 1 rfl) ?_
  refine lv_bipush (v := (10 : Int32)) hx hb dX8_adds_1 (by decide) ?_
  obtain ⟨r1, hr1, hf⟩ := kb hf
  refine kVN (As := [.int (10 : Int32)]) (rest := []) ⟨hx, hb, hml, hown, hts⟩ (c_X10_began l G N a_p0 a_p0_bodies (10 : Int32) p0_length p0_parted p0_bodies r1 hr1) ⟨kcN 1 hts hAm nw_X8_22 tw_837 tw_90 hd_X10_began ⟨Nat.le_of_ble_eq_true rfl, Nat.le_of_ble_eq_true rfl⟩, hts _ tw_836, hts _ tw_38⟩ dX8_adds_3 hl.1 hK hAm hA hP hD hS 0 (ci := 10) rfl rfl rfl [0, 1] rfl rfl rfl [0, 1] rfl rfl rfl (Nat.le_of_ble_eq_true rfl) ⟨Nat.le_refl _, Nat.le_refl _⟩ (fun H locs hP hD hS => ?_)
  have hP : va_P (gD G) vwCl (k_X8_adds G a_p0 a_p0_bodies a_this r1.1 p0_parted r1.2 this_number this_m) H := hP
  have hD : va_D A (k_X8_adds G a_p0 a_p0_bodies a_this r1.1 p0_parted r1.2 this_number this_m) := hD
  refine lv_iload_n hx hb dX8_adds_6 rfl (lv_at hl 2 rfl) ?_
  refine lv_aload_n hx hb dX8_adds_7 rfl (lv_at hl 0 rfl) ?_
  refine va_get (D := gD G) (ci := 8) (C := RX8) (T := TX8) (N := 2) hx hb hts hin_X8 hown hK hP 2 rfl rfl 0 (by decide) fl_7 (fun _ h9 => h9) rfl dX8_adds_8 ?_
  refine lv_iadd hx hb dX8_adds_11 ?_
  have ho := ks hf
  subst ho
  exact kiret hx hb hr hlk hP hD hS hQ dX8_adds_12
abbrev k_X8_comes (G : KG) (a_p0 : Nat) (a_p0_bodies : Nat) (a_this : Nat) (p0_length : Int32) (p0_parted : Int32) (p0_bodies : Nat → Int32) (this_number : Int32) (this_m : Int32) : va_W := [(a_p0, .inr (10, [.ref a_p0_bodies, .int p0_length, .int p0_parted])), (a_p0_bodies, .inl (gI G, 30, .inl p0_bodies)), (a_this, .inr (8, [.int this_number, .int this_m]))]
def f_X8_comes (N : Nat) (p1 : Int32) (p0_length : Int32) (p0_bodies : Nat → Int32) (this_number : Int32) : Option (Int32 × (Int32) × (Nat → Int32)) := ((f_X10_began N (11 : Int32) p0_length p0_bodies).bind fun r1 => ((f_X8_adds N p1 r1.1 r1.2 this_number).bind fun r2 => (some ((r2.1 * (2 : Int32)), r2.2.1, r2.2.2))))
set_option maxRecDepth 100000 in
set_option maxHeartbeats 4000000 in
theorem c_X8_comes (l : Launch) (G : KG) (N : Nat) (a_p0 : Nat) (a_p0_bodies : Nat) (a_this : Nat) (p1 : Int32) (p0_length : Int32) (p0_parted : Int32) (p0_bodies : Nat → Int32) (this_number : Int32) (this_m : Int32)  (out : Int32 × (Int32) × (Nat → Int32)) (hf : f_X8_comes N p1 p0_length p0_bodies this_number = some out) : KM l G yX8_comes (kw yX8_comes cX8_comes 3 (some .int)) 2 43 [.ref a_this, .ref a_p0, .int p1] (k_X8_comes G a_p0 a_p0_bodies a_this p0_length p0_parted p0_bodies this_number this_m) (k_X8_comes G a_p0 a_p0_bodies a_this (out.2.1) p0_parted (out.2.2) this_number this_m) (some (.int (out.1))) := by
  refine KM.of (by decide) (Nat.le_of_ble_eq_true rfl) ?_
  intro p e s m below meth c A ls args Q Fx0 hP hK hD hA hS hAm hQ hl
  obtain ⟨hx, hb, hr, hml, hts, hown, hlk, hnm⟩ := Fx0
  have hown : s.vm.findClass RX8 = some m.cls := hown
  have hl : lv_has ls 3 [(0, .ref a_this), (1, .ref a_p0), (2, .int p1)] := hl
  unfold f_X8_comes at hf
  refine lv_aload_n hx hb dX8_comes_0 rfl (lv_at hl 1 rfl) ?_
  refine lv_bipush (v := (11 : Int32)) hx hb dX8_comes_1 (by decide) ?_
  obtain ⟨r1, hr1, hf⟩ := kb hf
  refine kVN (As := [.int (11 : Int32)]) (rest := []) ⟨hx, hb, hml, hown, hts⟩ (c_X10_began l G N a_p0 a_p0_bodies (11 : Int32) p0_length p0_parted p0_bodies r1 hr1) ⟨kcN 1 hts hAm nw_X8_22 tw_837 tw_90 hd_X10_began ⟨Nat.le_of_ble_eq_true rfl, Nat.le_of_ble_eq_true rfl⟩, hts _ tw_836, hts _ tw_38⟩ dX8_comes_3 hl.1 hK hAm hA hP hD hS 0 (ci := 10) rfl rfl rfl [0, 1] rfl rfl rfl [0, 1] rfl rfl rfl (Nat.le_of_ble_eq_true rfl) ⟨Nat.le_refl _, Nat.le_refl _⟩ (fun H locs hP hD hS => ?_)
  have hP : va_P (gD G) vwCl (k_X8_comes G a_p0 a_p0_bodies a_this r1.1 p0_parted r1.2 this_number this_m) H := hP
  have hD : va_D A (k_X8_comes G a_p0 a_p0_bodies a_this r1.1 p0_parted r1.2 this_number this_m) := hD
  refine lv_aload_n hx hb dX8_comes_6 rfl (lv_at hl 0 rfl) ?_
  refine lv_aload_n hx hb dX8_comes_7 rfl (lv_at hl 1 rfl) ?_
  refine lv_iload_n hx hb dX8_comes_8 rfl (lv_at hl 2 rfl) ?_
  obtain ⟨r2, hr2, hf⟩ := kb hf
  refine kV (As := [.ref a_p0, .int p1]) (rest := []) ⟨hx, hb, hml, hown, hts⟩ (c_X8_adds l G N a_p0 a_p0_bodies a_this p1 r1.1 p0_parted r1.2 this_number this_m r2 hr2) (kcV 2 hts tw_850 tw_83 tw_874 tw_827 tw_828 hd_X8_adds ⟨Nat.le_of_ble_eq_true rfl, Nat.le_of_ble_eq_true rfl⟩) dX8_comes_9 hl.1 hK hAm hA hP hD hS 2 (ci := 8) rfl rfl rfl [0, 1, 2] rfl rfl rfl [0, 1] rfl rfl rfl (Nat.le_of_ble_eq_true rfl) ⟨Nat.le_refl _, Nat.le_refl _⟩ (fun H locs hP hD hS => ?_)
  have hP : va_P (gD G) vwCl (k_X8_comes G a_p0 a_p0_bodies a_this r2.2.1 p0_parted r2.2.2 this_number this_m) H := hP
  have hD : va_D A (k_X8_comes G a_p0 a_p0_bodies a_this r2.2.1 p0_parted r2.2.2 this_number this_m) := hD
  refine lv_iconst (v := (2 : Int32)) hx hb dX8_comes_12 (by decide) ?_
  refine lv_imul hx hb dX8_comes_13 ?_
  have ho := ks hf
  subst ho
  exact kiret hx hb hr hlk hP hD hS hQ dX8_comes_14
abbrev k_X8_gives (G : KG) (a_p0 : Nat) (a_p0_bodies : Nat) (a_this : Nat) (p0_length : Int32) (p0_parted : Int32) (p0_bodies : Nat → Int32) (this_number : Int32) (this_m : Int32) : va_W := [(a_p0, .inr (10, [.ref a_p0_bodies, .int p0_length, .int p0_parted])), (a_p0_bodies, .inl (gI G, 30, .inl p0_bodies)), (a_this, .inr (8, [.int this_number, .int this_m]))]
def f_X8_gives (N : Nat) (p1 : Int32) (p0_length : Int32) (p0_bodies : Nat → Int32) (this_number : Int32) (this_m : Int32) : Option (Int32 × (Int32) × (Nat → Int32)) := ((f_X10_began N (12 : Int32) p0_length p0_bodies).bind fun r1 => ((f_X8_comes N p1 r1.1 r1.2 this_number).bind fun r2 => (some ((r2.1 - this_m), r2.2.1, r2.2.2))))
set_option maxRecDepth 100000 in
set_option maxHeartbeats 4000000 in
theorem c_X8_gives (l : Launch) (G : KG) (N : Nat) (a_p0 : Nat) (a_p0_bodies : Nat) (a_this : Nat) (p1 : Int32) (p0_length : Int32) (p0_parted : Int32) (p0_bodies : Nat → Int32) (this_number : Int32) (this_m : Int32)  (out : Int32 × (Int32) × (Nat → Int32)) (hf : f_X8_gives N p1 p0_length p0_bodies this_number this_m = some out) : KM l G yX8_gives (kw yX8_gives cX8_gives 3 (some .int)) 3 65 [.ref a_this, .ref a_p0, .int p1] (k_X8_gives G a_p0 a_p0_bodies a_this p0_length p0_parted p0_bodies this_number this_m) (k_X8_gives G a_p0 a_p0_bodies a_this (out.2.1) p0_parted (out.2.2) this_number this_m) (some (.int (out.1))) := by
  refine KM.of (by decide) (Nat.le_of_ble_eq_true rfl) ?_
  intro p e s m below meth c A ls args Q Fx0 hP hK hD hA hS hAm hQ hl
  obtain ⟨hx, hb, hr, hml, hts, hown, hlk, hnm⟩ := Fx0
  have hown : s.vm.findClass RX8 = some m.cls := hown
  have hl : lv_has ls 3 [(0, .ref a_this), (1, .ref a_p0), (2, .int p1)] := hl
  have fl_13 := hts _ tw_176
  unfold f_X8_gives at hf
  refine lv_aload_n hx hb dX8_gives_0 rfl (lv_at hl 1 rfl) ?_
  refine lv_bipush (v := (12 : Int32)) hx hb dX8_gives_1 (by decide) ?_
  obtain ⟨r1, hr1, hf⟩ := kb hf
  refine kVN (As := [.int (12 : Int32)]) (rest := []) ⟨hx, hb, hml, hown, hts⟩ (c_X10_began l G N a_p0 a_p0_bodies (12 : Int32) p0_length p0_parted p0_bodies r1 hr1) ⟨kcN 1 hts hAm nw_X8_22 tw_837 tw_90 hd_X10_began ⟨Nat.le_of_ble_eq_true rfl, Nat.le_of_ble_eq_true rfl⟩, hts _ tw_836, hts _ tw_38⟩ dX8_gives_3 hl.1 hK hAm hA hP hD hS 0 (ci := 10) rfl rfl rfl [0, 1] rfl rfl rfl [0, 1] rfl rfl rfl (Nat.le_of_ble_eq_true rfl) ⟨Nat.le_refl _, Nat.le_refl _⟩ (fun H locs hP hD hS => ?_)
  have hP : va_P (gD G) vwCl (k_X8_gives G a_p0 a_p0_bodies a_this r1.1 p0_parted r1.2 this_number this_m) H := hP
  have hD : va_D A (k_X8_gives G a_p0 a_p0_bodies a_this r1.1 p0_parted r1.2 this_number this_m) := hD
  refine lv_aload_n hx hb dX8_gives_6 rfl (lv_at hl 0 rfl) ?_
  refine lv_aload_n hx hb dX8_gives_7 rfl (lv_at hl 1 rfl) ?_
  refine lv_iload_n hx hb dX8_gives_8 rfl (lv_at hl 2 rfl) ?_
  obtain ⟨r2, hr2, hf⟩ := kb hf
  refine kV (As := [.ref a_p0, .int p1]) (rest := []) ⟨hx, hb, hml, hown, hts⟩ (c_X8_comes l G N a_p0 a_p0_bodies a_this p1 r1.1 p0_parted r1.2 this_number this_m r2 hr2) (kcV 2 hts tw_873 tw_83 tw_895 tw_853 tw_854 hd_X8_comes ⟨Nat.le_of_ble_eq_true rfl, Nat.le_of_ble_eq_true rfl⟩) dX8_gives_9 hl.1 hK hAm hA hP hD hS 2 (ci := 8) rfl rfl rfl [0, 1, 2] rfl rfl rfl [0, 1] rfl rfl rfl (Nat.le_of_ble_eq_true rfl) ⟨Nat.le_refl _, Nat.le_refl _⟩ (fun H locs hP hD hS => ?_)
  have hP : va_P (gD G) vwCl (k_X8_gives G a_p0 a_p0_bodies a_this r2.2.1 p0_parted r2.2.2 this_number this_m) H := hP
  have hD : va_D A (k_X8_gives G a_p0 a_p0_bodies a_this r2.2.1 p0_parted r2.2.2 this_number this_m) := hD
  refine lv_aload_n hx hb dX8_gives_12 rfl (lv_at hl 0 rfl) ?_
  refine va_get (D := gD G) (ci := 8) (C := RX8) (T := TX8) (N := 2) hx hb hts hin_X8 hown hK hP 2 rfl rfl 1 (by decide) fl_13 (fun _ h9 => h9) rfl dX8_gives_13 ?_
  refine lv_isub hx hb dX8_gives_16 ?_
  have ho := ks hf
  subst ho
  exact kiret hx hb hr hlk hP hD hS hQ dX8_gives_17
abbrev k_X8_parts (G : KG) (a_p0 : Nat) (a_p0_bodies : Nat) (a_this : Nat) (p0_length : Int32) (p0_parted : Int32) (p0_bodies : Nat → Int32) (this_number : Int32) (this_m : Int32) : va_W := [(a_p0, .inr (10, [.ref a_p0_bodies, .int p0_length, .int p0_parted])), (a_p0_bodies, .inl (gI G, 30, .inl p0_bodies)), (a_this, .inr (8, [.int this_number, .int this_m]))]
def f_X8_parts (N : Nat) (p1 : Int32) (p0_length : Int32) (p0_parted : Int32) (p0_bodies : Nat → Int32) (this_number : Int32) (this_m : Int32) : Option (Int32 × (Int32) × (Int32) × (Nat → Int32)) := ((f_X10_began N (13 : Int32) p0_length p0_bodies).bind fun r1 => (if (this_m - this_number) = 0 then (some ((0 : Int32), r1.1, (1 : Int32), r1.2)) else (if ¬ (this_m - this_number) = 0 then (some ((p1 / (this_m - this_number)), r1.1, p0_parted, r1.2)) else none)))
set_option maxRecDepth 100000 in
set_option maxHeartbeats 4000000 in
theorem c_X8_parts (l : Launch) (G : KG) (N : Nat) (a_p0 : Nat) (a_p0_bodies : Nat) (a_this : Nat) (p1 : Int32) (p0_length : Int32) (p0_parted : Int32) (p0_bodies : Nat → Int32) (this_number : Int32) (this_m : Int32)  (out : Int32 × (Int32) × (Int32) × (Nat → Int32)) (hf : f_X8_parts N p1 p0_length p0_parted p0_bodies this_number this_m = some out) : KM l G yX8_parts (kw yX8_parts cX8_parts 4 (some .int)) 1 21 [.ref a_this, .ref a_p0, .int p1] (k_X8_parts G a_p0 a_p0_bodies a_this p0_length p0_parted p0_bodies this_number this_m) (k_X8_parts G a_p0 a_p0_bodies a_this (out.2.1) (out.2.2.1) (out.2.2.2) this_number this_m) (some (.int (out.1))) := by
  refine KM.of (by decide) (Nat.le_of_ble_eq_true rfl) ?_
  intro p e s m below meth c A ls args Q Fx0 hP hK hD hA hS hAm hQ hl
  obtain ⟨hx, hb, hr, hml, hts, hown, hlk, hnm⟩ := Fx0
  have hown : s.vm.findClass RX8 = some m.cls := hown
  have hl : lv_has ls 4 [(0, .ref a_this), (1, .ref a_p0), (2, .int p1)] := hl
  have fl_13 := hts _ tw_176
  have fl_7 := hts _ tw_173
  have fl_35 := va_Nw.use (A := args) rfl (hAm.1 _ nw_X8_35 rfl)
  unfold f_X8_parts at hf
  refine lv_aload_n hx hb dX8_parts_0 rfl (lv_at hl 1 rfl) ?_
  refine lv_bipush (v := (13 : Int32)) hx hb dX8_parts_1 (by decide) ?_
  obtain ⟨r1, hr1, hf⟩ := kb hf
  refine kVN (As := [.int (13 : Int32)]) (rest := []) ⟨hx, hb, hml, hown, hts⟩ (c_X10_began l G N a_p0 a_p0_bodies (13 : Int32) p0_length p0_parted p0_bodies r1 hr1) ⟨kcN 1 hts hAm nw_X8_22 tw_837 tw_90 hd_X10_began ⟨Nat.le_of_ble_eq_true rfl, Nat.le_of_ble_eq_true rfl⟩, hts _ tw_836, hts _ tw_38⟩ dX8_parts_3 hl.1 hK hAm hA hP hD hS 0 (ci := 10) rfl rfl rfl [0, 1] rfl rfl rfl [0, 1] rfl rfl rfl (Nat.le_of_ble_eq_true rfl) ⟨Nat.le_refl _, Nat.le_refl _⟩ (fun H locs hP hD hS => ?_)
  have hP : va_P (gD G) vwCl (k_X8_parts G a_p0 a_p0_bodies a_this r1.1 p0_parted r1.2 this_number this_m) H := hP
  have hD : va_D A (k_X8_parts G a_p0 a_p0_bodies a_this r1.1 p0_parted r1.2 this_number this_m) := hD
  refine lv_aload_n hx hb dX8_parts_6 rfl (lv_at hl 0 rfl) ?_
  refine va_get (D := gD G) (ci := 8) (C := RX8) (T := TX8) (N := 2) hx hb hts hin_X8 hown hK hP 2 rfl rfl 1 (by decide) fl_13 (fun _ h9 => h9) rfl dX8_parts_7 ?_
  refine lv_aload_n hx hb dX8_parts_10 rfl (lv_at hl 0 rfl) ?_
  refine va_get (D := gD G) (ci := 8) (C := RX8) (T := TX8) (N := 2) hx hb hts hin_X8 hown hK hP 2 rfl rfl 0 (by decide) fl_7 (fun _ h9 => h9) rfl dX8_parts_11 ?_
  refine lv_isub hx hb dX8_parts_14 ?_
  refine lv_istore_n (lv' := [(3, .int (this_m - this_number)), (0, .ref a_this), (1, .ref a_p0), (2, .int p1)]) hx hb dX8_parts_15 rfl hl (by decide) rfl (fun ls hl => ?_)
  refine lv_iload_n hx hb dX8_parts_16 rfl (lv_at hl 0 rfl) ?_
  refine lv_if_ne (tgt := 27) hx hb dX8_parts_17 (by decide) (fun c2 => ?_) (fun c2 => ?_)
  · replace hf := kf c2 hf
    refine lv_iload_n hx hb dX8_parts_27 rfl (lv_at hl 3 rfl) ?_
    refine lv_iload_n hx hb dX8_parts_28 rfl (lv_at hl 0 rfl) ?_
    obtain ⟨g3, hf⟩ := kg hf
    refine lv_idiv hx hb dX8_parts_29 g3 ?_
    have ho := ks hf
    subst ho
    exact kiret hx hb hr hlk hP hD hS hQ dX8_parts_30
  · replace hf := kt c2 hf
    refine lv_aload_n hx hb dX8_parts_20 rfl (lv_at hl 2 rfl) ?_
    refine lv_iconst (v := (1 : Int32)) hx hb dX8_parts_21 (by decide) ?_
    refine va_putN (D := gD G) (ci := 10) (v := .int (1 : Int32)) (ty := .boolean) (C := RX10) (T := TX10) (N := 3) hx hb hts hin_X10 tyX10 tyX10_ok nmX10 hown hK hP hD hS 0 rfl rfl 2 (by decide) fl_35 (fun _ h9 => h9) rfl (by decide +kernel) rfl rfl (Nat.le_of_ble_eq_true rfl) dX8_parts_22 (fun H locs hP hD hS => ?_)
    have hP : va_P (gD G) vwCl (k_X8_parts G a_p0 a_p0_bodies a_this r1.1 (1 : Int32) r1.2 this_number this_m) H := hP
    have hD : va_D A (k_X8_parts G a_p0 a_p0_bodies a_this r1.1 (1 : Int32) r1.2 this_number this_m) := hD
    refine lv_iconst (v := (0 : Int32)) hx hb dX8_parts_25 (by decide) ?_
    have ho := ks hf
    subst ho
    exact kiret hx hb hr hlk hP hD hS hQ dX8_parts_26
abbrev k_X9_isOf (G : KG) (a_this : Nat) (this_number : Int32) (this_m : Int32) : va_W := [(a_this, .inr (9, [.int this_number, .int this_m]))]
def f_X9_isOf (N : Nat) (p0 : Int32) : Option (Int32) := (if p0 = (6 : Int32) then (some (1 : Int32)) else ((f_X8_isOf_X9 N p0).bind fun r2 => (if r2 = 0 then (some (0 : Int32)) else (some (1 : Int32)))))
set_option maxRecDepth 100000 in
set_option maxHeartbeats 4000000 in
theorem c_X9_isOf (l : Launch) (G : KG) (N : Nat) (a_this : Nat) (p0 : Int32) (this_number : Int32) (this_m : Int32)  (out : Int32) (hf : f_X9_isOf N p0 = some out) : KM l G yX9_isOf (kw yX9_isOf cX9_isOf 2 (some .boolean)) 1 21 [.ref a_this, .int p0] (k_X9_isOf G a_this this_number this_m) (k_X9_isOf G a_this this_number this_m) (some (.int out)) := by
  refine KM.of (by decide) (Nat.le_of_ble_eq_true rfl) ?_
  intro p e s m below meth c A ls args Q Fx0 hP hK hD hA hS hAm hQ hl
  obtain ⟨hx, hb, hr, hml, hts, hown, hlk, hnm⟩ := Fx0
  have hown : s.vm.findClass RX9 = some m.cls := hown
  have hl : lv_has ls 2 [(0, .ref a_this), (1, .int p0)] := hl
  unfold f_X9_isOf at hf
  refine lv_iload_n hx hb dX9_isOf_0 rfl (lv_at hl 1 rfl) ?_
  refine lv_bipush (v := (6 : Int32)) hx hb dX9_isOf_1 (by decide) ?_
  refine lv_icmp_eq (tgt := 14) hx hb dX9_isOf_3 (by decide) (fun c1 => ?_) (fun c1 => ?_)
  · replace hf := kt c1 hf
    refine lv_iconst (v := (1 : Int32)) hx hb dX9_isOf_14 (by decide) ?_
    refine lv_goto (tgt := 19) hx hb dX9_isOf_15 (by decide) ?_
    have ho := ks hf
    subst ho
    exact kzret hx hb hr (Or.inr rfl) hlk hP hD hS hQ dX9_isOf_19
  · replace hf := kf c1 hf
    refine lv_aload_n hx hb dX9_isOf_6 rfl (lv_at hl 0 rfl) ?_
    refine lv_iload_n hx hb dX9_isOf_7 rfl (lv_at hl 1 rfl) ?_
    obtain ⟨r2, hr2, hf⟩ := kb hf
    refine kSU (As := [.int p0]) (rest := []) ⟨hx, hb, hml, hown, hts⟩ (c_X8_isOf_X9 l G N a_this p0 r2 hr2) (kcSU 1 hts tw_505 tw_83 tw_504 tw_480 tw_235 tw_478 (by decide) hd_X8_isOf ⟨Nat.le_of_ble_eq_true rfl, Nat.le_of_ble_eq_true rfl⟩) dX9_isOf_8 hl.1 hK hAm hA hP hD hS 0 (ci := 9) rfl rfl [] rfl rfl rfl [] rfl rfl rfl (Nat.le_of_ble_eq_true rfl) ⟨Nat.le_refl _, Nat.le_refl _⟩ (fun H locs hP hD hS => ?_)
    have hP : va_P (gD G) vwCl (k_X9_isOf G a_this this_number this_m) H := hP
    have hD : va_D A (k_X9_isOf G a_this this_number this_m) := hD
    refine lv_if_eq (tgt := 18) hx hb dX9_isOf_11 (by decide) (fun c3 => ?_) (fun c3 => ?_)
    · replace hf := kt c3 hf
      refine lv_iconst (v := (0 : Int32)) hx hb dX9_isOf_18 (by decide) ?_
      have ho := ks hf
      subst ho
      exact kzret hx hb hr (Or.inl rfl) hlk hP hD hS hQ dX9_isOf_19
    · replace hf := kf c3 hf
      refine lv_iconst (v := (1 : Int32)) hx hb dX9_isOf_14 (by decide) ?_
      refine lv_goto (tgt := 19) hx hb dX9_isOf_15 (by decide) ?_
      have ho := ks hf
      subst ho
      exact kzret hx hb hr (Or.inr rfl) hlk hP hD hS hQ dX9_isOf_19
abbrev k_X9_due (G : KG) (a_p2 : Nat) (a_p2_names : Nat) (a_p2_code : Nat) (a_p2_stack : Nat) (a_p2_bytes : Nat) (a_p2_draft : Nat) (a_this : Nat) (p2_length : Int32) (p2_drafted : Int32) (p2_end : Int32) (p2_place : Int32) (p2_failed : Int32) (p2_code : Nat → Int32) (p2_stack : Nat → Int32) (this_number : Int32) (this_m : Int32) : va_W := [(a_p2, .inr (4, [.ref a_p2_names, .ref a_p2_code, .int p2_length, .ref a_p2_stack, .ref a_p2_bytes, .ref a_p2_draft, .int p2_drafted, .int p2_end, .int p2_place, .int p2_failed])), (a_p2_code, .inl (gI G, 60, .inl p2_code)), (a_p2_stack, .inl (gI G, 60, .inl p2_stack)), (a_this, .inr (9, [.int this_number, .int this_m]))]
def f_X9_due (N : Nat) (p0 : Int32) (p1 : Int32) (p2_length : Int32) (p2_code : Nat → Int32) (p2_stack : Nat → Int32) (this_m : Int32) : Option (Int32 × (Nat → Int32)) := ((f_X4_isTold N p2_length).bind fun r1 => (if r1 = 0 then ((f_X8_due_X9 N p0 p1).bind fun r3 => (some (r3, p2_stack))) else ((f_X4_workedOut N p0 p1 this_m p2_length p2_code p2_stack).bind fun r4 => (some (r4.1, r4.2)))))
set_option maxRecDepth 100000 in
set_option maxHeartbeats 4000000 in
theorem c_X9_due (l : Launch) (G : KG) (N : Nat) (a_p2 : Nat) (a_p2_names : Nat) (a_p2_code : Nat) (a_p2_stack : Nat) (a_p2_bytes : Nat) (a_p2_draft : Nat) (a_this : Nat) (p0 : Int32) (p1 : Int32) (p2_length : Int32) (p2_drafted : Int32) (p2_end : Int32) (p2_place : Int32) (p2_failed : Int32) (p2_code : Nat → Int32) (p2_stack : Nat → Int32) (this_number : Int32) (this_m : Int32)  (out : Int32 × (Nat → Int32)) (hf : f_X9_due N p0 p1 p2_length p2_code p2_stack this_m = some out) : KM l G yX9_due (kw yX9_due cX9_due 4 (some .int)) 2 49 [.ref a_this, .int p0, .int p1, .ref a_p2] (k_X9_due G a_p2 a_p2_names a_p2_code a_p2_stack a_p2_bytes a_p2_draft a_this p2_length p2_drafted p2_end p2_place p2_failed p2_code p2_stack this_number this_m) (k_X9_due G a_p2 a_p2_names a_p2_code a_p2_stack a_p2_bytes a_p2_draft a_this p2_length p2_drafted p2_end p2_place p2_failed p2_code (out.2) this_number this_m) (some (.int (out.1))) := by
  refine KM.of (by decide) (Nat.le_of_ble_eq_true rfl) ?_
  intro p e s m below meth c A ls args Q Fx0 hP hK hD hA hS hAm hQ hl
  obtain ⟨hx, hb, hr, hml, hts, hown, hlk, hnm⟩ := Fx0
  have hown : s.vm.findClass RX9 = some m.cls := hown
  have hl : lv_has ls 4 [(0, .ref a_this), (1, .int p0), (2, .int p1), (3, .ref a_p2)] := hl
  have fl_17 := hts _ tw_183
  have sf_17 := hts _ tw_184
  unfold f_X9_due at hf
  refine lv_aload_n hx hb dX9_due_0 rfl (lv_at hl 3 rfl) ?_
  obtain ⟨r1, hr1, hf⟩ := kb hf
  refine kVN (As := []) (rest := []) ⟨hx, hb, hml, hown, hts⟩ (c_X4_isTold l G N a_p2 a_p2_names a_p2_code a_p2_stack a_p2_bytes a_p2_draft p2_length p2_drafted p2_end p2_place p2_failed r1 hr1) ⟨kcN 0 hts hAm nw_X9_11 tw_418 tw_82 hd_X4_isTold ⟨Nat.le_of_ble_eq_true rfl, Nat.le_of_ble_eq_true rfl⟩, hts _ tw_417, hts _ tw_2⟩ dX9_due_1 hl.1 hK hAm hA hP hD hS 0 (ci := 4) rfl rfl rfl [0] rfl rfl rfl [] rfl rfl rfl (Nat.le_of_ble_eq_true rfl) ⟨Nat.le_refl _, Nat.le_refl _⟩ (fun H locs hP hD hS => ?_)
  have hP : va_P (gD G) vwCl (k_X9_due G a_p2 a_p2_names a_p2_code a_p2_stack a_p2_bytes a_p2_draft a_this p2_length p2_drafted p2_end p2_place p2_failed p2_code p2_stack this_number this_m) H := hP
  have hD : va_D A (k_X9_due G a_p2 a_p2_names a_p2_code a_p2_stack a_p2_bytes a_p2_draft a_this p2_length p2_drafted p2_end p2_place p2_failed p2_code p2_stack this_number this_m) := hD
  refine lv_if_eq (tgt := 20) hx hb dX9_due_4 (by decide) (fun c2 => ?_) (fun c2 => ?_)
  · replace hf := kt c2 hf
    refine lv_aload_n hx hb dX9_due_20 rfl (lv_at hl 0 rfl) ?_
    refine lv_iload_n hx hb dX9_due_21 rfl (lv_at hl 1 rfl) ?_
    refine lv_iload_n hx hb dX9_due_22 rfl (lv_at hl 2 rfl) ?_
    refine lv_aload_n hx hb dX9_due_23 rfl (lv_at hl 3 rfl) ?_
    obtain ⟨r3, hr3, hf⟩ := kb hf
    refine kSU (As := [.int p0, .int p1, .ref a_p2]) (rest := []) ⟨hx, hb, hml, hown, hts⟩ (c_X8_due_X9 l G N a_this a_p2 p0 p1 r3 hr3) (kcSU 3 hts tw_554 tw_83 tw_553 tw_525 tw_235 tw_523 (by decide) hd_X8_due ⟨Nat.le_of_ble_eq_true rfl, Nat.le_of_ble_eq_true rfl⟩) dX9_due_24 hl.1 hK hAm hA hP hD hS 3 (ci := 9) rfl rfl [] rfl rfl rfl [] rfl rfl rfl (Nat.le_of_ble_eq_true rfl) ⟨Nat.le_refl _, Nat.le_refl _⟩ (fun H locs hP hD hS => ?_)
    have hP : va_P (gD G) vwCl (k_X9_due G a_p2 a_p2_names a_p2_code a_p2_stack a_p2_bytes a_p2_draft a_this p2_length p2_drafted p2_end p2_place p2_failed p2_code p2_stack this_number this_m) H := hP
    have hD : va_D A (k_X9_due G a_p2 a_p2_names a_p2_code a_p2_stack a_p2_bytes a_p2_draft a_this p2_length p2_drafted p2_end p2_place p2_failed p2_code p2_stack this_number this_m) := hD
    have ho := ks hf
    subst ho
    exact kiret hx hb hr hlk hP hD hS hQ dX9_due_27
  · replace hf := kf c2 hf
    refine lv_aload_n hx hb dX9_due_7 rfl (lv_at hl 3 rfl) ?_
    refine lv_iload_n hx hb dX9_due_8 rfl (lv_at hl 1 rfl) ?_
    refine lv_iload_n hx hb dX9_due_9 rfl (lv_at hl 2 rfl) ?_
    refine lv_aload_n hx hb dX9_due_10 rfl (lv_at hl 0 rfl) ?_
    refine va_get (D := gD G) (ci := 9) (C := RX9) (T := TX9) (N := 2) hx hb hts hin_X9 hown hK hP 3 rfl rfl 1 (by decide) fl_17 (u_same sf_17) rfl dX9_due_11 ?_
    obtain ⟨r4, hr4, hf⟩ := kb hf
    refine kVN (As := [.int p0, .int p1, .int this_m]) (rest := []) ⟨hx, hb, hml, hown, hts⟩ (c_X4_workedOut l G N a_p2 a_p2_names a_p2_code a_p2_stack a_p2_bytes a_p2_draft p0 p1 this_m p2_length p2_drafted p2_end p2_place p2_failed p2_code p2_stack r4 hr4) ⟨kcN 3 hts hAm nw_X9_23 tw_422 tw_82 hd_X4_workedOut ⟨Nat.le_of_ble_eq_true rfl, Nat.le_of_ble_eq_true rfl⟩, hts _ tw_421, hts _ tw_3⟩ dX9_due_14 hl.1 hK hAm hA hP hD hS 0 (ci := 4) rfl rfl rfl [0, 1, 2] rfl rfl rfl [2] rfl rfl rfl (Nat.le_of_ble_eq_true rfl) ⟨Nat.le_refl _, Nat.le_refl _⟩ (fun H locs hP hD hS => ?_)
    have hP : va_P (gD G) vwCl (k_X9_due G a_p2 a_p2_names a_p2_code a_p2_stack a_p2_bytes a_p2_draft a_this p2_length p2_drafted p2_end p2_place p2_failed p2_code r4.2 this_number this_m) H := hP
    have hD : va_D A (k_X9_due G a_p2 a_p2_names a_p2_code a_p2_stack a_p2_bytes a_p2_draft a_this p2_length p2_drafted p2_end p2_place p2_failed p2_code r4.2 this_number this_m) := hD
    refine lv_goto (tgt := 27) hx hb dX9_due_17 (by decide) ?_
    have ho := ks hf
    subst ho
    exact kiret hx hb hr hlk hP hD hS hQ dX9_due_27
abbrev k_X9_adds (G : KG) (a_p0 : Nat) (a_p0_bodies : Nat) (p0_length : Int32) (p0_parted : Int32) (p0_bodies : Nat → Int32) : va_W := [(a_p0, .inr (10, [.ref a_p0_bodies, .int p0_length, .int p0_parted])), (a_p0_bodies, .inl (gI G, 30, .inl p0_bodies))]
def f_X9_adds (N : Nat) (p1 : Int32) (p0_length : Int32) (p0_bodies : Nat → Int32) : Option (Int32 × (Int32) × (Nat → Int32)) := ((f_X10_began N (70 : Int32) p0_length p0_bodies).bind fun r1 => (some ((9 : Int32), r1.1, r1.2)))
set_option maxRecDepth 100000 in
set_option maxHeartbeats 4000000 in
theorem c_X9_adds (l : Launch) (G : KG) (N : Nat) (a_this : Nat) (a_p0 : Nat) (a_p0_bodies : Nat) (p1 : Int32) (p0_length : Int32) (p0_parted : Int32) (p0_bodies : Nat → Int32)  (out : Int32 × (Int32) × (Nat → Int32)) (hf : f_X9_adds N p1 p0_length p0_bodies = some out) : KM l G yX9_adds (kw yX9_adds cX9_adds 3 (some .int)) 1 21 [.ref a_this, .ref a_p0, .int p1] (k_X9_adds G a_p0 a_p0_bodies p0_length p0_parted p0_bodies) (k_X9_adds G a_p0 a_p0_bodies (out.2.1) p0_parted (out.2.2)) (some (.int (out.1))) := by
  refine KM.of (by decide) (Nat.le_of_ble_eq_true rfl) ?_
  intro p e s m below meth c A ls args Q Fx0 hP hK hD hA hS hAm hQ hl
  obtain ⟨hx, hb, hr, hml, hts, hown, hlk, hnm⟩ := Fx0
  have hown : s.vm.findClass RX9 = some m.cls := hown
  have hl : lv_has ls 3 [(0, .ref a_this), (1, .ref a_p0), (2, .int p1)] := hl
  unfold f_X9_adds at hf
  refine lv_aload_n hx hb dX9_adds_0 rfl (lv_at hl 1 rfl) ?_
  refine lv_bipush (v := (70 : Int32)) hx hb dX9_adds_1 (by decide) ?_
  obtain ⟨r1, hr1, hf⟩ := kb hf
  refine kVN (As := [.int (70 : Int32)]) (rest := []) ⟨hx, hb, hml, hown, hts⟩ (c_X10_began l G N a_p0 a_p0_bodies (70 : Int32) p0_length p0_parted p0_bodies r1 hr1) ⟨kcN 1 hts hAm nw_X9_31 tw_837 tw_90 hd_X10_began ⟨Nat.le_of_ble_eq_true rfl, Nat.le_of_ble_eq_true rfl⟩, hts _ tw_836, hts _ tw_38⟩ dX9_adds_3 hl.1 hK hAm hA hP hD hS 0 (ci := 10) rfl rfl rfl [0, 1] rfl rfl rfl [0, 1] rfl rfl rfl (Nat.le_of_ble_eq_true rfl) ⟨Nat.le_refl _, Nat.le_refl _⟩ (fun H locs hP hD hS => ?_)
  have hP : va_P (gD G) vwCl (k_X9_adds G a_p0 a_p0_bodies r1.1 p0_parted r1.2) H := hP
  have hD : va_D A (k_X9_adds G a_p0 a_p0_bodies r1.1 p0_parted r1.2) := hD
  refine lv_bipush (v := (9 : Int32)) hx hb dX9_adds_6 (by decide) ?_
  have ho := ks hf
  subst ho
  exact kiret hx hb hr hlk hP hD hS hQ dX9_adds_8
abbrev k_X8_comes_X3 (G : KG) (a_p0 : Nat) (a_p0_bodies : Nat) (a_this : Nat) (p0_length : Int32) (p0_parted : Int32) (p0_bodies : Nat → Int32) (this_number : Int32) (this_m : Int32) : va_W := [(a_p0, .inr (10, [.ref a_p0_bodies, .int p0_length, .int p0_parted])), (a_p0_bodies, .inl (gI G, 30, .inl p0_bodies)), (a_this, .inr (3, [.int this_number, .int this_m]))]
def f_X8_comes_X3 (N : Nat) (p1 : Int32) (p0_length : Int32) (p0_bodies : Nat → Int32) (this_number : Int32) : Option (Int32 × (Int32) × (Nat → Int32)) := ((f_X10_began N (11 : Int32) p0_length p0_bodies).bind fun r1 => ((f_X3_adds N p1 r1.1 r1.2 this_number).bind fun r2 => (some ((r2.1 * (2 : Int32)), r2.2.1, r2.2.2))))
set_option maxRecDepth 100000 in
set_option maxHeartbeats 4000000 in
theorem c_X8_comes_X3 (l : Launch) (G : KG) (N : Nat) (a_p0 : Nat) (a_p0_bodies : Nat) (a_this : Nat) (p1 : Int32) (p0_length : Int32) (p0_parted : Int32) (p0_bodies : Nat → Int32) (this_number : Int32) (this_m : Int32)  (out : Int32 × (Int32) × (Nat → Int32)) (hf : f_X8_comes_X3 N p1 p0_length p0_bodies this_number = some out) : KM l G yX8_comes (kw yX8_comes cX8_comes 3 (some .int)) 3 65 [.ref a_this, .ref a_p0, .int p1] (k_X8_comes_X3 G a_p0 a_p0_bodies a_this p0_length p0_parted p0_bodies this_number this_m) (k_X8_comes_X3 G a_p0 a_p0_bodies a_this (out.2.1) p0_parted (out.2.2) this_number this_m) (some (.int (out.1))) := by
  refine KM.of (by decide) (Nat.le_of_ble_eq_true rfl) ?_
  intro p e s m below meth c A ls args Q Fx0 hP hK hD hA hS hAm hQ hl
  obtain ⟨hx, hb, hr, hml, hts, hown, hlk, hnm⟩ := Fx0
  have hown : s.vm.findClass RX8 = some m.cls := hown
  have hl : lv_has ls 3 [(0, .ref a_this), (1, .ref a_p0), (2, .int p1)] := hl
  unfold f_X8_comes_X3 at hf
  refine lv_aload_n hx hb dX8_comes_0 rfl (lv_at hl 1 rfl) ?_
  refine lv_bipush (v := (11 : Int32)) hx hb dX8_comes_1 (by decide) ?_
  obtain ⟨r1, hr1, hf⟩ := kb hf
  refine kVN (As := [.int (11 : Int32)]) (rest := []) ⟨hx, hb, hml, hown, hts⟩ (c_X10_began l G N a_p0 a_p0_bodies (11 : Int32) p0_length p0_parted p0_bodies r1 hr1) ⟨kcN 1 hts hAm nw_X8_22 tw_837 tw_90 hd_X10_began ⟨Nat.le_of_ble_eq_true rfl, Nat.le_of_ble_eq_true rfl⟩, hts _ tw_836, hts _ tw_38⟩ dX8_comes_3 hl.1 hK hAm hA hP hD hS 0 (ci := 10) rfl rfl rfl [0, 1] rfl rfl rfl [0, 1] rfl rfl rfl (Nat.le_of_ble_eq_true rfl) ⟨Nat.le_refl _, Nat.le_refl _⟩ (fun H locs hP hD hS => ?_)
  have hP : va_P (gD G) vwCl (k_X8_comes_X3 G a_p0 a_p0_bodies a_this r1.1 p0_parted r1.2 this_number this_m) H := hP
  have hD : va_D A (k_X8_comes_X3 G a_p0 a_p0_bodies a_this r1.1 p0_parted r1.2 this_number this_m) := hD
  refine lv_aload_n hx hb dX8_comes_6 rfl (lv_at hl 0 rfl) ?_
  refine lv_aload_n hx hb dX8_comes_7 rfl (lv_at hl 1 rfl) ?_
  refine lv_iload_n hx hb dX8_comes_8 rfl (lv_at hl 2 rfl) ?_
  obtain ⟨r2, hr2, hf⟩ := kb hf
  refine kU (As := [.ref a_p0, .int p1]) (rest := []) ⟨hx, hb, hml, hown, hts⟩ (c_X3_adds l G N a_p0 a_p0_bodies a_this p1 r1.1 p0_parted r1.2 this_number this_m r2 hr2) (kcU (owner := RX8) (x := yX8_adds) 2 hts tw_840 tw_84 tw_874 tw_829 tw_827 tw_850 tw_843 tw_839 (by decide) hd_X3_adds.2.2 ⟨Nat.le_of_ble_eq_true rfl, Nat.le_of_ble_eq_true rfl⟩) dX8_comes_9 hl.1 hK hAm hA hP hD hS 2 (ci := 3) rfl rfl rfl [0, 1, 2] rfl rfl rfl [0, 1] rfl rfl rfl (Nat.le_of_ble_eq_true rfl) ⟨Nat.le_refl _, Nat.le_refl _⟩ (fun H locs hP hD hS => ?_)
  have hP : va_P (gD G) vwCl (k_X8_comes_X3 G a_p0 a_p0_bodies a_this r2.2.1 p0_parted r2.2.2 this_number this_m) H := hP
  have hD : va_D A (k_X8_comes_X3 G a_p0 a_p0_bodies a_this r2.2.1 p0_parted r2.2.2 this_number this_m) := hD
  refine lv_iconst (v := (2 : Int32)) hx hb dX8_comes_12 (by decide) ?_
  refine lv_imul hx hb dX8_comes_13 ?_
  have ho := ks hf
  subst ho
  exact kiret hx hb hr hlk hP hD hS hQ dX8_comes_14
abbrev k_X8_gives_X3 (G : KG) (a_p0 : Nat) (a_p0_bodies : Nat) (a_this : Nat) (p0_length : Int32) (p0_parted : Int32) (p0_bodies : Nat → Int32) (this_number : Int32) (this_m : Int32) : va_W := [(a_p0, .inr (10, [.ref a_p0_bodies, .int p0_length, .int p0_parted])), (a_p0_bodies, .inl (gI G, 30, .inl p0_bodies)), (a_this, .inr (3, [.int this_number, .int this_m]))]
def f_X8_gives_X3 (N : Nat) (p1 : Int32) (p0_length : Int32) (p0_bodies : Nat → Int32) (this_number : Int32) (this_m : Int32) : Option (Int32 × (Int32) × (Nat → Int32)) := ((f_X10_began N (12 : Int32) p0_length p0_bodies).bind fun r1 => ((f_X8_comes_X3 N p1 r1.1 r1.2 this_number).bind fun r2 => (some ((r2.1 - this_m), r2.2.1, r2.2.2))))
set_option maxRecDepth 100000 in
set_option maxHeartbeats 4000000 in
theorem c_X8_gives_X3 (l : Launch) (G : KG) (N : Nat) (a_p0 : Nat) (a_p0_bodies : Nat) (a_this : Nat) (p1 : Int32) (p0_length : Int32) (p0_parted : Int32) (p0_bodies : Nat → Int32) (this_number : Int32) (this_m : Int32)  (out : Int32 × (Int32) × (Nat → Int32)) (hf : f_X8_gives_X3 N p1 p0_length p0_bodies this_number this_m = some out) : KM l G yX8_gives (kw yX8_gives cX8_gives 3 (some .int)) 4 87 [.ref a_this, .ref a_p0, .int p1] (k_X8_gives_X3 G a_p0 a_p0_bodies a_this p0_length p0_parted p0_bodies this_number this_m) (k_X8_gives_X3 G a_p0 a_p0_bodies a_this (out.2.1) p0_parted (out.2.2) this_number this_m) (some (.int (out.1))) := by
  refine KM.of (by decide) (Nat.le_of_ble_eq_true rfl) ?_
  intro p e s m below meth c A ls args Q Fx0 hP hK hD hA hS hAm hQ hl
  obtain ⟨hx, hb, hr, hml, hts, hown, hlk, hnm⟩ := Fx0
  have hown : s.vm.findClass RX8 = some m.cls := hown
  have hl : lv_has ls 3 [(0, .ref a_this), (1, .ref a_p0), (2, .int p1)] := hl
  have fl_13 := hts _ tw_176
  unfold f_X8_gives_X3 at hf
  refine lv_aload_n hx hb dX8_gives_0 rfl (lv_at hl 1 rfl) ?_
  refine lv_bipush (v := (12 : Int32)) hx hb dX8_gives_1 (by decide) ?_
  obtain ⟨r1, hr1, hf⟩ := kb hf
  refine kVN (As := [.int (12 : Int32)]) (rest := []) ⟨hx, hb, hml, hown, hts⟩ (c_X10_began l G N a_p0 a_p0_bodies (12 : Int32) p0_length p0_parted p0_bodies r1 hr1) ⟨kcN 1 hts hAm nw_X8_22 tw_837 tw_90 hd_X10_began ⟨Nat.le_of_ble_eq_true rfl, Nat.le_of_ble_eq_true rfl⟩, hts _ tw_836, hts _ tw_38⟩ dX8_gives_3 hl.1 hK hAm hA hP hD hS 0 (ci := 10) rfl rfl rfl [0, 1] rfl rfl rfl [0, 1] rfl rfl rfl (Nat.le_of_ble_eq_true rfl) ⟨Nat.le_refl _, Nat.le_refl _⟩ (fun H locs hP hD hS => ?_)
  have hP : va_P (gD G) vwCl (k_X8_gives_X3 G a_p0 a_p0_bodies a_this r1.1 p0_parted r1.2 this_number this_m) H := hP
  have hD : va_D A (k_X8_gives_X3 G a_p0 a_p0_bodies a_this r1.1 p0_parted r1.2 this_number this_m) := hD
  refine lv_aload_n hx hb dX8_gives_6 rfl (lv_at hl 0 rfl) ?_
  refine lv_aload_n hx hb dX8_gives_7 rfl (lv_at hl 1 rfl) ?_
  refine lv_iload_n hx hb dX8_gives_8 rfl (lv_at hl 2 rfl) ?_
  obtain ⟨r2, hr2, hf⟩ := kb hf
  refine kU (As := [.ref a_p0, .int p1]) (rest := []) ⟨hx, hb, hml, hown, hts⟩ (c_X8_comes_X3 l G N a_p0 a_p0_bodies a_this p1 r1.1 p0_parted r1.2 this_number this_m r2 hr2) (kcU (owner := RX8) (x := yX8_comes) 2 hts tw_873 tw_83 tw_895 tw_855 tw_853 tw_873 tw_858 tw_853 (by decide) hd_X8_comes.2.2 ⟨Nat.le_of_ble_eq_true rfl, Nat.le_of_ble_eq_true rfl⟩) dX8_gives_9 hl.1 hK hAm hA hP hD hS 2 (ci := 3) rfl rfl rfl [0, 1, 2] rfl rfl rfl [0, 1] rfl rfl rfl (Nat.le_of_ble_eq_true rfl) ⟨Nat.le_refl _, Nat.le_refl _⟩ (fun H locs hP hD hS => ?_)
  have hP : va_P (gD G) vwCl (k_X8_gives_X3 G a_p0 a_p0_bodies a_this r2.2.1 p0_parted r2.2.2 this_number this_m) H := hP
  have hD : va_D A (k_X8_gives_X3 G a_p0 a_p0_bodies a_this r2.2.1 p0_parted r2.2.2 this_number this_m) := hD
  refine lv_aload_n hx hb dX8_gives_12 rfl (lv_at hl 0 rfl) ?_
  refine va_get (D := gD G) (ci := 3) (C := RX3) (T := TX3) (N := 2) hx hb hts hin_X3 hown hK hP 2 rfl rfl 1 (by decide) fl_13 (fun _ h9 => h9) rfl dX8_gives_13 ?_
  refine lv_isub hx hb dX8_gives_16 ?_
  have ho := ks hf
  subst ho
  exact kiret hx hb hr hlk hP hD hS hQ dX8_gives_17
abbrev k_X8_gives_X6 (G : KG) (a_p0 : Nat) (a_p0_bodies : Nat) (a_this : Nat) (p0_length : Int32) (p0_parted : Int32) (p0_bodies : Nat → Int32) (this_number : Int32) (this_m : Int32) : va_W := [(a_p0, .inr (10, [.ref a_p0_bodies, .int p0_length, .int p0_parted])), (a_p0_bodies, .inl (gI G, 30, .inl p0_bodies)), (a_this, .inr (6, [.int this_number, .int this_m]))]
def f_X8_gives_X6 (N : Nat) (p1 : Int32) (p0_length : Int32) (p0_bodies : Nat → Int32) (this_number : Int32) (this_m : Int32) : Option (Int32 × (Int32) × (Nat → Int32)) := ((f_X10_began N (12 : Int32) p0_length p0_bodies).bind fun r1 => ((f_X6_comes N p1 r1.1 r1.2 this_number).bind fun r2 => (some ((r2.1 - this_m), r2.2.1, r2.2.2))))
set_option maxRecDepth 100000 in
set_option maxHeartbeats 4000000 in
theorem c_X8_gives_X6 (l : Launch) (G : KG) (N : Nat) (a_p0 : Nat) (a_p0_bodies : Nat) (a_this : Nat) (p1 : Int32) (p0_length : Int32) (p0_parted : Int32) (p0_bodies : Nat → Int32) (this_number : Int32) (this_m : Int32)  (out : Int32 × (Int32) × (Nat → Int32)) (hf : f_X8_gives_X6 N p1 p0_length p0_bodies this_number this_m = some out) : KM l G yX8_gives (kw yX8_gives cX8_gives 3 (some .int)) 4 87 [.ref a_this, .ref a_p0, .int p1] (k_X8_gives_X6 G a_p0 a_p0_bodies a_this p0_length p0_parted p0_bodies this_number this_m) (k_X8_gives_X6 G a_p0 a_p0_bodies a_this (out.2.1) p0_parted (out.2.2) this_number this_m) (some (.int (out.1))) := by
  refine KM.of (by decide) (Nat.le_of_ble_eq_true rfl) ?_
  intro p e s m below meth c A ls args Q Fx0 hP hK hD hA hS hAm hQ hl
  obtain ⟨hx, hb, hr, hml, hts, hown, hlk, hnm⟩ := Fx0
  have hown : s.vm.findClass RX8 = some m.cls := hown
  have hl : lv_has ls 3 [(0, .ref a_this), (1, .ref a_p0), (2, .int p1)] := hl
  have fl_13 := hts _ tw_176
  unfold f_X8_gives_X6 at hf
  refine lv_aload_n hx hb dX8_gives_0 rfl (lv_at hl 1 rfl) ?_
  refine lv_bipush (v := (12 : Int32)) hx hb dX8_gives_1 (by decide) ?_
  obtain ⟨r1, hr1, hf⟩ := kb hf
  refine kVN (As := [.int (12 : Int32)]) (rest := []) ⟨hx, hb, hml, hown, hts⟩ (c_X10_began l G N a_p0 a_p0_bodies (12 : Int32) p0_length p0_parted p0_bodies r1 hr1) ⟨kcN 1 hts hAm nw_X8_22 tw_837 tw_90 hd_X10_began ⟨Nat.le_of_ble_eq_true rfl, Nat.le_of_ble_eq_true rfl⟩, hts _ tw_836, hts _ tw_38⟩ dX8_gives_3 hl.1 hK hAm hA hP hD hS 0 (ci := 10) rfl rfl rfl [0, 1] rfl rfl rfl [0, 1] rfl rfl rfl (Nat.le_of_ble_eq_true rfl) ⟨Nat.le_refl _, Nat.le_refl _⟩ (fun H locs hP hD hS => ?_)
  have hP : va_P (gD G) vwCl (k_X8_gives_X6 G a_p0 a_p0_bodies a_this r1.1 p0_parted r1.2 this_number this_m) H := hP
  have hD : va_D A (k_X8_gives_X6 G a_p0 a_p0_bodies a_this r1.1 p0_parted r1.2 this_number this_m) := hD
  refine lv_aload_n hx hb dX8_gives_6 rfl (lv_at hl 0 rfl) ?_
  refine lv_aload_n hx hb dX8_gives_7 rfl (lv_at hl 1 rfl) ?_
  refine lv_iload_n hx hb dX8_gives_8 rfl (lv_at hl 2 rfl) ?_
  obtain ⟨r2, hr2, hf⟩ := kb hf
  refine kU (As := [.ref a_p0, .int p1]) (rest := []) ⟨hx, hb, hml, hown, hts⟩ (c_X6_comes l G N a_p0 a_p0_bodies a_this p1 r1.1 p0_parted r1.2 this_number this_m r2 hr2) (kcU (owner := RX8) (x := yX8_comes) 2 hts tw_865 tw_85 tw_895 tw_855 tw_853 tw_873 tw_868 tw_864 (by decide) hd_X6_comes.2.2 ⟨Nat.le_of_ble_eq_true rfl, Nat.le_of_ble_eq_true rfl⟩) dX8_gives_9 hl.1 hK hAm hA hP hD hS 2 (ci := 6) rfl rfl rfl [0, 1, 2] rfl rfl rfl [0, 1] rfl rfl rfl (Nat.le_of_ble_eq_true rfl) ⟨Nat.le_refl _, Nat.le_refl _⟩ (fun H locs hP hD hS => ?_)
  have hP : va_P (gD G) vwCl (k_X8_gives_X6 G a_p0 a_p0_bodies a_this r2.2.1 p0_parted r2.2.2 this_number this_m) H := hP
  have hD : va_D A (k_X8_gives_X6 G a_p0 a_p0_bodies a_this r2.2.1 p0_parted r2.2.2 this_number this_m) := hD
  refine lv_aload_n hx hb dX8_gives_12 rfl (lv_at hl 0 rfl) ?_
  refine va_get (D := gD G) (ci := 6) (C := RX6) (T := TX6) (N := 2) hx hb hts hin_X6 hown hK hP 2 rfl rfl 1 (by decide) fl_13 (fun _ h9 => h9) rfl dX8_gives_13 ?_
  refine lv_isub hx hb dX8_gives_16 ?_
  have ho := ks hf
  subst ho
  exact kiret hx hb hr hlk hP hD hS hQ dX8_gives_17
abbrev k_X6_isOf_X5 (G : KG) (a_this : Nat) (this_number : Int32) (this_m : Int32) : va_W := [(a_this, .inr (5, [.int this_number, .int this_m]))]
def f_X6_isOf_X5 (N : Nat) (p0 : Int32) : Option (Int32) := (if p0 = (2 : Int32) then (some (1 : Int32)) else ((f_X8_isOf_X5 N p0).bind fun r2 => (if r2 = 0 then (some (0 : Int32)) else (some (1 : Int32)))))
set_option maxRecDepth 100000 in
set_option maxHeartbeats 4000000 in
theorem c_X6_isOf_X5 (l : Launch) (G : KG) (N : Nat) (a_this : Nat) (p0 : Int32) (this_number : Int32) (this_m : Int32)  (out : Int32) (hf : f_X6_isOf_X5 N p0 = some out) : KM l G yX6_isOf (kw yX6_isOf cX6_isOf 2 (some .boolean)) 1 21 [.ref a_this, .int p0] (k_X6_isOf_X5 G a_this this_number this_m) (k_X6_isOf_X5 G a_this this_number this_m) (some (.int out)) := by
  refine KM.of (by decide) (Nat.le_of_ble_eq_true rfl) ?_
  intro p e s m below meth c A ls args Q Fx0 hP hK hD hA hS hAm hQ hl
  obtain ⟨hx, hb, hr, hml, hts, hown, hlk, hnm⟩ := Fx0
  have hown : s.vm.findClass RX6 = some m.cls := hown
  have hl : lv_has ls 2 [(0, .ref a_this), (1, .int p0)] := hl
  unfold f_X6_isOf_X5 at hf
  refine lv_iload_n hx hb dX6_isOf_0 rfl (lv_at hl 1 rfl) ?_
  refine lv_iconst (v := (2 : Int32)) hx hb dX6_isOf_1 (by decide) ?_
  refine lv_icmp_eq (tgt := 13) hx hb dX6_isOf_2 (by decide) (fun c1 => ?_) (fun c1 => ?_)
  · replace hf := kt c1 hf
    refine lv_iconst (v := (1 : Int32)) hx hb dX6_isOf_13 (by decide) ?_
    refine lv_goto (tgt := 18) hx hb dX6_isOf_14 (by decide) ?_
    have ho := ks hf
    subst ho
    exact kzret hx hb hr (Or.inr rfl) hlk hP hD hS hQ dX6_isOf_18
  · replace hf := kf c1 hf
    refine lv_aload_n hx hb dX6_isOf_5 rfl (lv_at hl 0 rfl) ?_
    refine lv_iload_n hx hb dX6_isOf_6 rfl (lv_at hl 1 rfl) ?_
    obtain ⟨r2, hr2, hf⟩ := kb hf
    refine kSU (As := [.int p0]) (rest := []) ⟨hx, hb, hml, hown, hts⟩ (c_X8_isOf_X5 l G N a_this p0 r2 hr2) (kcSU 1 hts tw_505 tw_83 tw_499 tw_480 tw_199 tw_478 (by decide) hd_X8_isOf ⟨Nat.le_of_ble_eq_true rfl, Nat.le_of_ble_eq_true rfl⟩) dX6_isOf_7 hl.1 hK hAm hA hP hD hS 0 (ci := 5) rfl rfl [] rfl rfl rfl [] rfl rfl rfl (Nat.le_of_ble_eq_true rfl) ⟨Nat.le_refl _, Nat.le_refl _⟩ (fun H locs hP hD hS => ?_)
    have hP : va_P (gD G) vwCl (k_X6_isOf_X5 G a_this this_number this_m) H := hP
    have hD : va_D A (k_X6_isOf_X5 G a_this this_number this_m) := hD
    refine lv_if_eq (tgt := 17) hx hb dX6_isOf_10 (by decide) (fun c3 => ?_) (fun c3 => ?_)
    · replace hf := kt c3 hf
      refine lv_iconst (v := (0 : Int32)) hx hb dX6_isOf_17 (by decide) ?_
      have ho := ks hf
      subst ho
      exact kzret hx hb hr (Or.inl rfl) hlk hP hD hS hQ dX6_isOf_18
    · replace hf := kf c3 hf
      refine lv_iconst (v := (1 : Int32)) hx hb dX6_isOf_13 (by decide) ?_
      refine lv_goto (tgt := 18) hx hb dX6_isOf_14 (by decide) ?_
      have ho := ks hf
      subst ho
      exact kzret hx hb hr (Or.inr rfl) hlk hP hD hS hQ dX6_isOf_18
abbrev k_X6_comes_X5 (G : KG) (a_p0 : Nat) (a_p0_bodies : Nat) (a_this : Nat) (p0_length : Int32) (p0_parted : Int32) (p0_bodies : Nat → Int32) (this_number : Int32) (this_m : Int32) : va_W := [(a_p0, .inr (10, [.ref a_p0_bodies, .int p0_length, .int p0_parted])), (a_p0_bodies, .inl (gI G, 30, .inl p0_bodies)), (a_this, .inr (5, [.int this_number, .int this_m]))]
def f_X6_comes_X5 (N : Nat) (p1 : Int32) (p0_length : Int32) (p0_bodies : Nat → Int32) (this_number : Int32) : Option (Int32 × (Int32) × (Nat → Int32)) := ((f_X10_began N (30 : Int32) p0_length p0_bodies).bind fun r1 => ((f_X8_comes_X5 N p1 r1.1 r1.2 this_number).bind fun r2 => (some (((0 : Int32) - r2.1), r2.2.1, r2.2.2))))
set_option maxRecDepth 100000 in
set_option maxHeartbeats 4000000 in
theorem c_X6_comes_X5 (l : Launch) (G : KG) (N : Nat) (a_p0 : Nat) (a_p0_bodies : Nat) (a_this : Nat) (p1 : Int32) (p0_length : Int32) (p0_parted : Int32) (p0_bodies : Nat → Int32) (this_number : Int32) (this_m : Int32)  (out : Int32 × (Int32) × (Nat → Int32)) (hf : f_X6_comes_X5 N p1 p0_length p0_bodies this_number = some out) : KM l G yX6_comes (kw yX6_comes cX6_comes 3 (some .int)) 3 65 [.ref a_this, .ref a_p0, .int p1] (k_X6_comes_X5 G a_p0 a_p0_bodies a_this p0_length p0_parted p0_bodies this_number this_m) (k_X6_comes_X5 G a_p0 a_p0_bodies a_this (out.2.1) p0_parted (out.2.2) this_number this_m) (some (.int (out.1))) := by
  refine KM.of (by decide) (Nat.le_of_ble_eq_true rfl) ?_
  intro p e s m below meth c A ls args Q Fx0 hP hK hD hA hS hAm hQ hl
  obtain ⟨hx, hb, hr, hml, hts, hown, hlk, hnm⟩ := Fx0
  have hown : s.vm.findClass RX6 = some m.cls := hown
  have hl : lv_has ls 3 [(0, .ref a_this), (1, .ref a_p0), (2, .int p1)] := hl
  unfold f_X6_comes_X5 at hf
  refine lv_aload_n hx hb dX6_comes_0 rfl (lv_at hl 1 rfl) ?_
  refine lv_bipush (v := (30 : Int32)) hx hb dX6_comes_1 (by decide) ?_
  obtain ⟨r1, hr1, hf⟩ := kb hf
  refine kVN (As := [.int (30 : Int32)]) (rest := []) ⟨hx, hb, hml, hown, hts⟩ (c_X10_began l G N a_p0 a_p0_bodies (30 : Int32) p0_length p0_parted p0_bodies r1 hr1) ⟨kcN 1 hts hAm nw_X6_17 tw_837 tw_90 hd_X10_began ⟨Nat.le_of_ble_eq_true rfl, Nat.le_of_ble_eq_true rfl⟩, hts _ tw_836, hts _ tw_38⟩ dX6_comes_3 hl.1 hK hAm hA hP hD hS 0 (ci := 10) rfl rfl rfl [0, 1] rfl rfl rfl [0, 1] rfl rfl rfl (Nat.le_of_ble_eq_true rfl) ⟨Nat.le_refl _, Nat.le_refl _⟩ (fun H locs hP hD hS => ?_)
  have hP : va_P (gD G) vwCl (k_X6_comes_X5 G a_p0 a_p0_bodies a_this r1.1 p0_parted r1.2 this_number this_m) H := hP
  have hD : va_D A (k_X6_comes_X5 G a_p0 a_p0_bodies a_this r1.1 p0_parted r1.2 this_number this_m) := hD
  refine lv_iconst (v := (0 : Int32)) hx hb dX6_comes_6 (by decide) ?_
  refine lv_aload_n hx hb dX6_comes_7 rfl (lv_at hl 0 rfl) ?_
  refine lv_aload_n hx hb dX6_comes_8 rfl (lv_at hl 1 rfl) ?_
  refine lv_iload_n hx hb dX6_comes_9 rfl (lv_at hl 2 rfl) ?_
  obtain ⟨r2, hr2, hf⟩ := kb hf
  refine kSU (As := [.ref a_p0, .int p1]) (rest := [.int (0 : Int32)]) ⟨hx, hb, hml, hown, hts⟩ (c_X8_comes_X5 l G N a_p0 a_p0_bodies a_this p1 r1.1 p0_parted r1.2 this_number this_m r2 hr2) (kcSU 2 hts tw_873 tw_83 tw_867 tw_855 tw_199 tw_853 (by decide) hd_X8_comes ⟨Nat.le_of_ble_eq_true rfl, Nat.le_of_ble_eq_true rfl⟩) dX6_comes_10 hl.1 hK hAm hA hP hD hS 2 (ci := 5) rfl rfl [0, 1, 2] rfl rfl rfl [0, 1] rfl rfl rfl (Nat.le_of_ble_eq_true rfl) ⟨Nat.le_refl _, Nat.le_refl _⟩ (fun H locs hP hD hS => ?_)
  have hP : va_P (gD G) vwCl (k_X6_comes_X5 G a_p0 a_p0_bodies a_this r2.2.1 p0_parted r2.2.2 this_number this_m) H := hP
  have hD : va_D A (k_X6_comes_X5 G a_p0 a_p0_bodies a_this r2.2.1 p0_parted r2.2.2 this_number this_m) := hD
  refine lv_isub hx hb dX6_comes_13 ?_
  have ho := ks hf
  subst ho
  exact kiret hx hb hr hlk hP hD hS hQ dX6_comes_14
abbrev k_X3_isOf_X2 (G : KG) (a_this : Nat) (this_number : Int32) (this_m : Int32) : va_W := [(a_this, .inr (2, [.int this_number, .int this_m]))]
def f_X3_isOf_X2 (N : Nat) (p0 : Int32) : Option (Int32) := (if p0 = (1 : Int32) then (some (1 : Int32)) else ((f_X8_isOf_X2 N p0).bind fun r2 => (if r2 = 0 then (some (0 : Int32)) else (some (1 : Int32)))))
set_option maxRecDepth 100000 in
set_option maxHeartbeats 4000000 in
theorem c_X3_isOf_X2 (l : Launch) (G : KG) (N : Nat) (a_this : Nat) (p0 : Int32) (this_number : Int32) (this_m : Int32)  (out : Int32) (hf : f_X3_isOf_X2 N p0 = some out) : KM l G yX3_isOf (kw yX3_isOf cX3_isOf 2 (some .boolean)) 1 21 [.ref a_this, .int p0] (k_X3_isOf_X2 G a_this this_number this_m) (k_X3_isOf_X2 G a_this this_number this_m) (some (.int out)) := by
  refine KM.of (by decide) (Nat.le_of_ble_eq_true rfl) ?_
  intro p e s m below meth c A ls args Q Fx0 hP hK hD hA hS hAm hQ hl
  obtain ⟨hx, hb, hr, hml, hts, hown, hlk, hnm⟩ := Fx0
  have hown : s.vm.findClass RX3 = some m.cls := hown
  have hl : lv_has ls 2 [(0, .ref a_this), (1, .int p0)] := hl
  unfold f_X3_isOf_X2 at hf
  refine lv_iload_n hx hb dX3_isOf_0 rfl (lv_at hl 1 rfl) ?_
  refine lv_iconst (v := (1 : Int32)) hx hb dX3_isOf_1 (by decide) ?_
  refine lv_icmp_eq (tgt := 13) hx hb dX3_isOf_2 (by decide) (fun c1 => ?_) (fun c1 => ?_)
  · replace hf := kt c1 hf
    refine lv_iconst (v := (1 : Int32)) hx hb dX3_isOf_13 (by decide) ?_
    refine lv_goto (tgt := 18) hx hb dX3_isOf_14 (by decide) ?_
    have ho := ks hf
    subst ho
    exact kzret hx hb hr (Or.inr rfl) hlk hP hD hS hQ dX3_isOf_18
  · replace hf := kf c1 hf
    refine lv_aload_n hx hb dX3_isOf_5 rfl (lv_at hl 0 rfl) ?_
    refine lv_iload_n hx hb dX3_isOf_6 rfl (lv_at hl 1 rfl) ?_
    obtain ⟨r2, hr2, hf⟩ := kb hf
    refine kSU (As := [.int p0]) (rest := []) ⟨hx, hb, hml, hown, hts⟩ (c_X8_isOf_X2 l G N a_this p0 r2 hr2) (kcSU 1 hts tw_505 tw_83 tw_491 tw_480 tw_190 tw_478 (by decide) hd_X8_isOf ⟨Nat.le_of_ble_eq_true rfl, Nat.le_of_ble_eq_true rfl⟩) dX3_isOf_7 hl.1 hK hAm hA hP hD hS 0 (ci := 2) rfl rfl [] rfl rfl rfl [] rfl rfl rfl (Nat.le_of_ble_eq_true rfl) ⟨Nat.le_refl _, Nat.le_refl _⟩ (fun H locs hP hD hS => ?_)
    have hP : va_P (gD G) vwCl (k_X3_isOf_X2 G a_this this_number this_m) H := hP
    have hD : va_D A (k_X3_isOf_X2 G a_this this_number this_m) := hD
    refine lv_if_eq (tgt := 17) hx hb dX3_isOf_10 (by decide) (fun c3 => ?_) (fun c3 => ?_)
    · replace hf := kt c3 hf
      refine lv_iconst (v := (0 : Int32)) hx hb dX3_isOf_17 (by decide) ?_
      have ho := ks hf
      subst ho
      exact kzret hx hb hr (Or.inl rfl) hlk hP hD hS hQ dX3_isOf_18
    · replace hf := kf c3 hf
      refine lv_iconst (v := (1 : Int32)) hx hb dX3_isOf_13 (by decide) ?_
      refine lv_goto (tgt := 18) hx hb dX3_isOf_14 (by decide) ?_
      have ho := ks hf
      subst ho
      exact kzret hx hb hr (Or.inr rfl) hlk hP hD hS hQ dX3_isOf_18
abbrev k_X3_adds_X2 (G : KG) (a_p0 : Nat) (a_p0_bodies : Nat) (a_this : Nat) (p0_length : Int32) (p0_parted : Int32) (p0_bodies : Nat → Int32) (this_number : Int32) (this_m : Int32) : va_W := [(a_p0, .inr (10, [.ref a_p0_bodies, .int p0_length, .int p0_parted])), (a_p0_bodies, .inl (gI G, 30, .inl p0_bodies)), (a_this, .inr (2, [.int this_number, .int this_m]))]
def f_X3_adds_X2 (N : Nat) (p1 : Int32) (p0_length : Int32) (p0_bodies : Nat → Int32) (this_number : Int32) : Option (Int32 × (Int32) × (Nat → Int32)) := ((f_X10_began N (20 : Int32) p0_length p0_bodies).bind fun r1 => ((f_X8_adds_X2 N p1 r1.1 r1.2 this_number).bind fun r2 => (some ((r2.1 - (9 : Int32)), r2.2.1, r2.2.2))))
set_option maxRecDepth 100000 in
set_option maxHeartbeats 4000000 in
theorem c_X3_adds_X2 (l : Launch) (G : KG) (N : Nat) (a_p0 : Nat) (a_p0_bodies : Nat) (a_this : Nat) (p1 : Int32) (p0_length : Int32) (p0_parted : Int32) (p0_bodies : Nat → Int32) (this_number : Int32) (this_m : Int32)  (out : Int32 × (Int32) × (Nat → Int32)) (hf : f_X3_adds_X2 N p1 p0_length p0_bodies this_number = some out) : KM l G yX3_adds (kw yX3_adds cX3_adds 3 (some .int)) 2 43 [.ref a_this, .ref a_p0, .int p1] (k_X3_adds_X2 G a_p0 a_p0_bodies a_this p0_length p0_parted p0_bodies this_number this_m) (k_X3_adds_X2 G a_p0 a_p0_bodies a_this (out.2.1) p0_parted (out.2.2) this_number this_m) (some (.int (out.1))) := by
  refine KM.of (by decide) (Nat.le_of_ble_eq_true rfl) ?_
  intro p e s m below meth c A ls args Q Fx0 hP hK hD hA hS hAm hQ hl
  obtain ⟨hx, hb, hr, hml, hts, hown, hlk, hnm⟩ := Fx0
  have hown : s.vm.findClass RX3 = some m.cls := hown
  have hl : lv_has ls 3 [(0, .ref a_this), (1, .ref a_p0), (2, .int p1)] := hl
  unfold f_X3_adds_X2 at hf
  refine lv_aload_n hx hb dX3_adds_0 rfl (lv_at hl 1 rfl) ?_
  refine lv_bipush (v := (20 : Int32)) hx hb dX3_adds_1 (by decide) ?_
  obtain ⟨r1, hr1, hf⟩ := kb hf
  refine kVN (As := [.int (20 : Int32)]) (rest := []) ⟨hx, hb, hml, hown, hts⟩ (c_X10_began l G N a_p0 a_p0_bodies (20 : Int32) p0_length p0_parted p0_bodies r1 hr1) ⟨kcN 1 hts hAm nw_X3_11 tw_837 tw_90 hd_X10_began ⟨Nat.le_of_ble_eq_true rfl, Nat.le_of_ble_eq_true rfl⟩, hts _ tw_836, hts _ tw_38⟩ dX3_adds_3 hl.1 hK hAm hA hP hD hS 0 (ci := 10) rfl rfl rfl [0, 1] rfl rfl rfl [0, 1] rfl rfl rfl (Nat.le_of_ble_eq_true rfl) ⟨Nat.le_refl _, Nat.le_refl _⟩ (fun H locs hP hD hS => ?_)
  have hP : va_P (gD G) vwCl (k_X3_adds_X2 G a_p0 a_p0_bodies a_this r1.1 p0_parted r1.2 this_number this_m) H := hP
  have hD : va_D A (k_X3_adds_X2 G a_p0 a_p0_bodies a_this r1.1 p0_parted r1.2 this_number this_m) := hD
  refine lv_aload_n hx hb dX3_adds_6 rfl (lv_at hl 0 rfl) ?_
  refine lv_aload_n hx hb dX3_adds_7 rfl (lv_at hl 1 rfl) ?_
  refine lv_iload_n hx hb dX3_adds_8 rfl (lv_at hl 2 rfl) ?_
  obtain ⟨r2, hr2, hf⟩ := kb hf
  refine kSU (As := [.ref a_p0, .int p1]) (rest := []) ⟨hx, hb, hml, hown, hts⟩ (c_X8_adds_X2 l G N a_p0 a_p0_bodies a_this p1 r1.1 p0_parted r1.2 this_number this_m r2 hr2) (kcSU 2 hts tw_850 tw_83 tw_842 tw_829 tw_190 tw_827 (by decide) hd_X8_adds ⟨Nat.le_of_ble_eq_true rfl, Nat.le_of_ble_eq_true rfl⟩) dX3_adds_9 hl.1 hK hAm hA hP hD hS 2 (ci := 2) rfl rfl [0, 1, 2] rfl rfl rfl [0, 1] rfl rfl rfl (Nat.le_of_ble_eq_true rfl) ⟨Nat.le_refl _, Nat.le_refl _⟩ (fun H locs hP hD hS => ?_)
  have hP : va_P (gD G) vwCl (k_X3_adds_X2 G a_p0 a_p0_bodies a_this r2.2.1 p0_parted r2.2.2 this_number this_m) H := hP
  have hD : va_D A (k_X3_adds_X2 G a_p0 a_p0_bodies a_this r2.2.1 p0_parted r2.2.2 this_number this_m) := hD
  refine lv_bipush (v := (9 : Int32)) hx hb dX3_adds_12 (by decide) ?_
  refine lv_isub hx hb dX3_adds_14 ?_
  have ho := ks hf
  subst ho
  exact kiret hx hb hr hlk hP hD hS hQ dX3_adds_15
abbrev k_X8_comes_X9 (G : KG) (a_p0 : Nat) (a_p0_bodies : Nat) (a_this : Nat) (p0_length : Int32) (p0_parted : Int32) (p0_bodies : Nat → Int32) (this_number : Int32) (this_m : Int32) : va_W := [(a_p0, .inr (10, [.ref a_p0_bodies, .int p0_length, .int p0_parted])), (a_p0_bodies, .inl (gI G, 30, .inl p0_bodies)), (a_this, .inr (9, [.int this_number, .int this_m]))]
def f_X8_comes_X9 (N : Nat) (p1 : Int32) (p0_length : Int32) (p0_bodies : Nat → Int32) : Option (Int32 × (Int32) × (Nat → Int32)) := ((f_X10_began N (11 : Int32) p0_length p0_bodies).bind fun r1 => ((f_X9_adds N p1 r1.1 r1.2).bind fun r2 => (some ((r2.1 * (2 : Int32)), r2.2.1, r2.2.2))))
set_option maxRecDepth 100000 in
set_option maxHeartbeats 4000000 in
theorem c_X8_comes_X9 (l : Launch) (G : KG) (N : Nat) (a_p0 : Nat) (a_p0_bodies : Nat) (a_this : Nat) (p1 : Int32) (p0_length : Int32) (p0_parted : Int32) (p0_bodies : Nat → Int32) (this_number : Int32) (this_m : Int32)  (out : Int32 × (Int32) × (Nat → Int32)) (hf : f_X8_comes_X9 N p1 p0_length p0_bodies = some out) : KM l G yX8_comes (kw yX8_comes cX8_comes 3 (some .int)) 2 43 [.ref a_this, .ref a_p0, .int p1] (k_X8_comes_X9 G a_p0 a_p0_bodies a_this p0_length p0_parted p0_bodies this_number this_m) (k_X8_comes_X9 G a_p0 a_p0_bodies a_this (out.2.1) p0_parted (out.2.2) this_number this_m) (some (.int (out.1))) := by
  refine KM.of (by decide) (Nat.le_of_ble_eq_true rfl) ?_
  intro p e s m below meth c A ls args Q Fx0 hP hK hD hA hS hAm hQ hl
  obtain ⟨hx, hb, hr, hml, hts, hown, hlk, hnm⟩ := Fx0
  have hown : s.vm.findClass RX8 = some m.cls := hown
  have hl : lv_has ls 3 [(0, .ref a_this), (1, .ref a_p0), (2, .int p1)] := hl
  unfold f_X8_comes_X9 at hf
  refine lv_aload_n hx hb dX8_comes_0 rfl (lv_at hl 1 rfl) ?_
  refine lv_bipush (v := (11 : Int32)) hx hb dX8_comes_1 (by decide) ?_
  obtain ⟨r1, hr1, hf⟩ := kb hf
  refine kVN (As := [.int (11 : Int32)]) (rest := []) ⟨hx, hb, hml, hown, hts⟩ (c_X10_began l G N a_p0 a_p0_bodies (11 : Int32) p0_length p0_parted p0_bodies r1 hr1) ⟨kcN 1 hts hAm nw_X8_22 tw_837 tw_90 hd_X10_began ⟨Nat.le_of_ble_eq_true rfl, Nat.le_of_ble_eq_true rfl⟩, hts _ tw_836, hts _ tw_38⟩ dX8_comes_3 hl.1 hK hAm hA hP hD hS 0 (ci := 10) rfl rfl rfl [0, 1] rfl rfl rfl [0, 1] rfl rfl rfl (Nat.le_of_ble_eq_true rfl) ⟨Nat.le_refl _, Nat.le_refl _⟩ (fun H locs hP hD hS => ?_)
  have hP : va_P (gD G) vwCl (k_X8_comes_X9 G a_p0 a_p0_bodies a_this r1.1 p0_parted r1.2 this_number this_m) H := hP
  have hD : va_D A (k_X8_comes_X9 G a_p0 a_p0_bodies a_this r1.1 p0_parted r1.2 this_number this_m) := hD
  refine lv_aload_n hx hb dX8_comes_6 rfl (lv_at hl 0 rfl) ?_
  refine lv_aload_n hx hb dX8_comes_7 rfl (lv_at hl 1 rfl) ?_
  refine lv_iload_n hx hb dX8_comes_8 rfl (lv_at hl 2 rfl) ?_
  obtain ⟨r2, hr2, hf⟩ := kb hf
  refine kU (As := [.ref a_p0, .int p1]) (rest := []) ⟨hx, hb, hml, hown, hts⟩ (c_X9_adds l G N a_this a_p0 a_p0_bodies p1 r1.1 p0_parted r1.2 r2 hr2) (kcU (owner := RX8) (x := yX8_adds) 2 hts tw_848 tw_89 tw_874 tw_829 tw_827 tw_850 tw_846 tw_847 (by decide) hd_X9_adds.2.2 ⟨Nat.le_of_ble_eq_true rfl, Nat.le_of_ble_eq_true rfl⟩) dX8_comes_9 hl.1 hK hAm hA hP hD hS 2 (ci := 9) rfl rfl rfl [0, 1] rfl rfl rfl [0, 1] rfl rfl rfl (Nat.le_of_ble_eq_true rfl) ⟨Nat.le_refl _, Nat.le_refl _⟩ (fun H locs hP hD hS => ?_)
  have hP : va_P (gD G) vwCl (k_X8_comes_X9 G a_p0 a_p0_bodies a_this r2.2.1 p0_parted r2.2.2 this_number this_m) H := hP
  have hD : va_D A (k_X8_comes_X9 G a_p0 a_p0_bodies a_this r2.2.1 p0_parted r2.2.2 this_number this_m) := hD
  refine lv_iconst (v := (2 : Int32)) hx hb dX8_comes_12 (by decide) ?_
  refine lv_imul hx hb dX8_comes_13 ?_
  have ho := ks hf
  subst ho
  exact kiret hx hb hr hlk hP hD hS hQ dX8_comes_14
abbrev k_X2_isOf (G : KG) (a_this : Nat) (this_number : Int32) (this_m : Int32) : va_W := [(a_this, .inr (2, [.int this_number, .int this_m]))]
def f_X2_isOf (N : Nat) (p0 : Int32) : Option (Int32) := (if p0 = (5 : Int32) then (some (1 : Int32)) else ((f_X3_isOf_X2 N p0).bind fun r2 => (if r2 = 0 then (some (0 : Int32)) else (some (1 : Int32)))))
set_option maxRecDepth 100000 in
set_option maxHeartbeats 4000000 in
theorem c_X2_isOf (l : Launch) (G : KG) (N : Nat) (a_this : Nat) (p0 : Int32) (this_number : Int32) (this_m : Int32)  (out : Int32) (hf : f_X2_isOf N p0 = some out) : KM l G yX2_isOf (kw yX2_isOf cX2_isOf 2 (some .boolean)) 2 42 [.ref a_this, .int p0] (k_X2_isOf G a_this this_number this_m) (k_X2_isOf G a_this this_number this_m) (some (.int out)) := by
  refine KM.of (by decide) (Nat.le_of_ble_eq_true rfl) ?_
  intro p e s m below meth c A ls args Q Fx0 hP hK hD hA hS hAm hQ hl
  obtain ⟨hx, hb, hr, hml, hts, hown, hlk, hnm⟩ := Fx0
  have hown : s.vm.findClass RX2 = some m.cls := hown
  have hl : lv_has ls 2 [(0, .ref a_this), (1, .int p0)] := hl
  unfold f_X2_isOf at hf
  refine lv_iload_n hx hb dX2_isOf_0 rfl (lv_at hl 1 rfl) ?_
  refine lv_iconst (v := (5 : Int32)) hx hb dX2_isOf_1 (by decide) ?_
  refine lv_icmp_eq (tgt := 13) hx hb dX2_isOf_2 (by decide) (fun c1 => ?_) (fun c1 => ?_)
  · replace hf := kt c1 hf
    refine lv_iconst (v := (1 : Int32)) hx hb dX2_isOf_13 (by decide) ?_
    refine lv_goto (tgt := 18) hx hb dX2_isOf_14 (by decide) ?_
    have ho := ks hf
    subst ho
    exact kzret hx hb hr (Or.inr rfl) hlk hP hD hS hQ dX2_isOf_18
  · replace hf := kf c1 hf
    refine lv_aload_n hx hb dX2_isOf_5 rfl (lv_at hl 0 rfl) ?_
    refine lv_iload_n hx hb dX2_isOf_6 rfl (lv_at hl 1 rfl) ?_
    obtain ⟨r2, hr2, hf⟩ := kb hf
    refine kSU (As := [.int p0]) (rest := []) ⟨hx, hb, hml, hown, hts⟩ (c_X3_isOf_X2 l G N a_this p0 this_number this_m r2 hr2) (kcSU 1 hts tw_490 tw_84 tw_488 tw_1406 tw_226 tw_489 (by decide) hd_X3_isOf ⟨Nat.le_of_ble_eq_true rfl, Nat.le_of_ble_eq_true rfl⟩) dX2_isOf_7 hl.1 hK hAm hA hP hD hS 0 (ci := 2) rfl rfl [0] rfl rfl rfl [] rfl rfl rfl (Nat.le_of_ble_eq_true rfl) ⟨Nat.le_refl _, Nat.le_refl _⟩ (fun H locs hP hD hS => ?_)
    have hP : va_P (gD G) vwCl (k_X2_isOf G a_this this_number this_m) H := hP
    have hD : va_D A (k_X2_isOf G a_this this_number this_m) := hD
    refine lv_if_eq (tgt := 17) hx hb dX2_isOf_10 (by decide) (fun c3 => ?_) (fun c3 => ?_)
    · replace hf := kt c3 hf
      refine lv_iconst (v := (0 : Int32)) hx hb dX2_isOf_17 (by decide) ?_
      have ho := ks hf
      subst ho
      exact kzret hx hb hr (Or.inl rfl) hlk hP hD hS hQ dX2_isOf_18
    · replace hf := kf c3 hf
      refine lv_iconst (v := (1 : Int32)) hx hb dX2_isOf_13 (by decide) ?_
      refine lv_goto (tgt := 18) hx hb dX2_isOf_14 (by decide) ?_
      have ho := ks hf
      subst ho
      exact kzret hx hb hr (Or.inr rfl) hlk hP hD hS hQ dX2_isOf_18
abbrev k_X2_adds (G : KG) (a_p0 : Nat) (a_p0_bodies : Nat) (a_this : Nat) (p0_length : Int32) (p0_parted : Int32) (p0_bodies : Nat → Int32) (this_number : Int32) (this_m : Int32) : va_W := [(a_p0, .inr (10, [.ref a_p0_bodies, .int p0_length, .int p0_parted])), (a_p0_bodies, .inl (gI G, 30, .inl p0_bodies)), (a_this, .inr (2, [.int this_number, .int this_m]))]
def f_X2_adds (N : Nat) (p1 : Int32) (p0_length : Int32) (p0_bodies : Nat → Int32) (this_number : Int32) : Option (Int32 × (Int32) × (Nat → Int32)) := ((f_X10_began N (50 : Int32) p0_length p0_bodies).bind fun r1 => ((f_X3_adds_X2 N p1 r1.1 r1.2 this_number).bind fun r2 => (some ((r2.1 * (3 : Int32)), r2.2.1, r2.2.2))))
set_option maxRecDepth 100000 in
set_option maxHeartbeats 4000000 in
theorem c_X2_adds (l : Launch) (G : KG) (N : Nat) (a_p0 : Nat) (a_p0_bodies : Nat) (a_this : Nat) (p1 : Int32) (p0_length : Int32) (p0_parted : Int32) (p0_bodies : Nat → Int32) (this_number : Int32) (this_m : Int32)  (out : Int32 × (Int32) × (Nat → Int32)) (hf : f_X2_adds N p1 p0_length p0_bodies this_number = some out) : KM l G yX2_adds (kw yX2_adds cX2_adds 3 (some .int)) 3 65 [.ref a_this, .ref a_p0, .int p1] (k_X2_adds G a_p0 a_p0_bodies a_this p0_length p0_parted p0_bodies this_number this_m) (k_X2_adds G a_p0 a_p0_bodies a_this (out.2.1) p0_parted (out.2.2) this_number this_m) (some (.int (out.1))) := by
  refine KM.of (by decide) (Nat.le_of_ble_eq_true rfl) ?_
  intro p e s m below meth c A ls args Q Fx0 hP hK hD hA hS hAm hQ hl
  obtain ⟨hx, hb, hr, hml, hts, hown, hlk, hnm⟩ := Fx0
  have hown : s.vm.findClass RX2 = some m.cls := hown
  have hl : lv_has ls 3 [(0, .ref a_this), (1, .ref a_p0), (2, .int p1)] := hl
  unfold f_X2_adds at hf
  refine lv_aload_n hx hb dX2_adds_0 rfl (lv_at hl 1 rfl) ?_
  refine lv_bipush (v := (50 : Int32)) hx hb dX2_adds_1 (by decide) ?_
  obtain ⟨r1, hr1, hf⟩ := kb hf
  refine kVN (As := [.int (50 : Int32)]) (rest := []) ⟨hx, hb, hml, hown, hts⟩ (c_X10_began l G N a_p0 a_p0_bodies (50 : Int32) p0_length p0_parted p0_bodies r1 hr1) ⟨kcN 1 hts hAm nw_X2_27 tw_837 tw_90 hd_X10_began ⟨Nat.le_of_ble_eq_true rfl, Nat.le_of_ble_eq_true rfl⟩, hts _ tw_836, hts _ tw_38⟩ dX2_adds_3 hl.1 hK hAm hA hP hD hS 0 (ci := 10) rfl rfl rfl [0, 1] rfl rfl rfl [0, 1] rfl rfl rfl (Nat.le_of_ble_eq_true rfl) ⟨Nat.le_refl _, Nat.le_refl _⟩ (fun H locs hP hD hS => ?_)
  have hP : va_P (gD G) vwCl (k_X2_adds G a_p0 a_p0_bodies a_this r1.1 p0_parted r1.2 this_number this_m) H := hP
  have hD : va_D A (k_X2_adds G a_p0 a_p0_bodies a_this r1.1 p0_parted r1.2 this_number this_m) := hD
  refine lv_aload_n hx hb dX2_adds_6 rfl (lv_at hl 0 rfl) ?_
  refine lv_aload_n hx hb dX2_adds_7 rfl (lv_at hl 1 rfl) ?_
  refine lv_iload_n hx hb dX2_adds_8 rfl (lv_at hl 2 rfl) ?_
  obtain ⟨r2, hr2, hf⟩ := kb hf
  refine kSU (As := [.ref a_p0, .int p1]) (rest := []) ⟨hx, hb, hml, hown, hts⟩ (c_X3_adds_X2 l G N a_p0 a_p0_bodies a_this p1 r1.1 p0_parted r1.2 this_number this_m r2 hr2) (kcSU 2 hts tw_840 tw_84 tw_838 tw_1409 tw_226 tw_839 (by decide) hd_X3_adds ⟨Nat.le_of_ble_eq_true rfl, Nat.le_of_ble_eq_true rfl⟩) dX2_adds_9 hl.1 hK hAm hA hP hD hS 2 (ci := 2) rfl rfl [0, 1, 2] rfl rfl rfl [0, 1] rfl rfl rfl (Nat.le_of_ble_eq_true rfl) ⟨Nat.le_refl _, Nat.le_refl _⟩ (fun H locs hP hD hS => ?_)
  have hP : va_P (gD G) vwCl (k_X2_adds G a_p0 a_p0_bodies a_this r2.2.1 p0_parted r2.2.2 this_number this_m) H := hP
  have hD : va_D A (k_X2_adds G a_p0 a_p0_bodies a_this r2.2.1 p0_parted r2.2.2 this_number this_m) := hD
  refine lv_iconst (v := (3 : Int32)) hx hb dX2_adds_12 (by decide) ?_
  refine lv_imul hx hb dX2_adds_13 ?_
  have ho := ks hf
  subst ho
  exact kiret hx hb hr hlk hP hD hS hQ dX2_adds_14
abbrev k_X3_parts (G : KG) (a_p0 : Nat) (a_p0_bodies : Nat) (a_this : Nat) (p0_length : Int32) (p0_parted : Int32) (p0_bodies : Nat → Int32) (this_number : Int32) (this_m : Int32) : va_W := [(a_p0, .inr (10, [.ref a_p0_bodies, .int p0_length, .int p0_parted])), (a_p0_bodies, .inl (gI G, 30, .inl p0_bodies)), (a_this, .inr (3, [.int this_number, .int this_m]))]
def f_X3_parts (N : Nat) (p1 : Int32) (p0_length : Int32) (p0_parted : Int32) (p0_bodies : Nat → Int32) (this_number : Int32) (this_m : Int32) : Option (Int32 × (Int32) × (Int32) × (Nat → Int32)) := ((f_X10_began N (21 : Int32) p0_length p0_bodies).bind fun r1 => ((f_X8_parts_X3 N p1 r1.1 p0_parted r1.2 this_number this_m).bind fun r2 => (if r2.2.2.1 = 0 then ((f_X8_comes_X3 N (1 : Int32) r2.2.1 r2.2.2.2 this_number).bind fun r4 => (some ((r2.1 + r4.1), r4.2.1, r2.2.2.1, r4.2.2))) else (some ((0 : Int32), r2.2.1, r2.2.2.1, r2.2.2.2)))))
set_option maxRecDepth 100000 in
set_option maxHeartbeats 4000000 in
theorem c_X3_parts (l : Launch) (G : KG) (N : Nat) (a_p0 : Nat) (a_p0_bodies : Nat) (a_this : Nat) (p1 : Int32) (p0_length : Int32) (p0_parted : Int32) (p0_bodies : Nat → Int32) (this_number : Int32) (this_m : Int32)  (out : Int32 × (Int32) × (Int32) × (Nat → Int32)) (hf : f_X3_parts N p1 p0_length p0_parted p0_bodies this_number this_m = some out) : KM l G yX3_parts (kw yX3_parts cX3_parts 4 (some .int)) 4 87 [.ref a_this, .ref a_p0, .int p1] (k_X3_parts G a_p0 a_p0_bodies a_this p0_length p0_parted p0_bodies this_number this_m) (k_X3_parts G a_p0 a_p0_bodies a_this (out.2.1) (out.2.2.1) (out.2.2.2) this_number this_m) (some (.int (out.1))) := by
  refine KM.of (by decide) (Nat.le_of_ble_eq_true rfl) ?_
  intro p e s m below meth c A ls args Q Fx0 hP hK hD hA hS hAm hQ hl
  obtain ⟨hx, hb, hr, hml, hts, hown, hlk, hnm⟩ := Fx0
  have hown : s.vm.findClass RX3 = some m.cls := hown
  have hl : lv_has ls 4 [(0, .ref a_this), (1, .ref a_p0), (2, .int p1)] := hl
  have fl_24 := va_Nw.use (A := args) rfl (hAm.1 _ nw_X3_24 rfl)
  unfold f_X3_parts at hf
  refine lv_aload_n hx hb dX3_parts_0 rfl (lv_at hl 1 rfl) ?_
  refine lv_bipush (v := (21 : Int32)) hx hb dX3_parts_1 (by decide) ?_
  obtain ⟨r1, hr1, hf⟩ := kb hf
  refine kVN (As := [.int (21 : Int32)]) (rest := []) ⟨hx, hb, hml, hown, hts⟩ (c_X10_began l G N a_p0 a_p0_bodies (21 : Int32) p0_length p0_parted p0_bodies r1 hr1) ⟨kcN 1 hts hAm nw_X3_11 tw_837 tw_90 hd_X10_began ⟨Nat.le_of_ble_eq_true rfl, Nat.le_of_ble_eq_true rfl⟩, hts _ tw_836, hts _ tw_38⟩ dX3_parts_3 hl.1 hK hAm hA hP hD hS 0 (ci := 10) rfl rfl rfl [0, 1] rfl rfl rfl [0, 1] rfl rfl rfl (Nat.le_of_ble_eq_true rfl) ⟨Nat.le_refl _, Nat.le_refl _⟩ (fun H locs hP hD hS => ?_)
  have hP : va_P (gD G) vwCl (k_X3_parts G a_p0 a_p0_bodies a_this r1.1 p0_parted r1.2 this_number this_m) H := hP
  have hD : va_D A (k_X3_parts G a_p0 a_p0_bodies a_this r1.1 p0_parted r1.2 this_number this_m) := hD
  refine lv_aload_n hx hb dX3_parts_6 rfl (lv_at hl 0 rfl) ?_
  refine lv_aload_n hx hb dX3_parts_7 rfl (lv_at hl 1 rfl) ?_
  refine lv_iload_n hx hb dX3_parts_8 rfl (lv_at hl 2 rfl) ?_
  obtain ⟨r2, hr2, hf⟩ := kb hf
  refine kSU (As := [.ref a_p0, .int p1]) (rest := []) ⟨hx, hb, hml, hown, hts⟩ (c_X8_parts_X3 l G N a_p0 a_p0_bodies a_this p1 r1.1 p0_parted r1.2 this_number this_m r2 hr2) (kcSU 2 hts tw_914 tw_83 tw_904 tw_899 tw_190 tw_897 (by decide) hd_X8_parts ⟨Nat.le_of_ble_eq_true rfl, Nat.le_of_ble_eq_true rfl⟩) dX3_parts_9 hl.1 hK hAm hA hP hD hS 2 (ci := 3) rfl rfl [0, 1, 2] rfl rfl rfl [0, 1] rfl rfl rfl (Nat.le_of_ble_eq_true rfl) ⟨Nat.le_refl _, Nat.le_refl _⟩ (fun H locs hP hD hS => ?_)
  have hP : va_P (gD G) vwCl (k_X3_parts G a_p0 a_p0_bodies a_this r2.2.1 r2.2.2.1 r2.2.2.2 this_number this_m) H := hP
  have hD : va_D A (k_X3_parts G a_p0 a_p0_bodies a_this r2.2.1 r2.2.2.1 r2.2.2.2 this_number this_m) := hD
  refine lv_istore_n (lv' := [(3, .int r2.1), (0, .ref a_this), (1, .ref a_p0), (2, .int p1)]) hx hb dX3_parts_12 rfl hl (by decide) rfl (fun ls hl => ?_)
  refine lv_aload_n hx hb dX3_parts_13 rfl (lv_at hl 2 rfl) ?_
  refine va_getN (D := gD G) (ci := 10) (C := RX10) (T := TX10) (N := 3) hx hb hts hin_X10 hown hK hP 0 rfl rfl 2 (by decide) fl_24 (fun _ h9 => h9) rfl dX3_parts_14 ?_
  refine lv_if_eq (tgt := 24) hx hb dX3_parts_17 (by decide) (fun c3 => ?_) (fun c3 => ?_)
  · replace hf := kt c3 hf
    refine lv_iload_n hx hb dX3_parts_24 rfl (lv_at hl 0 rfl) ?_
    refine lv_aload_n hx hb dX3_parts_25 rfl (lv_at hl 1 rfl) ?_
    refine lv_aload_n hx hb dX3_parts_26 rfl (lv_at hl 2 rfl) ?_
    refine lv_iconst (v := (1 : Int32)) hx hb dX3_parts_27 (by decide) ?_
    obtain ⟨r4, hr4, hf⟩ := kb hf
    refine kU (As := [.ref a_p0, .int (1 : Int32)]) (rest := [.int r2.1]) ⟨hx, hb, hml, hown, hts⟩ (c_X8_comes_X3 l G N a_p0 a_p0_bodies a_this (1 : Int32) r2.2.1 r2.2.2.1 r2.2.2.2 this_number this_m r4 hr4) (kcU (owner := RX8) (x := ⟨"FigureTill$LastTill", "comes", "(LFigureTill$Trace;I)I"⟩) 2 hts tw_873 tw_83 tw_905 tw_906 tw_853 tw_873 tw_909 tw_853 (by decide) hd_X8_comes.2.2 ⟨Nat.le_of_ble_eq_true rfl, Nat.le_of_ble_eq_true rfl⟩) dX3_parts_28 hl.1 hK hAm hA hP hD hS 2 (ci := 3) rfl rfl rfl [0, 1, 2] rfl rfl rfl [0, 1] rfl rfl rfl (Nat.le_of_ble_eq_true rfl) ⟨Nat.le_refl _, Nat.le_refl _⟩ (fun H locs hP hD hS => ?_)
    have hP : va_P (gD G) vwCl (k_X3_parts G a_p0 a_p0_bodies a_this r4.2.1 r2.2.2.1 r4.2.2 this_number this_m) H := hP
    have hD : va_D A (k_X3_parts G a_p0 a_p0_bodies a_this r4.2.1 r2.2.2.1 r4.2.2 this_number this_m) := hD
    refine lv_iadd hx hb dX3_parts_31 ?_
    have ho := ks hf
    subst ho
    exact kiret hx hb hr hlk hP hD hS hQ dX3_parts_32
  · replace hf := kf c3 hf
    refine lv_iconst (v := (0 : Int32)) hx hb dX3_parts_20 (by decide) ?_
    refine lv_goto (tgt := 32) hx hb dX3_parts_21 (by decide) ?_
    have ho := ks hf
    subst ho
    exact kiret hx hb hr hlk hP hD hS hQ dX3_parts_32
abbrev k_X5_isOf (G : KG) (a_this : Nat) (this_number : Int32) (this_m : Int32) : va_W := [(a_this, .inr (5, [.int this_number, .int this_m]))]
def f_X5_isOf (N : Nat) (p0 : Int32) : Option (Int32) := (if p0 = (4 : Int32) then (some (1 : Int32)) else ((f_X6_isOf_X5 N p0).bind fun r2 => (if r2 = 0 then (some (0 : Int32)) else (some (1 : Int32)))))
set_option maxRecDepth 100000 in
set_option maxHeartbeats 4000000 in
theorem c_X5_isOf (l : Launch) (G : KG) (N : Nat) (a_this : Nat) (p0 : Int32) (this_number : Int32) (this_m : Int32)  (out : Int32) (hf : f_X5_isOf N p0 = some out) : KM l G yX5_isOf (kw yX5_isOf cX5_isOf 2 (some .boolean)) 2 42 [.ref a_this, .int p0] (k_X5_isOf G a_this this_number this_m) (k_X5_isOf G a_this this_number this_m) (some (.int out)) := by
  refine KM.of (by decide) (Nat.le_of_ble_eq_true rfl) ?_
  intro p e s m below meth c A ls args Q Fx0 hP hK hD hA hS hAm hQ hl
  obtain ⟨hx, hb, hr, hml, hts, hown, hlk, hnm⟩ := Fx0
  have hown : s.vm.findClass RX5 = some m.cls := hown
  have hl : lv_has ls 2 [(0, .ref a_this), (1, .int p0)] := hl
  unfold f_X5_isOf at hf
  refine lv_iload_n hx hb dX5_isOf_0 rfl (lv_at hl 1 rfl) ?_
  refine lv_iconst (v := (4 : Int32)) hx hb dX5_isOf_1 (by decide) ?_
  refine lv_icmp_eq (tgt := 13) hx hb dX5_isOf_2 (by decide) (fun c1 => ?_) (fun c1 => ?_)
  · replace hf := kt c1 hf
    refine lv_iconst (v := (1 : Int32)) hx hb dX5_isOf_13 (by decide) ?_
    refine lv_goto (tgt := 18) hx hb dX5_isOf_14 (by decide) ?_
    have ho := ks hf
    subst ho
    exact kzret hx hb hr (Or.inr rfl) hlk hP hD hS hQ dX5_isOf_18
  · replace hf := kf c1 hf
    refine lv_aload_n hx hb dX5_isOf_5 rfl (lv_at hl 0 rfl) ?_
    refine lv_iload_n hx hb dX5_isOf_6 rfl (lv_at hl 1 rfl) ?_
    obtain ⟨r2, hr2, hf⟩ := kb hf
    refine kSU (As := [.int p0]) (rest := []) ⟨hx, hb, hml, hown, hts⟩ (c_X6_isOf_X5 l G N a_this p0 this_number this_m r2 hr2) (kcSU 1 hts tw_498 tw_85 tw_496 tw_1407 tw_217 tw_497 (by decide) hd_X6_isOf ⟨Nat.le_of_ble_eq_true rfl, Nat.le_of_ble_eq_true rfl⟩) dX5_isOf_7 hl.1 hK hAm hA hP hD hS 0 (ci := 5) rfl rfl [0] rfl rfl rfl [] rfl rfl rfl (Nat.le_of_ble_eq_true rfl) ⟨Nat.le_refl _, Nat.le_refl _⟩ (fun H locs hP hD hS => ?_)
    have hP : va_P (gD G) vwCl (k_X5_isOf G a_this this_number this_m) H := hP
    have hD : va_D A (k_X5_isOf G a_this this_number this_m) := hD
    refine lv_if_eq (tgt := 17) hx hb dX5_isOf_10 (by decide) (fun c3 => ?_) (fun c3 => ?_)
    · replace hf := kt c3 hf
      refine lv_iconst (v := (0 : Int32)) hx hb dX5_isOf_17 (by decide) ?_
      have ho := ks hf
      subst ho
      exact kzret hx hb hr (Or.inl rfl) hlk hP hD hS hQ dX5_isOf_18
    · replace hf := kf c3 hf
      refine lv_iconst (v := (1 : Int32)) hx hb dX5_isOf_13 (by decide) ?_
      refine lv_goto (tgt := 18) hx hb dX5_isOf_14 (by decide) ?_
      have ho := ks hf
      subst ho
      exact kzret hx hb hr (Or.inr rfl) hlk hP hD hS hQ dX5_isOf_18
abbrev k_X5_comes (G : KG) (a_p0 : Nat) (a_p0_bodies : Nat) (a_this : Nat) (p0_length : Int32) (p0_parted : Int32) (p0_bodies : Nat → Int32) (this_number : Int32) (this_m : Int32) : va_W := [(a_p0, .inr (10, [.ref a_p0_bodies, .int p0_length, .int p0_parted])), (a_p0_bodies, .inl (gI G, 30, .inl p0_bodies)), (a_this, .inr (5, [.int this_number, .int this_m]))]
def f_X5_comes (N : Nat) (p1 : Int32) (p0_length : Int32) (p0_bodies : Nat → Int32) (this_number : Int32) : Option (Int32 × (Int32) × (Nat → Int32)) := ((f_X10_began N (60 : Int32) p0_length p0_bodies).bind fun r1 => ((f_X6_comes_X5 N (p1 + (1 : Int32)) r1.1 r1.2 this_number).bind fun r2 => (some (r2.1, r2.2.1, r2.2.2))))
set_option maxRecDepth 100000 in
set_option maxHeartbeats 4000000 in
theorem c_X5_comes (l : Launch) (G : KG) (N : Nat) (a_p0 : Nat) (a_p0_bodies : Nat) (a_this : Nat) (p1 : Int32) (p0_length : Int32) (p0_parted : Int32) (p0_bodies : Nat → Int32) (this_number : Int32) (this_m : Int32)  (out : Int32 × (Int32) × (Nat → Int32)) (hf : f_X5_comes N p1 p0_length p0_bodies this_number = some out) : KM l G yX5_comes (kw yX5_comes cX5_comes 3 (some .int)) 4 87 [.ref a_this, .ref a_p0, .int p1] (k_X5_comes G a_p0 a_p0_bodies a_this p0_length p0_parted p0_bodies this_number this_m) (k_X5_comes G a_p0 a_p0_bodies a_this (out.2.1) p0_parted (out.2.2) this_number this_m) (some (.int (out.1))) := by
  refine KM.of (by decide) (Nat.le_of_ble_eq_true rfl) ?_
  intro p e s m below meth c A ls args Q Fx0 hP hK hD hA hS hAm hQ hl
  obtain ⟨hx, hb, hr, hml, hts, hown, hlk, hnm⟩ := Fx0
  have hown : s.vm.findClass RX5 = some m.cls := hown
  have hl : lv_has ls 3 [(0, .ref a_this), (1, .ref a_p0), (2, .int p1)] := hl
  unfold f_X5_comes at hf
  refine lv_aload_n hx hb dX5_comes_0 rfl (lv_at hl 1 rfl) ?_
  refine lv_bipush (v := (60 : Int32)) hx hb dX5_comes_1 (by decide) ?_
  obtain ⟨r1, hr1, hf⟩ := kb hf
  refine kVN (As := [.int (60 : Int32)]) (rest := []) ⟨hx, hb, hml, hown, hts⟩ (c_X10_began l G N a_p0 a_p0_bodies (60 : Int32) p0_length p0_parted p0_bodies r1 hr1) ⟨kcN 1 hts hAm nw_X5_23 tw_837 tw_90 hd_X10_began ⟨Nat.le_of_ble_eq_true rfl, Nat.le_of_ble_eq_true rfl⟩, hts _ tw_836, hts _ tw_38⟩ dX5_comes_3 hl.1 hK hAm hA hP hD hS 0 (ci := 10) rfl rfl rfl [0, 1] rfl rfl rfl [0, 1] rfl rfl rfl (Nat.le_of_ble_eq_true rfl) ⟨Nat.le_refl _, Nat.le_refl _⟩ (fun H locs hP hD hS => ?_)
  have hP : va_P (gD G) vwCl (k_X5_comes G a_p0 a_p0_bodies a_this r1.1 p0_parted r1.2 this_number this_m) H := hP
  have hD : va_D A (k_X5_comes G a_p0 a_p0_bodies a_this r1.1 p0_parted r1.2 this_number this_m) := hD
  refine lv_aload_n hx hb dX5_comes_6 rfl (lv_at hl 0 rfl) ?_
  refine lv_aload_n hx hb dX5_comes_7 rfl (lv_at hl 1 rfl) ?_
  refine lv_iload_n hx hb dX5_comes_8 rfl (lv_at hl 2 rfl) ?_
  refine lv_iconst (v := (1 : Int32)) hx hb dX5_comes_9 (by decide) ?_
  refine lv_iadd hx hb dX5_comes_10 ?_
  obtain ⟨r2, hr2, hf⟩ := kb hf
  refine kSU (As := [.ref a_p0, .int (p1 + (1 : Int32))]) (rest := []) ⟨hx, hb, hml, hown, hts⟩ (c_X6_comes_X5 l G N a_p0 a_p0_bodies a_this (p1 + (1 : Int32)) r1.1 p0_parted r1.2 this_number this_m r2 hr2) (kcSU 2 hts tw_865 tw_85 tw_863 tw_1410 tw_217 tw_864 (by decide) hd_X6_comes ⟨Nat.le_of_ble_eq_true rfl, Nat.le_of_ble_eq_true rfl⟩) dX5_comes_11 hl.1 hK hAm hA hP hD hS 2 (ci := 5) rfl rfl [0, 1, 2] rfl rfl rfl [0, 1] rfl rfl rfl (Nat.le_of_ble_eq_true rfl) ⟨Nat.le_refl _, Nat.le_refl _⟩ (fun H locs hP hD hS => ?_)
  have hP : va_P (gD G) vwCl (k_X5_comes G a_p0 a_p0_bodies a_this r2.2.1 p0_parted r2.2.2 this_number this_m) H := hP
  have hD : va_D A (k_X5_comes G a_p0 a_p0_bodies a_this r2.2.1 p0_parted r2.2.2 this_number this_m) := hD
  have ho := ks hf
  subst ho
  exact kiret hx hb hr hlk hP hD hS hQ dX5_comes_14
abbrev k_X7_paid (G : KG) (a_this : Nat) (a_this_goods : Nat) (a_this_tills : Nat) (a_this_tape : Nat) (a_this_paysLaw : Nat) (a_this_valuesLaw : Nat) (a_this_waiting : Nat) (a_this_paysLaw_names : Nat) (a_this_paysLaw_code : Nat) (a_this_paysLaw_stack : Nat) (a_this_paysLaw_bytes : Nat) (a_this_paysLaw_draft : Nat) (e_this_tills : Nat → Nat) (this_takings : Int32) (this_costs : Int32) (this_goes : Int32) (this_z : Int32) (this_fed : Int32) (this_waits : Int32) (this_paysLaw_length : Int32) (this_paysLaw_drafted : Int32) (this_paysLaw_end : Int32) (this_paysLaw_place : Int32) (this_paysLaw_failed : Int32) (this_paysLaw_code : Nat → Int32) (this_paysLaw_stack : Nat → Int32) (this_tills : Nat → Option Nat) (this_tills_k0 : Nat) (this_tills_k1 : Nat) (this_tills_k2 : Nat) (this_tills_k3 : Nat) (this_tills_n : Nat → Int32) (this_tills_m : Nat → Int32) : va_W := [(a_this, .inr (7, [.ref a_this_goods, .ref a_this_tills, .int this_takings, .int this_costs, .int this_goes, .int this_z, .ref a_this_tape, .int this_fed, .ref a_this_paysLaw, .ref a_this_valuesLaw, .ref a_this_waiting, .int this_waits])), (a_this_paysLaw, .inr (4, [.ref a_this_paysLaw_names, .ref a_this_paysLaw_code, .int this_paysLaw_length, .ref a_this_paysLaw_stack, .ref a_this_paysLaw_bytes, .ref a_this_paysLaw_draft, .int this_paysLaw_drafted, .int this_paysLaw_end, .int this_paysLaw_place, .int this_paysLaw_failed])), (a_this_paysLaw_code, .inl (gI G, 60, .inl this_paysLaw_code)), (a_this_paysLaw_stack, .inl (gI G, 60, .inl this_paysLaw_stack)), (a_this_tills, .inl (gT G, 4, .inr (.inr (.inr (.inr this_tills))))), (e_this_tills 0, .inr (this_tills_k0, [.int (this_tills_n 0), .int (this_tills_m 0)])), (e_this_tills 1, .inr (this_tills_k1, [.int (this_tills_n 1), .int (this_tills_m 1)])), (e_this_tills 2, .inr (this_tills_k2, [.int (this_tills_n 2), .int (this_tills_m 2)])), (e_this_tills 3, .inr (this_tills_k3, [.int (this_tills_n 3), .int (this_tills_m 3)]))]
def f_X7_paid (N : Nat) (p0 : Int32) (p1 : Int32) (p2 : Int32) (this_paysLaw_length : Int32) (this_paysLaw_code : Nat → Int32) (this_paysLaw_stack : Nat → Int32) (this_tills_k0 : Nat) (this_tills_k1 : Nat) (this_tills_k2 : Nat) (this_tills_k3 : Nat) (this_tills_n : Nat → Int32) (this_tills_m : Nat → Int32) : Option (Int32 × (Nat → Int32)) := (if p2 = 0 then (some ((0 : Int32), this_paysLaw_stack)) else (if vin p0 4 = true then ((if (sel4 p0.toNatClampNeg this_tills_k0 this_tills_k1 this_tills_k2 this_tills_k3) = 8 then ((f_X8_due N p1 p2).bind fun q4 => some (q4, this_paysLaw_stack)) else (if (sel4 p0.toNatClampNeg this_tills_k0 this_tills_k1 this_tills_k2 this_tills_k3) = 1 then ((f_X1_due N p1 p2 (this_tills_m p0.toNatClampNeg)).bind fun q4 => some (q4, this_paysLaw_stack)) else (if (sel4 p0.toNatClampNeg this_tills_k0 this_tills_k1 this_tills_k2 this_tills_k3) = 2 then ((f_X2_due N p1 p2 (this_tills_m p0.toNatClampNeg)).bind fun q4 => some (q4, this_paysLaw_stack)) else (if (sel4 p0.toNatClampNeg this_tills_k0 this_tills_k1 this_tills_k2 this_tills_k3) = 3 then ((f_X3_due N p1 p2).bind fun q4 => some (q4, this_paysLaw_stack)) else (if (sel4 p0.toNatClampNeg this_tills_k0 this_tills_k1 this_tills_k2 this_tills_k3) = 5 then ((f_X5_due N p1 p2 (this_tills_m p0.toNatClampNeg)).bind fun q4 => some (q4, this_paysLaw_stack)) else (if (sel4 p0.toNatClampNeg this_tills_k0 this_tills_k1 this_tills_k2 this_tills_k3) = 6 then ((f_X6_due N p1 p2).bind fun q4 => some (q4, this_paysLaw_stack)) else (if (sel4 p0.toNatClampNeg this_tills_k0 this_tills_k1 this_tills_k2 this_tills_k3) = 9 then ((f_X9_due N p1 p2 this_paysLaw_length this_paysLaw_code this_paysLaw_stack (this_tills_m p0.toNatClampNeg)).bind fun q4 => some (q4.1, q4.2)) else none))))))).bind fun r3 => ((f_X11_held N r3.1 (9999 : Int32)).bind fun r5 => (some (r5, r3.2)))) else none))
set_option maxRecDepth 100000 in
set_option maxHeartbeats 4000000 in
theorem c_X7_paid (l : Launch) (G : KG) (N : Nat) (a_this : Nat) (a_this_goods : Nat) (a_this_tills : Nat) (a_this_tape : Nat) (a_this_paysLaw : Nat) (a_this_valuesLaw : Nat) (a_this_waiting : Nat) (a_this_paysLaw_names : Nat) (a_this_paysLaw_code : Nat) (a_this_paysLaw_stack : Nat) (a_this_paysLaw_bytes : Nat) (a_this_paysLaw_draft : Nat) (e_this_tills : Nat → Nat) (p0 : Int32) (p1 : Int32) (p2 : Int32) (this_takings : Int32) (this_costs : Int32) (this_goes : Int32) (this_z : Int32) (this_fed : Int32) (this_waits : Int32) (this_paysLaw_length : Int32) (this_paysLaw_drafted : Int32) (this_paysLaw_end : Int32) (this_paysLaw_place : Int32) (this_paysLaw_failed : Int32) (this_paysLaw_code : Nat → Int32) (this_paysLaw_stack : Nat → Int32) (this_tills : Nat → Option Nat) (this_tills_k0 : Nat) (this_tills_k1 : Nat) (this_tills_k2 : Nat) (this_tills_k3 : Nat) (this_tills_n : Nat → Int32) (this_tills_m : Nat → Int32)  (ht_this_tills : ∀ j : Nat, j < 4 → this_tills j = some (e_this_tills j)) (out : Int32 × (Nat → Int32)) (hf : f_X7_paid N p0 p1 p2 this_paysLaw_length this_paysLaw_code this_paysLaw_stack this_tills_k0 this_tills_k1 this_tills_k2 this_tills_k3 this_tills_n this_tills_m = some out) : KM l G yX7_paid (kw yX7_paid cX7_paid 4 (some .int)) 3 72 [.ref a_this, .int p0, .int p1, .int p2] (k_X7_paid G a_this a_this_goods a_this_tills a_this_tape a_this_paysLaw a_this_valuesLaw a_this_waiting a_this_paysLaw_names a_this_paysLaw_code a_this_paysLaw_stack a_this_paysLaw_bytes a_this_paysLaw_draft e_this_tills this_takings this_costs this_goes this_z this_fed this_waits this_paysLaw_length this_paysLaw_drafted this_paysLaw_end this_paysLaw_place this_paysLaw_failed this_paysLaw_code this_paysLaw_stack this_tills this_tills_k0 this_tills_k1 this_tills_k2 this_tills_k3 this_tills_n this_tills_m) (k_X7_paid G a_this a_this_goods a_this_tills a_this_tape a_this_paysLaw a_this_valuesLaw a_this_waiting a_this_paysLaw_names a_this_paysLaw_code a_this_paysLaw_stack a_this_paysLaw_bytes a_this_paysLaw_draft e_this_tills this_takings this_costs this_goes this_z this_fed this_waits this_paysLaw_length this_paysLaw_drafted this_paysLaw_end this_paysLaw_place this_paysLaw_failed this_paysLaw_code (out.2) this_tills this_tills_k0 this_tills_k1 this_tills_k2 this_tills_k3 this_tills_n this_tills_m) (some (.int (out.1))) := by
  refine KM.of (by decide) (Nat.le_of_ble_eq_true rfl) ?_
  intro p e s m below meth c A ls args Q Fx0 hP hK hD hA hS hAm hQ hl
  obtain ⟨hx, hb, hr, hml, hts, hown, hlk, hnm⟩ := Fx0
  have hown : s.vm.findClass RX7 = some m.cls := hown
  have hl : lv_has ls 4 [(0, .ref a_this), (1, .int p0), (2, .int p1), (3, .int p2)] := hl
  have fl_18 := hts _ tw_244
  have fl_49 := hts _ tw_258
  unfold f_X7_paid at hf
  refine lv_iload_n hx hb dX7_paid_0 rfl (lv_at hl 3 rfl) ?_
  refine lv_if_ne (tgt := 8) hx hb dX7_paid_1 (by decide) (fun c1 => ?_) (fun c1 => ?_)
  · replace hf := kf c1 hf
    refine lv_aload_n hx hb dX7_paid_8 rfl (lv_at hl 0 rfl) ?_
    refine va_get (D := gD G) (ci := 7) (C := RX7) (T := TX7) (N := 12) hx hb hts hin_X7 hown hK hP 0 rfl rfl 1 (by decide) fl_18 (fun _ h9 => h9) rfl dX7_paid_9 ?_
    refine lv_iload_n hx hb dX7_paid_12 rfl (lv_at hl 1 rfl) ?_
    obtain ⟨g2, hf⟩ := kg hf
    refine ka_tald hx hb hK hP 4 rfl (vin_of g2) (ht_this_tills _ (vin_lt g2)) dX7_paid_13 ?_
    refine lv_iload_n hx hb dX7_paid_14 rfl (lv_at hl 2 rfl) ?_
    refine lv_iload_n hx hb dX7_paid_15 rfl (lv_at hl 3 rfl) ?_
    refine lv_aload_n hx hb dX7_paid_16 rfl (lv_at hl 0 rfl) ?_
    refine va_get (D := gD G) (ci := 7) (C := RX7) (T := TX7) (N := 12) hx hb hts hin_X7 hown hK hP 0 rfl rfl 8 (by decide) fl_49 (fun _ h9 => h9) rfl dX7_paid_17 ?_
    obtain ⟨r3, hr3, hf⟩ := kb hf
    have kk6 : ∀ (H : Heap) (locs : List Loc), va_P (gD G) vwCl (k_X7_paid G a_this a_this_goods a_this_tills a_this_tape a_this_paysLaw a_this_valuesLaw a_this_waiting a_this_paysLaw_names a_this_paysLaw_code a_this_paysLaw_stack a_this_paysLaw_bytes a_this_paysLaw_draft e_this_tills this_takings this_costs this_goes this_z this_fed this_waits this_paysLaw_length this_paysLaw_drafted this_paysLaw_end this_paysLaw_place this_paysLaw_failed this_paysLaw_code r3.2 this_tills this_tills_k0 this_tills_k1 this_tills_k2 this_tills_k3 this_tills_n this_tills_m) H → va_D A (k_X7_paid G a_this a_this_goods a_this_tills a_this_tape a_this_paysLaw a_this_valuesLaw a_this_waiting a_this_paysLaw_names a_this_paysLaw_code a_this_paysLaw_stack a_this_paysLaw_bytes a_this_paysLaw_draft e_this_tills this_takings this_costs this_goes this_z this_fed this_waits this_paysLaw_length this_paysLaw_drafted this_paysLaw_end this_paysLaw_place this_paysLaw_failed this_paysLaw_code r3.2 this_tills this_tills_k0 this_tills_k1 this_tills_k2 this_tills_k3 this_tills_n this_tills_m) → va_S A s.heap H locs → W p l e (kR 3 0 0 72) s m args below meth c H locs 0 0 Q (F0 m 23 ls [.int r3.1]) := by
      intro H locs hP hD hS
      refine lv_sipush (v := (9999 : Int32)) hx hb dX7_paid_23 (by decide) ?_
      obtain ⟨r5, hr5, hf⟩ := kb hf
      refine kSN (As := [.int r3.1, .int (9999 : Int32)]) (rest := []) ⟨hx, hb, hml, hown, hts⟩ (c_X11_held l G N r3.1 (9999 : Int32) r5 hr5) ⟨kcN 2 hts hAm nw_X7_85 tw_431 tw_80 hd_X11_held ⟨Nat.le_of_ble_eq_true rfl, Nat.le_of_ble_eq_true rfl⟩, hts _ tw_430, trivial⟩ dX7_paid_26 hl.1 hK hAm hA hP hD hS [] rfl rfl rfl [] rfl rfl rfl (Nat.le_of_ble_eq_true rfl) ⟨Nat.le_refl _, Nat.le_refl _⟩ (fun H locs hP hD hS => ?_)
      have hP : va_P (gD G) vwCl (k_X7_paid G a_this a_this_goods a_this_tills a_this_tape a_this_paysLaw a_this_valuesLaw a_this_waiting a_this_paysLaw_names a_this_paysLaw_code a_this_paysLaw_stack a_this_paysLaw_bytes a_this_paysLaw_draft e_this_tills this_takings this_costs this_goes this_z this_fed this_waits this_paysLaw_length this_paysLaw_drafted this_paysLaw_end this_paysLaw_place this_paysLaw_failed this_paysLaw_code r3.2 this_tills this_tills_k0 this_tills_k1 this_tills_k2 this_tills_k3 this_tills_n this_tills_m) H := hP
      have hD : va_D A (k_X7_paid G a_this a_this_goods a_this_tills a_this_tape a_this_paysLaw a_this_valuesLaw a_this_waiting a_this_paysLaw_names a_this_paysLaw_code a_this_paysLaw_stack a_this_paysLaw_bytes a_this_paysLaw_draft e_this_tills this_takings this_costs this_goes this_z this_fed this_waits this_paysLaw_length this_paysLaw_drafted this_paysLaw_end this_paysLaw_place this_paysLaw_failed this_paysLaw_code r3.2 this_tills this_tills_k0 this_tills_k1 this_tills_k2 this_tills_k3 this_tills_n this_tills_m) := hD
      have ho := ks hf
      subst ho
      exact kiret hx hb hr hlk hP hD hS hQ dX7_paid_29
    refine k4 (vin_lt g2) (fun hj => ?_) (fun hj => ?_) (fun hj => ?_) (fun hj => ?_)
    · rw [hj] at hr3 ⊢
      by_cases c9 : this_tills_k0 = 8
      · replace hr3 := kt c9 hr3
        obtain ⟨q4, hq4, hr3⟩ := kb hr3
        have e9 := ks hr3
        subst e9
        subst c9
        exact kV (As := [.int p1, .int p2, .ref a_this_paysLaw]) (rest := []) ⟨hx, hb, hml, hown, hts⟩ (c_X8_due l G N (e_this_tills 0) a_this_paysLaw p1 p2 q4 hq4) (kcV 3 hts tw_554 tw_83 tw_522 tw_523 tw_524 hd_X8_due ⟨Nat.le_of_ble_eq_true rfl, Nat.le_of_ble_eq_true rfl⟩) dX7_paid_20 hl.1 hK hAm hA hP hD hS 5 (ci := 8) rfl rfl rfl [] rfl rfl rfl [] rfl rfl rfl (Nat.le_of_ble_eq_true rfl) ⟨Nat.le_refl _, Nat.le_refl _⟩ (fun H locs hP hD hS => kk6 H locs hP hD hS)
      · replace hr3 := kf c9 hr3
        by_cases c9 : this_tills_k0 = 1
        · replace hr3 := kt c9 hr3
          obtain ⟨q4, hq4, hr3⟩ := kb hr3
          have e9 := ks hr3
          subst e9
          subst c9
          exact kU (As := [.int p1, .int p2, .ref a_this_paysLaw]) (rest := []) ⟨hx, hb, hml, hown, hts⟩ (c_X1_due l G N a_this_paysLaw (e_this_tills 0) p1 p2 (this_tills_n 0) (this_tills_m 0) q4 hq4) (kcU (owner := RX8) (x := yX8_due) 3 hts tw_528 tw_86 tw_522 tw_525 tw_523 tw_554 tw_526 tw_527 (by decide) hd_X1_due.2.2 ⟨Nat.le_of_ble_eq_true rfl, Nat.le_of_ble_eq_true rfl⟩) dX7_paid_20 hl.1 hK hAm hA hP hD hS 5 (ci := 1) rfl rfl rfl [5] rfl rfl rfl [] rfl rfl rfl (Nat.le_of_ble_eq_true rfl) ⟨Nat.le_refl _, Nat.le_refl _⟩ (fun H locs hP hD hS => kk6 H locs hP hD hS)
        · replace hr3 := kf c9 hr3
          by_cases c9 : this_tills_k0 = 2
          · replace hr3 := kt c9 hr3
            obtain ⟨q4, hq4, hr3⟩ := kb hr3
            have e9 := ks hr3
            subst e9
            subst c9
            exact kU (As := [.int p1, .int p2, .ref a_this_paysLaw]) (rest := []) ⟨hx, hb, hml, hown, hts⟩ (c_X2_due l G N a_this_paysLaw (e_this_tills 0) p1 p2 (this_tills_n 0) (this_tills_m 0) q4 hq4) (kcU (owner := RX8) (x := yX8_due) 3 hts tw_532 tw_88 tw_522 tw_525 tw_523 tw_554 tw_530 tw_531 (by decide) hd_X2_due.2.2 ⟨Nat.le_of_ble_eq_true rfl, Nat.le_of_ble_eq_true rfl⟩) dX7_paid_20 hl.1 hK hAm hA hP hD hS 5 (ci := 2) rfl rfl rfl [5] rfl rfl rfl [] rfl rfl rfl (Nat.le_of_ble_eq_true rfl) ⟨Nat.le_refl _, Nat.le_refl _⟩ (fun H locs hP hD hS => kk6 H locs hP hD hS)
          · replace hr3 := kf c9 hr3
            by_cases c9 : this_tills_k0 = 3
            · replace hr3 := kt c9 hr3
              obtain ⟨q4, hq4, hr3⟩ := kb hr3
              have e9 := ks hr3
              subst e9
              subst c9
              exact kU (As := [.int p1, .int p2, .ref a_this_paysLaw]) (rest := []) ⟨hx, hb, hml, hown, hts⟩ (c_X3_due l G N (e_this_tills 0) a_this_paysLaw p1 p2 q4 hq4) (kcU (owner := RX8) (x := yX8_due) 3 hts tw_535 tw_84 tw_522 tw_525 tw_523 tw_554 tw_537 tw_534 (by decide) hd_X3_due.2.2 ⟨Nat.le_of_ble_eq_true rfl, Nat.le_of_ble_eq_true rfl⟩) dX7_paid_20 hl.1 hK hAm hA hP hD hS 5 (ci := 3) rfl rfl rfl [] rfl rfl rfl [] rfl rfl rfl (Nat.le_of_ble_eq_true rfl) ⟨Nat.le_refl _, Nat.le_refl _⟩ (fun H locs hP hD hS => kk6 H locs hP hD hS)
            · replace hr3 := kf c9 hr3
              by_cases c9 : this_tills_k0 = 5
              · replace hr3 := kt c9 hr3
                obtain ⟨q4, hq4, hr3⟩ := kb hr3
                have e9 := ks hr3
                subst e9
                subst c9
                exact kU (As := [.int p1, .int p2, .ref a_this_paysLaw]) (rest := []) ⟨hx, hb, hml, hown, hts⟩ (c_X5_due l G N a_this_paysLaw (e_this_tills 0) p1 p2 (this_tills_n 0) (this_tills_m 0) q4 hq4) (kcU (owner := RX8) (x := yX8_due) 3 hts tw_540 tw_87 tw_522 tw_525 tw_523 tw_554 tw_538 tw_539 (by decide) hd_X5_due.2.2 ⟨Nat.le_of_ble_eq_true rfl, Nat.le_of_ble_eq_true rfl⟩) dX7_paid_20 hl.1 hK hAm hA hP hD hS 5 (ci := 5) rfl rfl rfl [5] rfl rfl rfl [] rfl rfl rfl (Nat.le_of_ble_eq_true rfl) ⟨Nat.le_refl _, Nat.le_refl _⟩ (fun H locs hP hD hS => kk6 H locs hP hD hS)
              · replace hr3 := kf c9 hr3
                by_cases c9 : this_tills_k0 = 6
                · replace hr3 := kt c9 hr3
                  obtain ⟨q4, hq4, hr3⟩ := kb hr3
                  have e9 := ks hr3
                  subst e9
                  subst c9
                  exact kU (As := [.int p1, .int p2, .ref a_this_paysLaw]) (rest := []) ⟨hx, hb, hml, hown, hts⟩ (c_X6_due l G N (e_this_tills 0) a_this_paysLaw p1 p2 q4 hq4) (kcU (owner := RX8) (x := yX8_due) 3 hts tw_546 tw_85 tw_522 tw_525 tw_523 tw_554 tw_544 tw_545 (by decide) hd_X6_due.2.2 ⟨Nat.le_of_ble_eq_true rfl, Nat.le_of_ble_eq_true rfl⟩) dX7_paid_20 hl.1 hK hAm hA hP hD hS 5 (ci := 6) rfl rfl rfl [] rfl rfl rfl [] rfl rfl rfl (Nat.le_of_ble_eq_true rfl) ⟨Nat.le_refl _, Nat.le_refl _⟩ (fun H locs hP hD hS => kk6 H locs hP hD hS)
                · replace hr3 := kf c9 hr3
                  by_cases c9 : this_tills_k0 = 9
                  · replace hr3 := kt c9 hr3
                    obtain ⟨q4, hq4, hr3⟩ := kb hr3
                    have e9 := ks hr3
                    subst e9
                    subst c9
                    exact kU (As := [.int p1, .int p2, .ref a_this_paysLaw]) (rest := []) ⟨hx, hb, hml, hown, hts⟩ (c_X9_due l G N a_this_paysLaw a_this_paysLaw_names a_this_paysLaw_code a_this_paysLaw_stack a_this_paysLaw_bytes a_this_paysLaw_draft (e_this_tills 0) p1 p2 this_paysLaw_length this_paysLaw_drafted this_paysLaw_end this_paysLaw_place this_paysLaw_failed this_paysLaw_code this_paysLaw_stack (this_tills_n 0) (this_tills_m 0) q4 hq4) (kcU (owner := RX8) (x := yX8_due) 3 hts tw_550 tw_89 tw_522 tw_525 tw_523 tw_554 tw_548 tw_549 (by decide) hd_X9_due.2.2 ⟨Nat.le_of_ble_eq_true rfl, Nat.le_of_ble_eq_true rfl⟩) dX7_paid_20 hl.1 hK hAm hA hP hD hS 5 (ci := 9) rfl rfl rfl [1, 2, 3, 5] rfl rfl rfl [2] rfl rfl rfl (Nat.le_of_ble_eq_true rfl) ⟨Nat.le_refl _, Nat.le_refl _⟩ (fun H locs hP hD hS => kk6 H locs hP hD hS)
                  · replace hr3 := kf c9 hr3
                    cases hr3
    · rw [hj] at hr3 ⊢
      by_cases c9 : this_tills_k1 = 8
      · replace hr3 := kt c9 hr3
        obtain ⟨q4, hq4, hr3⟩ := kb hr3
        have e9 := ks hr3
        subst e9
        subst c9
        exact kV (As := [.int p1, .int p2, .ref a_this_paysLaw]) (rest := []) ⟨hx, hb, hml, hown, hts⟩ (c_X8_due l G N (e_this_tills 1) a_this_paysLaw p1 p2 q4 hq4) (kcV 3 hts tw_554 tw_83 tw_522 tw_523 tw_524 hd_X8_due ⟨Nat.le_of_ble_eq_true rfl, Nat.le_of_ble_eq_true rfl⟩) dX7_paid_20 hl.1 hK hAm hA hP hD hS 6 (ci := 8) rfl rfl rfl [] rfl rfl rfl [] rfl rfl rfl (Nat.le_of_ble_eq_true rfl) ⟨Nat.le_refl _, Nat.le_refl _⟩ (fun H locs hP hD hS => kk6 H locs hP hD hS)
      · replace hr3 := kf c9 hr3
        by_cases c9 : this_tills_k1 = 1
        · replace hr3 := kt c9 hr3
          obtain ⟨q4, hq4, hr3⟩ := kb hr3
          have e9 := ks hr3
          subst e9
          subst c9
          exact kU (As := [.int p1, .int p2, .ref a_this_paysLaw]) (rest := []) ⟨hx, hb, hml, hown, hts⟩ (c_X1_due l G N a_this_paysLaw (e_this_tills 1) p1 p2 (this_tills_n 1) (this_tills_m 1) q4 hq4) (kcU (owner := RX8) (x := yX8_due) 3 hts tw_528 tw_86 tw_522 tw_525 tw_523 tw_554 tw_526 tw_527 (by decide) hd_X1_due.2.2 ⟨Nat.le_of_ble_eq_true rfl, Nat.le_of_ble_eq_true rfl⟩) dX7_paid_20 hl.1 hK hAm hA hP hD hS 6 (ci := 1) rfl rfl rfl [6] rfl rfl rfl [] rfl rfl rfl (Nat.le_of_ble_eq_true rfl) ⟨Nat.le_refl _, Nat.le_refl _⟩ (fun H locs hP hD hS => kk6 H locs hP hD hS)
        · replace hr3 := kf c9 hr3
          by_cases c9 : this_tills_k1 = 2
          · replace hr3 := kt c9 hr3
            obtain ⟨q4, hq4, hr3⟩ := kb hr3
            have e9 := ks hr3
            subst e9
            subst c9
            exact kU (As := [.int p1, .int p2, .ref a_this_paysLaw]) (rest := []) ⟨hx, hb, hml, hown, hts⟩ (c_X2_due l G N a_this_paysLaw (e_this_tills 1) p1 p2 (this_tills_n 1) (this_tills_m 1) q4 hq4) (kcU (owner := RX8) (x := yX8_due) 3 hts tw_532 tw_88 tw_522 tw_525 tw_523 tw_554 tw_530 tw_531 (by decide) hd_X2_due.2.2 ⟨Nat.le_of_ble_eq_true rfl, Nat.le_of_ble_eq_true rfl⟩) dX7_paid_20 hl.1 hK hAm hA hP hD hS 6 (ci := 2) rfl rfl rfl [6] rfl rfl rfl [] rfl rfl rfl (Nat.le_of_ble_eq_true rfl) ⟨Nat.le_refl _, Nat.le_refl _⟩ (fun H locs hP hD hS => kk6 H locs hP hD hS)
          · replace hr3 := kf c9 hr3
            by_cases c9 : this_tills_k1 = 3
            · replace hr3 := kt c9 hr3
              obtain ⟨q4, hq4, hr3⟩ := kb hr3
              have e9 := ks hr3
              subst e9
              subst c9
              exact kU (As := [.int p1, .int p2, .ref a_this_paysLaw]) (rest := []) ⟨hx, hb, hml, hown, hts⟩ (c_X3_due l G N (e_this_tills 1) a_this_paysLaw p1 p2 q4 hq4) (kcU (owner := RX8) (x := yX8_due) 3 hts tw_535 tw_84 tw_522 tw_525 tw_523 tw_554 tw_537 tw_534 (by decide) hd_X3_due.2.2 ⟨Nat.le_of_ble_eq_true rfl, Nat.le_of_ble_eq_true rfl⟩) dX7_paid_20 hl.1 hK hAm hA hP hD hS 6 (ci := 3) rfl rfl rfl [] rfl rfl rfl [] rfl rfl rfl (Nat.le_of_ble_eq_true rfl) ⟨Nat.le_refl _, Nat.le_refl _⟩ (fun H locs hP hD hS => kk6 H locs hP hD hS)
            · replace hr3 := kf c9 hr3
              by_cases c9 : this_tills_k1 = 5
              · replace hr3 := kt c9 hr3
                obtain ⟨q4, hq4, hr3⟩ := kb hr3
                have e9 := ks hr3
                subst e9
                subst c9
                exact kU (As := [.int p1, .int p2, .ref a_this_paysLaw]) (rest := []) ⟨hx, hb, hml, hown, hts⟩ (c_X5_due l G N a_this_paysLaw (e_this_tills 1) p1 p2 (this_tills_n 1) (this_tills_m 1) q4 hq4) (kcU (owner := RX8) (x := yX8_due) 3 hts tw_540 tw_87 tw_522 tw_525 tw_523 tw_554 tw_538 tw_539 (by decide) hd_X5_due.2.2 ⟨Nat.le_of_ble_eq_true rfl, Nat.le_of_ble_eq_true rfl⟩) dX7_paid_20 hl.1 hK hAm hA hP hD hS 6 (ci := 5) rfl rfl rfl [6] rfl rfl rfl [] rfl rfl rfl (Nat.le_of_ble_eq_true rfl) ⟨Nat.le_refl _, Nat.le_refl _⟩ (fun H locs hP hD hS => kk6 H locs hP hD hS)
              · replace hr3 := kf c9 hr3
                by_cases c9 : this_tills_k1 = 6
                · replace hr3 := kt c9 hr3
                  obtain ⟨q4, hq4, hr3⟩ := kb hr3
                  have e9 := ks hr3
                  subst e9
                  subst c9
                  exact kU (As := [.int p1, .int p2, .ref a_this_paysLaw]) (rest := []) ⟨hx, hb, hml, hown, hts⟩ (c_X6_due l G N (e_this_tills 1) a_this_paysLaw p1 p2 q4 hq4) (kcU (owner := RX8) (x := yX8_due) 3 hts tw_546 tw_85 tw_522 tw_525 tw_523 tw_554 tw_544 tw_545 (by decide) hd_X6_due.2.2 ⟨Nat.le_of_ble_eq_true rfl, Nat.le_of_ble_eq_true rfl⟩) dX7_paid_20 hl.1 hK hAm hA hP hD hS 6 (ci := 6) rfl rfl rfl [] rfl rfl rfl [] rfl rfl rfl (Nat.le_of_ble_eq_true rfl) ⟨Nat.le_refl _, Nat.le_refl _⟩ (fun H locs hP hD hS => kk6 H locs hP hD hS)
                · replace hr3 := kf c9 hr3
                  by_cases c9 : this_tills_k1 = 9
                  · replace hr3 := kt c9 hr3
                    obtain ⟨q4, hq4, hr3⟩ := kb hr3
                    have e9 := ks hr3
                    subst e9
                    subst c9
                    exact kU (As := [.int p1, .int p2, .ref a_this_paysLaw]) (rest := []) ⟨hx, hb, hml, hown, hts⟩ (c_X9_due l G N a_this_paysLaw a_this_paysLaw_names a_this_paysLaw_code a_this_paysLaw_stack a_this_paysLaw_bytes a_this_paysLaw_draft (e_this_tills 1) p1 p2 this_paysLaw_length this_paysLaw_drafted this_paysLaw_end this_paysLaw_place this_paysLaw_failed this_paysLaw_code this_paysLaw_stack (this_tills_n 1) (this_tills_m 1) q4 hq4) (kcU (owner := RX8) (x := yX8_due) 3 hts tw_550 tw_89 tw_522 tw_525 tw_523 tw_554 tw_548 tw_549 (by decide) hd_X9_due.2.2 ⟨Nat.le_of_ble_eq_true rfl, Nat.le_of_ble_eq_true rfl⟩) dX7_paid_20 hl.1 hK hAm hA hP hD hS 6 (ci := 9) rfl rfl rfl [1, 2, 3, 6] rfl rfl rfl [2] rfl rfl rfl (Nat.le_of_ble_eq_true rfl) ⟨Nat.le_refl _, Nat.le_refl _⟩ (fun H locs hP hD hS => kk6 H locs hP hD hS)
                  · replace hr3 := kf c9 hr3
                    cases hr3
    · rw [hj] at hr3 ⊢
      by_cases c9 : this_tills_k2 = 8
      · replace hr3 := kt c9 hr3
        obtain ⟨q4, hq4, hr3⟩ := kb hr3
        have e9 := ks hr3
        subst e9
        subst c9
        exact kV (As := [.int p1, .int p2, .ref a_this_paysLaw]) (rest := []) ⟨hx, hb, hml, hown, hts⟩ (c_X8_due l G N (e_this_tills 2) a_this_paysLaw p1 p2 q4 hq4) (kcV 3 hts tw_554 tw_83 tw_522 tw_523 tw_524 hd_X8_due ⟨Nat.le_of_ble_eq_true rfl, Nat.le_of_ble_eq_true rfl⟩) dX7_paid_20 hl.1 hK hAm hA hP hD hS 7 (ci := 8) rfl rfl rfl [] rfl rfl rfl [] rfl rfl rfl (Nat.le_of_ble_eq_true rfl) ⟨Nat.le_refl _, Nat.le_refl _⟩ (fun H locs hP hD hS => kk6 H locs hP hD hS)
      · replace hr3 := kf c9 hr3
        by_cases c9 : this_tills_k2 = 1
        · replace hr3 := kt c9 hr3
          obtain ⟨q4, hq4, hr3⟩ := kb hr3
          have e9 := ks hr3
          subst e9
          subst c9
          exact kU (As := [.int p1, .int p2, .ref a_this_paysLaw]) (rest := []) ⟨hx, hb, hml, hown, hts⟩ (c_X1_due l G N a_this_paysLaw (e_this_tills 2) p1 p2 (this_tills_n 2) (this_tills_m 2) q4 hq4) (kcU (owner := RX8) (x := yX8_due) 3 hts tw_528 tw_86 tw_522 tw_525 tw_523 tw_554 tw_526 tw_527 (by decide) hd_X1_due.2.2 ⟨Nat.le_of_ble_eq_true rfl, Nat.le_of_ble_eq_true rfl⟩) dX7_paid_20 hl.1 hK hAm hA hP hD hS 7 (ci := 1) rfl rfl rfl [7] rfl rfl rfl [] rfl rfl rfl (Nat.le_of_ble_eq_true rfl) ⟨Nat.le_refl _, Nat.le_refl _⟩ (fun H locs hP hD hS => kk6 H locs hP hD hS)
        · replace hr3 := kf c9 hr3
          by_cases c9 : this_tills_k2 = 2
          · replace hr3 := kt c9 hr3
            obtain ⟨q4, hq4, hr3⟩ := kb hr3
            have e9 := ks hr3
            subst e9
            subst c9
            exact kU (As := [.int p1, .int p2, .ref a_this_paysLaw]) (rest := []) ⟨hx, hb, hml, hown, hts⟩ (c_X2_due l G N a_this_paysLaw (e_this_tills 2) p1 p2 (this_tills_n 2) (this_tills_m 2) q4 hq4) (kcU (owner := RX8) (x := yX8_due) 3 hts tw_532 tw_88 tw_522 tw_525 tw_523 tw_554 tw_530 tw_531 (by decide) hd_X2_due.2.2 ⟨Nat.le_of_ble_eq_true rfl, Nat.le_of_ble_eq_true rfl⟩) dX7_paid_20 hl.1 hK hAm hA hP hD hS 7 (ci := 2) rfl rfl rfl [7] rfl rfl rfl [] rfl rfl rfl (Nat.le_of_ble_eq_true rfl) ⟨Nat.le_refl _, Nat.le_refl _⟩ (fun H locs hP hD hS => kk6 H locs hP hD hS)
          · replace hr3 := kf c9 hr3
            by_cases c9 : this_tills_k2 = 3
            · replace hr3 := kt c9 hr3
              obtain ⟨q4, hq4, hr3⟩ := kb hr3
              have e9 := ks hr3
              subst e9
              subst c9
              exact kU (As := [.int p1, .int p2, .ref a_this_paysLaw]) (rest := []) ⟨hx, hb, hml, hown, hts⟩ (c_X3_due l G N (e_this_tills 2) a_this_paysLaw p1 p2 q4 hq4) (kcU (owner := RX8) (x := yX8_due) 3 hts tw_535 tw_84 tw_522 tw_525 tw_523 tw_554 tw_537 tw_534 (by decide) hd_X3_due.2.2 ⟨Nat.le_of_ble_eq_true rfl, Nat.le_of_ble_eq_true rfl⟩) dX7_paid_20 hl.1 hK hAm hA hP hD hS 7 (ci := 3) rfl rfl rfl [] rfl rfl rfl [] rfl rfl rfl (Nat.le_of_ble_eq_true rfl) ⟨Nat.le_refl _, Nat.le_refl _⟩ (fun H locs hP hD hS => kk6 H locs hP hD hS)
            · replace hr3 := kf c9 hr3
              by_cases c9 : this_tills_k2 = 5
              · replace hr3 := kt c9 hr3
                obtain ⟨q4, hq4, hr3⟩ := kb hr3
                have e9 := ks hr3
                subst e9
                subst c9
                exact kU (As := [.int p1, .int p2, .ref a_this_paysLaw]) (rest := []) ⟨hx, hb, hml, hown, hts⟩ (c_X5_due l G N a_this_paysLaw (e_this_tills 2) p1 p2 (this_tills_n 2) (this_tills_m 2) q4 hq4) (kcU (owner := RX8) (x := yX8_due) 3 hts tw_540 tw_87 tw_522 tw_525 tw_523 tw_554 tw_538 tw_539 (by decide) hd_X5_due.2.2 ⟨Nat.le_of_ble_eq_true rfl, Nat.le_of_ble_eq_true rfl⟩) dX7_paid_20 hl.1 hK hAm hA hP hD hS 7 (ci := 5) rfl rfl rfl [7] rfl rfl rfl [] rfl rfl rfl (Nat.le_of_ble_eq_true rfl) ⟨Nat.le_refl _, Nat.le_refl _⟩ (fun H locs hP hD hS => kk6 H locs hP hD hS)
              · replace hr3 := kf c9 hr3
                by_cases c9 : this_tills_k2 = 6
                · replace hr3 := kt c9 hr3
                  obtain ⟨q4, hq4, hr3⟩ := kb hr3
                  have e9 := ks hr3
                  subst e9
                  subst c9
                  exact kU (As := [.int p1, .int p2, .ref a_this_paysLaw]) (rest := []) ⟨hx, hb, hml, hown, hts⟩ (c_X6_due l G N (e_this_tills 2) a_this_paysLaw p1 p2 q4 hq4) (kcU (owner := RX8) (x := yX8_due) 3 hts tw_546 tw_85 tw_522 tw_525 tw_523 tw_554 tw_544 tw_545 (by decide) hd_X6_due.2.2 ⟨Nat.le_of_ble_eq_true rfl, Nat.le_of_ble_eq_true rfl⟩) dX7_paid_20 hl.1 hK hAm hA hP hD hS 7 (ci := 6) rfl rfl rfl [] rfl rfl rfl [] rfl rfl rfl (Nat.le_of_ble_eq_true rfl) ⟨Nat.le_refl _, Nat.le_refl _⟩ (fun H locs hP hD hS => kk6 H locs hP hD hS)
                · replace hr3 := kf c9 hr3
                  by_cases c9 : this_tills_k2 = 9
                  · replace hr3 := kt c9 hr3
                    obtain ⟨q4, hq4, hr3⟩ := kb hr3
                    have e9 := ks hr3
                    subst e9
                    subst c9
                    exact kU (As := [.int p1, .int p2, .ref a_this_paysLaw]) (rest := []) ⟨hx, hb, hml, hown, hts⟩ (c_X9_due l G N a_this_paysLaw a_this_paysLaw_names a_this_paysLaw_code a_this_paysLaw_stack a_this_paysLaw_bytes a_this_paysLaw_draft (e_this_tills 2) p1 p2 this_paysLaw_length this_paysLaw_drafted this_paysLaw_end this_paysLaw_place this_paysLaw_failed this_paysLaw_code this_paysLaw_stack (this_tills_n 2) (this_tills_m 2) q4 hq4) (kcU (owner := RX8) (x := yX8_due) 3 hts tw_550 tw_89 tw_522 tw_525 tw_523 tw_554 tw_548 tw_549 (by decide) hd_X9_due.2.2 ⟨Nat.le_of_ble_eq_true rfl, Nat.le_of_ble_eq_true rfl⟩) dX7_paid_20 hl.1 hK hAm hA hP hD hS 7 (ci := 9) rfl rfl rfl [1, 2, 3, 7] rfl rfl rfl [2] rfl rfl rfl (Nat.le_of_ble_eq_true rfl) ⟨Nat.le_refl _, Nat.le_refl _⟩ (fun H locs hP hD hS => kk6 H locs hP hD hS)
                  · replace hr3 := kf c9 hr3
                    cases hr3
    · rw [hj] at hr3 ⊢
      by_cases c9 : this_tills_k3 = 8
      · replace hr3 := kt c9 hr3
        obtain ⟨q4, hq4, hr3⟩ := kb hr3
        have e9 := ks hr3
        subst e9
        subst c9
        exact kV (As := [.int p1, .int p2, .ref a_this_paysLaw]) (rest := []) ⟨hx, hb, hml, hown, hts⟩ (c_X8_due l G N (e_this_tills 3) a_this_paysLaw p1 p2 q4 hq4) (kcV 3 hts tw_554 tw_83 tw_522 tw_523 tw_524 hd_X8_due ⟨Nat.le_of_ble_eq_true rfl, Nat.le_of_ble_eq_true rfl⟩) dX7_paid_20 hl.1 hK hAm hA hP hD hS 8 (ci := 8) rfl rfl rfl [] rfl rfl rfl [] rfl rfl rfl (Nat.le_of_ble_eq_true rfl) ⟨Nat.le_refl _, Nat.le_refl _⟩ (fun H locs hP hD hS => kk6 H locs hP hD hS)
      · replace hr3 := kf c9 hr3
        by_cases c9 : this_tills_k3 = 1
        · replace hr3 := kt c9 hr3
          obtain ⟨q4, hq4, hr3⟩ := kb hr3
          have e9 := ks hr3
          subst e9
          subst c9
          exact kU (As := [.int p1, .int p2, .ref a_this_paysLaw]) (rest := []) ⟨hx, hb, hml, hown, hts⟩ (c_X1_due l G N a_this_paysLaw (e_this_tills 3) p1 p2 (this_tills_n 3) (this_tills_m 3) q4 hq4) (kcU (owner := RX8) (x := yX8_due) 3 hts tw_528 tw_86 tw_522 tw_525 tw_523 tw_554 tw_526 tw_527 (by decide) hd_X1_due.2.2 ⟨Nat.le_of_ble_eq_true rfl, Nat.le_of_ble_eq_true rfl⟩) dX7_paid_20 hl.1 hK hAm hA hP hD hS 8 (ci := 1) rfl rfl rfl [8] rfl rfl rfl [] rfl rfl rfl (Nat.le_of_ble_eq_true rfl) ⟨Nat.le_refl _, Nat.le_refl _⟩ (fun H locs hP hD hS => kk6 H locs hP hD hS)
        · replace hr3 := kf c9 hr3
          by_cases c9 : this_tills_k3 = 2
          · replace hr3 := kt c9 hr3
            obtain ⟨q4, hq4, hr3⟩ := kb hr3
            have e9 := ks hr3
            subst e9
            subst c9
            exact kU (As := [.int p1, .int p2, .ref a_this_paysLaw]) (rest := []) ⟨hx, hb, hml, hown, hts⟩ (c_X2_due l G N a_this_paysLaw (e_this_tills 3) p1 p2 (this_tills_n 3) (this_tills_m 3) q4 hq4) (kcU (owner := RX8) (x := yX8_due) 3 hts tw_532 tw_88 tw_522 tw_525 tw_523 tw_554 tw_530 tw_531 (by decide) hd_X2_due.2.2 ⟨Nat.le_of_ble_eq_true rfl, Nat.le_of_ble_eq_true rfl⟩) dX7_paid_20 hl.1 hK hAm hA hP hD hS 8 (ci := 2) rfl rfl rfl [8] rfl rfl rfl [] rfl rfl rfl (Nat.le_of_ble_eq_true rfl) ⟨Nat.le_refl _, Nat.le_refl _⟩ (fun H locs hP hD hS => kk6 H locs hP hD hS)
          · replace hr3 := kf c9 hr3
            by_cases c9 : this_tills_k3 = 3
            · replace hr3 := kt c9 hr3
              obtain ⟨q4, hq4, hr3⟩ := kb hr3
              have e9 := ks hr3
              subst e9
              subst c9
              exact kU (As := [.int p1, .int p2, .ref a_this_paysLaw]) (rest := []) ⟨hx, hb, hml, hown, hts⟩ (c_X3_due l G N (e_this_tills 3) a_this_paysLaw p1 p2 q4 hq4) (kcU (owner := RX8) (x := yX8_due) 3 hts tw_535 tw_84 tw_522 tw_525 tw_523 tw_554 tw_537 tw_534 (by decide) hd_X3_due.2.2 ⟨Nat.le_of_ble_eq_true rfl, Nat.le_of_ble_eq_true rfl⟩) dX7_paid_20 hl.1 hK hAm hA hP hD hS 8 (ci := 3) rfl rfl rfl [] rfl rfl rfl [] rfl rfl rfl (Nat.le_of_ble_eq_true rfl) ⟨Nat.le_refl _, Nat.le_refl _⟩ (fun H locs hP hD hS => kk6 H locs hP hD hS)
            · replace hr3 := kf c9 hr3
              by_cases c9 : this_tills_k3 = 5
              · replace hr3 := kt c9 hr3
                obtain ⟨q4, hq4, hr3⟩ := kb hr3
                have e9 := ks hr3
                subst e9
                subst c9
                exact kU (As := [.int p1, .int p2, .ref a_this_paysLaw]) (rest := []) ⟨hx, hb, hml, hown, hts⟩ (c_X5_due l G N a_this_paysLaw (e_this_tills 3) p1 p2 (this_tills_n 3) (this_tills_m 3) q4 hq4) (kcU (owner := RX8) (x := yX8_due) 3 hts tw_540 tw_87 tw_522 tw_525 tw_523 tw_554 tw_538 tw_539 (by decide) hd_X5_due.2.2 ⟨Nat.le_of_ble_eq_true rfl, Nat.le_of_ble_eq_true rfl⟩) dX7_paid_20 hl.1 hK hAm hA hP hD hS 8 (ci := 5) rfl rfl rfl [8] rfl rfl rfl [] rfl rfl rfl (Nat.le_of_ble_eq_true rfl) ⟨Nat.le_refl _, Nat.le_refl _⟩ (fun H locs hP hD hS => kk6 H locs hP hD hS)
              · replace hr3 := kf c9 hr3
                by_cases c9 : this_tills_k3 = 6
                · replace hr3 := kt c9 hr3
                  obtain ⟨q4, hq4, hr3⟩ := kb hr3
                  have e9 := ks hr3
                  subst e9
                  subst c9
                  exact kU (As := [.int p1, .int p2, .ref a_this_paysLaw]) (rest := []) ⟨hx, hb, hml, hown, hts⟩ (c_X6_due l G N (e_this_tills 3) a_this_paysLaw p1 p2 q4 hq4) (kcU (owner := RX8) (x := yX8_due) 3 hts tw_546 tw_85 tw_522 tw_525 tw_523 tw_554 tw_544 tw_545 (by decide) hd_X6_due.2.2 ⟨Nat.le_of_ble_eq_true rfl, Nat.le_of_ble_eq_true rfl⟩) dX7_paid_20 hl.1 hK hAm hA hP hD hS 8 (ci := 6) rfl rfl rfl [] rfl rfl rfl [] rfl rfl rfl (Nat.le_of_ble_eq_true rfl) ⟨Nat.le_refl _, Nat.le_refl _⟩ (fun H locs hP hD hS => kk6 H locs hP hD hS)
                · replace hr3 := kf c9 hr3
                  by_cases c9 : this_tills_k3 = 9
                  · replace hr3 := kt c9 hr3
                    obtain ⟨q4, hq4, hr3⟩ := kb hr3
                    have e9 := ks hr3
                    subst e9
                    subst c9
                    exact kU (As := [.int p1, .int p2, .ref a_this_paysLaw]) (rest := []) ⟨hx, hb, hml, hown, hts⟩ (c_X9_due l G N a_this_paysLaw a_this_paysLaw_names a_this_paysLaw_code a_this_paysLaw_stack a_this_paysLaw_bytes a_this_paysLaw_draft (e_this_tills 3) p1 p2 this_paysLaw_length this_paysLaw_drafted this_paysLaw_end this_paysLaw_place this_paysLaw_failed this_paysLaw_code this_paysLaw_stack (this_tills_n 3) (this_tills_m 3) q4 hq4) (kcU (owner := RX8) (x := yX8_due) 3 hts tw_550 tw_89 tw_522 tw_525 tw_523 tw_554 tw_548 tw_549 (by decide) hd_X9_due.2.2 ⟨Nat.le_of_ble_eq_true rfl, Nat.le_of_ble_eq_true rfl⟩) dX7_paid_20 hl.1 hK hAm hA hP hD hS 8 (ci := 9) rfl rfl rfl [1, 2, 3, 8] rfl rfl rfl [2] rfl rfl rfl (Nat.le_of_ble_eq_true rfl) ⟨Nat.le_refl _, Nat.le_refl _⟩ (fun H locs hP hD hS => kk6 H locs hP hD hS)
                  · replace hr3 := kf c9 hr3
                    cases hr3
  · replace hf := kt c1 hf
    refine lv_iconst (v := (0 : Int32)) hx hb dX7_paid_4 (by decide) ?_
    refine lv_goto (tgt := 29) hx hb dX7_paid_5 (by decide) ?_
    have ho := ks hf
    subst ho
    exact kiret hx hb hr hlk hP hD hS hQ dX7_paid_29
abbrev k_X9_comes (G : KG) (a_p0 : Nat) (a_p0_bodies : Nat) (a_this : Nat) (p0_length : Int32) (p0_parted : Int32) (p0_bodies : Nat → Int32) (this_number : Int32) (this_m : Int32) : va_W := [(a_p0, .inr (10, [.ref a_p0_bodies, .int p0_length, .int p0_parted])), (a_p0_bodies, .inl (gI G, 30, .inl p0_bodies)), (a_this, .inr (9, [.int this_number, .int this_m]))]
def f_X9_comes (N : Nat) (p1 : Int32) (p0_length : Int32) (p0_bodies : Nat → Int32) (this_m : Int32) : Option (Int32 × (Int32) × (Nat → Int32)) := ((f_X10_began N (71 : Int32) p0_length p0_bodies).bind fun r1 => ((f_X8_comes_X9 N p1 r1.1 r1.2).bind fun r2 => (some ((r2.1 + this_m), r2.2.1, r2.2.2))))
set_option maxRecDepth 100000 in
set_option maxHeartbeats 4000000 in
theorem c_X9_comes (l : Launch) (G : KG) (N : Nat) (a_p0 : Nat) (a_p0_bodies : Nat) (a_this : Nat) (p1 : Int32) (p0_length : Int32) (p0_parted : Int32) (p0_bodies : Nat → Int32) (this_number : Int32) (this_m : Int32)  (out : Int32 × (Int32) × (Nat → Int32)) (hf : f_X9_comes N p1 p0_length p0_bodies this_m = some out) : KM l G yX9_comes (kw yX9_comes cX9_comes 3 (some .int)) 3 65 [.ref a_this, .ref a_p0, .int p1] (k_X9_comes G a_p0 a_p0_bodies a_this p0_length p0_parted p0_bodies this_number this_m) (k_X9_comes G a_p0 a_p0_bodies a_this (out.2.1) p0_parted (out.2.2) this_number this_m) (some (.int (out.1))) := by
  refine KM.of (by decide) (Nat.le_of_ble_eq_true rfl) ?_
  intro p e s m below meth c A ls args Q Fx0 hP hK hD hA hS hAm hQ hl
  obtain ⟨hx, hb, hr, hml, hts, hown, hlk, hnm⟩ := Fx0
  have hown : s.vm.findClass RX9 = some m.cls := hown
  have hl : lv_has ls 3 [(0, .ref a_this), (1, .ref a_p0), (2, .int p1)] := hl
  have fl_17 := hts _ tw_183
  have sf_17 := hts _ tw_184
  unfold f_X9_comes at hf
  refine lv_aload_n hx hb dX9_comes_0 rfl (lv_at hl 1 rfl) ?_
  refine lv_bipush (v := (71 : Int32)) hx hb dX9_comes_1 (by decide) ?_
  obtain ⟨r1, hr1, hf⟩ := kb hf
  refine kVN (As := [.int (71 : Int32)]) (rest := []) ⟨hx, hb, hml, hown, hts⟩ (c_X10_began l G N a_p0 a_p0_bodies (71 : Int32) p0_length p0_parted p0_bodies r1 hr1) ⟨kcN 1 hts hAm nw_X9_31 tw_837 tw_90 hd_X10_began ⟨Nat.le_of_ble_eq_true rfl, Nat.le_of_ble_eq_true rfl⟩, hts _ tw_836, hts _ tw_38⟩ dX9_comes_3 hl.1 hK hAm hA hP hD hS 0 (ci := 10) rfl rfl rfl [0, 1] rfl rfl rfl [0, 1] rfl rfl rfl (Nat.le_of_ble_eq_true rfl) ⟨Nat.le_refl _, Nat.le_refl _⟩ (fun H locs hP hD hS => ?_)
  have hP : va_P (gD G) vwCl (k_X9_comes G a_p0 a_p0_bodies a_this r1.1 p0_parted r1.2 this_number this_m) H := hP
  have hD : va_D A (k_X9_comes G a_p0 a_p0_bodies a_this r1.1 p0_parted r1.2 this_number this_m) := hD
  refine lv_aload_n hx hb dX9_comes_6 rfl (lv_at hl 0 rfl) ?_
  refine lv_aload_n hx hb dX9_comes_7 rfl (lv_at hl 1 rfl) ?_
  refine lv_iload_n hx hb dX9_comes_8 rfl (lv_at hl 2 rfl) ?_
  obtain ⟨r2, hr2, hf⟩ := kb hf
  refine kSU (As := [.ref a_p0, .int p1]) (rest := []) ⟨hx, hb, hml, hown, hts⟩ (c_X8_comes_X9 l G N a_p0 a_p0_bodies a_this p1 r1.1 p0_parted r1.2 this_number this_m r2 hr2) (kcSU 2 hts tw_873 tw_83 tw_872 tw_855 tw_235 tw_853 (by decide) hd_X8_comes ⟨Nat.le_of_ble_eq_true rfl, Nat.le_of_ble_eq_true rfl⟩) dX9_comes_9 hl.1 hK hAm hA hP hD hS 2 (ci := 9) rfl rfl [0, 1, 2] rfl rfl rfl [0, 1] rfl rfl rfl (Nat.le_of_ble_eq_true rfl) ⟨Nat.le_refl _, Nat.le_refl _⟩ (fun H locs hP hD hS => ?_)
  have hP : va_P (gD G) vwCl (k_X9_comes G a_p0 a_p0_bodies a_this r2.2.1 p0_parted r2.2.2 this_number this_m) H := hP
  have hD : va_D A (k_X9_comes G a_p0 a_p0_bodies a_this r2.2.1 p0_parted r2.2.2 this_number this_m) := hD
  refine lv_aload_n hx hb dX9_comes_12 rfl (lv_at hl 0 rfl) ?_
  refine va_get (D := gD G) (ci := 9) (C := RX9) (T := TX9) (N := 2) hx hb hts hin_X9 hown hK hP 2 rfl rfl 1 (by decide) fl_17 (u_same sf_17) rfl dX9_comes_13 ?_
  refine lv_iadd hx hb dX9_comes_16 ?_
  have ho := ks hf
  subst ho
  exact kiret hx hb hr hlk hP hD hS hQ dX9_comes_17
abbrev k_X8_gives_X5 (G : KG) (a_p0 : Nat) (a_p0_bodies : Nat) (a_this : Nat) (p0_length : Int32) (p0_parted : Int32) (p0_bodies : Nat → Int32) (this_number : Int32) (this_m : Int32) : va_W := [(a_p0, .inr (10, [.ref a_p0_bodies, .int p0_length, .int p0_parted])), (a_p0_bodies, .inl (gI G, 30, .inl p0_bodies)), (a_this, .inr (5, [.int this_number, .int this_m]))]
def f_X8_gives_X5 (N : Nat) (p1 : Int32) (p0_length : Int32) (p0_bodies : Nat → Int32) (this_number : Int32) (this_m : Int32) : Option (Int32 × (Int32) × (Nat → Int32)) := ((f_X10_began N (12 : Int32) p0_length p0_bodies).bind fun r1 => ((f_X5_comes N p1 r1.1 r1.2 this_number).bind fun r2 => (some ((r2.1 - this_m), r2.2.1, r2.2.2))))
set_option maxRecDepth 100000 in
set_option maxHeartbeats 4000000 in
theorem c_X8_gives_X5 (l : Launch) (G : KG) (N : Nat) (a_p0 : Nat) (a_p0_bodies : Nat) (a_this : Nat) (p1 : Int32) (p0_length : Int32) (p0_parted : Int32) (p0_bodies : Nat → Int32) (this_number : Int32) (this_m : Int32)  (out : Int32 × (Int32) × (Nat → Int32)) (hf : f_X8_gives_X5 N p1 p0_length p0_bodies this_number this_m = some out) : KM l G yX8_gives (kw yX8_gives cX8_gives 3 (some .int)) 5 109 [.ref a_this, .ref a_p0, .int p1] (k_X8_gives_X5 G a_p0 a_p0_bodies a_this p0_length p0_parted p0_bodies this_number this_m) (k_X8_gives_X5 G a_p0 a_p0_bodies a_this (out.2.1) p0_parted (out.2.2) this_number this_m) (some (.int (out.1))) := by
  refine KM.of (by decide) (Nat.le_of_ble_eq_true rfl) ?_
  intro p e s m below meth c A ls args Q Fx0 hP hK hD hA hS hAm hQ hl
  obtain ⟨hx, hb, hr, hml, hts, hown, hlk, hnm⟩ := Fx0
  have hown : s.vm.findClass RX8 = some m.cls := hown
  have hl : lv_has ls 3 [(0, .ref a_this), (1, .ref a_p0), (2, .int p1)] := hl
  have fl_13 := hts _ tw_176
  unfold f_X8_gives_X5 at hf
  refine lv_aload_n hx hb dX8_gives_0 rfl (lv_at hl 1 rfl) ?_
  refine lv_bipush (v := (12 : Int32)) hx hb dX8_gives_1 (by decide) ?_
  obtain ⟨r1, hr1, hf⟩ := kb hf
  refine kVN (As := [.int (12 : Int32)]) (rest := []) ⟨hx, hb, hml, hown, hts⟩ (c_X10_began l G N a_p0 a_p0_bodies (12 : Int32) p0_length p0_parted p0_bodies r1 hr1) ⟨kcN 1 hts hAm nw_X8_22 tw_837 tw_90 hd_X10_began ⟨Nat.le_of_ble_eq_true rfl, Nat.le_of_ble_eq_true rfl⟩, hts _ tw_836, hts _ tw_38⟩ dX8_gives_3 hl.1 hK hAm hA hP hD hS 0 (ci := 10) rfl rfl rfl [0, 1] rfl rfl rfl [0, 1] rfl rfl rfl (Nat.le_of_ble_eq_true rfl) ⟨Nat.le_refl _, Nat.le_refl _⟩ (fun H locs hP hD hS => ?_)
  have hP : va_P (gD G) vwCl (k_X8_gives_X5 G a_p0 a_p0_bodies a_this r1.1 p0_parted r1.2 this_number this_m) H := hP
  have hD : va_D A (k_X8_gives_X5 G a_p0 a_p0_bodies a_this r1.1 p0_parted r1.2 this_number this_m) := hD
  refine lv_aload_n hx hb dX8_gives_6 rfl (lv_at hl 0 rfl) ?_
  refine lv_aload_n hx hb dX8_gives_7 rfl (lv_at hl 1 rfl) ?_
  refine lv_iload_n hx hb dX8_gives_8 rfl (lv_at hl 2 rfl) ?_
  obtain ⟨r2, hr2, hf⟩ := kb hf
  refine kU (As := [.ref a_p0, .int p1]) (rest := []) ⟨hx, hb, hml, hown, hts⟩ (c_X5_comes l G N a_p0 a_p0_bodies a_this p1 r1.1 p0_parted r1.2 this_number this_m r2 hr2) (kcU (owner := RX8) (x := yX8_comes) 2 hts tw_861 tw_87 tw_895 tw_855 tw_853 tw_873 tw_859 tw_860 (by decide) hd_X5_comes.2.2 ⟨Nat.le_of_ble_eq_true rfl, Nat.le_of_ble_eq_true rfl⟩) dX8_gives_9 hl.1 hK hAm hA hP hD hS 2 (ci := 5) rfl rfl rfl [0, 1, 2] rfl rfl rfl [0, 1] rfl rfl rfl (Nat.le_of_ble_eq_true rfl) ⟨Nat.le_refl _, Nat.le_refl _⟩ (fun H locs hP hD hS => ?_)
  have hP : va_P (gD G) vwCl (k_X8_gives_X5 G a_p0 a_p0_bodies a_this r2.2.1 p0_parted r2.2.2 this_number this_m) H := hP
  have hD : va_D A (k_X8_gives_X5 G a_p0 a_p0_bodies a_this r2.2.1 p0_parted r2.2.2 this_number this_m) := hD
  refine lv_aload_n hx hb dX8_gives_12 rfl (lv_at hl 0 rfl) ?_
  refine va_get (D := gD G) (ci := 5) (C := RX5) (T := TX5) (N := 2) hx hb hts hin_X5 hown hK hP 2 rfl rfl 1 (by decide) fl_13 (fun _ h9 => h9) rfl dX8_gives_13 ?_
  refine lv_isub hx hb dX8_gives_16 ?_
  have ho := ks hf
  subst ho
  exact kiret hx hb hr hlk hP hD hS hQ dX8_gives_17
abbrev k_X8_comes_X2 (G : KG) (a_p0 : Nat) (a_p0_bodies : Nat) (a_this : Nat) (p0_length : Int32) (p0_parted : Int32) (p0_bodies : Nat → Int32) (this_number : Int32) (this_m : Int32) : va_W := [(a_p0, .inr (10, [.ref a_p0_bodies, .int p0_length, .int p0_parted])), (a_p0_bodies, .inl (gI G, 30, .inl p0_bodies)), (a_this, .inr (2, [.int this_number, .int this_m]))]
def f_X8_comes_X2 (N : Nat) (p1 : Int32) (p0_length : Int32) (p0_bodies : Nat → Int32) (this_number : Int32) : Option (Int32 × (Int32) × (Nat → Int32)) := ((f_X10_began N (11 : Int32) p0_length p0_bodies).bind fun r1 => ((f_X2_adds N p1 r1.1 r1.2 this_number).bind fun r2 => (some ((r2.1 * (2 : Int32)), r2.2.1, r2.2.2))))
set_option maxRecDepth 100000 in
set_option maxHeartbeats 4000000 in
theorem c_X8_comes_X2 (l : Launch) (G : KG) (N : Nat) (a_p0 : Nat) (a_p0_bodies : Nat) (a_this : Nat) (p1 : Int32) (p0_length : Int32) (p0_parted : Int32) (p0_bodies : Nat → Int32) (this_number : Int32) (this_m : Int32)  (out : Int32 × (Int32) × (Nat → Int32)) (hf : f_X8_comes_X2 N p1 p0_length p0_bodies this_number = some out) : KM l G yX8_comes (kw yX8_comes cX8_comes 3 (some .int)) 4 87 [.ref a_this, .ref a_p0, .int p1] (k_X8_comes_X2 G a_p0 a_p0_bodies a_this p0_length p0_parted p0_bodies this_number this_m) (k_X8_comes_X2 G a_p0 a_p0_bodies a_this (out.2.1) p0_parted (out.2.2) this_number this_m) (some (.int (out.1))) := by
  refine KM.of (by decide) (Nat.le_of_ble_eq_true rfl) ?_
  intro p e s m below meth c A ls args Q Fx0 hP hK hD hA hS hAm hQ hl
  obtain ⟨hx, hb, hr, hml, hts, hown, hlk, hnm⟩ := Fx0
  have hown : s.vm.findClass RX8 = some m.cls := hown
  have hl : lv_has ls 3 [(0, .ref a_this), (1, .ref a_p0), (2, .int p1)] := hl
  unfold f_X8_comes_X2 at hf
  refine lv_aload_n hx hb dX8_comes_0 rfl (lv_at hl 1 rfl) ?_
  refine lv_bipush (v := (11 : Int32)) hx hb dX8_comes_1 (by decide) ?_
  obtain ⟨r1, hr1, hf⟩ := kb hf
  refine kVN (As := [.int (11 : Int32)]) (rest := []) ⟨hx, hb, hml, hown, hts⟩ (c_X10_began l G N a_p0 a_p0_bodies (11 : Int32) p0_length p0_parted p0_bodies r1 hr1) ⟨kcN 1 hts hAm nw_X8_22 tw_837 tw_90 hd_X10_began ⟨Nat.le_of_ble_eq_true rfl, Nat.le_of_ble_eq_true rfl⟩, hts _ tw_836, hts _ tw_38⟩ dX8_comes_3 hl.1 hK hAm hA hP hD hS 0 (ci := 10) rfl rfl rfl [0, 1] rfl rfl rfl [0, 1] rfl rfl rfl (Nat.le_of_ble_eq_true rfl) ⟨Nat.le_refl _, Nat.le_refl _⟩ (fun H locs hP hD hS => ?_)
  have hP : va_P (gD G) vwCl (k_X8_comes_X2 G a_p0 a_p0_bodies a_this r1.1 p0_parted r1.2 this_number this_m) H := hP
  have hD : va_D A (k_X8_comes_X2 G a_p0 a_p0_bodies a_this r1.1 p0_parted r1.2 this_number this_m) := hD
  refine lv_aload_n hx hb dX8_comes_6 rfl (lv_at hl 0 rfl) ?_
  refine lv_aload_n hx hb dX8_comes_7 rfl (lv_at hl 1 rfl) ?_
  refine lv_iload_n hx hb dX8_comes_8 rfl (lv_at hl 2 rfl) ?_
  obtain ⟨r2, hr2, hf⟩ := kb hf
  refine kU (As := [.ref a_p0, .int p1]) (rest := []) ⟨hx, hb, hml, hown, hts⟩ (c_X2_adds l G N a_p0 a_p0_bodies a_this p1 r1.1 p0_parted r1.2 this_number this_m r2 hr2) (kcU (owner := RX8) (x := yX8_adds) 2 hts tw_833 tw_88 tw_874 tw_829 tw_827 tw_850 tw_831 tw_832 (by decide) hd_X2_adds.2.2 ⟨Nat.le_of_ble_eq_true rfl, Nat.le_of_ble_eq_true rfl⟩) dX8_comes_9 hl.1 hK hAm hA hP hD hS 2 (ci := 2) rfl rfl rfl [0, 1, 2] rfl rfl rfl [0, 1] rfl rfl rfl (Nat.le_of_ble_eq_true rfl) ⟨Nat.le_refl _, Nat.le_refl _⟩ (fun H locs hP hD hS => ?_)
  have hP : va_P (gD G) vwCl (k_X8_comes_X2 G a_p0 a_p0_bodies a_this r2.2.1 p0_parted r2.2.2 this_number this_m) H := hP
  have hD : va_D A (k_X8_comes_X2 G a_p0 a_p0_bodies a_this r2.2.1 p0_parted r2.2.2 this_number this_m) := hD
  refine lv_iconst (v := (2 : Int32)) hx hb dX8_comes_12 (by decide) ?_
  refine lv_imul hx hb dX8_comes_13 ?_
  have ho := ks hf
  subst ho
  exact kiret hx hb hr hlk hP hD hS hQ dX8_comes_14
abbrev k_X8_gives_X2 (G : KG) (a_p0 : Nat) (a_p0_bodies : Nat) (a_this : Nat) (p0_length : Int32) (p0_parted : Int32) (p0_bodies : Nat → Int32) (this_number : Int32) (this_m : Int32) : va_W := [(a_p0, .inr (10, [.ref a_p0_bodies, .int p0_length, .int p0_parted])), (a_p0_bodies, .inl (gI G, 30, .inl p0_bodies)), (a_this, .inr (2, [.int this_number, .int this_m]))]
def f_X8_gives_X2 (N : Nat) (p1 : Int32) (p0_length : Int32) (p0_bodies : Nat → Int32) (this_number : Int32) (this_m : Int32) : Option (Int32 × (Int32) × (Nat → Int32)) := ((f_X10_began N (12 : Int32) p0_length p0_bodies).bind fun r1 => ((f_X8_comes_X2 N p1 r1.1 r1.2 this_number).bind fun r2 => (some ((r2.1 - this_m), r2.2.1, r2.2.2))))
set_option maxRecDepth 100000 in
set_option maxHeartbeats 4000000 in
theorem c_X8_gives_X2 (l : Launch) (G : KG) (N : Nat) (a_p0 : Nat) (a_p0_bodies : Nat) (a_this : Nat) (p1 : Int32) (p0_length : Int32) (p0_parted : Int32) (p0_bodies : Nat → Int32) (this_number : Int32) (this_m : Int32)  (out : Int32 × (Int32) × (Nat → Int32)) (hf : f_X8_gives_X2 N p1 p0_length p0_bodies this_number this_m = some out) : KM l G yX8_gives (kw yX8_gives cX8_gives 3 (some .int)) 5 109 [.ref a_this, .ref a_p0, .int p1] (k_X8_gives_X2 G a_p0 a_p0_bodies a_this p0_length p0_parted p0_bodies this_number this_m) (k_X8_gives_X2 G a_p0 a_p0_bodies a_this (out.2.1) p0_parted (out.2.2) this_number this_m) (some (.int (out.1))) := by
  refine KM.of (by decide) (Nat.le_of_ble_eq_true rfl) ?_
  intro p e s m below meth c A ls args Q Fx0 hP hK hD hA hS hAm hQ hl
  obtain ⟨hx, hb, hr, hml, hts, hown, hlk, hnm⟩ := Fx0
  have hown : s.vm.findClass RX8 = some m.cls := hown
  have hl : lv_has ls 3 [(0, .ref a_this), (1, .ref a_p0), (2, .int p1)] := hl
  have fl_13 := hts _ tw_176
  unfold f_X8_gives_X2 at hf
  refine lv_aload_n hx hb dX8_gives_0 rfl (lv_at hl 1 rfl) ?_
  refine lv_bipush (v := (12 : Int32)) hx hb dX8_gives_1 (by decide) ?_
  obtain ⟨r1, hr1, hf⟩ := kb hf
  refine kVN (As := [.int (12 : Int32)]) (rest := []) ⟨hx, hb, hml, hown, hts⟩ (c_X10_began l G N a_p0 a_p0_bodies (12 : Int32) p0_length p0_parted p0_bodies r1 hr1) ⟨kcN 1 hts hAm nw_X8_22 tw_837 tw_90 hd_X10_began ⟨Nat.le_of_ble_eq_true rfl, Nat.le_of_ble_eq_true rfl⟩, hts _ tw_836, hts _ tw_38⟩ dX8_gives_3 hl.1 hK hAm hA hP hD hS 0 (ci := 10) rfl rfl rfl [0, 1] rfl rfl rfl [0, 1] rfl rfl rfl (Nat.le_of_ble_eq_true rfl) ⟨Nat.le_refl _, Nat.le_refl _⟩ (fun H locs hP hD hS => ?_)
  have hP : va_P (gD G) vwCl (k_X8_gives_X2 G a_p0 a_p0_bodies a_this r1.1 p0_parted r1.2 this_number this_m) H := hP
  have hD : va_D A (k_X8_gives_X2 G a_p0 a_p0_bodies a_this r1.1 p0_parted r1.2 this_number this_m) := hD
  refine lv_aload_n hx hb dX8_gives_6 rfl (lv_at hl 0 rfl) ?_
  refine lv_aload_n hx hb dX8_gives_7 rfl (lv_at hl 1 rfl) ?_
  refine lv_iload_n hx hb dX8_gives_8 rfl (lv_at hl 2 rfl) ?_
  obtain ⟨r2, hr2, hf⟩ := kb hf
  refine kU (As := [.ref a_p0, .int p1]) (rest := []) ⟨hx, hb, hml, hown, hts⟩ (c_X8_comes_X2 l G N a_p0 a_p0_bodies a_this p1 r1.1 p0_parted r1.2 this_number this_m r2 hr2) (kcU (owner := RX8) (x := yX8_comes) 2 hts tw_873 tw_83 tw_895 tw_855 tw_853 tw_873 tw_857 tw_853 (by decide) hd_X8_comes.2.2 ⟨Nat.le_of_ble_eq_true rfl, Nat.le_of_ble_eq_true rfl⟩) dX8_gives_9 hl.1 hK hAm hA hP hD hS 2 (ci := 2) rfl rfl rfl [0, 1, 2] rfl rfl rfl [0, 1] rfl rfl rfl (Nat.le_of_ble_eq_true rfl) ⟨Nat.le_refl _, Nat.le_refl _⟩ (fun H locs hP hD hS => ?_)
  have hP : va_P (gD G) vwCl (k_X8_gives_X2 G a_p0 a_p0_bodies a_this r2.2.1 p0_parted r2.2.2 this_number this_m) H := hP
  have hD : va_D A (k_X8_gives_X2 G a_p0 a_p0_bodies a_this r2.2.1 p0_parted r2.2.2 this_number this_m) := hD
  refine lv_aload_n hx hb dX8_gives_12 rfl (lv_at hl 0 rfl) ?_
  refine va_get (D := gD G) (ci := 2) (C := RX2) (T := TX2) (N := 2) hx hb hts hin_X2 hown hK hP 2 rfl rfl 1 (by decide) fl_13 (fun _ h9 => h9) rfl dX8_gives_13 ?_
  refine lv_isub hx hb dX8_gives_16 ?_
  have ho := ks hf
  subst ho
  exact kiret hx hb hr hlk hP hD hS hQ dX8_gives_17
abbrev k_X8_gives_X9 (G : KG) (a_p0 : Nat) (a_p0_bodies : Nat) (a_this : Nat) (p0_length : Int32) (p0_parted : Int32) (p0_bodies : Nat → Int32) (this_number : Int32) (this_m : Int32) : va_W := [(a_p0, .inr (10, [.ref a_p0_bodies, .int p0_length, .int p0_parted])), (a_p0_bodies, .inl (gI G, 30, .inl p0_bodies)), (a_this, .inr (9, [.int this_number, .int this_m]))]
def f_X8_gives_X9 (N : Nat) (p1 : Int32) (p0_length : Int32) (p0_bodies : Nat → Int32) (this_m : Int32) : Option (Int32 × (Int32) × (Nat → Int32)) := ((f_X10_began N (12 : Int32) p0_length p0_bodies).bind fun r1 => ((f_X9_comes N p1 r1.1 r1.2 this_m).bind fun r2 => (some ((r2.1 - this_m), r2.2.1, r2.2.2))))
set_option maxRecDepth 100000 in
set_option maxHeartbeats 4000000 in
theorem c_X8_gives_X9 (l : Launch) (G : KG) (N : Nat) (a_p0 : Nat) (a_p0_bodies : Nat) (a_this : Nat) (p1 : Int32) (p0_length : Int32) (p0_parted : Int32) (p0_bodies : Nat → Int32) (this_number : Int32) (this_m : Int32)  (out : Int32 × (Int32) × (Nat → Int32)) (hf : f_X8_gives_X9 N p1 p0_length p0_bodies this_m = some out) : KM l G yX8_gives (kw yX8_gives cX8_gives 3 (some .int)) 4 87 [.ref a_this, .ref a_p0, .int p1] (k_X8_gives_X9 G a_p0 a_p0_bodies a_this p0_length p0_parted p0_bodies this_number this_m) (k_X8_gives_X9 G a_p0 a_p0_bodies a_this (out.2.1) p0_parted (out.2.2) this_number this_m) (some (.int (out.1))) := by
  refine KM.of (by decide) (Nat.le_of_ble_eq_true rfl) ?_
  intro p e s m below meth c A ls args Q Fx0 hP hK hD hA hS hAm hQ hl
  obtain ⟨hx, hb, hr, hml, hts, hown, hlk, hnm⟩ := Fx0
  have hown : s.vm.findClass RX8 = some m.cls := hown
  have hl : lv_has ls 3 [(0, .ref a_this), (1, .ref a_p0), (2, .int p1)] := hl
  have fl_13 := hts _ tw_176
  unfold f_X8_gives_X9 at hf
  refine lv_aload_n hx hb dX8_gives_0 rfl (lv_at hl 1 rfl) ?_
  refine lv_bipush (v := (12 : Int32)) hx hb dX8_gives_1 (by decide) ?_
  obtain ⟨r1, hr1, hf⟩ := kb hf
  refine kVN (As := [.int (12 : Int32)]) (rest := []) ⟨hx, hb, hml, hown, hts⟩ (c_X10_began l G N a_p0 a_p0_bodies (12 : Int32) p0_length p0_parted p0_bodies r1 hr1) ⟨kcN 1 hts hAm nw_X8_22 tw_837 tw_90 hd_X10_began ⟨Nat.le_of_ble_eq_true rfl, Nat.le_of_ble_eq_true rfl⟩, hts _ tw_836, hts _ tw_38⟩ dX8_gives_3 hl.1 hK hAm hA hP hD hS 0 (ci := 10) rfl rfl rfl [0, 1] rfl rfl rfl [0, 1] rfl rfl rfl (Nat.le_of_ble_eq_true rfl) ⟨Nat.le_refl _, Nat.le_refl _⟩ (fun H locs hP hD hS => ?_)
  have hP : va_P (gD G) vwCl (k_X8_gives_X9 G a_p0 a_p0_bodies a_this r1.1 p0_parted r1.2 this_number this_m) H := hP
  have hD : va_D A (k_X8_gives_X9 G a_p0 a_p0_bodies a_this r1.1 p0_parted r1.2 this_number this_m) := hD
  refine lv_aload_n hx hb dX8_gives_6 rfl (lv_at hl 0 rfl) ?_
  refine lv_aload_n hx hb dX8_gives_7 rfl (lv_at hl 1 rfl) ?_
  refine lv_iload_n hx hb dX8_gives_8 rfl (lv_at hl 2 rfl) ?_
  obtain ⟨r2, hr2, hf⟩ := kb hf
  refine kU (As := [.ref a_p0, .int p1]) (rest := []) ⟨hx, hb, hml, hown, hts⟩ (c_X9_comes l G N a_p0 a_p0_bodies a_this p1 r1.1 p0_parted r1.2 this_number this_m r2 hr2) (kcU (owner := RX8) (x := yX8_comes) 2 hts tw_871 tw_89 tw_895 tw_855 tw_853 tw_873 tw_869 tw_870 (by decide) hd_X9_comes.2.2 ⟨Nat.le_of_ble_eq_true rfl, Nat.le_of_ble_eq_true rfl⟩) dX8_gives_9 hl.1 hK hAm hA hP hD hS 2 (ci := 9) rfl rfl rfl [0, 1, 2] rfl rfl rfl [0, 1] rfl rfl rfl (Nat.le_of_ble_eq_true rfl) ⟨Nat.le_refl _, Nat.le_refl _⟩ (fun H locs hP hD hS => ?_)
  have hP : va_P (gD G) vwCl (k_X8_gives_X9 G a_p0 a_p0_bodies a_this r2.2.1 p0_parted r2.2.2 this_number this_m) H := hP
  have hD : va_D A (k_X8_gives_X9 G a_p0 a_p0_bodies a_this r2.2.1 p0_parted r2.2.2 this_number this_m) := hD
  refine lv_aload_n hx hb dX8_gives_12 rfl (lv_at hl 0 rfl) ?_
  refine va_get (D := gD G) (ci := 9) (C := RX9) (T := TX9) (N := 2) hx hb hts hin_X9 hown hK hP 2 rfl rfl 1 (by decide) fl_13 (fun _ h9 => h9) rfl dX8_gives_13 ?_
  refine lv_isub hx hb dX8_gives_16 ?_
  have ho := ks hf
  subst ho
  exact kiret hx hb hr hlk hP hD hS hQ dX8_gives_17
abbrev k_X2_gives (G : KG) (a_p0 : Nat) (a_p0_bodies : Nat) (a_this : Nat) (p0_length : Int32) (p0_parted : Int32) (p0_bodies : Nat → Int32) (this_number : Int32) (this_m : Int32) : va_W := [(a_p0, .inr (10, [.ref a_p0_bodies, .int p0_length, .int p0_parted])), (a_p0_bodies, .inl (gI G, 30, .inl p0_bodies)), (a_this, .inr (2, [.int this_number, .int this_m]))]
def f_X2_gives (N : Nat) (p1 : Int32) (p0_length : Int32) (p0_bodies : Nat → Int32) (this_number : Int32) (this_m : Int32) : Option (Int32 × (Int32) × (Nat → Int32)) := ((f_X10_began N (51 : Int32) p0_length p0_bodies).bind fun r1 => ((f_X8_gives_X2 N p1 r1.1 r1.2 this_number this_m).bind fun r2 => (some ((r2.1 ^^^ this_number), r2.2.1, r2.2.2))))
set_option maxRecDepth 100000 in
set_option maxHeartbeats 4000000 in
theorem c_X2_gives (l : Launch) (G : KG) (N : Nat) (a_p0 : Nat) (a_p0_bodies : Nat) (a_this : Nat) (p1 : Int32) (p0_length : Int32) (p0_parted : Int32) (p0_bodies : Nat → Int32) (this_number : Int32) (this_m : Int32)  (out : Int32 × (Int32) × (Nat → Int32)) (hf : f_X2_gives N p1 p0_length p0_bodies this_number this_m = some out) : KM l G yX2_gives (kw yX2_gives cX2_gives 3 (some .int)) 6 131 [.ref a_this, .ref a_p0, .int p1] (k_X2_gives G a_p0 a_p0_bodies a_this p0_length p0_parted p0_bodies this_number this_m) (k_X2_gives G a_p0 a_p0_bodies a_this (out.2.1) p0_parted (out.2.2) this_number this_m) (some (.int (out.1))) := by
  refine KM.of (by decide) (Nat.le_of_ble_eq_true rfl) ?_
  intro p e s m below meth c A ls args Q Fx0 hP hK hD hA hS hAm hQ hl
  obtain ⟨hx, hb, hr, hml, hts, hown, hlk, hnm⟩ := Fx0
  have hown : s.vm.findClass RX2 = some m.cls := hown
  have hl : lv_has ls 3 [(0, .ref a_this), (1, .ref a_p0), (2, .int p1)] := hl
  have fl_40 := hts _ tw_174
  have sf_40 := hts _ tw_175
  unfold f_X2_gives at hf
  refine lv_aload_n hx hb dX2_gives_0 rfl (lv_at hl 1 rfl) ?_
  refine lv_bipush (v := (51 : Int32)) hx hb dX2_gives_1 (by decide) ?_
  obtain ⟨r1, hr1, hf⟩ := kb hf
  refine kVN (As := [.int (51 : Int32)]) (rest := []) ⟨hx, hb, hml, hown, hts⟩ (c_X10_began l G N a_p0 a_p0_bodies (51 : Int32) p0_length p0_parted p0_bodies r1 hr1) ⟨kcN 1 hts hAm nw_X2_27 tw_837 tw_90 hd_X10_began ⟨Nat.le_of_ble_eq_true rfl, Nat.le_of_ble_eq_true rfl⟩, hts _ tw_836, hts _ tw_38⟩ dX2_gives_3 hl.1 hK hAm hA hP hD hS 0 (ci := 10) rfl rfl rfl [0, 1] rfl rfl rfl [0, 1] rfl rfl rfl (Nat.le_of_ble_eq_true rfl) ⟨Nat.le_refl _, Nat.le_refl _⟩ (fun H locs hP hD hS => ?_)
  have hP : va_P (gD G) vwCl (k_X2_gives G a_p0 a_p0_bodies a_this r1.1 p0_parted r1.2 this_number this_m) H := hP
  have hD : va_D A (k_X2_gives G a_p0 a_p0_bodies a_this r1.1 p0_parted r1.2 this_number this_m) := hD
  refine lv_aload_n hx hb dX2_gives_6 rfl (lv_at hl 0 rfl) ?_
  refine lv_aload_n hx hb dX2_gives_7 rfl (lv_at hl 1 rfl) ?_
  refine lv_iload_n hx hb dX2_gives_8 rfl (lv_at hl 2 rfl) ?_
  obtain ⟨r2, hr2, hf⟩ := kb hf
  refine kSX (D := "FigureTill$LastTill") (As := [.ref a_p0, .int p1]) (rest := []) ⟨hx, hb, hml, hown, hts⟩ (c_X8_gives_X2 l G N a_p0 a_p0_bodies a_this p1 r1.1 p0_parted r1.2 this_number this_m r2 hr2) hts tw_894 tw_83 tw_887 tw_888 tw_226 tw_190 tw_876 (by decide) hd_X8_gives.2.2 ⟨Nat.le_of_ble_eq_true rfl, Nat.le_of_ble_eq_true rfl⟩ dX2_gives_9 hl.1 hK hAm hA hP hD hS 2 (ci := 2) rfl rfl [0, 1, 2] rfl rfl rfl [0, 1] rfl rfl rfl (Nat.le_of_ble_eq_true rfl) ⟨Nat.le_refl _, Nat.le_refl _⟩ (fun H locs hP hD hS => ?_)
  have hP : va_P (gD G) vwCl (k_X2_gives G a_p0 a_p0_bodies a_this r2.2.1 p0_parted r2.2.2 this_number this_m) H := hP
  have hD : va_D A (k_X2_gives G a_p0 a_p0_bodies a_this r2.2.1 p0_parted r2.2.2 this_number this_m) := hD
  refine lv_aload_n hx hb dX2_gives_12 rfl (lv_at hl 0 rfl) ?_
  refine va_get (D := gD G) (ci := 2) (C := RX2) (T := TX2) (N := 2) hx hb hts hin_X2 hown hK hP 2 rfl rfl 0 (by decide) fl_40 (u_same sf_40) rfl dX2_gives_13 ?_
  refine lv_ixor hx hb dX2_gives_16 ?_
  have ho := ks hf
  subst ho
  exact kiret hx hb hr hlk hP hD hS hQ dX2_gives_17
abbrev k_X3_parts_X2 (G : KG) (a_p0 : Nat) (a_p0_bodies : Nat) (a_this : Nat) (p0_length : Int32) (p0_parted : Int32) (p0_bodies : Nat → Int32) (this_number : Int32) (this_m : Int32) : va_W := [(a_p0, .inr (10, [.ref a_p0_bodies, .int p0_length, .int p0_parted])), (a_p0_bodies, .inl (gI G, 30, .inl p0_bodies)), (a_this, .inr (2, [.int this_number, .int this_m]))]
def f_X3_parts_X2 (N : Nat) (p1 : Int32) (p0_length : Int32) (p0_parted : Int32) (p0_bodies : Nat → Int32) (this_number : Int32) (this_m : Int32) : Option (Int32 × (Int32) × (Int32) × (Nat → Int32)) := ((f_X10_began N (21 : Int32) p0_length p0_bodies).bind fun r1 => ((f_X8_parts_X2 N p1 r1.1 p0_parted r1.2 this_number this_m).bind fun r2 => (if r2.2.2.1 = 0 then ((f_X8_comes_X2 N (1 : Int32) r2.2.1 r2.2.2.2 this_number).bind fun r4 => (some ((r2.1 + r4.1), r4.2.1, r2.2.2.1, r4.2.2))) else (some ((0 : Int32), r2.2.1, r2.2.2.1, r2.2.2.2)))))
set_option maxRecDepth 100000 in
set_option maxHeartbeats 4000000 in
theorem c_X3_parts_X2 (l : Launch) (G : KG) (N : Nat) (a_p0 : Nat) (a_p0_bodies : Nat) (a_this : Nat) (p1 : Int32) (p0_length : Int32) (p0_parted : Int32) (p0_bodies : Nat → Int32) (this_number : Int32) (this_m : Int32)  (out : Int32 × (Int32) × (Int32) × (Nat → Int32)) (hf : f_X3_parts_X2 N p1 p0_length p0_parted p0_bodies this_number this_m = some out) : KM l G yX3_parts (kw yX3_parts cX3_parts 4 (some .int)) 5 109 [.ref a_this, .ref a_p0, .int p1] (k_X3_parts_X2 G a_p0 a_p0_bodies a_this p0_length p0_parted p0_bodies this_number this_m) (k_X3_parts_X2 G a_p0 a_p0_bodies a_this (out.2.1) (out.2.2.1) (out.2.2.2) this_number this_m) (some (.int (out.1))) := by
  refine KM.of (by decide) (Nat.le_of_ble_eq_true rfl) ?_
  intro p e s m below meth c A ls args Q Fx0 hP hK hD hA hS hAm hQ hl
  obtain ⟨hx, hb, hr, hml, hts, hown, hlk, hnm⟩ := Fx0
  have hown : s.vm.findClass RX3 = some m.cls := hown
  have hl : lv_has ls 4 [(0, .ref a_this), (1, .ref a_p0), (2, .int p1)] := hl
  have fl_24 := va_Nw.use (A := args) rfl (hAm.1 _ nw_X3_24 rfl)
  unfold f_X3_parts_X2 at hf
  refine lv_aload_n hx hb dX3_parts_0 rfl (lv_at hl 1 rfl) ?_
  refine lv_bipush (v := (21 : Int32)) hx hb dX3_parts_1 (by decide) ?_
  obtain ⟨r1, hr1, hf⟩ := kb hf
  refine kVN (As := [.int (21 : Int32)]) (rest := []) ⟨hx, hb, hml, hown, hts⟩ (c_X10_began l G N a_p0 a_p0_bodies (21 : Int32) p0_length p0_parted p0_bodies r1 hr1) ⟨kcN 1 hts hAm nw_X3_11 tw_837 tw_90 hd_X10_began ⟨Nat.le_of_ble_eq_true rfl, Nat.le_of_ble_eq_true rfl⟩, hts _ tw_836, hts _ tw_38⟩ dX3_parts_3 hl.1 hK hAm hA hP hD hS 0 (ci := 10) rfl rfl rfl [0, 1] rfl rfl rfl [0, 1] rfl rfl rfl (Nat.le_of_ble_eq_true rfl) ⟨Nat.le_refl _, Nat.le_refl _⟩ (fun H locs hP hD hS => ?_)
  have hP : va_P (gD G) vwCl (k_X3_parts_X2 G a_p0 a_p0_bodies a_this r1.1 p0_parted r1.2 this_number this_m) H := hP
  have hD : va_D A (k_X3_parts_X2 G a_p0 a_p0_bodies a_this r1.1 p0_parted r1.2 this_number this_m) := hD
  refine lv_aload_n hx hb dX3_parts_6 rfl (lv_at hl 0 rfl) ?_
  refine lv_aload_n hx hb dX3_parts_7 rfl (lv_at hl 1 rfl) ?_
  refine lv_iload_n hx hb dX3_parts_8 rfl (lv_at hl 2 rfl) ?_
  obtain ⟨r2, hr2, hf⟩ := kb hf
  refine kSU (As := [.ref a_p0, .int p1]) (rest := []) ⟨hx, hb, hml, hown, hts⟩ (c_X8_parts_X2 l G N a_p0 a_p0_bodies a_this p1 r1.1 p0_parted r1.2 this_number this_m r2 hr2) (kcSU 2 hts tw_914 tw_83 tw_904 tw_899 tw_190 tw_897 (by decide) hd_X8_parts ⟨Nat.le_of_ble_eq_true rfl, Nat.le_of_ble_eq_true rfl⟩) dX3_parts_9 hl.1 hK hAm hA hP hD hS 2 (ci := 2) rfl rfl [0, 1, 2] rfl rfl rfl [0, 1] rfl rfl rfl (Nat.le_of_ble_eq_true rfl) ⟨Nat.le_refl _, Nat.le_refl _⟩ (fun H locs hP hD hS => ?_)
  have hP : va_P (gD G) vwCl (k_X3_parts_X2 G a_p0 a_p0_bodies a_this r2.2.1 r2.2.2.1 r2.2.2.2 this_number this_m) H := hP
  have hD : va_D A (k_X3_parts_X2 G a_p0 a_p0_bodies a_this r2.2.1 r2.2.2.1 r2.2.2.2 this_number this_m) := hD
  refine lv_istore_n (lv' := [(3, .int r2.1), (0, .ref a_this), (1, .ref a_p0), (2, .int p1)]) hx hb dX3_parts_12 rfl hl (by decide) rfl (fun ls hl => ?_)
  refine lv_aload_n hx hb dX3_parts_13 rfl (lv_at hl 2 rfl) ?_
  refine va_getN (D := gD G) (ci := 10) (C := RX10) (T := TX10) (N := 3) hx hb hts hin_X10 hown hK hP 0 rfl rfl 2 (by decide) fl_24 (fun _ h9 => h9) rfl dX3_parts_14 ?_
  refine lv_if_eq (tgt := 24) hx hb dX3_parts_17 (by decide) (fun c3 => ?_) (fun c3 => ?_)
  · replace hf := kt c3 hf
    refine lv_iload_n hx hb dX3_parts_24 rfl (lv_at hl 0 rfl) ?_
    refine lv_aload_n hx hb dX3_parts_25 rfl (lv_at hl 1 rfl) ?_
    refine lv_aload_n hx hb dX3_parts_26 rfl (lv_at hl 2 rfl) ?_
    refine lv_iconst (v := (1 : Int32)) hx hb dX3_parts_27 (by decide) ?_
    obtain ⟨r4, hr4, hf⟩ := kb hf
    refine kU (As := [.ref a_p0, .int (1 : Int32)]) (rest := [.int r2.1]) ⟨hx, hb, hml, hown, hts⟩ (c_X8_comes_X2 l G N a_p0 a_p0_bodies a_this (1 : Int32) r2.2.1 r2.2.2.1 r2.2.2.2 this_number this_m r4 hr4) (kcU (owner := RX8) (x := ⟨"FigureTill$LastTill", "comes", "(LFigureTill$Trace;I)I"⟩) 2 hts tw_873 tw_83 tw_905 tw_906 tw_853 tw_873 tw_908 tw_853 (by decide) hd_X8_comes.2.2 ⟨Nat.le_of_ble_eq_true rfl, Nat.le_of_ble_eq_true rfl⟩) dX3_parts_28 hl.1 hK hAm hA hP hD hS 2 (ci := 2) rfl rfl rfl [0, 1, 2] rfl rfl rfl [0, 1] rfl rfl rfl (Nat.le_of_ble_eq_true rfl) ⟨Nat.le_refl _, Nat.le_refl _⟩ (fun H locs hP hD hS => ?_)
    have hP : va_P (gD G) vwCl (k_X3_parts_X2 G a_p0 a_p0_bodies a_this r4.2.1 r2.2.2.1 r4.2.2 this_number this_m) H := hP
    have hD : va_D A (k_X3_parts_X2 G a_p0 a_p0_bodies a_this r4.2.1 r2.2.2.1 r4.2.2 this_number this_m) := hD
    refine lv_iadd hx hb dX3_parts_31 ?_
    have ho := ks hf
    subst ho
    exact kiret hx hb hr hlk hP hD hS hQ dX3_parts_32
  · replace hf := kf c3 hf
    refine lv_iconst (v := (0 : Int32)) hx hb dX3_parts_20 (by decide) ?_
    refine lv_goto (tgt := 32) hx hb dX3_parts_21 (by decide) ?_
    have ho := ks hf
    subst ho
    exact kiret hx hb hr hlk hP hD hS hQ dX3_parts_32
