/-! the two literals' own methods: length() and charAt(k) -/
section KSTR
variable {p : Program} {l : Launch} {e : Env} {R : Room} {s : State} {m : MethodId} {args : Array Value} {below : List Frame} {meth : Method} {c : Code} {H : Heap} {locs : List Loc} {cells slots : Nat} {Q : State → Prop}
variable {pc : Nat} {ls : Array Slot} {rest st0 : List Value} {a : Array Value} {A : Nat → Prop} {G : KG} {ws wc w1 : va_W} {rv : Option Value}
variable {y : MethodName} {bytes cc : ByteArray} {maxL nL n index fr lo : Nat} {ret : Option FieldType} {w Ts : List Cond} {own C : String} {b : Addr} {As : List Value}
theorem knret {v : Int32} {ty : FieldType} (hx : p.tables.exec = Jvm.exec) (hb : c.code = cc) (hr : meth.sig.returnType = some ty) (hn : narrow ty (.int v) = .int v) (hlk : meth.locks = false) (hP : va_P (gD G) vwCl w1 H) (hD : va_D A w1) (hS : va_S A s.heap H locs) (hQ : Q = MQ below (KPost G A w1 (some (.int v))) args s cells slots A) (hdg : decode cc pc = .ok (.ireturn, 1)) :
    W p l e R s m args below meth c H locs cells slots Q (F0 m pc ls [.int v]) := by
  subst hQ
  exact W.zret hx hb hr hn (fun t ht _ => ⟨⟨rfl, by rw [ht]; exact hP, hD⟩, hS.F ht⟩) hS.2.2 hdg hlk
/-- invokevirtual on a literal -/
theorem kVs (S : CallFix p m c cc nL s args Ts own) (hM : KM l G y w fr lo (.ref b :: As) wc w1 rv) (cw : CallW R s args own C index y bytes maxL ret w (kR fr 0 0 lo) 0 0 n) (hdg : decode cc pc = .ok (.invokevirtual index, 3)) (hl : ls.size = nL)
    (hrec : ∃ cell : Cell, H[b]? = some cell ∧ cell.vm.isStatics = false ∧ s.vm.findClass C = some cell.cls)
    (hK : va_K (gD G) vwCl (gTys G) s) (hAm : Amb G A s s.heap) (hA : ∀ q, s.heap.size ≤ q → A q) (hP : va_P (gD G) vwCl ws H) (hD : va_D A ws) (hS : va_S A s.heap H locs)
    (is : List Nat) (hC : is.map (fun i => ws[i]?) = wc.map some) (hnd : va_nd is = true) (hw1 : w1.map (fun q => q.1) = wc.map (fun q => q.1)) (im : List Nat) (hs : w1 = kupsS wc w1 im)
    (hn : As.length = n) (hstack : st0 = As.reverse ++ .ref b :: rest) (hroom : (rest.map fun v => v.category).sum ≤ 8)
    (hcap : cells + 0 ≤ R.cells ∧ slots + 0 ≤ R.slots)
    (kk : ∀ (H1 : Heap) (locs1 : List Loc), va_P (gD G) vwCl (kupsM ws is w1 im) H1 → va_D A (kupsM ws is w1 im) → va_S A s.heap H1 locs1 → W p l e R s m args below meth c H1 locs1 cells slots Q (F0 m (pc + 3) ls (rv.toList ++ rest))) : W p l e R s m args below meth c H locs cells slots Q (F0 m pc ls st0) :=
  kgo (va_runV (g := F0 m pc ls st0) (As := As) (rest := rest) S (hM H.size) cw ⟨KPre.blind, hrec, kpre (.ref b :: As) hK hP hD hS hA hAm is hC hnd⟩ rfl hn hl hstack (lv_room hroom) hdg hcap) hP hD hS hA is hC hw1 im hs kk
end KSTR
def chS (i k : Nat) : Int32 := (strBytes.getD i []).getD k 0
theorem hd_J0_coder : yJ0_coder_7d493.cls ≠ "java/lang/invoke/MethodHandle" ∧ yJ0_coder_7d493.cls ≠ "java/lang/invoke/VarHandle" ∧ (parseMethodDescriptor yJ0_coder_7d493.desc).map (fun d => d.parameters.length) = some 0 := by decide +kernel
theorem hd_J0_length : yJ0_length_8abf5.cls ≠ "java/lang/invoke/MethodHandle" ∧ yJ0_length_8abf5.cls ≠ "java/lang/invoke/VarHandle" ∧ (parseMethodDescriptor yJ0_length_8abf5.desc).map (fun d => d.parameters.length) = some 0 := by decide +kernel
theorem hd_J0_isLatin1 : yJ0_isLatin1_aae02.cls ≠ "java/lang/invoke/MethodHandle" ∧ yJ0_isLatin1_aae02.cls ≠ "java/lang/invoke/VarHandle" ∧ (parseMethodDescriptor yJ0_isLatin1_aae02.desc).map (fun d => d.parameters.length) = some 0 := by decide +kernel
theorem hd_J0_charAt : yJ0_charAt_5068e.cls ≠ "java/lang/invoke/MethodHandle" ∧ yJ0_charAt_5068e.cls ≠ "java/lang/invoke/VarHandle" ∧ (parseMethodDescriptor yJ0_charAt_5068e.desc).map (fun d => d.parameters.length) = some 1 := by decide +kernel
theorem hd_J0_checkIndex : yJ0_checkIndex_df160.cls ≠ "java/lang/invoke/MethodHandle" ∧ yJ0_checkIndex_df160.cls ≠ "java/lang/invoke/VarHandle" ∧ (parseMethodDescriptor yJ0_checkIndex_df160.desc).map (fun d => d.parameters.length) = some 2 := by decide +kernel
theorem hd_J3_checkIndex : yJ3_checkIndex_8e157.cls ≠ "java/lang/invoke/MethodHandle" ∧ yJ3_checkIndex_8e157.cls ≠ "java/lang/invoke/VarHandle" ∧ (parseMethodDescriptor yJ3_checkIndex_8e157.desc).map (fun d => d.parameters.length) = some 3 := by decide +kernel
theorem hd_J1_charAt : yJ1_charAt_3b067.cls ≠ "java/lang/invoke/MethodHandle" ∧ yJ1_charAt_3b067.cls ≠ "java/lang/invoke/VarHandle" ∧ (parseMethodDescriptor yJ1_charAt_3b067.desc).map (fun d => d.parameters.length) = some 2 := by decide +kernel
set_option maxRecDepth 100000 in
set_option maxHeartbeats 4000000 in
theorem c_J0_coder (l : Launch) (G : KG) (i : Nat) (hi : i < 2) : KM l G yJ0_coder_7d493 (kw yJ0_coder_7d493 cJ0_coder_7d493 1 (some .byte)) 0 0 [.ref (G.2.2.2.1 i)] [] [] (some (.int 0)) := by
  refine KM.of (by decide) (Nat.le_of_ble_eq_true rfl) ?_
  intro p e s m below meth c A ls args Q Fx0 hP hK hD hA hS hAm hQ hl
  obtain ⟨hx, hb, hr, hml, hts, hown, hlk, hnm⟩ := Fx0
  have hown : s.vm.findClass RJ0 = some m.cls := hown
  have hl : lv_has ls 1 [(0, .ref (G.2.2.2.1 i))] := hl
  have hE := (hAm.2.2.2.2.1.1 i hi).2.1
  refine va_gets hx hb hAm.2.2.2.2.2.1 hS hown (hts _ tw_627) (fun _ h9 => h9) dJ0_coder_7d493_0 ?_
  refine lv_if_eq (tgt := 13) hx hb dJ0_coder_7d493_3 (by decide) (fun h => absurd h (by decide)) (fun h => ?_)
  refine lv_aload_n hx hb dJ0_coder_7d493_6 rfl (lv_at hl 0 rfl) ?_
  refine vk_getf hx hb hE hS hown (hts _ tw_1418) (fun _ h9 => h9) dJ0_coder_7d493_7 ?_
  refine lv_goto (tgt := 14) hx hb dJ0_coder_7d493_10 (by decide) ?_
  exact knret hx hb hr (by decide +kernel) hlk hP hD hS hQ dJ0_coder_7d493_14
set_option maxRecDepth 100000 in
set_option maxHeartbeats 4000000 in
theorem c_J0_isLatin1 (l : Launch) (G : KG) (i : Nat) (hi : i < 2) : KM l G yJ0_isLatin1_aae02 (kw yJ0_isLatin1_aae02 cJ0_isLatin1_aae02 1 (some .boolean)) 0 0 [.ref (G.2.2.2.1 i)] [] [] (some (.int 1)) := by
  refine KM.of (by decide) (Nat.le_of_ble_eq_true rfl) ?_
  intro p e s m below meth c A ls args Q Fx0 hP hK hD hA hS hAm hQ hl
  obtain ⟨hx, hb, hr, hml, hts, hown, hlk, hnm⟩ := Fx0
  have hown : s.vm.findClass RJ0 = some m.cls := hown
  have hl : lv_has ls 1 [(0, .ref (G.2.2.2.1 i))] := hl
  have hE := (hAm.2.2.2.2.1.1 i hi).2.1
  refine va_gets hx hb hAm.2.2.2.2.2.1 hS hown (hts _ tw_627) (fun _ h9 => h9) dJ0_isLatin1_aae02_0 ?_
  refine lv_if_eq (tgt := 17) hx hb dJ0_isLatin1_aae02_3 (by decide) (fun h => absurd h (by decide)) (fun h => ?_)
  refine lv_aload_n hx hb dJ0_isLatin1_aae02_6 rfl (lv_at hl 0 rfl) ?_
  refine vk_getf hx hb hE hS hown (hts _ tw_1418) (fun _ h9 => h9) dJ0_isLatin1_aae02_7 ?_
  refine lv_if_ne (tgt := 17) hx hb dJ0_isLatin1_aae02_10 (by decide) (fun h => absurd rfl h) (fun h => ?_)
  refine lv_iconst (v := (1 : Int32)) hx hb dJ0_isLatin1_aae02_13 (by decide) ?_
  refine lv_goto (tgt := 18) hx hb dJ0_isLatin1_aae02_14 (by decide) ?_
  exact knret hx hb hr (by decide +kernel) hlk hP hD hS hQ dJ0_isLatin1_aae02_18
set_option maxRecDepth 100000 in
set_option maxHeartbeats 4000000 in
theorem c_J0_length (l : Launch) (G : KG) (i : Nat) (hi : i < 2) : KM l G yJ0_length_8abf5 (kw yJ0_length_8abf5 cJ0_length_8abf5 1 (some .int)) 1 20 [.ref (G.2.2.2.1 i)] [] [] (some (.int 3)) := by
  refine KM.of (by decide) (Nat.le_of_ble_eq_true rfl) ?_
  intro p e s m below meth c A ls args Q Fx0 hP hK hD hA hS hAm hQ hl
  obtain ⟨hx, hb, hr, hml, hts, hown, hlk, hnm⟩ := Fx0
  have hown : s.vm.findClass RJ0 = some m.cls := hown
  have hl : lv_has ls 1 [(0, .ref (G.2.2.2.1 i))] := hl
  have hE := (hAm.2.2.2.2.1.1 i hi).2.2.1
  have hT := (hAm.2.2.2.2.1.1 i hi).2.2.2
  have h3 : strLens.getD i 0 = 3 := by rcases (show i = 0 ∨ i = 1 by omega) with rfl | rfl <;> rfl
  rw [h3] at hT
  refine lv_aload_n hx hb dJ0_length_8abf5_0 rfl (lv_at hl 0 rfl) ?_
  refine vk_getf hx hb hE hS hown (hts _ tw_1417) (fun _ h9 => h9) dJ0_length_8abf5_1 ?_
  refine va_tlen (v := 3) hx hb hT hS (by decide) dJ0_length_8abf5_4 ?_
  refine lv_aload_n hx hb dJ0_length_8abf5_5 rfl (lv_at hl 0 rfl) ?_
  refine kVs (As := []) (rest := [.int 3]) ⟨hx, hb, hml, hown, hts⟩ (c_J0_coder l G i hi) (kcV 0 hts tw_626 tw_95 tw_623 tw_624 tw_625 hd_J0_coder ⟨Nat.le_of_ble_eq_true rfl, Nat.le_of_ble_eq_true rfl⟩) dJ0_length_8abf5_6 hl.1 (vk_recv hAm.2.2.2.2.1 hi hS) hK hAm hA hP hD hS [] rfl rfl rfl [] rfl rfl rfl (Nat.le_of_ble_eq_true rfl) ⟨Nat.le_refl _, Nat.le_refl _⟩ (fun H locs hP hD hS => ?_)
  have hP : va_P (gD G) vwCl [] H := hP
  have hD : va_D A [] := hD
  refine lv_ishr hx hb dJ0_length_8abf5_9 ?_
  exact kiret (w1 := []) hx hb hr hlk hP hD hS (hQ.trans (by rw [show (3 : Int32) >>> ((0 : Int32) &&& 31) = 3 by decide])) dJ0_length_8abf5_10
set_option maxRecDepth 100000 in
set_option maxHeartbeats 4000000 in
theorem c_J3_checkIndex (l : Launch) (G : KG) (k n : Int32) (v : Value) (hv : v = .null ∨ ∃ t, v = .ref t) (h0 : ¬ k < 0) (h1 : k < n) : KM l G yJ3_checkIndex_8e157 (kw yJ3_checkIndex_8e157 cJ3_checkIndex_8e157 3 (some .int)) 0 0 [.int k, .int n, v] [] [] (some (.int k)) := by
  refine KM.of (by decide) (by rcases hv with rfl | ⟨t, rfl⟩ <;> exact Nat.le_of_ble_eq_true rfl) ?_
  intro p e s m below meth c A ls args Q Fx0 hP hK hD hA hS hAm hQ hl
  obtain ⟨hx, hb, hr, hml, hts, hown, hlk, hnm⟩ := Fx0
  have hl : lv_has ls 3 [(0, .int k), (1, .int n)] := by rcases hv with rfl | ⟨t, rfl⟩ <;> exact lv_sub hl [0, 1] rfl
  refine lv_iload_n hx hb dJ3_checkIndex_8e157_0 rfl (lv_at hl 0 rfl) ?_
  refine lv_if_lt (tgt := 9) hx hb dJ3_checkIndex_8e157_1 (by decide) (fun h => absurd h h0) (fun h => ?_)
  refine lv_iload_n hx hb dJ3_checkIndex_8e157_4 rfl (lv_at hl 0 rfl) ?_
  refine lv_iload_n hx hb dJ3_checkIndex_8e157_5 rfl (lv_at hl 1 rfl) ?_
  refine lv_icmp_lt (tgt := 16) hx hb dJ3_checkIndex_8e157_6 (by decide) (fun h => ?_) (fun h => absurd h1 h)
  refine lv_iload_n hx hb dJ3_checkIndex_8e157_16 rfl (lv_at hl 0 rfl) ?_
  exact kiret hx hb hr hlk hP hD hS hQ dJ3_checkIndex_8e157_17
set_option maxRecDepth 100000 in
set_option maxHeartbeats 4000000 in
theorem c_J0_checkIndex (l : Launch) (G : KG) (k n : Int32) (h0 : ¬ k < 0) (h1 : k < n) : KM l G yJ0_checkIndex_df160 (kw yJ0_checkIndex_df160 cJ0_checkIndex_df160 2 none) 1 22 [.int k, .int n] [] [] none := by
  refine KM.of (by decide) (Nat.le_of_ble_eq_true rfl) ?_
  intro p e s m below meth c A ls args Q Fx0 hP hK hD hA hS hAm hQ hl
  obtain ⟨hx, hb, hr, hml, hts, hown, hlk, hnm⟩ := Fx0
  have hown : s.vm.findClass RJ0 = some m.cls := hown
  have hl : lv_has ls 2 [(0, .int k), (1, .int n)] := hl
  refine lv_iload_n hx hb dJ0_checkIndex_df160_0 rfl (lv_at hl 0 rfl) ?_
  refine lv_iload_n hx hb dJ0_checkIndex_df160_1 rfl (lv_at hl 1 rfl) ?_
  have go : ∀ v : Value, (v = .null ∨ ∃ t, v = .ref t) → W p l e (kR 1 0 0 22) s m args below meth c s.heap [] 0 0 Q (F0 m 5 ls [v, .int n, .int k]) := by
    intro v hv
    refine kS (As := [.int k, .int n, v]) (rest := []) ⟨hx, hb, hml, hown, hts⟩ (c_J3_checkIndex l G k n v hv h0 h1) (kcS 3 hts tw_647 tw_97 tw_645 tw_646 hd_J3_checkIndex ⟨Nat.le_of_ble_eq_true rfl, Nat.le_of_ble_eq_true rfl⟩) dJ0_checkIndex_df160_5 hl.1 hK hAm hA hP hD hS [] rfl rfl rfl [] rfl rfl rfl (Nat.le_of_ble_eq_true rfl) ⟨Nat.le_refl _, Nat.le_refl _⟩ (fun H locs hP hD hS => ?_)
    have hP : va_P (gD G) vwCl [] H := hP
    have hD : va_D A [] := hD
    refine lv_pop hx hb dJ0_checkIndex_df160_8 rfl ?_
    exact kvret hx hb hr hlk hP hD hS hQ dJ0_checkIndex_df160_9
  rcases hAm.2.2.2.2.2.2.1 with hZ | ⟨t, hZ⟩
  · exact va_gets hx hb hZ hS hown (hts _ tw_643) (fun _ h9 => h9) dJ0_checkIndex_df160_2 (go _ (Or.inl rfl))
  · exact va_gets hx hb hZ hS hown (hts _ tw_643) (fun _ h9 => h9) dJ0_checkIndex_df160_2 (go _ (Or.inr ⟨t, rfl⟩))
set_option maxRecDepth 100000 in
set_option maxHeartbeats 4000000 in
theorem c_J1_charAt (l : Launch) (G : KG) (i k : Nat) (hi : i < 2) (hk : k < 3) : KM l G yJ1_charAt_3b067 (kw yJ1_charAt_3b067 cJ1_charAt_3b067 2 (some .char)) 2 50 [.ref (G.2.2.2.2 i), .int (nI k)] [] [] (some (.int (chS i k))) := by
  refine KM.of (by decide) (Nat.le_of_ble_eq_true rfl) ?_
  intro p e s m below meth c A ls args Q Fx0 hP hK hD hA hS hAm hQ hl
  obtain ⟨hx, hb, hr, hml, hts, hown, hlk, hnm⟩ := Fx0
  have hown : s.vm.findClass RJ1 = some m.cls := hown
  have hl : lv_has ls 2 [(0, .ref (G.2.2.2.2 i)), (1, .int (nI k))] := hl
  have hT := (hAm.2.2.2.2.1.1 i hi).2.2.2
  have h3 : strLens.getD i 0 = 3 := by rcases (show i = 0 ∨ i = 1 by omega) with rfl | rfl <;> rfl
  rw [h3] at hT
  refine lv_iload_n hx hb dJ1_charAt_3b067_0 rfl (lv_at hl 1 rfl) ?_
  refine lv_aload_n hx hb dJ1_charAt_3b067_1 rfl (lv_at hl 0 rfl) ?_
  refine va_tlen (v := 3) hx hb hT hS (by decide) dJ1_charAt_3b067_2 ?_
  refine kS (As := [.int (nI k), .int 3]) (rest := []) ⟨hx, hb, hml, hown, hts⟩ (c_J0_checkIndex l G (nI k) 3 (nI_pos (by omega)) (nI_lt hk (by decide))) (kcS 2 hts tw_642 tw_95 tw_640 tw_641 hd_J0_checkIndex ⟨Nat.le_of_ble_eq_true rfl, Nat.le_of_ble_eq_true rfl⟩) dJ1_charAt_3b067_3 hl.1 hK hAm hA hP hD hS [] rfl rfl rfl [] rfl rfl rfl (Nat.le_of_ble_eq_true rfl) ⟨Nat.le_refl _, Nat.le_refl _⟩ (fun H locs hP hD hS => ?_)
  have hP : va_P (gD G) vwCl [] H := hP
  have hD : va_D A [] := hD
  refine lv_aload_n hx hb dJ1_charAt_3b067_6 rfl (lv_at hl 0 rfl) ?_
  refine lv_iload_n hx hb dJ1_charAt_3b067_7 rfl (lv_at hl 1 rfl) ?_
  refine va_tb (v := .int (chS i k)) hx hb hT hS (vp_in_nI hk (by decide)) (by rw [nI_clamp (by omega)]; rfl) dJ1_charAt_3b067_8 ?_
  refine lv_sipush (v := (255 : Int32)) hx hb dJ1_charAt_3b067_9 (by decide) ?_
  refine lv_iand hx hb dJ1_charAt_3b067_12 ?_
  have e1 : (((chS i k) &&& 255).toUInt32 % 65536).toInt32 = chS i k := by
    rcases (show i = 0 ∨ i = 1 by omega) with rfl | rfl <;> rcases (show k = 0 ∨ k = 1 ∨ k = 2 by omega) with rfl | rfl | rfl <;> decide +kernel
  have e2 : narrow .char (.int (chS i k)) = .int (chS i k) := by
    rcases (show i = 0 ∨ i = 1 by omega) with rfl | rfl <;> rcases (show k = 0 ∨ k = 1 ∨ k = 2 by omega) with rfl | rfl | rfl <;> decide +kernel
  refine lv_i2c (v := chS i k) hx hb dJ1_charAt_3b067_13 e1 ?_
  exact knret hx hb hr e2 hlk hP hD hS hQ dJ1_charAt_3b067_14
set_option maxRecDepth 100000 in
set_option maxHeartbeats 4000000 in
theorem c_J0_charAt (l : Launch) (G : KG) (i k : Nat) (hi : i < 2) (hk : k < 3) : KM l G yJ0_charAt_5068e (kw yJ0_charAt_5068e cJ0_charAt_5068e 2 (some .char)) 3 80 [.ref (G.2.2.2.1 i), .int (nI k)] [] [] (some (.int (chS i k))) := by
  refine KM.of (by decide) (Nat.le_of_ble_eq_true rfl) ?_
  intro p e s m below meth c A ls args Q Fx0 hP hK hD hA hS hAm hQ hl
  obtain ⟨hx, hb, hr, hml, hts, hown, hlk, hnm⟩ := Fx0
  have hown : s.vm.findClass RJ0 = some m.cls := hown
  have hl : lv_has ls 2 [(0, .ref (G.2.2.2.1 i)), (1, .int (nI k))] := hl
  have hE := (hAm.2.2.2.2.1.1 i hi).2.2.1
  refine lv_aload_n hx hb dJ0_charAt_5068e_0 rfl (lv_at hl 0 rfl) ?_
  refine kVs (As := []) (rest := []) ⟨hx, hb, hml, hown, hts⟩ (c_J0_isLatin1 l G i hi) (kcV 0 hts tw_636 tw_95 tw_633 tw_634 tw_635 hd_J0_isLatin1 ⟨Nat.le_of_ble_eq_true rfl, Nat.le_of_ble_eq_true rfl⟩) dJ0_charAt_5068e_1 hl.1 (vk_recv hAm.2.2.2.2.1 hi hS) hK hAm hA hP hD hS [] rfl rfl rfl [] rfl rfl rfl (Nat.le_of_ble_eq_true rfl) ⟨Nat.le_refl _, Nat.le_refl _⟩ (fun H locs hP hD hS => ?_)
  have hP : va_P (gD G) vwCl [] H := hP
  have hD : va_D A [] := hD
  refine lv_if_eq (tgt := 16) hx hb dJ0_charAt_5068e_4 (by decide) (fun h => absurd h (by decide)) (fun h => ?_)
  refine lv_aload_n hx hb dJ0_charAt_5068e_7 rfl (lv_at hl 0 rfl) ?_
  refine vk_getf hx hb hE hS hown (hts _ tw_1417) (fun _ h9 => h9) dJ0_charAt_5068e_8 ?_
  refine lv_iload_n hx hb dJ0_charAt_5068e_11 rfl (lv_at hl 1 rfl) ?_
  refine kS (As := [.ref (G.2.2.2.2 i), .int (nI k)]) (rest := []) ⟨hx, hb, hml, hown, hts⟩ (c_J1_charAt l G i k hi hk) (kcS 2 hts tw_639 tw_96 tw_637 tw_638 hd_J1_charAt ⟨Nat.le_of_ble_eq_true rfl, Nat.le_of_ble_eq_true rfl⟩) dJ0_charAt_5068e_12 hl.1 hK hAm hA hP hD hS [] rfl rfl rfl [] rfl rfl rfl (Nat.le_of_ble_eq_true rfl) ⟨Nat.le_refl _, Nat.le_refl _⟩ (fun H locs hP hD hS => ?_)
  have hP : va_P (gD G) vwCl [] H := hP
  have hD : va_D A [] := hD
  have e2 : narrow .char (.int (chS i k)) = .int (chS i k) := by
    rcases (show i = 0 ∨ i = 1 by omega) with rfl | rfl <;> rcases (show k = 0 ∨ k = 1 ∨ k = 2 by omega) with rfl | rfl | rfl <;> decide +kernel
  exact knret hx hb hr e2 hlk hP hD hS hQ dJ0_charAt_5068e_15
theorem c_J0_length_b (l : Launch) (G : KG) (i : Nat) (hi : i < 2) {b : Nat} (hb : b = G.2.2.2.1 i) : KM l G yJ0_length_8abf5 (kw yJ0_length_8abf5 cJ0_length_8abf5 1 (some .int)) 1 20 [.ref b] [] [] (some (.int 3)) := by
  subst hb
  exact c_J0_length l G i hi
theorem c_J0_charAt_b (l : Launch) (G : KG) (i : Nat) (hi : i < 2) {b : Nat} (hb : b = G.2.2.2.1 i) (x : Int32) (hx : vin x 3 = true) : KM l G yJ0_charAt_5068e (kw yJ0_charAt_5068e cJ0_charAt_5068e 2 (some .char)) 3 80 [.ref b, .int x] [] [] (some (.int (chS i x.toNatClampNeg))) := by
  subst hb
  obtain ⟨j, hj, rfl⟩ := vp_in_of (vin_of hx) (by decide)
  rw [nI_clamp (by omega)]
  exact c_J0_charAt l G i j hi hj
theorem vk_recv_b {s : State} {H : Heap} {locs : List Loc} {A : Nat → Prop} {N : Nat} {len : List Nat} {byt : List (List Int32)} {adK adV : Nat → Nat} {i b : Nat} (hb : b = adK i) (hE : vk_S N len byt adK adV A s s.heap) (hi : i < N) (hS : va_S A s.heap H locs) : ∃ cell : Cell, H[b]? = some cell ∧ cell.vm.isStatics = false ∧ s.vm.findClass "java/lang/String" = some cell.cls := by
  subst hb
  exact vk_recv hE hi hS
