/-! ===== BEGIN words of one list among another's, by their places ===== -/
theorem goodIn_r {big : List Cond} (ws : List Cond) (ps : List Nat) (hp : ws = ps.filterMap (fun i => big[i]?)) (h : ws.all goodWord = true) : GoodIn big ws := by
  intro w hw
  have h1 := List.all_eq_true.mp h w hw
  rw [hp] at hw
  obtain ⟨i, -, hi⟩ := List.mem_filterMap.mp hw
  have hm : w ∈ big := by first | exact List.mem_of_getElem? hi | exact List.getElem?_mem hi
  exact ⟨hm, good_of_word h1⟩
theorem goodIn_app {big a b : List Cond} (ha : GoodIn big a) (hb : GoodIn big b) : GoodIn big (a ++ b) := fun w h => (List.mem_append.mp h).elim (ha w) (hb w)
theorem goodIn_ca {big a b : List Cond} {c : Cond} (ha : GoodIn big (c :: a)) (hb : GoodIn big b) : GoodIn big (c :: (a ++ b)) := fun w h => (List.mem_cons.mp h).elim (fun e => ha w (List.mem_cons.mpr (Or.inl e))) (fun h => (List.mem_append.mp h).elim (fun h => ha w (List.mem_cons.mpr (Or.inr h))) (hb w))
theorem goodIn_sub {big ws : List Cond} (hm : ∀ w ∈ ws, w ∈ big) (h : ws.all goodWord = true) : GoodIn big ws := fun w hw => ⟨hm w hw, good_of_word (List.all_eq_true.mp h w hw)⟩
/-! ===== END ===== -/

/-! ===== BEGIN new T[n][m]: the outer array a place, the inner ones among the pooled ===== -/
/-- f, but v at every address of l -/
def vr_up {α : Type} (f : Nat → α) (l : List Nat) (v : α) : Nat → α := fun a => if a ∈ l then v else f a
theorem vr_up_in {α : Type} {f : Nat → α} {l : List Nat} {v : α} {a : Nat} (h : a ∈ l) : vr_up f l v a = v := if_pos h
theorem vr_up_ne {α : Type} {f : Nat → α} {l : List Nat} {v : α} {a : Nat} (h : a ∉ l) : vr_up f l v a = f a := if_neg h
theorem vr_rows {L l : List Nat} {f : Nat → va_E} {e : va_E} (h : ∀ a, a ∈ l → a ∉ L) : va_pl L f ++ l.map (fun a => (a, e)) = va_pl (L ++ l) (vr_up f l e) := by
  unfold va_pl
  rw [List.map_append]
  congr 1
  · apply List.map_congr_left
    intro a ha
    rw [vr_up_ne (fun q => h a q ha)]
  · apply List.map_congr_left
    intro a ha
    rw [vr_up_in ha]
theorem vr_lay {X rows : va_W} {x : Nat × va_E} {pl : va_W} {D : va_G} {cl : List vw_C} {H : Heap} (hP : va_P D cl (((X ++ pl) ++ [x]) ++ rows) H) : va_P D cl ((X ++ [x]) ++ (pl ++ rows)) H := by
  rw [List.append_assoc (X ++ pl)] at hP
  have h := va_P.swap hP
  rw [← List.append_assoc X] at h
  have h2 := va_P.swap h
  rw [List.append_assoc (X ++ [x])] at h2
  exact h2
theorem vr_layD {X rows : va_W} {x : Nat × va_E} {pl : va_W} {A : Nat → Prop} (hD : va_D A (((X ++ pl) ++ [x]) ++ rows)) : va_D A ((X ++ [x]) ++ (pl ++ rows)) := by
  rw [List.append_assoc (X ++ pl)] at hD
  have h := va_D.swap hD
  rw [← List.append_assoc X] at h
  have h2 := va_D.swap h
  rw [List.append_assoc (X ++ [x])] at h2
  exact h2
theorem vr_outer (c : ClassId) (N h0 : Nat) : ∀ i : Nat, Jvm.Free.Multi.outerC c N h0 i = arrV c N (fun j => va_rf (if j < i then some (h0 + 1 + j) else none))
  | 0 => by
    show ({ cls := c, slots := Array.replicate N .null, vm := .none } : Cell) = _
    rw [arrV_new]
    refine congrArg (arrV c N) (funext fun j => ?_)
    simp [va_rf]
  | i + 1 => by
    show (Jvm.Free.Multi.outerC c N h0 i).setSlot i (.ref (h0 + 1 + i)) = _
    rw [vr_outer c N h0 i, arrV_store]
    refine congrArg (arrV c N) (funext fun j => ?_)
    by_cases e : j = i
    · subst e
      simp [updV, va_rf]
    · by_cases h : j < i
      · simp [updV, e, h, Nat.lt_succ_of_lt h]
      · simp [updV, e, h, show ¬ j < i + 1 by omega]
section VGM
variable {p : Program} {l : Launch} {e : Env} {R : Room} {s : State} {m : MethodId} {args : Array Value} {below : List Frame} {meth : Method} {c : Code} {H : Heap} {locs : List Loc} {cells slots : Nat} {Q : State → Prop}
variable {cc : ByteArray} {pc : Nat} {ls : Array Slot} {rest : List Value} {D : va_G} {cl : List vw_C} {A : Nat → Prop} {a : Nat} {tys : List (ClassId × FieldType)} {ws : va_W} {H0 : Heap}
theorem va_mna {X : va_W} {L : List Nat} {f : Nat → va_E} {cc : ByteArray} (hexec : p.tables.exec = Jvm.exec) (hb : c.code = cc) {own : String} {index : Nat} {ty : FieldType} {cy : ClassId} (hown : s.vm.findClass own = some m.cls) (hclink : (Cond.classLink own index ("[" ++ (FieldType.array ty).toString)).before args s = true) (hover : va_AOA ty s) (harr : (Cond.arrayClass ty).before args s = true) (hcy : s.vm.findClass (FieldType.array ty).toString = some cy)
    (hK : va_K D cl tys s) (hP : va_P D cl (X ++ va_pl L f) H) (hD : va_D A (X ++ va_pl L f)) (hS : va_S A H0 H locs) (hA : ∀ q, H0.size ≤ q → A q) {n k : Int32} {N' K' : Nat} {z : vp_A} (hn : ¬ n < 0) (hk : ¬ k < 0) (hN : n.toNatClampNeg = N') (hM : k.toNatClampNeg = K')
    (hb1 : N' * 4 ≤ 536870912) (hb2 : K' * componentBytes ty ≤ 536870912) (hb3 : K' ≤ 536870912) (hdf : fits ty (defaultValue ty) = true) (hdd : (defaultValue ty).isDefault = true) (hcells : cells + (1 + N') ≤ R.cells) (hslots : slots + (N' + N' * K') ≤ R.slots) (hz : ∀ c : ClassId, Jvm.Free.Multi.innerC c K' (defaultValue ty) = vp_cell c z) (hdg : decode cc pc = .ok (.multianewarray index 2, 4))
    (kk : ∀ (q : Nat) (r : Nat → Nat) (cA : ClassId) (H1 : Heap), (∀ i j : Nat, i < N' → j < N' → r i = r j → i = j) → (∀ i : Nat, i < N' → r i ∉ L) → va_K D cl (tys ++ [(cA, .array ty)]) s →
      va_P D cl ((X ++ [(q, .inl (cA, N', .inr (.inr (.inr (.inr (fun i => if i < N' then some (r i) else none))))))]) ++ va_pl (L ++ (List.range N').map r) (vr_up f ((List.range N').map r) (.inl (cy, z)))) H1 → va_D A ((X ++ [(q, .inl (cA, N', .inr (.inr (.inr (.inr (fun i => if i < N' then some (r i) else none))))))]) ++ va_pl (L ++ (List.range N').map r) (vr_up f ((List.range N').map r) (.inl (cy, z)))) → va_S A H0 H1 locs →
      W p l e R s m args below meth c H1 locs (cells + 1 + N') (slots + N' + N' * K') Q (F0 m (pc + 4) ls (.ref q :: rest))) : W p l e R s m args below meth c H locs cells slots Q (F0 m pc ls (.int k :: .int n :: rest)) := by
  subst hN
  subst hM
  intro T hT Xs
  obtain ⟨vm₁, cA, comp, -, fA, fC, hO, -, X', step⟩ := Xs.multianewarray2F hexec hown hclink (va_AOA.use hover) harr (g := F0 m pc ls (.int k :: .int n :: rest)) rfl (by rw [hb]; exact hdg) rfl hn hk hb1 hb2 hb3 hdf hdd hcells hslots
  have ec : some cy = some comp := hcy.symm.trans fC
  cases ec
  generalize hF : Jvm.Free.Multi.fill (T.setVm vm₁) cA cy n.toNatClampNeg k.toNatClampNeg (defaultValue ty) n.toNatClampNeg = F at X' step
  have hTh : (T.setVm vm₁).heap = H := hT
  obtain ⟨f1, f2, -, -⟩ := Jvm.Free.Multi.fill_facts (T.setVm vm₁) cA cy n.toNatClampNeg k.toNatClampNeg (defaultValue ty) n.toNatClampNeg
  rw [hF, hTh] at f1 f2
  have hold : ∀ x : Nat, x < H.size → F.heap[x]? = H[x]? := fun x hx => by
    have := Jvm.Free.Multi.fill_old (T.setVm vm₁) cA cy n.toNatClampNeg k.toNatClampNeg (defaultValue ty) (a := x) (by rw [hTh]; exact hx) n.toNatClampNeg
    rw [hF, hTh] at this
    exact this
  have hrow : ∀ j : Nat, j < n.toNatClampNeg → F.heap[H.size + 1 + j]? = some (vp_cell cy z) := fun j hj => by
    have := Jvm.Free.Multi.fill_inner (T.setVm vm₁) cA cy n.toNatClampNeg k.toNatClampNeg (defaultValue ty) n.toNatClampNeg j hj
    rw [hF, hTh, hz] at this
    exact this
  have hout : Jvm.Free.Multi.outerC cA n.toNatClampNeg H.size n.toNatClampNeg = vp_cell cA (n.toNatClampNeg, .inr (.inr (.inr (.inr (fun i => if i < n.toNatClampNeg then some (H.size + 1 + i) else none))))) := by
    rw [vp_cell_q]
    exact vr_outer cA n.toNatClampNeg H.size n.toNatClampNeg
  rw [hout] at f2
  have hlt : ∀ a, a ∈ L → a < H.size := fun a ha => by
    obtain ⟨k9, hk9⟩ := va_pl_get (X := X) (f := f) ha
    exact (hP k9 _ hk9).lt
  have hnl : ∀ i : Nat, i < n.toNatClampNeg → H.size + 1 + i ∉ L := fun i _ h => by
    have := hlt _ h
    omega
  have hnm : ∀ a, a ∈ (List.range n.toNatClampNeg).map (fun i => H.size + 1 + i) → a ∉ L := fun a ha h => by
    obtain ⟨i, -, rfl⟩ := List.mem_map.mp ha
    have := hlt _ h
    omega
  have hP0 : va_P D cl (X ++ va_pl L f) F.heap := hP.kept (fun k9 x hx => hold x.1 ((hP k9 x hx).lt))
  have hP1 : va_P D cl ((X ++ va_pl L f) ++ [(H.size, .inl (cA, n.toNatClampNeg, .inr (.inr (.inr (.inr (fun i => if i < n.toNatClampNeg then some (H.size + 1 + i) else none))))))]) F.heap := hP0.app (fun k9 x hx => by
    have h0 : k9 < 1 := (List.getElem?_eq_some_iff.mp hx).1
    rw [show k9 = 0 by omega] at hx
    cases hx
    exact f2)
  have hP2 : va_P D cl (((X ++ va_pl L f) ++ [(H.size, .inl (cA, n.toNatClampNeg, .inr (.inr (.inr (.inr (fun i => if i < n.toNatClampNeg then some (H.size + 1 + i) else none))))))]) ++ ((List.range n.toNatClampNeg).map (fun i => H.size + 1 + i)).map (fun a => (a, .inl (cy, z)))) F.heap := hP1.app (fun k9 x hx => by
    obtain ⟨a, ha, rfl⟩ := List.mem_map.mp (List.mem_of_getElem? hx)
    obtain ⟨i, hi, rfl⟩ := List.mem_map.mp ha
    exact hrow i (List.mem_range.mp hi))
  have hD2 : va_D A (((X ++ va_pl L f) ++ [(H.size, .inl (cA, n.toNatClampNeg, .inr (.inr (.inr (.inr (fun i => if i < n.toNatClampNeg then some (H.size + 1 + i) else none))))))]) ++ ((List.range n.toNatClampNeg).map (fun i => H.size + 1 + i)).map (fun a => (a, .inl (cy, z)))) := by
    have hD1 := hD.push (e := .inl (cA, n.toNatClampNeg, .inr (.inr (.inr (.inr (fun i => if i < n.toNatClampNeg then some (H.size + 1 + i) else none)))))) hP rfl (hA _ hS.1)
    generalize hW1 : (X ++ va_pl L f) ++ [(H.size, .inl (cA, n.toNatClampNeg, .inr (.inr (.inr (.inr (fun i => if i < n.toNatClampNeg then some (H.size + 1 + i) else none))))))] = W1 at hD1 hP1 ⊢
    have hle : ∀ (k9 : Nat) (x : Nat × va_E), W1[k9]? = some x → x.1 ≤ H.size := fun k9 x hx => by
      rw [← hW1] at hx
      by_cases hl : k9 < (X ++ va_pl L f).length
      · rw [List.getElem?_append_left hl] at hx
        exact Nat.le_of_lt ((hP k9 x hx).lt)
      · rw [List.getElem?_append_right (by omega)] at hx
        have h0 : k9 - (X ++ va_pl L f).length < 1 := (List.getElem?_eq_some_iff.mp hx).1
        rw [show k9 - (X ++ va_pl L f).length = 0 by omega] at hx
        cases hx
        exact Nat.le_refl _
    have hr : ∀ (k9 : Nat) (x : Nat × va_E), (((List.range n.toNatClampNeg).map (fun i => H.size + 1 + i)).map (fun a => ((a, .inl (cy, z)) : Nat × va_E)))[k9]? = some x → x.1 = H.size + 1 + k9 := fun k9 x hx => by
      rw [List.getElem?_map, List.getElem?_map] at hx
      by_cases h9 : k9 < n.toNatClampNeg
      · rw [List.getElem?_range h9] at hx
        cases hx
        rfl
      · have hn0 : (List.range n.toNatClampNeg)[k9]? = none := List.getElem?_eq_none (by rw [List.length_range]; omega)
        rw [hn0] at hx
        cases hx
    refine ⟨fun i j x y hi hj hxy => ?_, fun k9 x hx => ?_⟩
    · by_cases h1 : i < W1.length <;> by_cases h2 : j < W1.length
      · rw [List.getElem?_append_left h1] at hi
        rw [List.getElem?_append_left h2] at hj
        exact hD1.1 i j x y hi hj hxy
      · rw [List.getElem?_append_left h1] at hi
        rw [List.getElem?_append_right (by omega)] at hj
        have := hle _ _ hi
        have := hr _ _ hj
        omega
      · rw [List.getElem?_append_right (by omega)] at hi
        rw [List.getElem?_append_left h2] at hj
        have := hle _ _ hj
        have := hr _ _ hi
        omega
      · rw [List.getElem?_append_right (by omega)] at hi hj
        have := hr _ _ hi
        have := hr _ _ hj
        omega
    · by_cases h1 : k9 < W1.length
      · rw [List.getElem?_append_left h1] at hx
        exact hD1.2 k9 x hx
      · rw [List.getElem?_append_right (by omega)] at hx
        have := hr _ _ hx
        exact hA _ (by have := hS.1; omega)
  have hAr : ArrOfT s cA (.array ty) := fun N9 z9 => by
    obtain ⟨-, k9, hk9, cm9, hkk9⟩ := (hO 0 0 0).1
    exact ⟨(fun q hq => by cases hq), k9, hk9, cm9, hkk9⟩
  have hK2 : va_K D cl (tys ++ [(cA, .array ty)]) s := ⟨hK.1, fun k9 x hx => by
    by_cases hl : k9 < tys.length
    · rw [List.getElem?_append_left hl] at hx
      exact hK.2 k9 x hx
    · rw [List.getElem?_append_right (by omega)] at hx
      have h0 : k9 - tys.length < 1 := (List.getElem?_eq_some_iff.mp hx).1
      rw [show k9 - tys.length = 0 by omega] at hx
      cases hx
      exact ⟨hAr, fA⟩⟩
  obtain ⟨t, a1, b1⟩ := kk H.size (fun i => H.size + 1 + i) cA F.heap (fun i j _ _ h => by have h9 : H.size + 1 + i = H.size + 1 + j := h; omega) hnl hK2 (by rw [← vr_rows hnm]; exact vr_lay hP2) (by rw [← vr_rows hnm]; exact vr_layD hD2) ⟨by rw [f1]; have := hS.1; omega, fun x h1 h2 => (hold x (Nat.lt_of_lt_of_le h1 hS.1)).trans (hS.2.1 x h1 h2), hS.2.2⟩ F rfl X'
  refine ⟨t, step t ?_, b1⟩
  have e : T.heap.size = H.size := by rw [hT]
  rw [e]
  exact a1
end VGM
/-! ===== END ===== -/

/-! ===== BEGIN printed: names, fields, word lists, decode rows ===== -/
def RX0 : String := "FigureTill$Basket"
def TX0 : u_T := fun k => match k with
  | 0 => ("FigureTill$Basket", "row", "[I", true)
  | 1 => ("FigureTill$Basket", "things", "I", false)
  | _ => ("FigureTill$Basket", "sum", "I", false)
def tyX0 : Nat → FieldType := fun k => match k with
  | 0 => .array .int
  | 1 => .int
  | _ => .int
abbrev wsX00 : List Cond := u_ws RX0 TX0 3
theorem nmX0 : ∀ a, a < 3 → ∀ b, b < 3 → a ≠ b → (TX0 a).2.1 ≠ (TX0 b).2.1 := by decide +kernel
theorem tyX0_ok : ∀ k, k < 3 → parseFieldDescriptor (TX0 k).2.2.1 = some (tyX0 k) := by decide +kernel
abbrev cX0_init : ByteArray := prog_2_method_1_code
def yX0_init : MethodName := ⟨RX0, "<init>", "()V"⟩
abbrev cX0_clear : ByteArray := prog_2_method_2_code
def yX0_clear : MethodName := ⟨RX0, "clear", "()V"⟩
abbrev cX0_copy : ByteArray := prog_2_method_3_code
def yX0_copy : MethodName := ⟨RX0, "copy", "(LFigureTill$Basket;)V"⟩
abbrev cX0_sumBy : ByteArray := prog_2_method_4_code
def yX0_sumBy : MethodName := ⟨RX0, "sumBy", "([I)I"⟩
abbrev cX0_add : ByteArray := prog_2_method_5_code
def yX0_add : MethodName := ⟨RX0, "add", "([I)V"⟩
abbrev cX0_step : ByteArray := prog_2_method_6_code
def yX0_step : MethodName := ⟨RX0, "step", "([II[I)Z"⟩
abbrev cX0_rowAsNumber : ByteArray := prog_2_method_7_code
def yX0_rowAsNumber : MethodName := ⟨RX0, "rowAsNumber", "()I"⟩
def RX1 : String := "FigureTill$ErrsTill"
def TX1 : u_T := fun k => match k with
  | 0 => ("FigureTill$Till", "number", "I", true)
  | _ => ("FigureTill$Till", "m", "I", true)
def tyX1 : Nat → FieldType := fun k => match k with
  | 0 => .int
  | _ => .int
abbrev wsX10 : List Cond := u_ws RX1 TX1 2
theorem nmX1 : ∀ a, a < 2 → ∀ b, b < 2 → a ≠ b → (TX1 a).2.1 ≠ (TX1 b).2.1 := by decide +kernel
theorem tyX1_ok : ∀ k, k < 2 → parseFieldDescriptor (TX1 k).2.2.1 = some (tyX1 k) := by decide +kernel
abbrev cX1_init : ByteArray := prog_3_method_1_code
def yX1_init : MethodName := ⟨RX1, "<init>", "(II)V"⟩
abbrev cX1_kind : ByteArray := prog_3_method_2_code
def yX1_kind : MethodName := ⟨RX1, "kind", "()I"⟩
abbrev cX1_isOf : ByteArray := prog_3_method_3_code
def yX1_isOf : MethodName := ⟨RX1, "isOf", "(I)Z"⟩
abbrev cX1_due : ByteArray := prog_3_method_4_code
def yX1_due : MethodName := ⟨RX1, "due", "(IILFigureTill$Law;)I"⟩
abbrev cX1_gives : ByteArray := prog_3_method_5_code
def yX1_gives : MethodName := ⟨RX1, "gives", "(LFigureTill$Trace;I)I"⟩
def RX2 : String := "FigureTill$FloorTill"
def TX2 : u_T := fun k => match k with
  | 0 => ("FigureTill$Till", "number", "I", true)
  | _ => ("FigureTill$Till", "m", "I", true)
def tyX2 : Nat → FieldType := fun k => match k with
  | 0 => .int
  | _ => .int
abbrev wsX20 : List Cond := u_ws RX2 TX2 2
theorem nmX2 : ∀ a, a < 2 → ∀ b, b < 2 → a ≠ b → (TX2 a).2.1 ≠ (TX2 b).2.1 := by decide +kernel
theorem tyX2_ok : ∀ k, k < 2 → parseFieldDescriptor (TX2 k).2.2.1 = some (tyX2 k) := by decide +kernel
abbrev cX2_init : ByteArray := prog_4_method_1_code
def yX2_init : MethodName := ⟨RX2, "<init>", "(II)V"⟩
abbrev cX2_kind : ByteArray := prog_4_method_2_code
def yX2_kind : MethodName := ⟨RX2, "kind", "()I"⟩
abbrev cX2_isOf : ByteArray := prog_4_method_3_code
def yX2_isOf : MethodName := ⟨RX2, "isOf", "(I)Z"⟩
abbrev cX2_due : ByteArray := prog_4_method_4_code
def yX2_due : MethodName := ⟨RX2, "due", "(IILFigureTill$Law;)I"⟩
abbrev cX2_adds : ByteArray := prog_4_method_5_code
def yX2_adds : MethodName := ⟨RX2, "adds", "(LFigureTill$Trace;I)I"⟩
abbrev cX2_gives : ByteArray := prog_4_method_6_code
def yX2_gives : MethodName := ⟨RX2, "gives", "(LFigureTill$Trace;I)I"⟩
def RX3 : String := "FigureTill$LastTill"
def TX3 : u_T := fun k => match k with
  | 0 => ("FigureTill$Till", "number", "I", true)
  | _ => ("FigureTill$Till", "m", "I", true)
def tyX3 : Nat → FieldType := fun k => match k with
  | 0 => .int
  | _ => .int
abbrev wsX30 : List Cond := u_ws RX3 TX3 2
theorem nmX3 : ∀ a, a < 2 → ∀ b, b < 2 → a ≠ b → (TX3 a).2.1 ≠ (TX3 b).2.1 := by decide +kernel
theorem tyX3_ok : ∀ k, k < 2 → parseFieldDescriptor (TX3 k).2.2.1 = some (tyX3 k) := by decide +kernel
abbrev cX3_init : ByteArray := prog_5_method_1_code
def yX3_init : MethodName := ⟨RX3, "<init>", "(II)V"⟩
abbrev cX3_kind : ByteArray := prog_5_method_2_code
def yX3_kind : MethodName := ⟨RX3, "kind", "()I"⟩
abbrev cX3_isOf : ByteArray := prog_5_method_3_code
def yX3_isOf : MethodName := ⟨RX3, "isOf", "(I)Z"⟩
abbrev cX3_due : ByteArray := prog_5_method_4_code
def yX3_due : MethodName := ⟨RX3, "due", "(IILFigureTill$Law;)I"⟩
abbrev cX3_adds : ByteArray := prog_5_method_5_code
def yX3_adds : MethodName := ⟨RX3, "adds", "(LFigureTill$Trace;I)I"⟩
abbrev cX3_parts : ByteArray := prog_5_method_6_code
def yX3_parts : MethodName := ⟨RX3, "parts", "(LFigureTill$Trace;I)I"⟩
def RX4 : String := "FigureTill$Law"
def TX4 : u_T := fun k => match k with
  | 0 => ("FigureTill$Law", "names", "Ljava/lang/String;", true)
  | 1 => ("FigureTill$Law", "code", "[I", true)
  | 2 => ("FigureTill$Law", "length", "I", false)
  | 3 => ("FigureTill$Law", "stack", "[I", true)
  | 4 => ("FigureTill$Law", "bytes", "[I", true)
  | 5 => ("FigureTill$Law", "draft", "[I", true)
  | 6 => ("FigureTill$Law", "drafted", "I", false)
  | 7 => ("FigureTill$Law", "end", "I", false)
  | 8 => ("FigureTill$Law", "place", "I", false)
  | _ => ("FigureTill$Law", "failed", "Z", false)
def tyX4 : Nat → FieldType := fun k => match k with
  | 0 => .object "java/lang/String"
  | 1 => .array .int
  | 2 => .int
  | 3 => .array .int
  | 4 => .array .int
  | 5 => .array .int
  | 6 => .int
  | 7 => .int
  | 8 => .int
  | _ => .boolean
abbrev wsX40 : List Cond := u_ws RX4 TX4 10
theorem nmX4 : ∀ a, a < 10 → ∀ b, b < 10 → a ≠ b → (TX4 a).2.1 ≠ (TX4 b).2.1 := by decide +kernel
theorem tyX4_ok : ∀ k, k < 10 → parseFieldDescriptor (TX4 k).2.2.1 = some (tyX4 k) := by decide +kernel
abbrev cX4_init : ByteArray := prog_6_method_1_code
def yX4_init : MethodName := ⟨RX4, "<init>", "(Ljava/lang/String;)V"⟩
abbrev cX4_isTold : ByteArray := prog_6_method_2_code
def yX4_isTold : MethodName := ⟨RX4, "isTold", "()Z"⟩
abbrev cX4_become : ByteArray := prog_6_method_3_code
def yX4_become : MethodName := ⟨RX4, "become", "(LFigureTill$Law;)V"⟩
abbrev cX4_fault : ByteArray := prog_6_method_4_code
def yX4_fault : MethodName := ⟨RX4, "fault", "([II)I"⟩
abbrev cX4_next : ByteArray := prog_6_method_5_code
def yX4_next : MethodName := ⟨RX4, "next", "()I"⟩
abbrev cX4_write : ByteArray := prog_6_method_6_code
def yX4_write : MethodName := ⟨RX4, "write", "(I)V"⟩
abbrev cX4_readEither : ByteArray := prog_6_method_7_code
def yX4_readEither : MethodName := ⟨RX4, "readEither", "(I)V"⟩
abbrev cX4_readBoth : ByteArray := prog_6_method_8_code
def yX4_readBoth : MethodName := ⟨RX4, "readBoth", "(I)V"⟩
abbrev cX4_readCompared : ByteArray := prog_6_method_9_code
def yX4_readCompared : MethodName := ⟨RX4, "readCompared", "(I)V"⟩
abbrev cX4_readAdded : ByteArray := prog_6_method_10_code
def yX4_readAdded : MethodName := ⟨RX4, "readAdded", "(I)V"⟩
abbrev cX4_readTimes : ByteArray := prog_6_method_11_code
def yX4_readTimes : MethodName := ⟨RX4, "readTimes", "(I)V"⟩
abbrev cX4_readOne : ByteArray := prog_6_method_12_code
def yX4_readOne : MethodName := ⟨RX4, "readOne", "(I)V"⟩
abbrev cX4_readClose : ByteArray := prog_6_method_13_code
def yX4_readClose : MethodName := ⟨RX4, "readClose", "()V"⟩
abbrev cX4_readNumber : ByteArray := prog_6_method_14_code
def yX4_readNumber : MethodName := ⟨RX4, "readNumber", "()V"⟩
abbrev cX4_isDigit : ByteArray := prog_6_method_15_code
def yX4_isDigit : MethodName := ⟨RX4, "isDigit", "(I)Z"⟩
abbrev cX4_nameOf : ByteArray := prog_6_method_16_code
def yX4_nameOf : MethodName := ⟨RX4, "nameOf", "(I)I"⟩
abbrev cX4_workedOut : ByteArray := prog_6_method_17_code
def yX4_workedOut : MethodName := ⟨RX4, "workedOut", "(III)I"⟩
abbrev cX4_named : ByteArray := prog_6_method_18_code
def yX4_named : MethodName := ⟨RX4, "named", "(IIII)I"⟩
abbrev cX4_joined : ByteArray := prog_6_method_19_code
def yX4_joined : MethodName := ⟨RX4, "joined", "(III)I"⟩
def RX5 : String := "FigureTill$OtherTill"
def TX5 : u_T := fun k => match k with
  | 0 => ("FigureTill$Till", "number", "I", true)
  | _ => ("FigureTill$Till", "m", "I", true)
def tyX5 : Nat → FieldType := fun k => match k with
  | 0 => .int
  | _ => .int
abbrev wsX50 : List Cond := u_ws RX5 TX5 2
theorem nmX5 : ∀ a, a < 2 → ∀ b, b < 2 → a ≠ b → (TX5 a).2.1 ≠ (TX5 b).2.1 := by decide +kernel
theorem tyX5_ok : ∀ k, k < 2 → parseFieldDescriptor (TX5 k).2.2.1 = some (tyX5 k) := by decide +kernel
abbrev cX5_init : ByteArray := prog_7_method_1_code
def yX5_init : MethodName := ⟨RX5, "<init>", "(II)V"⟩
abbrev cX5_kind : ByteArray := prog_7_method_2_code
def yX5_kind : MethodName := ⟨RX5, "kind", "()I"⟩
abbrev cX5_isOf : ByteArray := prog_7_method_3_code
def yX5_isOf : MethodName := ⟨RX5, "isOf", "(I)Z"⟩
abbrev cX5_due : ByteArray := prog_7_method_4_code
def yX5_due : MethodName := ⟨RX5, "due", "(IILFigureTill$Law;)I"⟩
abbrev cX5_comes : ByteArray := prog_7_method_5_code
def yX5_comes : MethodName := ⟨RX5, "comes", "(LFigureTill$Trace;I)I"⟩
def RX6 : String := "FigureTill$RootTill"
def TX6 : u_T := fun k => match k with
  | 0 => ("FigureTill$Till", "number", "I", true)
  | _ => ("FigureTill$Till", "m", "I", true)
def tyX6 : Nat → FieldType := fun k => match k with
  | 0 => .int
  | _ => .int
abbrev wsX60 : List Cond := u_ws RX6 TX6 2
theorem nmX6 : ∀ a, a < 2 → ∀ b, b < 2 → a ≠ b → (TX6 a).2.1 ≠ (TX6 b).2.1 := by decide +kernel
theorem tyX6_ok : ∀ k, k < 2 → parseFieldDescriptor (TX6 k).2.2.1 = some (tyX6 k) := by decide +kernel
abbrev cX6_init : ByteArray := prog_8_method_1_code
def yX6_init : MethodName := ⟨RX6, "<init>", "(II)V"⟩
abbrev cX6_kind : ByteArray := prog_8_method_2_code
def yX6_kind : MethodName := ⟨RX6, "kind", "()I"⟩
abbrev cX6_isOf : ByteArray := prog_8_method_3_code
def yX6_isOf : MethodName := ⟨RX6, "isOf", "(I)Z"⟩
abbrev cX6_due : ByteArray := prog_8_method_4_code
def yX6_due : MethodName := ⟨RX6, "due", "(IILFigureTill$Law;)I"⟩
abbrev cX6_comes : ByteArray := prog_8_method_5_code
def yX6_comes : MethodName := ⟨RX6, "comes", "(LFigureTill$Trace;I)I"⟩
def RX7 : String := "FigureTill$Shop"
def TX7 : u_T := fun k => match k with
  | 0 => ("FigureTill$Shop", "goods", "[[I", true)
  | 1 => ("FigureTill$Shop", "tills", "[LFigureTill$Till;", true)
  | 2 => ("FigureTill$Shop", "takings", "I", false)
  | 3 => ("FigureTill$Shop", "costs", "I", false)
  | 4 => ("FigureTill$Shop", "goes", "I", false)
  | 5 => ("FigureTill$Shop", "z", "I", false)
  | 6 => ("FigureTill$Shop", "tape", "[I", true)
  | 7 => ("FigureTill$Shop", "fed", "I", false)
  | 8 => ("FigureTill$Shop", "paysLaw", "LFigureTill$Law;", true)
  | 9 => ("FigureTill$Shop", "valuesLaw", "LFigureTill$Law;", true)
  | 10 => ("FigureTill$Shop", "waiting", "[I", true)
  | _ => ("FigureTill$Shop", "waits", "I", false)
def tyX7 : Nat → FieldType := fun k => match k with
  | 0 => .array (.array .int)
  | 1 => .array (.object "FigureTill$Till")
  | 2 => .int
  | 3 => .int
  | 4 => .int
  | 5 => .int
  | 6 => .array .int
  | 7 => .int
  | 8 => .object "FigureTill$Law"
  | 9 => .object "FigureTill$Law"
  | 10 => .array .int
  | _ => .int
abbrev wsX70 : List Cond := u_ws RX7 TX7 12
theorem nmX7 : ∀ a, a < 12 → ∀ b, b < 12 → a ≠ b → (TX7 a).2.1 ≠ (TX7 b).2.1 := by decide +kernel
theorem tyX7_ok : ∀ k, k < 12 → parseFieldDescriptor (TX7 k).2.2.1 = some (tyX7 k) := by decide +kernel
abbrev cX7_init : ByteArray := prog_9_method_1_code
def yX7_init : MethodName := ⟨RX7, "<init>", "()V"⟩
abbrev cX7_become : ByteArray := prog_9_method_2_code
def yX7_become : MethodName := ⟨RX7, "become", "(LFigureTill$Shop;)V"⟩
abbrev cX7_law : ByteArray := prog_9_method_3_code
def yX7_law : MethodName := ⟨RX7, "law", "(I)LFigureTill$Law;"⟩
abbrev cX7_paid : ByteArray := prog_9_method_4_code
def yX7_paid : MethodName := ⟨RX7, "paid", "(III)I"⟩
abbrev cX7_valueOf : ByteArray := prog_9_method_5_code
def yX7_valueOf : MethodName := ⟨RX7, "valueOf", "(I)I"⟩
abbrev cX7_stockOfAll : ByteArray := prog_9_method_6_code
def yX7_stockOfAll : MethodName := ⟨RX7, "stockOfAll", "()I"⟩
abbrev cX7_hasStock : ByteArray := prog_9_method_7_code
def yX7_hasStock : MethodName := ⟨RX7, "hasStock", "(LFigureTill$Basket;)Z"⟩
abbrev cX7_sold : ByteArray := prog_9_method_8_code
def yX7_sold : MethodName := ⟨RX7, "sold", "(LFigureTill$Basket;I)I"⟩
abbrev cX7_drawn : ByteArray := prog_9_method_9_code
def yX7_drawn : MethodName := ⟨RX7, "drawn", "(I)I"⟩
def RX8 : String := "FigureTill$Till"
def TX8 : u_T := fun k => match k with
  | 0 => ("FigureTill$Till", "number", "I", true)
  | _ => ("FigureTill$Till", "m", "I", true)
def tyX8 : Nat → FieldType := fun k => match k with
  | 0 => .int
  | _ => .int
abbrev wsX80 : List Cond := u_ws RX8 TX8 2
theorem nmX8 : ∀ a, a < 2 → ∀ b, b < 2 → a ≠ b → (TX8 a).2.1 ≠ (TX8 b).2.1 := by decide +kernel
theorem tyX8_ok : ∀ k, k < 2 → parseFieldDescriptor (TX8 k).2.2.1 = some (tyX8 k) := by decide +kernel
abbrev cX8_init : ByteArray := prog_10_method_1_code
def yX8_init : MethodName := ⟨RX8, "<init>", "(II)V"⟩
abbrev cX8_kind : ByteArray := prog_10_method_2_code
def yX8_kind : MethodName := ⟨RX8, "kind", "()I"⟩
abbrev cX8_isOf : ByteArray := prog_10_method_3_code
def yX8_isOf : MethodName := ⟨RX8, "isOf", "(I)Z"⟩
abbrev cX8_due : ByteArray := prog_10_method_4_code
def yX8_due : MethodName := ⟨RX8, "due", "(IILFigureTill$Law;)I"⟩
abbrev cX8_adds : ByteArray := prog_10_method_5_code
def yX8_adds : MethodName := ⟨RX8, "adds", "(LFigureTill$Trace;I)I"⟩
abbrev cX8_comes : ByteArray := prog_10_method_6_code
def yX8_comes : MethodName := ⟨RX8, "comes", "(LFigureTill$Trace;I)I"⟩
abbrev cX8_gives : ByteArray := prog_10_method_7_code
def yX8_gives : MethodName := ⟨RX8, "gives", "(LFigureTill$Trace;I)I"⟩
abbrev cX8_parts : ByteArray := prog_10_method_8_code
def yX8_parts : MethodName := ⟨RX8, "parts", "(LFigureTill$Trace;I)I"⟩
def RX9 : String := "FigureTill$ToldTill"
def TX9 : u_T := fun k => match k with
  | 0 => ("FigureTill$Till", "number", "I", true)
  | _ => ("FigureTill$Till", "m", "I", true)
def tyX9 : Nat → FieldType := fun k => match k with
  | 0 => .int
  | _ => .int
abbrev wsX90 : List Cond := u_ws RX9 TX9 2
theorem nmX9 : ∀ a, a < 2 → ∀ b, b < 2 → a ≠ b → (TX9 a).2.1 ≠ (TX9 b).2.1 := by decide +kernel
theorem tyX9_ok : ∀ k, k < 2 → parseFieldDescriptor (TX9 k).2.2.1 = some (tyX9 k) := by decide +kernel
abbrev cX9_init : ByteArray := prog_11_method_1_code
def yX9_init : MethodName := ⟨RX9, "<init>", "(II)V"⟩
abbrev cX9_kind : ByteArray := prog_11_method_2_code
def yX9_kind : MethodName := ⟨RX9, "kind", "()I"⟩
abbrev cX9_isOf : ByteArray := prog_11_method_3_code
def yX9_isOf : MethodName := ⟨RX9, "isOf", "(I)Z"⟩
abbrev cX9_due : ByteArray := prog_11_method_4_code
def yX9_due : MethodName := ⟨RX9, "due", "(IILFigureTill$Law;)I"⟩
abbrev cX9_adds : ByteArray := prog_11_method_5_code
def yX9_adds : MethodName := ⟨RX9, "adds", "(LFigureTill$Trace;I)I"⟩
abbrev cX9_comes : ByteArray := prog_11_method_6_code
def yX9_comes : MethodName := ⟨RX9, "comes", "(LFigureTill$Trace;I)I"⟩
def RX10 : String := "FigureTill$Trace"
def TX10 : u_T := fun k => match k with
  | 0 => ("FigureTill$Trace", "bodies", "[I", true)
  | 1 => ("FigureTill$Trace", "length", "I", false)
  | _ => ("FigureTill$Trace", "parted", "Z", false)
def tyX10 : Nat → FieldType := fun k => match k with
  | 0 => .array .int
  | 1 => .int
  | _ => .boolean
abbrev wsX100 : List Cond := u_ws RX10 TX10 3
theorem nmX10 : ∀ a, a < 3 → ∀ b, b < 3 → a ≠ b → (TX10 a).2.1 ≠ (TX10 b).2.1 := by decide +kernel
theorem tyX10_ok : ∀ k, k < 3 → parseFieldDescriptor (TX10 k).2.2.1 = some (tyX10 k) := by decide +kernel
abbrev cX10_init : ByteArray := prog_12_method_1_code
def yX10_init : MethodName := ⟨RX10, "<init>", "()V"⟩
abbrev cX10_start : ByteArray := prog_12_method_2_code
def yX10_start : MethodName := ⟨RX10, "start", "()V"⟩
abbrev cX10_began : ByteArray := prog_12_method_3_code
def yX10_began : MethodName := ⟨RX10, "began", "(I)V"⟩
def RX11 : String := "FigureTill"
def TX11 : u_T := fun k => match k with
  | 0 => ("FigureTill", "shop", "LFigureTill$Shop;", true)
  | 1 => ("FigureTill", "kept", "LFigureTill$Shop;", true)
  | 2 => ("FigureTill", "imaged", "Z", false)
  | 3 => ("FigureTill", "images", "I", false)
  | 4 => ("FigureTill", "sheetBits", "[I", true)
  | 5 => ("FigureTill", "sheetLengths", "[I", true)
  | 6 => ("FigureTill", "sheetNumbers", "[[I", true)
  | 7 => ("FigureTill", "trace", "LFigureTill$Trace;", true)
  | 8 => ("FigureTill", "errors", "[I", true)
  | 9 => ("FigureTill", "one", "LFigureTill$Basket;", true)
  | 10 => ("FigureTill", "second", "LFigureTill$Basket;", true)
  | 11 => ("FigureTill", "extra", "LFigureTill$Basket;", true)
  | 12 => ("FigureTill", "room", "[I", true)
  | 13 => ("FigureTill", "values", "[I", true)
  | 14 => ("FigureTill", "best", "LFigureTill$Basket;", true)
  | 15 => ("FigureTill", "bestPaid", "I", false)
  | _ => ("FigureTill", "bestNet", "I", false)
def tyX11 : Nat → FieldType := fun k => match k with
  | 0 => .object "FigureTill$Shop"
  | 1 => .object "FigureTill$Shop"
  | 2 => .boolean
  | 3 => .int
  | 4 => .array .int
  | 5 => .array .int
  | 6 => .array (.array .int)
  | 7 => .object "FigureTill$Trace"
  | 8 => .array .int
  | 9 => .object "FigureTill$Basket"
  | 10 => .object "FigureTill$Basket"
  | 11 => .object "FigureTill$Basket"
  | 12 => .array .int
  | 13 => .array .int
  | 14 => .object "FigureTill$Basket"
  | 15 => .int
  | _ => .int
abbrev wsX110 : List Cond := u_ws RX11 TX11 17
theorem nmX11 : ∀ a, a < 17 → ∀ b, b < 17 → a ≠ b → (TX11 a).2.1 ≠ (TX11 b).2.1 := by decide +kernel
theorem tyX11_ok : ∀ k, k < 17 → parseFieldDescriptor (TX11 k).2.2.1 = some (tyX11 k) := by decide +kernel
abbrev cX11_init : ByteArray := prog_1_method_1_code
def yX11_init : MethodName := ⟨RX11, "<init>", "()V"⟩
abbrev cX11_thing : ByteArray := prog_1_method_2_code
def yX11_thing : MethodName := ⟨RX11, "thing", "(III)I"⟩
abbrev cX11_thingIs : ByteArray := prog_1_method_3_code
def yX11_thingIs : MethodName := ⟨RX11, "thingIs", "(II)I"⟩
abbrev cX11_till : ByteArray := prog_1_method_4_code
def yX11_till : MethodName := ⟨RX11, "till", "(II)I"⟩
abbrev cX11_tillIs : ByteArray := prog_1_method_5_code
def yX11_tillIs : MethodName := ⟨RX11, "tillIs", "(II)I"⟩
abbrev cX11_as : ByteArray := prog_1_method_6_code
def yX11_as : MethodName := ⟨RX11, "as", "(II)I"⟩
abbrev cX11_figures : ByteArray := prog_1_method_7_code
def yX11_figures : MethodName := ⟨RX11, "figures", "(II)I"⟩
abbrev cX11_asks : ByteArray := prog_1_method_8_code
def yX11_asks : MethodName := ⟨RX11, "asks", "(III)I"⟩
abbrev cX11_feed : ByteArray := prog_1_method_9_code
def yX11_feed : MethodName := ⟨RX11, "feed", "(JI)I"⟩
abbrev cX11_text : ByteArray := prog_1_method_10_code
def yX11_text : MethodName := ⟨RX11, "text", "(I)I"⟩
abbrev cX11_untell : ByteArray := prog_1_method_11_code
def yX11_untell : MethodName := ⟨RX11, "untell", "(I)I"⟩
abbrev cX11_basket : ByteArray := prog_1_method_12_code
def yX11_basket : MethodName := ⟨RX11, "basket", "(II)I"⟩
abbrev cX11_pays : ByteArray := prog_1_method_13_code
def yX11_pays : MethodName := ⟨RX11, "pays", "(II)I"⟩
abbrev cX11_go : ByteArray := prog_1_method_14_code
def yX11_go : MethodName := ⟨RX11, "go", "(II)I"⟩
abbrev cX11_draws : ByteArray := prog_1_method_15_code
def yX11_draws : MethodName := ⟨RX11, "draws", "(I)I"⟩
abbrev cX11_seed : ByteArray := prog_1_method_16_code
def yX11_seed : MethodName := ⟨RX11, "seed", "(I)I"⟩
abbrev cX11_more : ByteArray := prog_1_method_17_code
def yX11_more : MethodName := ⟨RX11, "more", "(IIII)I"⟩
abbrev cX11_inTwo : ByteArray := prog_1_method_18_code
def yX11_inTwo : MethodName := ⟨RX11, "inTwo", "(II)I"⟩
abbrev cX11_together : ByteArray := prog_1_method_19_code
def yX11_together : MethodName := ⟨RX11, "together", "(III)I"⟩
abbrev cX11_worth : ByteArray := prog_1_method_20_code
def yX11_worth : MethodName := ⟨RX11, "worth", "(III)I"⟩
abbrev cX11_dearer : ByteArray := prog_1_method_21_code
def yX11_dearer : MethodName := ⟨RX11, "dearer", "(III)I"⟩
abbrev cX11_nines : ByteArray := prog_1_method_22_code
def yX11_nines : MethodName := ⟨RX11, "nines", "(I)I"⟩
abbrev cX11_erring : ByteArray := prog_1_method_23_code
def yX11_erring : MethodName := ⟨RX11, "erring", "(IIII)J"⟩
abbrev cX11_wasIn : ByteArray := prog_1_method_24_code
def yX11_wasIn : MethodName := ⟨RX11, "wasIn", "(III)I"⟩
abbrev cX11_voice : ByteArray := prog_1_method_25_code
def yX11_voice : MethodName := ⟨RX11, "voice", "(III)I"⟩
abbrev cX11_body : ByteArray := prog_1_method_26_code
def yX11_body : MethodName := ⟨RX11, "body", "(I)I"⟩
abbrev cX11_sheet : ByteArray := prog_1_method_27_code
def yX11_sheet : MethodName := ⟨RX11, "sheet", "(III)I"⟩
abbrev cX11_put : ByteArray := prog_1_method_28_code
def yX11_put : MethodName := ⟨RX11, "put", "(III)I"⟩
abbrev cX11_move : ByteArray := prog_1_method_29_code
def yX11_move : MethodName := ⟨RX11, "move", "(IIIII)I"⟩
abbrev cX11_prices : ByteArray := prog_1_method_30_code
def yX11_prices : MethodName := ⟨RX11, "prices", "(I)I"⟩
abbrev cX11_image : ByteArray := prog_1_method_31_code
def yX11_image : MethodName := ⟨RX11, "image", "()I"⟩
abbrev cX11_restore : ByteArray := prog_1_method_32_code
def yX11_restore : MethodName := ⟨RX11, "restore", "()I"⟩
abbrev cX11_tell : ByteArray := prog_1_method_33_code
def yX11_tell : MethodName := ⟨RX11, "tell", "(I)I"⟩
abbrev cX11_check : ByteArray := prog_1_method_34_code
def yX11_check : MethodName := ⟨RX11, "check", "(I)I"⟩
abbrev cX11_count : ByteArray := prog_1_method_35_code
def yX11_count : MethodName := ⟨RX11, "count", "(I)I"⟩
abbrev cX11_told : ByteArray := prog_1_method_36_code
def yX11_told : MethodName := ⟨RX11, "told", "(I)I"⟩
abbrev cX11_error : ByteArray := prog_1_method_37_code
def yX11_error : MethodName := ⟨RX11, "error", "(I)I"⟩
abbrev cX11_within : ByteArray := prog_1_method_38_code
def yX11_within : MethodName := ⟨RX11, "within", "(III)Z"⟩
abbrev cX11_held : ByteArray := prog_1_method_39_code
def yX11_held : MethodName := ⟨RX11, "held", "(II)I"⟩
abbrev cX11_isThing : ByteArray := prog_1_method_40_code
def yX11_isThing : MethodName := ⟨RX11, "isThing", "(I)Z"⟩
abbrev cX11_isTill : ByteArray := prog_1_method_41_code
def yX11_isTill : MethodName := ⟨RX11, "isTill", "(I)Z"⟩
abbrev cX11_isSheet : ByteArray := prog_1_method_42_code
def yX11_isSheet : MethodName := ⟨RX11, "isSheet", "(I)Z"⟩
abbrev cX11_isGood : ByteArray := prog_1_method_43_code
def yX11_isGood : MethodName := ⟨RX11, "isGood", "(II)Z"⟩
abbrev cX11_isMissing : ByteArray := prog_1_method_44_code
def yX11_isMissing : MethodName := ⟨RX11, "isMissing", "(I)Z"⟩
abbrev cX11_stand : ByteArray := prog_1_method_45_code
def yX11_stand : MethodName := ⟨RX11, "stand", "(III)Z"⟩
abbrev cX11_refusal : ByteArray := prog_1_method_46_code
def yX11_refusal : MethodName := ⟨RX11, "refusal", "(III)I"⟩
abbrev cX11_refusal_ : ByteArray := prog_1_method_47_code
def yX11_refusal_ : MethodName := ⟨RX11, "refusal", "(II)I"⟩
abbrev cX11_reads : ByteArray := prog_1_method_48_code
def yX11_reads : MethodName := ⟨RX11, "reads", "(ILFigureTill$Basket;)Z"⟩
abbrev cX11_lowest : ByteArray := prog_1_method_49_code
def yX11_lowest : MethodName := ⟨RX11, "lowest", "(II)I"⟩
abbrev cX11_figureSum : ByteArray := prog_1_method_50_code
def yX11_figureSum : MethodName := ⟨RX11, "figureSum", "(II)I"⟩
abbrev cX11_oneFigure : ByteArray := prog_1_method_51_code
def yX11_oneFigure : MethodName := ⟨RX11, "oneFigure", "(II)I"⟩
abbrev cX11_commonDivisor : ByteArray := prog_1_method_52_code
def yX11_commonDivisor : MethodName := ⟨RX11, "commonDivisor", "(II)I"⟩
abbrev cX11_takenInCases : ByteArray := prog_1_method_53_code
def yX11_takenInCases : MethodName := ⟨RX11, "takenInCases", "(III)I"⟩
abbrev cX11_findCheapest : ByteArray := prog_1_method_54_code
def yX11_findCheapest : MethodName := ⟨RX11, "findCheapest", "(II)V"⟩
abbrev cX11_paidIfDearer : ByteArray := prog_1_method_55_code
def yX11_paidIfDearer : MethodName := ⟨RX11, "paidIfDearer", "(IIII)I"⟩
abbrev cX11_allByNine : ByteArray := prog_1_method_56_code
def yX11_allByNine : MethodName := ⟨RX11, "allByNine", "()I"⟩
abbrev cX11_startFew : ByteArray := prog_1_method_57_code
def yX11_startFew : MethodName := ⟨RX11, "startFew", "()V"⟩
abbrev cX11_leastOfFew : ByteArray := prog_1_method_58_code
def yX11_leastOfFew : MethodName := ⟨RX11, "leastOfFew", "(I)I"⟩
abbrev cX11_tillOf : ByteArray := prog_1_method_59_code
def yX11_tillOf : MethodName := ⟨RX11, "tillOf", "(III)LFigureTill$Till;"⟩
def RX12 : String := "FigureTillModel"
def TX12 : u_T := fun k => match k with
  | 0 => ("FigureTillModel", "s", "[I", true)
  | 1 => ("FigureTillModel", "kept", "[I", true)
  | 2 => ("FigureTillModel", "images", "I", false)
  | 3 => ("FigureTillModel", "errors", "[I", true)
  | 4 => ("FigureTillModel", "at", "I", false)
  | 5 => ("FigureTillModel", "open", "I", false)
  | 6 => ("FigureTillModel", "steps", "I", false)
  | 7 => ("FigureTillModel", "use", "I", false)
  | 8 => ("FigureTillModel", "step", "[I", true)
  | 9 => ("FigureTillModel", "named", "[I", true)
  | 10 => ("FigureTillModel", "pile", "[I", true)
  | 11 => ("FigureTillModel", "told", "[I", true)
  | 12 => ("FigureTillModel", "beside1", "[I", true)
  | 13 => ("FigureTillModel", "row", "[I", true)
  | 14 => ("FigureTillModel", "best", "[I", true)
  | 15 => ("FigureTillModel", "bestNet", "I", false)
  | 16 => ("FigureTillModel", "bestMore", "I", false)
  | 17 => ("FigureTillModel", "worthOf", "[I", true)
  | 18 => ("FigureTillModel", "leastApart", "I", false)
  | 19 => ("FigureTillModel", "found", "I", false)
  | 20 => ("FigureTillModel", "first", "I", false)
  | 21 => ("FigureTillModel", "leastPaid", "I", false)
  | 22 => ("FigureTillModel", "trace", "[I", true)
  | 23 => ("FigureTillModel", "traced", "I", false)
  | 24 => ("FigureTillModel", "speaks", "I", false)
  | 25 => ("FigureTillModel", "isParted", "Z", false)
  | 26 => ("FigureTillModel", "bits", "[I", true)
  | 27 => ("FigureTillModel", "sizes", "[I", true)
  | 28 => ("FigureTillModel", "number", "[I", true)
  | _ => ("FigureTillModel", "aside", "[I", true)
def tyX12 : Nat → FieldType := fun k => match k with
  | 0 => .array .int
  | 1 => .array .int
  | 2 => .int
  | 3 => .array .int
  | 4 => .int
  | 5 => .int
  | 6 => .int
  | 7 => .int
  | 8 => .array .int
  | 9 => .array .int
  | 10 => .array .int
  | 11 => .array .int
  | 12 => .array .int
  | 13 => .array .int
  | 14 => .array .int
  | 15 => .int
  | 16 => .int
  | 17 => .array .int
  | 18 => .int
  | 19 => .int
  | 20 => .int
  | 21 => .int
  | 22 => .array .int
  | 23 => .int
  | 24 => .int
  | 25 => .boolean
  | 26 => .array .int
  | 27 => .array .int
  | 28 => .array .int
  | _ => .array .int
abbrev wsX120 : List Cond := u_ws RX12 TX12 30
theorem nmX12 : ∀ a, a < 30 → ∀ b, b < 30 → a ≠ b → (TX12 a).2.1 ≠ (TX12 b).2.1 := by decide +kernel
theorem tyX12_ok : ∀ k, k < 30 → parseFieldDescriptor (TX12 k).2.2.1 = some (tyX12 k) := by decide +kernel
abbrev cX12_init : ByteArray := prog_14_method_1_code
def yX12_init : MethodName := ⟨RX12, "<init>", "()V"⟩
abbrev cX12_error : ByteArray := prog_14_method_2_code
def yX12_error : MethodName := ⟨RX12, "error", "(I)I"⟩
abbrev cX12_in : ByteArray := prog_14_method_3_code
def yX12_in : MethodName := ⟨RX12, "in", "(III)Z"⟩
abbrev cX12_held : ByteArray := prog_14_method_4_code
def yX12_held : MethodName := ⟨RX12, "held", "(III)I"⟩
abbrev cX12_carry : ByteArray := prog_14_method_5_code
def yX12_carry : MethodName := ⟨RX12, "carry", "([I[I)V"⟩
abbrev cX12_isThing : ByteArray := prog_14_method_6_code
def yX12_isThing : MethodName := ⟨RX12, "isThing", "(I)Z"⟩
abbrev cX12_isTill : ByteArray := prog_14_method_7_code
def yX12_isTill : MethodName := ⟨RX12, "isTill", "(I)Z"⟩
abbrev cX12_kindOf : ByteArray := prog_14_method_8_code
def yX12_kindOf : MethodName := ⟨RX12, "kindOf", "(I)I"⟩
abbrev cX12_mOf : ByteArray := prog_14_method_9_code
def yX12_mOf : MethodName := ⟨RX12, "mOf", "(I)I"⟩
abbrev cX12_change1 : ByteArray := prog_14_method_10_code
def yX12_change1 : MethodName := ⟨RX12, "change1", "(II)I"⟩
abbrev cX12_feed : ByteArray := prog_14_method_11_code
def yX12_feed : MethodName := ⟨RX12, "feed", "(JI)I"⟩
abbrev cX12_look : ByteArray := prog_14_method_12_code
def yX12_look : MethodName := ⟨RX12, "look", "()I"⟩
abbrev cX12_isName : ByteArray := prog_14_method_13_code
def yX12_isName : MethodName := ⟨RX12, "isName", "(I)Z"⟩
abbrev cX12_step1 : ByteArray := prog_14_method_14_code
def yX12_step1 : MethodName := ⟨RX12, "step1", "(II)V"⟩
abbrev cX12_whole : ByteArray := prog_14_method_15_code
def yX12_whole : MethodName := ⟨RX12, "whole", "()Z"⟩
abbrev cX12_both : ByteArray := prog_14_method_16_code
def yX12_both : MethodName := ⟨RX12, "both", "()Z"⟩
abbrev cX12_compared : ByteArray := prog_14_method_17_code
def yX12_compared : MethodName := ⟨RX12, "compared", "()Z"⟩
abbrev cX12_sum : ByteArray := prog_14_method_18_code
def yX12_sum : MethodName := ⟨RX12, "sum", "()Z"⟩
abbrev cX12_product : ByteArray := prog_14_method_19_code
def yX12_product : MethodName := ⟨RX12, "product", "()Z"⟩
abbrev cX12_opens : ByteArray := prog_14_method_20_code
def yX12_opens : MethodName := ⟨RX12, "opens", "()Z"⟩
abbrev cX12_one : ByteArray := prog_14_method_21_code
def yX12_one : MethodName := ⟨RX12, "one", "()Z"⟩
abbrev cX12_hasText : ByteArray := prog_14_method_22_code
def yX12_hasText : MethodName := ⟨RX12, "hasText", "(I)Z"⟩
abbrev cX12_text : ByteArray := prog_14_method_23_code
def yX12_text : MethodName := ⟨RX12, "text", "(I)I"⟩
abbrev cX12_untell : ByteArray := prog_14_method_24_code
def yX12_untell : MethodName := ⟨RX12, "untell", "(I)I"⟩
abbrev cX12_joined : ByteArray := prog_14_method_25_code
def yX12_joined : MethodName := ⟨RX12, "joined", "(III)I"⟩
abbrev cX12_worked : ByteArray := prog_14_method_26_code
def yX12_worked : MethodName := ⟨RX12, "worked", "(I)I"⟩
abbrev cX12_added : ByteArray := prog_14_method_27_code
def yX12_added : MethodName := ⟨RX12, "added", "(II)I"⟩
abbrev cX12_rooted : ByteArray := prog_14_method_28_code
def yX12_rooted : MethodName := ⟨RX12, "rooted", "(II)I"⟩
abbrev cX12_asked : ByteArray := prog_14_method_29_code
def yX12_asked : MethodName := ⟨RX12, "asked", "(III)I"⟩
abbrev cX12_values : ByteArray := prog_14_method_30_code
def yX12_values : MethodName := ⟨RX12, "values", "(I)I"⟩
abbrev cX12_many : ByteArray := prog_14_method_31_code
def yX12_many : MethodName := ⟨RX12, "many", "([I)I"⟩
abbrev cX12_sumOf : ByteArray := prog_14_method_32_code
def yX12_sumOf : MethodName := ⟨RX12, "sumOf", "([I)I"⟩
abbrev cX12_costOf : ByteArray := prog_14_method_33_code
def yX12_costOf : MethodName := ⟨RX12, "costOf", "([I)I"⟩
abbrev cX12_paid : ByteArray := prog_14_method_34_code
def yX12_paid : MethodName := ⟨RX12, "paid", "(I[I)I"⟩
abbrev cX12_thing : ByteArray := prog_14_method_35_code
def yX12_thing : MethodName := ⟨RX12, "thing", "(III)I"⟩
abbrev cX12_thingIs : ByteArray := prog_14_method_36_code
def yX12_thingIs : MethodName := ⟨RX12, "thingIs", "(II)I"⟩
abbrev cX12_till : ByteArray := prog_14_method_37_code
def yX12_till : MethodName := ⟨RX12, "till", "(II)I"⟩
abbrev cX12_tillIs : ByteArray := prog_14_method_38_code
def yX12_tillIs : MethodName := ⟨RX12, "tillIs", "(II)I"⟩
abbrev cX12_isUnder : ByteArray := prog_14_method_39_code
def yX12_isUnder : MethodName := ⟨RX12, "isUnder", "(II)Z"⟩
abbrev cX12_as : ByteArray := prog_14_method_40_code
def yX12_as : MethodName := ⟨RX12, "as", "(II)I"⟩
abbrev cX12_figures : ByteArray := prog_14_method_41_code
def yX12_figures : MethodName := ⟨RX12, "figures", "(II)I"⟩
abbrev cX12_asks : ByteArray := prog_14_method_42_code
def yX12_asks : MethodName := ⟨RX12, "asks", "(III)I"⟩
abbrev cX12_tells : ByteArray := prog_14_method_43_code
def yX12_tells : MethodName := ⟨RX12, "tells", "(I[II)I"⟩
abbrev cX12_lacks : ByteArray := prog_14_method_44_code
def yX12_lacks : MethodName := ⟨RX12, "lacks", "(IIZI)I"⟩
abbrev cX12_basket : ByteArray := prog_14_method_45_code
def yX12_basket : MethodName := ⟨RX12, "basket", "(II)I"⟩
abbrev cX12_pays : ByteArray := prog_14_method_46_code
def yX12_pays : MethodName := ⟨RX12, "pays", "(II)I"⟩
abbrev cX12_isInStock : ByteArray := prog_14_method_47_code
def yX12_isInStock : MethodName := ⟨RX12, "isInStock", "([I)Z"⟩
abbrev cX12_goes : ByteArray := prog_14_method_48_code
def yX12_goes : MethodName := ⟨RX12, "goes", "(I[I)I"⟩
abbrev cX12_go : ByteArray := prog_14_method_49_code
def yX12_go : MethodName := ⟨RX12, "go", "(II)I"⟩
abbrev cX12_draw : ByteArray := prog_14_method_50_code
def yX12_draw : MethodName := ⟨RX12, "draw", "()I"⟩
abbrev cX12_draws : ByteArray := prog_14_method_51_code
def yX12_draws : MethodName := ⟨RX12, "draws", "(I)I"⟩
abbrev cX12_seed : ByteArray := prog_14_method_52_code
def yX12_seed : MethodName := ⟨RX12, "seed", "(I)I"⟩
abbrev cX12_tries : ByteArray := prog_14_method_53_code
def yX12_tries : MethodName := ⟨RX12, "tries", "(IIII)V"⟩
abbrev cX12_seeks : ByteArray := prog_14_method_54_code
def yX12_seeks : MethodName := ⟨RX12, "seeks", "(II)V"⟩
abbrev cX12_more : ByteArray := prog_14_method_55_code
def yX12_more : MethodName := ⟨RX12, "more", "(IIII)I"⟩
abbrev cX12_parts : ByteArray := prog_14_method_56_code
def yX12_parts : MethodName := ⟨RX12, "parts", "(II)V"⟩
abbrev cX12_inTwo : ByteArray := prog_14_method_57_code
def yX12_inTwo : MethodName := ⟨RX12, "inTwo", "(II)I"⟩
abbrev cX12_together : ByteArray := prog_14_method_58_code
def yX12_together : MethodName := ⟨RX12, "together", "(III)I"⟩
abbrev cX12_worth : ByteArray := prog_14_method_59_code
def yX12_worth : MethodName := ⟨RX12, "worth", "(III)I"⟩
abbrev cX12_dearer : ByteArray := prog_14_method_60_code
def yX12_dearer : MethodName := ⟨RX12, "dearer", "(III)I"⟩
abbrev cX12_small : ByteArray := prog_14_method_61_code
def yX12_small : MethodName := ⟨RX12, "small", "(IIII)V"⟩
abbrev cX12_allSmall : ByteArray := prog_14_method_62_code
def yX12_allSmall : MethodName := ⟨RX12, "allSmall", "(II)V"⟩
abbrev cX12_nines : ByteArray := prog_14_method_63_code
def yX12_nines : MethodName := ⟨RX12, "nines", "(I)I"⟩
abbrev cX12_divisor : ByteArray := prog_14_method_64_code
def yX12_divisor : MethodName := ⟨RX12, "divisor", "(II)I"⟩
abbrev cX12_erring : ByteArray := prog_14_method_65_code
def yX12_erring : MethodName := ⟨RX12, "erring", "(IIII)J"⟩
abbrev cX12_wasIn : ByteArray := prog_14_method_66_code
def yX12_wasIn : MethodName := ⟨RX12, "wasIn", "(III)I"⟩
abbrev cX12_begins : ByteArray := prog_14_method_67_code
def yX12_begins : MethodName := ⟨RX12, "begins", "(I)V"⟩
abbrev cX12_above : ByteArray := prog_14_method_68_code
def yX12_above : MethodName := ⟨RX12, "above", "(I)I"⟩
abbrev cX12_addsAs : ByteArray := prog_14_method_69_code
def yX12_addsAs : MethodName := ⟨RX12, "addsAs", "(II)I"⟩
abbrev cX12_comesAs : ByteArray := prog_14_method_70_code
def yX12_comesAs : MethodName := ⟨RX12, "comesAs", "(II)I"⟩
abbrev cX12_givesAs : ByteArray := prog_14_method_71_code
def yX12_givesAs : MethodName := ⟨RX12, "givesAs", "(II)I"⟩
abbrev cX12_partsAs : ByteArray := prog_14_method_72_code
def yX12_partsAs : MethodName := ⟨RX12, "partsAs", "(II)I"⟩
abbrev cX12_voice : ByteArray := prog_14_method_73_code
def yX12_voice : MethodName := ⟨RX12, "voice", "(III)I"⟩
abbrev cX12_body : ByteArray := prog_14_method_74_code
def yX12_body : MethodName := ⟨RX12, "body", "(I)I"⟩
abbrev cX12_isSheet : ByteArray := prog_14_method_75_code
def yX12_isSheet : MethodName := ⟨RX12, "isSheet", "(I)Z"⟩
abbrev cX12_sheet : ByteArray := prog_14_method_76_code
def yX12_sheet : MethodName := ⟨RX12, "sheet", "(III)I"⟩
abbrev cX12_put : ByteArray := prog_14_method_77_code
def yX12_put : MethodName := ⟨RX12, "put", "(III)I"⟩
abbrev cX12_move : ByteArray := prog_14_method_78_code
def yX12_move : MethodName := ⟨RX12, "move", "(IIIII)I"⟩
abbrev cX12_prices : ByteArray := prog_14_method_79_code
def yX12_prices : MethodName := ⟨RX12, "prices", "(I)I"⟩
abbrev cX12_image : ByteArray := prog_14_method_80_code
def yX12_image : MethodName := ⟨RX12, "image", "()I"⟩
abbrev cX12_restore : ByteArray := prog_14_method_81_code
def yX12_restore : MethodName := ⟨RX12, "restore", "()I"⟩
abbrev cX12_tell : ByteArray := prog_14_method_82_code
def yX12_tell : MethodName := ⟨RX12, "tell", "(I)I"⟩
abbrev cX12_check : ByteArray := prog_14_method_83_code
def yX12_check : MethodName := ⟨RX12, "check", "(I)I"⟩
abbrev cX12_count : ByteArray := prog_14_method_84_code
def yX12_count : MethodName := ⟨RX12, "count", "(I)I"⟩
abbrev cX12_told : ByteArray := prog_14_method_85_code
def yX12_told : MethodName := ⟨RX12, "told", "(I)I"⟩
def RJ9 : String := "java/lang/Math"
def TJ9 : u_T := fun k => match k with
  | _ => ("", "", "", false)
def tyJ9 : Nat → FieldType := fun k => match k with
  | _ => .int
abbrev wsJ90 : List Cond := u_ws RJ9 TJ9 0
theorem nmJ9 : ∀ a, a < 0 → ∀ b, b < 0 → a ≠ b → (TJ9 a).2.1 ≠ (TJ9 b).2.1 := by decide +kernel
theorem tyJ9_ok : ∀ k, k < 0 → parseFieldDescriptor (TJ9 k).2.2.1 = some (tyJ9 k) := by decide +kernel
abbrev cJ9_max_7cf53 : ByteArray := prog_15_method_65_code
def yJ9_max_7cf53 : MethodName := ⟨RJ9, "max", "(II)I"⟩
abbrev cJ9_min_7cf53 : ByteArray := prog_15_method_69_code
def yJ9_min_7cf53 : MethodName := ⟨RJ9, "min", "(II)I"⟩
def RJ0 : String := "java/lang/String"
def TJ0 : u_T := fun k => match k with
  | _ => ("", "", "", false)
def tyJ0 : Nat → FieldType := fun k => match k with
  | _ => .int
abbrev wsJ00 : List Cond := u_ws RJ0 TJ0 0
theorem nmJ0 : ∀ a, a < 0 → ∀ b, b < 0 → a ≠ b → (TJ0 a).2.1 ≠ (TJ0 b).2.1 := by decide +kernel
theorem tyJ0_ok : ∀ k, k < 0 → parseFieldDescriptor (TJ0 k).2.2.1 = some (tyJ0 k) := by decide +kernel
abbrev cJ0_length_8abf5 : ByteArray := prog_16_method_54_code
def yJ0_length_8abf5 : MethodName := ⟨RJ0, "length", "()I"⟩
abbrev cJ0_charAt_5068e : ByteArray := prog_16_method_56_code
def yJ0_charAt_5068e : MethodName := ⟨RJ0, "charAt", "(I)C"⟩
abbrev cJ0_coder_7d493 : ByteArray := prog_16_method_152_code
def yJ0_coder_7d493 : MethodName := ⟨RJ0, "coder", "()B"⟩
abbrev cJ0_isLatin1_aae02 : ByteArray := prog_16_method_154_code
def yJ0_isLatin1_aae02 : MethodName := ⟨RJ0, "isLatin1", "()Z"⟩
abbrev cJ0_checkIndex_df160 : ByteArray := prog_16_method_155_code
def yJ0_checkIndex_df160 : MethodName := ⟨RJ0, "checkIndex", "(II)V"⟩
def RJ1 : String := "java/lang/StringLatin1"
def TJ1 : u_T := fun k => match k with
  | _ => ("", "", "", false)
def tyJ1 : Nat → FieldType := fun k => match k with
  | _ => .int
abbrev wsJ10 : List Cond := u_ws RJ1 TJ1 0
theorem nmJ1 : ∀ a, a < 0 → ∀ b, b < 0 → a ≠ b → (TJ1 a).2.1 ≠ (TJ1 b).2.1 := by decide +kernel
theorem tyJ1_ok : ∀ k, k < 0 → parseFieldDescriptor (TJ1 k).2.2.1 = some (tyJ1 k) := by decide +kernel
abbrev cJ1_charAt_3b067 : ByteArray := prog_17_method_2_code
def yJ1_charAt_3b067 : MethodName := ⟨RJ1, "charAt", "([BI)C"⟩
def RJ2 : String := "java/lang/StringUTF16"
def TJ2 : u_T := fun k => match k with
  | _ => ("", "", "", false)
def tyJ2 : Nat → FieldType := fun k => match k with
  | _ => .int
abbrev wsJ20 : List Cond := u_ws RJ2 TJ2 0
theorem nmJ2 : ∀ a, a < 0 → ∀ b, b < 0 → a ≠ b → (TJ2 a).2.1 ≠ (TJ2 b).2.1 := by decide +kernel
theorem tyJ2_ok : ∀ k, k < 0 → parseFieldDescriptor (TJ2 k).2.2.1 = some (tyJ2 k) := by decide +kernel
abbrev cJ2_getChar_3b067 : ByteArray := prog_18_method_5_code
def yJ2_getChar_3b067 : MethodName := ⟨RJ2, "getChar", "([BI)C"⟩
abbrev cJ2_length_9d52b : ByteArray := prog_18_method_6_code
def yJ2_length_9d52b : MethodName := ⟨RJ2, "length", "([B)I"⟩
abbrev cJ2_charAt_3b067 : ByteArray := prog_18_method_83_code
def yJ2_charAt_3b067 : MethodName := ⟨RJ2, "charAt", "([BI)C"⟩
abbrev cJ2_checkIndex_2214a : ByteArray := prog_18_method_91_code
def yJ2_checkIndex_2214a : MethodName := ⟨RJ2, "checkIndex", "(I[B)V"⟩
def RJ10 : String := "java/lang/System"
def TJ10 : u_T := fun k => match k with
  | _ => ("", "", "", false)
def tyJ10 : Nat → FieldType := fun k => match k with
  | _ => .int
abbrev wsJ100 : List Cond := u_ws RJ10 TJ10 0
theorem nmJ10 : ∀ a, a < 0 → ∀ b, b < 0 → a ≠ b → (TJ10 a).2.1 ≠ (TJ10 b).2.1 := by decide +kernel
theorem tyJ10_ok : ∀ k, k < 0 → parseFieldDescriptor (TJ10 k).2.2.1 = some (tyJ10 k) := by decide +kernel
def RJ3 : String := "jdk/internal/util/Preconditions"
def TJ3 : u_T := fun k => match k with
  | _ => ("", "", "", false)
def tyJ3 : Nat → FieldType := fun k => match k with
  | _ => .int
abbrev wsJ30 : List Cond := u_ws RJ3 TJ3 0
theorem nmJ3 : ∀ a, a < 0 → ∀ b, b < 0 → a ≠ b → (TJ3 a).2.1 ≠ (TJ3 b).2.1 := by decide +kernel
theorem tyJ3_ok : ∀ k, k < 0 → parseFieldDescriptor (TJ3 k).2.2.1 = some (tyJ3 k) := by decide +kernel
abbrev cJ3_checkIndex_8e157 : ByteArray := prog_20_method_11_code
def yJ3_checkIndex_8e157 : MethodName := ⟨RJ3, "checkIndex", "(IILjava/util/function/BiFunction;)I"⟩
def RL : String := "FigureTillLaw"
abbrev cL_law : ByteArray := code
def yL_law : MethodName := ⟨RL, "law", "([I)Z"⟩
def wsX0_init : List Cond := .code yX0_init cX0_init 1 none :: ([.methodLink RX0 3 objectInit, .instanceMethod objectInit, .code objectInit ⟨#[0xb1]⟩ 1 none, .arrayClass .int, .fieldLink RX0 9 "FigureTill$Basket" "row" "[I", .fieldLink RX0 15 "FigureTill$Basket" "things" "I", .fieldLink RX0 19 "FigureTill$Basket" "sum" "I"] ++ wsX00)
def wsX0_clear : List Cond := .code yX0_clear cX0_clear 2 none :: ([.fieldLink RX0 9 "FigureTill$Basket" "row" "[I", .fieldLink RX0 15 "FigureTill$Basket" "things" "I", .fieldLink RX0 19 "FigureTill$Basket" "sum" "I"] ++ wsX00)
def wsX0_copy : List Cond := .code yX0_copy cX0_copy 2 none :: ([.fieldLink RX0 9 "FigureTill$Basket" "row" "[I", .methodLink RX0 22 arraycopyName, .native arraycopyName, .static arraycopyName, .initialized "java/lang/System", .fieldLink RX0 15 "FigureTill$Basket" "things" "I", .fieldLink RX0 19 "FigureTill$Basket" "sum" "I"] ++ wsX00)
def wsX0_sumBy : List Cond := .code yX0_sumBy cX0_sumBy 4 (some .int) :: ([.fieldLink RX0 9 "FigureTill$Basket" "row" "[I"] ++ wsX00)
def wsX0_add : List Cond := .code yX0_add cX0_add 3 none :: ([.fieldLink RX0 15 "FigureTill$Basket" "things" "I", .fieldLink RX0 9 "FigureTill$Basket" "row" "[I", .fieldLink RX0 19 "FigureTill$Basket" "sum" "I", .methodLink RX0 28 yX0_sumBy, .instanceMethod yX0_sumBy, .selects RX0 yX0_sumBy yX0_sumBy, .initialized RX0, .code yX0_sumBy cX0_sumBy 4 (some .int)] ++ wsX00)
def wsX0_step : List Cond := .code yX0_step cX0_step 5 (some .boolean) :: ([.fieldLink RX0 9 "FigureTill$Basket" "row" "[I", .fieldLink RX0 15 "FigureTill$Basket" "things" "I", .fieldLink RX0 19 "FigureTill$Basket" "sum" "I"] ++ wsX00)
def wsX0_rowAsNumber : List Cond := .code yX0_rowAsNumber cX0_rowAsNumber 3 (some .int) :: ([.fieldLink RX0 9 "FigureTill$Basket" "row" "[I"] ++ wsX00)
def wsX8_init : List Cond := .code yX8_init cX8_init 3 none :: ([.methodLink RX8 1 objectInit, .instanceMethod objectInit, .code objectInit ⟨#[0xb1]⟩ 1 none, .fieldLink RX8 7 "FigureTill$Till" "number" "I", .fieldLink RX8 13 "FigureTill$Till" "m" "I"] ++ wsX10 ++ wsX20 ++ wsX30 ++ wsX50 ++ wsX60 ++ wsX80 ++ wsX90)
def wsX1_init : List Cond := .code yX1_init cX1_init 3 none :: ([.methodLink RX1 1 yX8_init, .instanceMethod yX8_init, .initialized RX8, .code yX8_init cX8_init 3 none, .methodLink RX8 1 objectInit, .instanceMethod objectInit, .code objectInit ⟨#[0xb1]⟩ 1 none, .fieldLink RX8 7 "FigureTill$Till" "number" "I", .fieldLink RX8 13 "FigureTill$Till" "m" "I"] ++ wsX10 ++ wsX20 ++ wsX30 ++ wsX50 ++ wsX60 ++ wsX80 ++ wsX90)
def wsX1_kind : List Cond := .code yX1_kind cX1_kind 1 (some .int) :: ([])
def wsX8_isOf : List Cond := .code yX8_isOf cX8_isOf 2 (some .boolean) :: ([])
def wsX1_isOf : List Cond := .code yX1_isOf cX1_isOf 2 (some .boolean) :: ([.methodLink RX1 7 yX8_isOf, .sameMethod "FigureTill$Till" "FigureTill$Till" "isOf" "(I)Z", .superclass RX1 RX8, .instanceMethod yX8_isOf, .initialized RX8, .code yX8_isOf cX8_isOf 2 (some .boolean)])
def wsX11_figureSum : List Cond := .code yX11_figureSum cX11_figureSum 5 (some .int) :: ([])
def wsX1_due : List Cond := .code yX1_due cX1_due 4 (some .int) :: ([.fieldLink RX1 11 "FigureTill$ErrsTill" "m" "I", .sameField "FigureTill$ErrsTill" "FigureTill$Till" "m" "I", .static yX11_figureSum, .initialized RX11, .code yX11_figureSum cX11_figureSum 5 (some .int)] ++ wsX10 ++ wsX20 ++ wsX30 ++ wsX50 ++ wsX60 ++ wsX80 ++ wsX90)
def wsX10_began : List Cond := .code yX10_began cX10_began 2 none :: ([.fieldLink RX10 15 "FigureTill$Trace" "length" "I", .fieldLink RX10 9 "FigureTill$Trace" "bodies" "[I"] ++ wsX100)
def wsX8_adds : List Cond := .code yX8_adds cX8_adds 3 (some .int) :: ([.fieldLink RX8 7 "FigureTill$Till" "number" "I", .instanceMethod yX10_began, .initialized RX10, .selects RX10 yX10_began yX10_began, .code yX10_began cX10_began 2 none, .fieldLink RX10 15 "FigureTill$Trace" "length" "I", .fieldLink RX10 9 "FigureTill$Trace" "bodies" "[I"] ++ wsX10 ++ wsX20 ++ wsX30 ++ wsX50 ++ wsX60 ++ wsX80 ++ wsX90 ++ wsX100)
def wsX3_adds : List Cond := .code yX3_adds cX3_adds 3 (some .int) :: ([.instanceMethod yX10_began, .initialized RX10, .selects RX10 yX10_began yX10_began, .code yX10_began cX10_began 2 none, .fieldLink RX10 15 "FigureTill$Trace" "length" "I", .fieldLink RX10 9 "FigureTill$Trace" "bodies" "[I", .methodLink RX3 17 yX8_adds, .sameMethod "FigureTill$Till" "FigureTill$Till" "adds" "(LFigureTill$Trace;I)I", .superclass RX3 RX8, .instanceMethod yX8_adds, .initialized RX8, .code yX8_adds cX8_adds 3 (some .int), .fieldLink RX8 7 "FigureTill$Till" "number" "I"] ++ wsX100 ++ wsX10 ++ wsX20 ++ wsX30 ++ wsX50 ++ wsX60 ++ wsX80 ++ wsX90)
def wsX2_adds : List Cond := .code yX2_adds cX2_adds 3 (some .int) :: ([.instanceMethod yX10_began, .initialized RX10, .selects RX10 yX10_began yX10_began, .code yX10_began cX10_began 2 none, .fieldLink RX10 15 "FigureTill$Trace" "length" "I", .fieldLink RX10 9 "FigureTill$Trace" "bodies" "[I", .methodLink RX2 33 yX3_adds, .sameMethod "FigureTill$LastTill" "FigureTill$LastTill" "adds" "(LFigureTill$Trace;I)I", .superclass RX2 RX3, .instanceMethod yX3_adds, .initialized RX3, .code yX3_adds cX3_adds 3 (some .int), .methodLink RX3 17 yX8_adds, .sameMethod "FigureTill$Till" "FigureTill$Till" "adds" "(LFigureTill$Trace;I)I", .superclass RX3 RX8, .instanceMethod yX8_adds, .initialized RX8, .code yX8_adds cX8_adds 3 (some .int), .fieldLink RX8 7 "FigureTill$Till" "number" "I"] ++ wsX100 ++ wsX10 ++ wsX20 ++ wsX30 ++ wsX50 ++ wsX60 ++ wsX80 ++ wsX90)
def wsX9_adds : List Cond := .code yX9_adds cX9_adds 3 (some .int) :: ([.instanceMethod yX10_began, .initialized RX10, .selects RX10 yX10_began yX10_began, .code yX10_began cX10_began 2 none, .fieldLink RX10 15 "FigureTill$Trace" "length" "I", .fieldLink RX10 9 "FigureTill$Trace" "bodies" "[I"] ++ wsX100)
def wsX8_comes_r1 : List Cond := [Cond.instanceMethod yX10_began, Cond.initialized RX10, Cond.selects RX10 yX10_began yX10_began, Cond.code yX10_began cX10_began 2 none, Cond.fieldLink RX10 15 "FigureTill$Trace" "length" "I", Cond.fieldLink RX10 9 "FigureTill$Trace" "bodies" "[I", Cond.methodLink RX8 28 ⟨"FigureTill$Till", "adds", "(LFigureTill$Trace;I)I"⟩, Cond.sameMethod "FigureTill$Till" "FigureTill$Till" "adds" "(LFigureTill$Trace;I)I", Cond.selects RX1 ⟨"FigureTill$Till", "adds", "(LFigureTill$Trace;I)I"⟩ yX8_adds, Cond.instanceMethod yX8_adds, Cond.initialized RX8, Cond.code yX8_adds cX8_adds 3 (some .int), Cond.fieldLink RX8 7 "FigureTill$Till" "number" "I", Cond.instanceMethod ⟨"FigureTill$Till", "adds", "(LFigureTill$Trace;I)I"⟩, Cond.selects RX2 ⟨"FigureTill$Till", "adds", "(LFigureTill$Trace;I)I"⟩ yX2_adds, Cond.instanceMethod yX2_adds, Cond.initialized RX2, Cond.code yX2_adds cX2_adds 3 (some .int), Cond.methodLink RX2 33 yX3_adds, Cond.sameMethod "FigureTill$LastTill" "FigureTill$LastTill" "adds" "(LFigureTill$Trace;I)I", Cond.superclass RX2 RX3, Cond.instanceMethod yX3_adds, Cond.initialized RX3, Cond.code yX3_adds cX3_adds 3 (some .int)]
def wsX8_comes_r2 : List Cond := [Cond.methodLink RX3 17 yX8_adds, Cond.superclass RX3 RX8, Cond.selects RX3 ⟨"FigureTill$Till", "adds", "(LFigureTill$Trace;I)I"⟩ yX3_adds, Cond.selects RX5 ⟨"FigureTill$Till", "adds", "(LFigureTill$Trace;I)I"⟩ yX8_adds, Cond.selects RX6 ⟨"FigureTill$Till", "adds", "(LFigureTill$Trace;I)I"⟩ yX8_adds, Cond.methodLink RX8 28 yX8_adds, Cond.selects RX8 yX8_adds yX8_adds, Cond.selects RX9 ⟨"FigureTill$Till", "adds", "(LFigureTill$Trace;I)I"⟩ yX9_adds, Cond.instanceMethod yX9_adds, Cond.initialized RX9, Cond.code yX9_adds cX9_adds 3 (some .int)]
def wsX8_comes : List Cond := .code yX8_comes cX8_comes 3 (some .int) :: ((wsX8_comes_r1 ++ wsX8_comes_r2) ++ wsX100 ++ wsX10 ++ wsX20 ++ wsX30 ++ wsX50 ++ wsX60 ++ wsX80 ++ wsX90)
def wsX6_comes_r1 : List Cond := [Cond.instanceMethod yX10_began, Cond.initialized RX10, Cond.selects RX10 yX10_began yX10_began, Cond.code yX10_began cX10_began 2 none, Cond.fieldLink RX10 15 "FigureTill$Trace" "length" "I", Cond.fieldLink RX10 9 "FigureTill$Trace" "bodies" "[I", Cond.methodLink RX6 23 yX8_comes, Cond.sameMethod "FigureTill$Till" "FigureTill$Till" "comes" "(LFigureTill$Trace;I)I", Cond.superclass RX6 RX8, Cond.instanceMethod yX8_comes, Cond.initialized RX8, Cond.code yX8_comes cX8_comes 3 (some .int), Cond.methodLink RX8 28 ⟨"FigureTill$Till", "adds", "(LFigureTill$Trace;I)I"⟩, Cond.sameMethod "FigureTill$Till" "FigureTill$Till" "adds" "(LFigureTill$Trace;I)I", Cond.selects RX1 ⟨"FigureTill$Till", "adds", "(LFigureTill$Trace;I)I"⟩ yX8_adds, Cond.instanceMethod yX8_adds, Cond.code yX8_adds cX8_adds 3 (some .int), Cond.fieldLink RX8 7 "FigureTill$Till" "number" "I", Cond.instanceMethod ⟨"FigureTill$Till", "adds", "(LFigureTill$Trace;I)I"⟩, Cond.selects RX2 ⟨"FigureTill$Till", "adds", "(LFigureTill$Trace;I)I"⟩ yX2_adds, Cond.instanceMethod yX2_adds, Cond.initialized RX2, Cond.code yX2_adds cX2_adds 3 (some .int), Cond.methodLink RX2 33 yX3_adds]
def wsX6_comes_r2 : List Cond := [Cond.sameMethod "FigureTill$LastTill" "FigureTill$LastTill" "adds" "(LFigureTill$Trace;I)I", Cond.superclass RX2 RX3, Cond.instanceMethod yX3_adds, Cond.initialized RX3, Cond.code yX3_adds cX3_adds 3 (some .int), Cond.methodLink RX3 17 yX8_adds, Cond.superclass RX3 RX8, Cond.selects RX3 ⟨"FigureTill$Till", "adds", "(LFigureTill$Trace;I)I"⟩ yX3_adds, Cond.selects RX5 ⟨"FigureTill$Till", "adds", "(LFigureTill$Trace;I)I"⟩ yX8_adds, Cond.selects RX6 ⟨"FigureTill$Till", "adds", "(LFigureTill$Trace;I)I"⟩ yX8_adds, Cond.methodLink RX8 28 yX8_adds, Cond.selects RX8 yX8_adds yX8_adds, Cond.selects RX9 ⟨"FigureTill$Till", "adds", "(LFigureTill$Trace;I)I"⟩ yX9_adds, Cond.instanceMethod yX9_adds, Cond.initialized RX9, Cond.code yX9_adds cX9_adds 3 (some .int)]
def wsX6_comes : List Cond := .code yX6_comes cX6_comes 3 (some .int) :: ((wsX6_comes_r1 ++ wsX6_comes_r2) ++ wsX100 ++ wsX10 ++ wsX20 ++ wsX30 ++ wsX50 ++ wsX60 ++ wsX80 ++ wsX90)
def wsX5_comes_r1 : List Cond := [Cond.instanceMethod yX10_began, Cond.initialized RX10, Cond.selects RX10 yX10_began yX10_began, Cond.code yX10_began cX10_began 2 none, Cond.fieldLink RX10 15 "FigureTill$Trace" "length" "I", Cond.fieldLink RX10 9 "FigureTill$Trace" "bodies" "[I", Cond.methodLink RX5 29 yX6_comes, Cond.sameMethod "FigureTill$RootTill" "FigureTill$RootTill" "comes" "(LFigureTill$Trace;I)I", Cond.superclass RX5 RX6, Cond.instanceMethod yX6_comes, Cond.initialized RX6, Cond.code yX6_comes cX6_comes 3 (some .int), Cond.methodLink RX6 23 yX8_comes, Cond.sameMethod "FigureTill$Till" "FigureTill$Till" "comes" "(LFigureTill$Trace;I)I", Cond.superclass RX6 RX8, Cond.instanceMethod yX8_comes, Cond.initialized RX8, Cond.code yX8_comes cX8_comes 3 (some .int), Cond.methodLink RX8 28 ⟨"FigureTill$Till", "adds", "(LFigureTill$Trace;I)I"⟩, Cond.sameMethod "FigureTill$Till" "FigureTill$Till" "adds" "(LFigureTill$Trace;I)I", Cond.selects RX1 ⟨"FigureTill$Till", "adds", "(LFigureTill$Trace;I)I"⟩ yX8_adds, Cond.instanceMethod yX8_adds, Cond.code yX8_adds cX8_adds 3 (some .int), Cond.fieldLink RX8 7 "FigureTill$Till" "number" "I"]
def wsX5_comes_r2 : List Cond := [Cond.instanceMethod ⟨"FigureTill$Till", "adds", "(LFigureTill$Trace;I)I"⟩, Cond.selects RX2 ⟨"FigureTill$Till", "adds", "(LFigureTill$Trace;I)I"⟩ yX2_adds, Cond.instanceMethod yX2_adds, Cond.initialized RX2, Cond.code yX2_adds cX2_adds 3 (some .int), Cond.methodLink RX2 33 yX3_adds, Cond.sameMethod "FigureTill$LastTill" "FigureTill$LastTill" "adds" "(LFigureTill$Trace;I)I", Cond.superclass RX2 RX3, Cond.instanceMethod yX3_adds, Cond.initialized RX3, Cond.code yX3_adds cX3_adds 3 (some .int), Cond.methodLink RX3 17 yX8_adds, Cond.superclass RX3 RX8, Cond.selects RX3 ⟨"FigureTill$Till", "adds", "(LFigureTill$Trace;I)I"⟩ yX3_adds, Cond.selects RX5 ⟨"FigureTill$Till", "adds", "(LFigureTill$Trace;I)I"⟩ yX8_adds, Cond.selects RX6 ⟨"FigureTill$Till", "adds", "(LFigureTill$Trace;I)I"⟩ yX8_adds, Cond.methodLink RX8 28 yX8_adds, Cond.selects RX8 yX8_adds yX8_adds, Cond.selects RX9 ⟨"FigureTill$Till", "adds", "(LFigureTill$Trace;I)I"⟩ yX9_adds, Cond.instanceMethod yX9_adds, Cond.initialized RX9, Cond.code yX9_adds cX9_adds 3 (some .int)]
def wsX5_comes : List Cond := .code yX5_comes cX5_comes 3 (some .int) :: ((wsX5_comes_r1 ++ wsX5_comes_r2) ++ wsX100 ++ wsX10 ++ wsX20 ++ wsX30 ++ wsX50 ++ wsX60 ++ wsX80 ++ wsX90)
def wsX9_comes_r1 : List Cond := [Cond.fieldLink RX9 17 "FigureTill$ToldTill" "m" "I", Cond.sameField "FigureTill$ToldTill" "FigureTill$Till" "m" "I", Cond.instanceMethod yX10_began, Cond.initialized RX10, Cond.selects RX10 yX10_began yX10_began, Cond.code yX10_began cX10_began 2 none, Cond.fieldLink RX10 15 "FigureTill$Trace" "length" "I", Cond.fieldLink RX10 9 "FigureTill$Trace" "bodies" "[I", Cond.methodLink RX9 37 yX8_comes, Cond.sameMethod "FigureTill$Till" "FigureTill$Till" "comes" "(LFigureTill$Trace;I)I", Cond.superclass RX9 RX8, Cond.instanceMethod yX8_comes, Cond.initialized RX8, Cond.code yX8_comes cX8_comes 3 (some .int), Cond.methodLink RX8 28 ⟨"FigureTill$Till", "adds", "(LFigureTill$Trace;I)I"⟩, Cond.sameMethod "FigureTill$Till" "FigureTill$Till" "adds" "(LFigureTill$Trace;I)I", Cond.selects RX1 ⟨"FigureTill$Till", "adds", "(LFigureTill$Trace;I)I"⟩ yX8_adds, Cond.instanceMethod yX8_adds, Cond.code yX8_adds cX8_adds 3 (some .int), Cond.fieldLink RX8 7 "FigureTill$Till" "number" "I", Cond.instanceMethod ⟨"FigureTill$Till", "adds", "(LFigureTill$Trace;I)I"⟩, Cond.selects RX2 ⟨"FigureTill$Till", "adds", "(LFigureTill$Trace;I)I"⟩ yX2_adds, Cond.instanceMethod yX2_adds, Cond.initialized RX2]
def wsX9_comes_r2 : List Cond := [Cond.code yX2_adds cX2_adds 3 (some .int), Cond.methodLink RX2 33 yX3_adds, Cond.sameMethod "FigureTill$LastTill" "FigureTill$LastTill" "adds" "(LFigureTill$Trace;I)I", Cond.superclass RX2 RX3, Cond.instanceMethod yX3_adds, Cond.initialized RX3, Cond.code yX3_adds cX3_adds 3 (some .int), Cond.methodLink RX3 17 yX8_adds, Cond.superclass RX3 RX8, Cond.selects RX3 ⟨"FigureTill$Till", "adds", "(LFigureTill$Trace;I)I"⟩ yX3_adds, Cond.selects RX5 ⟨"FigureTill$Till", "adds", "(LFigureTill$Trace;I)I"⟩ yX8_adds, Cond.selects RX6 ⟨"FigureTill$Till", "adds", "(LFigureTill$Trace;I)I"⟩ yX8_adds, Cond.methodLink RX8 28 yX8_adds, Cond.selects RX8 yX8_adds yX8_adds, Cond.selects RX9 ⟨"FigureTill$Till", "adds", "(LFigureTill$Trace;I)I"⟩ yX9_adds, Cond.instanceMethod yX9_adds, Cond.initialized RX9, Cond.code yX9_adds cX9_adds 3 (some .int)]
def wsX9_comes : List Cond := .code yX9_comes cX9_comes 3 (some .int) :: ((wsX9_comes_r1 ++ wsX9_comes_r2) ++ wsX10 ++ wsX20 ++ wsX30 ++ wsX50 ++ wsX60 ++ wsX80 ++ wsX90 ++ wsX100)
def wsX8_gives_r1 : List Cond := [Cond.fieldLink RX8 13 "FigureTill$Till" "m" "I", Cond.instanceMethod yX10_began, Cond.initialized RX10, Cond.selects RX10 yX10_began yX10_began, Cond.code yX10_began cX10_began 2 none, Cond.fieldLink RX10 15 "FigureTill$Trace" "length" "I", Cond.fieldLink RX10 9 "FigureTill$Trace" "bodies" "[I", Cond.methodLink RX8 32 ⟨"FigureTill$Till", "comes", "(LFigureTill$Trace;I)I"⟩, Cond.sameMethod "FigureTill$Till" "FigureTill$Till" "comes" "(LFigureTill$Trace;I)I", Cond.selects RX1 ⟨"FigureTill$Till", "comes", "(LFigureTill$Trace;I)I"⟩ yX8_comes, Cond.instanceMethod yX8_comes, Cond.initialized RX8, Cond.code yX8_comes cX8_comes 3 (some .int), Cond.methodLink RX8 28 ⟨"FigureTill$Till", "adds", "(LFigureTill$Trace;I)I"⟩, Cond.sameMethod "FigureTill$Till" "FigureTill$Till" "adds" "(LFigureTill$Trace;I)I", Cond.selects RX1 ⟨"FigureTill$Till", "adds", "(LFigureTill$Trace;I)I"⟩ yX8_adds, Cond.instanceMethod yX8_adds, Cond.code yX8_adds cX8_adds 3 (some .int), Cond.fieldLink RX8 7 "FigureTill$Till" "number" "I", Cond.instanceMethod ⟨"FigureTill$Till", "adds", "(LFigureTill$Trace;I)I"⟩, Cond.selects RX2 ⟨"FigureTill$Till", "adds", "(LFigureTill$Trace;I)I"⟩ yX2_adds, Cond.instanceMethod yX2_adds, Cond.initialized RX2, Cond.code yX2_adds cX2_adds 3 (some .int)]
def wsX8_gives_r2 : List Cond := [Cond.methodLink RX2 33 yX3_adds, Cond.sameMethod "FigureTill$LastTill" "FigureTill$LastTill" "adds" "(LFigureTill$Trace;I)I", Cond.superclass RX2 RX3, Cond.instanceMethod yX3_adds, Cond.initialized RX3, Cond.code yX3_adds cX3_adds 3 (some .int), Cond.methodLink RX3 17 yX8_adds, Cond.superclass RX3 RX8, Cond.selects RX3 ⟨"FigureTill$Till", "adds", "(LFigureTill$Trace;I)I"⟩ yX3_adds, Cond.selects RX5 ⟨"FigureTill$Till", "adds", "(LFigureTill$Trace;I)I"⟩ yX8_adds, Cond.selects RX6 ⟨"FigureTill$Till", "adds", "(LFigureTill$Trace;I)I"⟩ yX8_adds, Cond.methodLink RX8 28 yX8_adds, Cond.selects RX8 yX8_adds yX8_adds, Cond.selects RX9 ⟨"FigureTill$Till", "adds", "(LFigureTill$Trace;I)I"⟩ yX9_adds, Cond.instanceMethod yX9_adds, Cond.initialized RX9, Cond.code yX9_adds cX9_adds 3 (some .int), Cond.selects RX2 ⟨"FigureTill$Till", "comes", "(LFigureTill$Trace;I)I"⟩ yX8_comes, Cond.selects RX3 ⟨"FigureTill$Till", "comes", "(LFigureTill$Trace;I)I"⟩ yX8_comes, Cond.instanceMethod ⟨"FigureTill$Till", "comes", "(LFigureTill$Trace;I)I"⟩, Cond.selects RX5 ⟨"FigureTill$Till", "comes", "(LFigureTill$Trace;I)I"⟩ yX5_comes, Cond.instanceMethod yX5_comes, Cond.initialized RX5, Cond.code yX5_comes cX5_comes 3 (some .int)]
def wsX8_gives_r3 : List Cond := [Cond.methodLink RX5 29 yX6_comes, Cond.sameMethod "FigureTill$RootTill" "FigureTill$RootTill" "comes" "(LFigureTill$Trace;I)I", Cond.superclass RX5 RX6, Cond.instanceMethod yX6_comes, Cond.initialized RX6, Cond.code yX6_comes cX6_comes 3 (some .int), Cond.methodLink RX6 23 yX8_comes, Cond.superclass RX6 RX8, Cond.selects RX6 ⟨"FigureTill$Till", "comes", "(LFigureTill$Trace;I)I"⟩ yX6_comes, Cond.methodLink RX8 32 yX8_comes, Cond.selects RX8 yX8_comes yX8_comes, Cond.selects RX9 ⟨"FigureTill$Till", "comes", "(LFigureTill$Trace;I)I"⟩ yX9_comes, Cond.instanceMethod yX9_comes, Cond.code yX9_comes cX9_comes 3 (some .int), Cond.fieldLink RX9 17 "FigureTill$ToldTill" "m" "I", Cond.sameField "FigureTill$ToldTill" "FigureTill$Till" "m" "I", Cond.methodLink RX9 37 yX8_comes, Cond.superclass RX9 RX8]
def wsX8_gives : List Cond := .code yX8_gives cX8_gives 3 (some .int) :: ((wsX8_gives_r1 ++ (wsX8_gives_r2 ++ wsX8_gives_r3)) ++ wsX10 ++ wsX20 ++ wsX30 ++ wsX50 ++ wsX60 ++ wsX80 ++ wsX90 ++ wsX100)
def wsX1_gives_r1 : List Cond := [Cond.instanceMethod yX10_began, Cond.initialized RX10, Cond.selects RX10 yX10_began yX10_began, Cond.code yX10_began cX10_began 2 none, Cond.fieldLink RX10 15 "FigureTill$Trace" "length" "I", Cond.fieldLink RX10 9 "FigureTill$Trace" "bodies" "[I", Cond.methodLink RX1 29 yX8_gives, Cond.sameMethod "FigureTill$Till" "FigureTill$Till" "gives" "(LFigureTill$Trace;I)I", Cond.superclass RX1 RX8, Cond.instanceMethod yX8_gives, Cond.initialized RX8, Cond.code yX8_gives cX8_gives 3 (some .int), Cond.fieldLink RX8 13 "FigureTill$Till" "m" "I", Cond.methodLink RX8 32 ⟨"FigureTill$Till", "comes", "(LFigureTill$Trace;I)I"⟩, Cond.sameMethod "FigureTill$Till" "FigureTill$Till" "comes" "(LFigureTill$Trace;I)I", Cond.selects RX1 ⟨"FigureTill$Till", "comes", "(LFigureTill$Trace;I)I"⟩ yX8_comes, Cond.instanceMethod yX8_comes, Cond.code yX8_comes cX8_comes 3 (some .int), Cond.methodLink RX8 28 ⟨"FigureTill$Till", "adds", "(LFigureTill$Trace;I)I"⟩, Cond.sameMethod "FigureTill$Till" "FigureTill$Till" "adds" "(LFigureTill$Trace;I)I", Cond.selects RX1 ⟨"FigureTill$Till", "adds", "(LFigureTill$Trace;I)I"⟩ yX8_adds, Cond.instanceMethod yX8_adds, Cond.code yX8_adds cX8_adds 3 (some .int), Cond.fieldLink RX8 7 "FigureTill$Till" "number" "I"]
def wsX1_gives_r2 : List Cond := [Cond.instanceMethod ⟨"FigureTill$Till", "adds", "(LFigureTill$Trace;I)I"⟩, Cond.selects RX2 ⟨"FigureTill$Till", "adds", "(LFigureTill$Trace;I)I"⟩ yX2_adds, Cond.instanceMethod yX2_adds, Cond.initialized RX2, Cond.code yX2_adds cX2_adds 3 (some .int), Cond.methodLink RX2 33 yX3_adds, Cond.sameMethod "FigureTill$LastTill" "FigureTill$LastTill" "adds" "(LFigureTill$Trace;I)I", Cond.superclass RX2 RX3, Cond.instanceMethod yX3_adds, Cond.initialized RX3, Cond.code yX3_adds cX3_adds 3 (some .int), Cond.methodLink RX3 17 yX8_adds, Cond.superclass RX3 RX8, Cond.selects RX3 ⟨"FigureTill$Till", "adds", "(LFigureTill$Trace;I)I"⟩ yX3_adds, Cond.selects RX5 ⟨"FigureTill$Till", "adds", "(LFigureTill$Trace;I)I"⟩ yX8_adds, Cond.selects RX6 ⟨"FigureTill$Till", "adds", "(LFigureTill$Trace;I)I"⟩ yX8_adds, Cond.methodLink RX8 28 yX8_adds, Cond.selects RX8 yX8_adds yX8_adds, Cond.selects RX9 ⟨"FigureTill$Till", "adds", "(LFigureTill$Trace;I)I"⟩ yX9_adds, Cond.instanceMethod yX9_adds, Cond.initialized RX9, Cond.code yX9_adds cX9_adds 3 (some .int), Cond.selects RX2 ⟨"FigureTill$Till", "comes", "(LFigureTill$Trace;I)I"⟩ yX8_comes, Cond.selects RX3 ⟨"FigureTill$Till", "comes", "(LFigureTill$Trace;I)I"⟩ yX8_comes]
def wsX1_gives_r3 : List Cond := [Cond.instanceMethod ⟨"FigureTill$Till", "comes", "(LFigureTill$Trace;I)I"⟩, Cond.selects RX5 ⟨"FigureTill$Till", "comes", "(LFigureTill$Trace;I)I"⟩ yX5_comes, Cond.instanceMethod yX5_comes, Cond.initialized RX5, Cond.code yX5_comes cX5_comes 3 (some .int), Cond.methodLink RX5 29 yX6_comes, Cond.sameMethod "FigureTill$RootTill" "FigureTill$RootTill" "comes" "(LFigureTill$Trace;I)I", Cond.superclass RX5 RX6, Cond.instanceMethod yX6_comes, Cond.initialized RX6, Cond.code yX6_comes cX6_comes 3 (some .int), Cond.methodLink RX6 23 yX8_comes, Cond.superclass RX6 RX8, Cond.selects RX6 ⟨"FigureTill$Till", "comes", "(LFigureTill$Trace;I)I"⟩ yX6_comes, Cond.methodLink RX8 32 yX8_comes, Cond.selects RX8 yX8_comes yX8_comes, Cond.selects RX9 ⟨"FigureTill$Till", "comes", "(LFigureTill$Trace;I)I"⟩ yX9_comes, Cond.instanceMethod yX9_comes, Cond.code yX9_comes cX9_comes 3 (some .int), Cond.fieldLink RX9 17 "FigureTill$ToldTill" "m" "I", Cond.sameField "FigureTill$ToldTill" "FigureTill$Till" "m" "I", Cond.methodLink RX9 37 yX8_comes, Cond.superclass RX9 RX8]
def wsX1_gives : List Cond := .code yX1_gives cX1_gives 3 (some .int) :: ((wsX1_gives_r1 ++ (wsX1_gives_r2 ++ wsX1_gives_r3)) ++ wsX100 ++ wsX10 ++ wsX20 ++ wsX30 ++ wsX50 ++ wsX60 ++ wsX80 ++ wsX90)
def wsX3_init : List Cond := .code yX3_init cX3_init 3 none :: ([.methodLink RX3 1 yX8_init, .instanceMethod yX8_init, .initialized RX8, .code yX8_init cX8_init 3 none, .methodLink RX8 1 objectInit, .instanceMethod objectInit, .code objectInit ⟨#[0xb1]⟩ 1 none, .fieldLink RX8 7 "FigureTill$Till" "number" "I", .fieldLink RX8 13 "FigureTill$Till" "m" "I"] ++ wsX10 ++ wsX20 ++ wsX30 ++ wsX50 ++ wsX60 ++ wsX80 ++ wsX90)
def wsX2_init : List Cond := .code yX2_init cX2_init 3 none :: ([.methodLink RX2 1 yX3_init, .instanceMethod yX3_init, .initialized RX3, .code yX3_init cX3_init 3 none, .methodLink RX3 1 yX8_init, .instanceMethod yX8_init, .initialized RX8, .code yX8_init cX8_init 3 none, .methodLink RX8 1 objectInit, .instanceMethod objectInit, .code objectInit ⟨#[0xb1]⟩ 1 none, .fieldLink RX8 7 "FigureTill$Till" "number" "I", .fieldLink RX8 13 "FigureTill$Till" "m" "I"] ++ wsX10 ++ wsX20 ++ wsX30 ++ wsX50 ++ wsX60 ++ wsX80 ++ wsX90)
def wsX2_kind : List Cond := .code yX2_kind cX2_kind 1 (some .int) :: ([])
def wsX3_isOf : List Cond := .code yX3_isOf cX3_isOf 2 (some .boolean) :: ([.methodLink RX3 7 yX8_isOf, .sameMethod "FigureTill$Till" "FigureTill$Till" "isOf" "(I)Z", .superclass RX3 RX8, .instanceMethod yX8_isOf, .initialized RX8, .code yX8_isOf cX8_isOf 2 (some .boolean)])
def wsX2_isOf : List Cond := .code yX2_isOf cX2_isOf 2 (some .boolean) :: ([.methodLink RX2 7 yX3_isOf, .sameMethod "FigureTill$LastTill" "FigureTill$LastTill" "isOf" "(I)Z", .superclass RX2 RX3, .instanceMethod yX3_isOf, .initialized RX3, .code yX3_isOf cX3_isOf 2 (some .boolean), .methodLink RX3 7 yX8_isOf, .sameMethod "FigureTill$Till" "FigureTill$Till" "isOf" "(I)Z", .superclass RX3 RX8, .instanceMethod yX8_isOf, .initialized RX8, .code yX8_isOf cX8_isOf 2 (some .boolean)])
def wsX3_due : List Cond := .code yX3_due cX3_due 4 (some .int) :: ([])
def wsX2_due : List Cond := .code yX2_due cX2_due 4 (some .int) :: ([.fieldLink RX2 11 "FigureTill$FloorTill" "m" "I", .sameField "FigureTill$FloorTill" "FigureTill$Till" "m" "I", .methodLink RX2 21 Lib.Math.max.name, .static Lib.Math.max.name, .initialized "java/lang/Math", .code Lib.Math.max.name Lib.Math.max.code 2 (some .int), .methodLink RX2 17 yX3_due, .sameMethod "FigureTill$LastTill" "FigureTill$LastTill" "due" "(IILFigureTill$Law;)I", .superclass RX2 RX3, .instanceMethod yX3_due, .initialized RX3, .code yX3_due cX3_due 4 (some .int)] ++ wsX10 ++ wsX20 ++ wsX30 ++ wsX50 ++ wsX60 ++ wsX80 ++ wsX90)
def wsX2_gives : List Cond := .code yX2_gives cX2_gives 3 (some .int) :: ([.fieldLink RX2 40 "FigureTill$FloorTill" "number" "I", .sameField "FigureTill$FloorTill" "FigureTill$Till" "number" "I", .instanceMethod yX10_began, .initialized RX10, .selects RX10 yX10_began yX10_began, .code yX10_began cX10_began 2 none, .fieldLink RX10 15 "FigureTill$Trace" "length" "I", .fieldLink RX10 9 "FigureTill$Trace" "bodies" "[I"] ++ wsX10 ++ wsX20 ++ wsX30 ++ wsX50 ++ wsX60 ++ wsX80 ++ wsX90 ++ wsX100)
def wsX3_kind : List Cond := .code yX3_kind cX3_kind 1 (some .int) :: ([])
def wsX8_parts : List Cond := .code yX8_parts cX8_parts 4 (some .int) :: ([.fieldLink RX8 13 "FigureTill$Till" "m" "I", .fieldLink RX8 7 "FigureTill$Till" "number" "I", .instanceMethod yX10_began, .initialized RX10, .selects RX10 yX10_began yX10_began, .code yX10_began cX10_began 2 none, .fieldLink RX10 15 "FigureTill$Trace" "length" "I", .fieldLink RX10 9 "FigureTill$Trace" "bodies" "[I"] ++ wsX10 ++ wsX20 ++ wsX30 ++ wsX50 ++ wsX60 ++ wsX80 ++ wsX90 ++ wsX100)
def wsX3_parts_r1 : List Cond := [Cond.instanceMethod yX10_began, Cond.initialized RX10, Cond.selects RX10 yX10_began yX10_began, Cond.code yX10_began cX10_began 2 none, Cond.fieldLink RX10 15 "FigureTill$Trace" "length" "I", Cond.fieldLink RX10 9 "FigureTill$Trace" "bodies" "[I", Cond.methodLink RX3 21 yX8_parts, Cond.sameMethod "FigureTill$Till" "FigureTill$Till" "parts" "(LFigureTill$Trace;I)I", Cond.superclass RX3 RX8, Cond.instanceMethod yX8_parts, Cond.initialized RX8, Cond.code yX8_parts cX8_parts 4 (some .int), Cond.fieldLink RX8 13 "FigureTill$Till" "m" "I", Cond.fieldLink RX8 7 "FigureTill$Till" "number" "I", Cond.methodLink RX3 28 ⟨"FigureTill$LastTill", "comes", "(LFigureTill$Trace;I)I"⟩, Cond.sameMethod "FigureTill$LastTill" "FigureTill$Till" "comes" "(LFigureTill$Trace;I)I", Cond.selects RX2 ⟨"FigureTill$LastTill", "comes", "(LFigureTill$Trace;I)I"⟩ yX8_comes, Cond.instanceMethod yX8_comes, Cond.code yX8_comes cX8_comes 3 (some .int), Cond.methodLink RX8 28 ⟨"FigureTill$Till", "adds", "(LFigureTill$Trace;I)I"⟩, Cond.sameMethod "FigureTill$Till" "FigureTill$Till" "adds" "(LFigureTill$Trace;I)I", Cond.selects RX1 ⟨"FigureTill$Till", "adds", "(LFigureTill$Trace;I)I"⟩ yX8_adds, Cond.instanceMethod yX8_adds, Cond.code yX8_adds cX8_adds 3 (some .int)]
def wsX3_parts_r2 : List Cond := [Cond.instanceMethod ⟨"FigureTill$Till", "adds", "(LFigureTill$Trace;I)I"⟩, Cond.selects RX2 ⟨"FigureTill$Till", "adds", "(LFigureTill$Trace;I)I"⟩ yX2_adds, Cond.instanceMethod yX2_adds, Cond.initialized RX2, Cond.code yX2_adds cX2_adds 3 (some .int), Cond.methodLink RX2 33 yX3_adds, Cond.sameMethod "FigureTill$LastTill" "FigureTill$LastTill" "adds" "(LFigureTill$Trace;I)I", Cond.superclass RX2 RX3, Cond.instanceMethod yX3_adds, Cond.initialized RX3, Cond.code yX3_adds cX3_adds 3 (some .int), Cond.methodLink RX3 17 yX8_adds, Cond.selects RX3 ⟨"FigureTill$Till", "adds", "(LFigureTill$Trace;I)I"⟩ yX3_adds, Cond.selects RX5 ⟨"FigureTill$Till", "adds", "(LFigureTill$Trace;I)I"⟩ yX8_adds, Cond.selects RX6 ⟨"FigureTill$Till", "adds", "(LFigureTill$Trace;I)I"⟩ yX8_adds, Cond.methodLink RX8 28 yX8_adds, Cond.selects RX8 yX8_adds yX8_adds, Cond.selects RX9 ⟨"FigureTill$Till", "adds", "(LFigureTill$Trace;I)I"⟩ yX9_adds, Cond.instanceMethod yX9_adds, Cond.initialized RX9, Cond.code yX9_adds cX9_adds 3 (some .int), Cond.selects RX3 ⟨"FigureTill$LastTill", "comes", "(LFigureTill$Trace;I)I"⟩ yX8_comes]
def wsX3_parts : List Cond := .code yX3_parts cX3_parts 4 (some .int) :: ((wsX3_parts_r1 ++ wsX3_parts_r2) ++ wsX100 ++ wsX10 ++ wsX20 ++ wsX30 ++ wsX50 ++ wsX60 ++ wsX80 ++ wsX90)
def wsX4_init : List Cond := .code yX4_init cX4_init 2 none :: ([.methodLink RX4 3 objectInit, .instanceMethod objectInit, .code objectInit ⟨#[0xb1]⟩ 1 none, .arrayClass .int, .fieldLink RX4 9 "FigureTill$Law" "code" "[I", .fieldLink RX4 15 "FigureTill$Law" "length" "I", .fieldLink RX4 19 "FigureTill$Law" "stack" "[I", .fieldLink RX4 22 "FigureTill$Law" "bytes" "[I", .fieldLink RX4 25 "FigureTill$Law" "draft" "[I", .fieldLink RX4 28 "FigureTill$Law" "drafted" "I", .fieldLink RX4 31 "FigureTill$Law" "end" "I", .fieldLink RX4 34 "FigureTill$Law" "place" "I", .fieldLink RX4 37 "FigureTill$Law" "failed" "Z", .fieldLink RX4 41 "FigureTill$Law" "names" "Ljava/lang/String;"] ++ wsX40)
def wsX4_isTold : List Cond := .code yX4_isTold cX4_isTold 1 (some .boolean) :: ([.fieldLink RX4 15 "FigureTill$Law" "length" "I"] ++ wsX40)
def wsX4_become : List Cond := .code yX4_become cX4_become 2 none :: ([.fieldLink RX4 9 "FigureTill$Law" "code" "[I", .methodLink RX4 45 arraycopyName, .native arraycopyName, .static arraycopyName, .initialized "java/lang/System", .fieldLink RX4 15 "FigureTill$Law" "length" "I"] ++ wsX40)
def wsX4_next : List Cond := .code yX4_next cX4_next 1 (some .int) :: ([.fieldLink RX4 37 "FigureTill$Law" "failed" "Z", .fieldLink RX4 34 "FigureTill$Law" "place" "I", .fieldLink RX4 31 "FigureTill$Law" "end" "I", .fieldLink RX4 22 "FigureTill$Law" "bytes" "[I"] ++ wsX40)
def wsX4_write : List Cond := .code yX4_write cX4_write 2 none :: ([.fieldLink RX4 28 "FigureTill$Law" "drafted" "I", .fieldLink RX4 25 "FigureTill$Law" "draft" "[I"] ++ wsX40)
def wsX4_isDigit : List Cond := .code yX4_isDigit cX4_isDigit 1 (some .boolean) :: ([])
def wsX4_readNumber : List Cond := .code yX4_readNumber cX4_readNumber 3 none :: ([.fieldLink RX4 34 "FigureTill$Law" "place" "I", .methodLink RX4 64 yX4_next, .instanceMethod yX4_next, .selects RX4 yX4_next yX4_next, .initialized RX4, .code yX4_next cX4_next 1 (some .int), .fieldLink RX4 37 "FigureTill$Law" "failed" "Z", .fieldLink RX4 31 "FigureTill$Law" "end" "I", .fieldLink RX4 22 "FigureTill$Law" "bytes" "[I", .methodLink RX4 83 yX4_isDigit, .static yX4_isDigit, .code yX4_isDigit cX4_isDigit 1 (some .boolean), .methodLink RX4 68 yX4_write, .instanceMethod yX4_write, .selects RX4 yX4_write yX4_write, .code yX4_write cX4_write 2 none, .fieldLink RX4 28 "FigureTill$Law" "drafted" "I", .fieldLink RX4 25 "FigureTill$Law" "draft" "[I"] ++ wsX40)
def wsJ0_coder_7d493 : List Cond := .code yJ0_coder_7d493 cJ0_coder_7d493 1 (some .byte) :: ([.fieldLink RJ0 38 "java/lang/String" "COMPACT_STRINGS" "Z", .fieldLink RJ0 15 "java/lang/String" "coder" "B"])
def wsJ0_length_8abf5 : List Cond := .code yJ0_length_8abf5 cJ0_length_8abf5 1 (some .int) :: ([.fieldLink RJ0 9 "java/lang/String" "value" "[B", .methodLink RJ0 335 yJ0_coder_7d493, .instanceMethod yJ0_coder_7d493, .selects RJ0 yJ0_coder_7d493 yJ0_coder_7d493, .initialized RJ0, .code yJ0_coder_7d493 cJ0_coder_7d493 1 (some .byte), .fieldLink RJ0 38 "java/lang/String" "COMPACT_STRINGS" "Z", .fieldLink RJ0 15 "java/lang/String" "coder" "B"])
def wsJ0_isLatin1_aae02 : List Cond := .code yJ0_isLatin1_aae02 cJ0_isLatin1_aae02 1 (some .boolean) :: ([.fieldLink RJ0 38 "java/lang/String" "COMPACT_STRINGS" "Z", .fieldLink RJ0 15 "java/lang/String" "coder" "B"])
def wsJ3_checkIndex_8e157 : List Cond := .code yJ3_checkIndex_8e157 cJ3_checkIndex_8e157 3 (some .int) :: ([])
def wsJ0_checkIndex_df160 : List Cond := .code yJ0_checkIndex_df160 cJ0_checkIndex_df160 2 none :: ([.fieldLink RJ0 1053 "jdk/internal/util/Preconditions" "SIOOBE_FORMATTER" "Ljava/util/function/BiFunction;", .methodLink RJ0 1059 yJ3_checkIndex_8e157, .static yJ3_checkIndex_8e157, .initialized RJ3, .code yJ3_checkIndex_8e157 cJ3_checkIndex_8e157 3 (some .int)])
def wsJ1_charAt_3b067 : List Cond := .code yJ1_charAt_3b067 cJ1_charAt_3b067 2 (some .char) :: ([.methodLink RJ1 9 yJ0_checkIndex_df160, .static yJ0_checkIndex_df160, .initialized RJ0, .code yJ0_checkIndex_df160 cJ0_checkIndex_df160 2 none, .fieldLink RJ0 1053 "jdk/internal/util/Preconditions" "SIOOBE_FORMATTER" "Ljava/util/function/BiFunction;", .methodLink RJ0 1059 yJ3_checkIndex_8e157, .static yJ3_checkIndex_8e157, .initialized RJ3, .code yJ3_checkIndex_8e157 cJ3_checkIndex_8e157 3 (some .int)])
def wsJ2_length_9d52b : List Cond := .code yJ2_length_9d52b cJ2_length_9d52b 1 (some .int) :: ([])
def wsJ2_checkIndex_2214a : List Cond := .code yJ2_checkIndex_2214a cJ2_checkIndex_2214a 2 none :: ([.methodLink RJ2 48 yJ2_length_9d52b, .static yJ2_length_9d52b, .initialized RJ2, .code yJ2_length_9d52b cJ2_length_9d52b 1 (some .int), .methodLink RJ2 414 yJ0_checkIndex_df160, .static yJ0_checkIndex_df160, .initialized RJ0, .code yJ0_checkIndex_df160 cJ0_checkIndex_df160 2 none, .fieldLink RJ0 1053 "jdk/internal/util/Preconditions" "SIOOBE_FORMATTER" "Ljava/util/function/BiFunction;", .methodLink RJ0 1059 yJ3_checkIndex_8e157, .static yJ3_checkIndex_8e157, .initialized RJ3, .code yJ3_checkIndex_8e157 cJ3_checkIndex_8e157 3 (some .int)])
def wsJ2_getChar_3b067 : List Cond := .code yJ2_getChar_3b067 cJ2_getChar_3b067 2 (some .char) :: ([.fieldLink RJ2 44 "java/lang/StringUTF16" "$assertionsDisabled" "Z", .fieldLink RJ2 59 "java/lang/StringUTF16" "HI_BYTE_SHIFT" "I", .fieldLink RJ2 63 "java/lang/StringUTF16" "LO_BYTE_SHIFT" "I", .methodLink RJ2 48 yJ2_length_9d52b, .static yJ2_length_9d52b, .initialized RJ2, .code yJ2_length_9d52b cJ2_length_9d52b 1 (some .int)])
def wsJ2_charAt_3b067 : List Cond := .code yJ2_charAt_3b067 cJ2_charAt_3b067 2 (some .char) :: ([.methodLink RJ2 67 yJ2_checkIndex_2214a, .static yJ2_checkIndex_2214a, .initialized RJ2, .code yJ2_checkIndex_2214a cJ2_checkIndex_2214a 2 none, .methodLink RJ2 48 yJ2_length_9d52b, .static yJ2_length_9d52b, .code yJ2_length_9d52b cJ2_length_9d52b 1 (some .int), .methodLink RJ2 414 yJ0_checkIndex_df160, .static yJ0_checkIndex_df160, .initialized RJ0, .code yJ0_checkIndex_df160 cJ0_checkIndex_df160 2 none, .fieldLink RJ0 1053 "jdk/internal/util/Preconditions" "SIOOBE_FORMATTER" "Ljava/util/function/BiFunction;", .methodLink RJ0 1059 yJ3_checkIndex_8e157, .static yJ3_checkIndex_8e157, .initialized RJ3, .code yJ3_checkIndex_8e157 cJ3_checkIndex_8e157 3 (some .int), .methodLink RJ2 71 yJ2_getChar_3b067, .static yJ2_getChar_3b067, .code yJ2_getChar_3b067 cJ2_getChar_3b067 2 (some .char), .fieldLink RJ2 44 "java/lang/StringUTF16" "$assertionsDisabled" "Z", .fieldLink RJ2 59 "java/lang/StringUTF16" "HI_BYTE_SHIFT" "I", .fieldLink RJ2 63 "java/lang/StringUTF16" "LO_BYTE_SHIFT" "I"])
def wsJ0_charAt_5068e_r1 : List Cond := [Cond.fieldLink RJ0 9 "java/lang/String" "value" "[B", Cond.methodLink RJ0 492 yJ0_isLatin1_aae02, Cond.instanceMethod yJ0_isLatin1_aae02, Cond.selects RJ0 yJ0_isLatin1_aae02 yJ0_isLatin1_aae02, Cond.initialized RJ0, Cond.code yJ0_isLatin1_aae02 cJ0_isLatin1_aae02 1 (some .boolean), Cond.fieldLink RJ0 38 "java/lang/String" "COMPACT_STRINGS" "Z", Cond.fieldLink RJ0 15 "java/lang/String" "coder" "B", Cond.methodLink RJ0 495 yJ1_charAt_3b067, Cond.static yJ1_charAt_3b067, Cond.initialized RJ1, Cond.code yJ1_charAt_3b067 cJ1_charAt_3b067 2 (some .char), Cond.methodLink RJ1 9 yJ0_checkIndex_df160, Cond.static yJ0_checkIndex_df160, Cond.code yJ0_checkIndex_df160 cJ0_checkIndex_df160 2 none, Cond.fieldLink RJ0 1053 "jdk/internal/util/Preconditions" "SIOOBE_FORMATTER" "Ljava/util/function/BiFunction;", Cond.methodLink RJ0 1059 yJ3_checkIndex_8e157, Cond.static yJ3_checkIndex_8e157, Cond.initialized RJ3, Cond.code yJ3_checkIndex_8e157 cJ3_checkIndex_8e157 3 (some .int), Cond.methodLink RJ0 498 yJ2_charAt_3b067, Cond.static yJ2_charAt_3b067, Cond.initialized RJ2, Cond.code yJ2_charAt_3b067 cJ2_charAt_3b067 2 (some .char)]
def wsJ0_charAt_5068e_r2 : List Cond := [Cond.methodLink RJ2 67 yJ2_checkIndex_2214a, Cond.static yJ2_checkIndex_2214a, Cond.code yJ2_checkIndex_2214a cJ2_checkIndex_2214a 2 none, Cond.methodLink RJ2 48 yJ2_length_9d52b, Cond.static yJ2_length_9d52b, Cond.code yJ2_length_9d52b cJ2_length_9d52b 1 (some .int), Cond.methodLink RJ2 414 yJ0_checkIndex_df160, Cond.methodLink RJ2 71 yJ2_getChar_3b067, Cond.static yJ2_getChar_3b067, Cond.code yJ2_getChar_3b067 cJ2_getChar_3b067 2 (some .char), Cond.fieldLink RJ2 44 "java/lang/StringUTF16" "$assertionsDisabled" "Z", Cond.fieldLink RJ2 59 "java/lang/StringUTF16" "HI_BYTE_SHIFT" "I", Cond.fieldLink RJ2 63 "java/lang/StringUTF16" "LO_BYTE_SHIFT" "I"]
def wsJ0_charAt_5068e : List Cond := .code yJ0_charAt_5068e cJ0_charAt_5068e 2 (some .char) :: ((wsJ0_charAt_5068e_r1 ++ wsJ0_charAt_5068e_r2))
def wsX4_nameOf_r1 : List Cond := [Cond.fieldLink RX4 41 "FigureTill$Law" "names" "Ljava/lang/String;", Cond.methodLink RX4 97 yJ0_length_8abf5, Cond.instanceMethod yJ0_length_8abf5, Cond.selects RJ0 yJ0_length_8abf5 yJ0_length_8abf5, Cond.initialized RJ0, Cond.code yJ0_length_8abf5 cJ0_length_8abf5 1 (some .int), Cond.fieldLink RJ0 9 "java/lang/String" "value" "[B", Cond.methodLink RJ0 335 yJ0_coder_7d493, Cond.instanceMethod yJ0_coder_7d493, Cond.selects RJ0 yJ0_coder_7d493 yJ0_coder_7d493, Cond.code yJ0_coder_7d493 cJ0_coder_7d493 1 (some .byte), Cond.fieldLink RJ0 38 "java/lang/String" "COMPACT_STRINGS" "Z", Cond.fieldLink RJ0 15 "java/lang/String" "coder" "B", Cond.methodLink RX4 101 yJ0_charAt_5068e, Cond.instanceMethod yJ0_charAt_5068e, Cond.selects RJ0 yJ0_charAt_5068e yJ0_charAt_5068e, Cond.code yJ0_charAt_5068e cJ0_charAt_5068e 2 (some .char), Cond.methodLink RJ0 492 yJ0_isLatin1_aae02, Cond.instanceMethod yJ0_isLatin1_aae02, Cond.selects RJ0 yJ0_isLatin1_aae02 yJ0_isLatin1_aae02, Cond.code yJ0_isLatin1_aae02 cJ0_isLatin1_aae02 1 (some .boolean), Cond.methodLink RJ0 495 yJ1_charAt_3b067, Cond.static yJ1_charAt_3b067, Cond.initialized RJ1]
def wsX4_nameOf_r2 : List Cond := [Cond.code yJ1_charAt_3b067 cJ1_charAt_3b067 2 (some .char), Cond.methodLink RJ1 9 yJ0_checkIndex_df160, Cond.static yJ0_checkIndex_df160, Cond.code yJ0_checkIndex_df160 cJ0_checkIndex_df160 2 none, Cond.fieldLink RJ0 1053 "jdk/internal/util/Preconditions" "SIOOBE_FORMATTER" "Ljava/util/function/BiFunction;", Cond.methodLink RJ0 1059 yJ3_checkIndex_8e157, Cond.static yJ3_checkIndex_8e157, Cond.initialized RJ3, Cond.code yJ3_checkIndex_8e157 cJ3_checkIndex_8e157 3 (some .int), Cond.methodLink RJ0 498 yJ2_charAt_3b067, Cond.static yJ2_charAt_3b067, Cond.initialized RJ2, Cond.code yJ2_charAt_3b067 cJ2_charAt_3b067 2 (some .char), Cond.methodLink RJ2 67 yJ2_checkIndex_2214a, Cond.static yJ2_checkIndex_2214a, Cond.code yJ2_checkIndex_2214a cJ2_checkIndex_2214a 2 none, Cond.methodLink RJ2 48 yJ2_length_9d52b, Cond.static yJ2_length_9d52b, Cond.code yJ2_length_9d52b cJ2_length_9d52b 1 (some .int), Cond.methodLink RJ2 414 yJ0_checkIndex_df160, Cond.methodLink RJ2 71 yJ2_getChar_3b067, Cond.static yJ2_getChar_3b067, Cond.code yJ2_getChar_3b067 cJ2_getChar_3b067 2 (some .char), Cond.fieldLink RJ2 44 "java/lang/StringUTF16" "$assertionsDisabled" "Z"]
def wsX4_nameOf_r3 : List Cond := [Cond.fieldLink RJ2 59 "java/lang/StringUTF16" "HI_BYTE_SHIFT" "I", Cond.fieldLink RJ2 63 "java/lang/StringUTF16" "LO_BYTE_SHIFT" "I"]
def wsX4_nameOf : List Cond := .code yX4_nameOf cX4_nameOf 3 (some .int) :: ((wsX4_nameOf_r1 ++ (wsX4_nameOf_r2 ++ wsX4_nameOf_r3)) ++ wsX40)
def wsX4_readClose : List Cond := .code yX4_readClose cX4_readClose 1 none :: ([.fieldLink RX4 34 "FigureTill$Law" "place" "I", .fieldLink RX4 37 "FigureTill$Law" "failed" "Z", .methodLink RX4 64 yX4_next, .instanceMethod yX4_next, .selects RX4 yX4_next yX4_next, .initialized RX4, .code yX4_next cX4_next 1 (some .int), .fieldLink RX4 31 "FigureTill$Law" "end" "I", .fieldLink RX4 22 "FigureTill$Law" "bytes" "[I"] ++ wsX40)
def wsX4_readAdded_r1 : List Cond := [Cond.fieldLink RX4 34 "FigureTill$Law" "place" "I", Cond.methodLink RX4 77 yX4_readTimes, Cond.instanceMethod yX4_readTimes, Cond.selects RX4 yX4_readTimes yX4_readTimes, Cond.initialized RX4, Cond.methodLink RX4 64 yX4_next, Cond.instanceMethod yX4_next, Cond.selects RX4 yX4_next yX4_next, Cond.code yX4_next cX4_next 1 (some .int), Cond.fieldLink RX4 37 "FigureTill$Law" "failed" "Z", Cond.fieldLink RX4 31 "FigureTill$Law" "end" "I", Cond.fieldLink RX4 22 "FigureTill$Law" "bytes" "[I", Cond.methodLink RX4 68 yX4_write, Cond.instanceMethod yX4_write, Cond.selects RX4 yX4_write yX4_write, Cond.code yX4_write cX4_write 2 none, Cond.fieldLink RX4 28 "FigureTill$Law" "drafted" "I", Cond.fieldLink RX4 25 "FigureTill$Law" "draft" "[I", Cond.code yX4_readBoth cX4_readBoth 3 none, Cond.methodLink RX4 71 yX4_readCompared, Cond.instanceMethod yX4_readCompared, Cond.selects RX4 yX4_readCompared yX4_readCompared, Cond.code yX4_readCompared cX4_readCompared 3 none, Cond.methodLink RX4 74 yX4_readAdded]
def wsX4_readAdded_r2 : List Cond := [Cond.instanceMethod yX4_readAdded, Cond.selects RX4 yX4_readAdded yX4_readAdded, Cond.code yX4_readEither cX4_readEither 3 none, Cond.methodLink RX4 61 yX4_readBoth, Cond.instanceMethod yX4_readBoth, Cond.selects RX4 yX4_readBoth yX4_readBoth, Cond.code yX4_readOne cX4_readOne 3 none, Cond.methodLink RX4 83 yX4_isDigit, Cond.static yX4_isDigit, Cond.code yX4_isDigit cX4_isDigit 1 (some .boolean), Cond.methodLink RX4 87 yX4_readNumber, Cond.instanceMethod yX4_readNumber, Cond.selects RX4 yX4_readNumber yX4_readNumber, Cond.code yX4_readNumber cX4_readNumber 3 none, Cond.methodLink RX4 90 yX4_nameOf, Cond.instanceMethod yX4_nameOf, Cond.selects RX4 yX4_nameOf yX4_nameOf, Cond.code yX4_nameOf cX4_nameOf 3 (some .int), Cond.fieldLink RX4 41 "FigureTill$Law" "names" "Ljava/lang/String;", Cond.methodLink RX4 97 yJ0_length_8abf5, Cond.instanceMethod yJ0_length_8abf5, Cond.selects RJ0 yJ0_length_8abf5 yJ0_length_8abf5, Cond.initialized RJ0, Cond.code yJ0_length_8abf5 cJ0_length_8abf5 1 (some .int)]
def wsX4_readAdded_r3 : List Cond := [Cond.fieldLink RJ0 9 "java/lang/String" "value" "[B", Cond.methodLink RJ0 335 yJ0_coder_7d493, Cond.instanceMethod yJ0_coder_7d493, Cond.selects RJ0 yJ0_coder_7d493 yJ0_coder_7d493, Cond.code yJ0_coder_7d493 cJ0_coder_7d493 1 (some .byte), Cond.fieldLink RJ0 38 "java/lang/String" "COMPACT_STRINGS" "Z", Cond.fieldLink RJ0 15 "java/lang/String" "coder" "B", Cond.methodLink RX4 101 yJ0_charAt_5068e, Cond.instanceMethod yJ0_charAt_5068e, Cond.selects RJ0 yJ0_charAt_5068e yJ0_charAt_5068e, Cond.code yJ0_charAt_5068e cJ0_charAt_5068e 2 (some .char), Cond.methodLink RJ0 492 yJ0_isLatin1_aae02, Cond.instanceMethod yJ0_isLatin1_aae02, Cond.selects RJ0 yJ0_isLatin1_aae02 yJ0_isLatin1_aae02, Cond.code yJ0_isLatin1_aae02 cJ0_isLatin1_aae02 1 (some .boolean), Cond.methodLink RJ0 495 yJ1_charAt_3b067, Cond.static yJ1_charAt_3b067, Cond.initialized RJ1, Cond.code yJ1_charAt_3b067 cJ1_charAt_3b067 2 (some .char), Cond.methodLink RJ1 9 yJ0_checkIndex_df160, Cond.static yJ0_checkIndex_df160, Cond.code yJ0_checkIndex_df160 cJ0_checkIndex_df160 2 none, Cond.fieldLink RJ0 1053 "jdk/internal/util/Preconditions" "SIOOBE_FORMATTER" "Ljava/util/function/BiFunction;", Cond.methodLink RJ0 1059 yJ3_checkIndex_8e157]
def wsX4_readAdded_r4 : List Cond := [Cond.static yJ3_checkIndex_8e157, Cond.initialized RJ3, Cond.code yJ3_checkIndex_8e157 cJ3_checkIndex_8e157 3 (some .int), Cond.methodLink RJ0 498 yJ2_charAt_3b067, Cond.static yJ2_charAt_3b067, Cond.initialized RJ2, Cond.code yJ2_charAt_3b067 cJ2_charAt_3b067 2 (some .char), Cond.methodLink RJ2 67 yJ2_checkIndex_2214a, Cond.static yJ2_checkIndex_2214a, Cond.code yJ2_checkIndex_2214a cJ2_checkIndex_2214a 2 none, Cond.methodLink RJ2 48 yJ2_length_9d52b, Cond.static yJ2_length_9d52b, Cond.code yJ2_length_9d52b cJ2_length_9d52b 1 (some .int), Cond.methodLink RJ2 414 yJ0_checkIndex_df160, Cond.methodLink RJ2 71 yJ2_getChar_3b067, Cond.static yJ2_getChar_3b067, Cond.code yJ2_getChar_3b067 cJ2_getChar_3b067 2 (some .char), Cond.fieldLink RJ2 44 "java/lang/StringUTF16" "$assertionsDisabled" "Z", Cond.fieldLink RJ2 59 "java/lang/StringUTF16" "HI_BYTE_SHIFT" "I", Cond.fieldLink RJ2 63 "java/lang/StringUTF16" "LO_BYTE_SHIFT" "I", Cond.methodLink RX4 80 yX4_readOne, Cond.instanceMethod yX4_readOne, Cond.selects RX4 yX4_readOne yX4_readOne, Cond.methodLink RX4 57 yX4_readEither]
def wsX4_readAdded_r5 : List Cond := [Cond.instanceMethod yX4_readEither, Cond.selects RX4 yX4_readEither yX4_readEither, Cond.methodLink RX4 94 yX4_readClose, Cond.instanceMethod yX4_readClose, Cond.selects RX4 yX4_readClose yX4_readClose, Cond.code yX4_readClose cX4_readClose 1 none, Cond.code yX4_readTimes cX4_readTimes 4 none]
def wsX4_readAdded : List Cond := .code yX4_readAdded cX4_readAdded 4 none :: ((wsX4_readAdded_r1 ++ (wsX4_readAdded_r2 ++ (wsX4_readAdded_r3 ++ (wsX4_readAdded_r4 ++ wsX4_readAdded_r5)))) ++ wsX40)
def wsX4_readBoth_r1 : List Cond := [Cond.fieldLink RX4 34 "FigureTill$Law" "place" "I", Cond.methodLink RX4 71 yX4_readCompared, Cond.instanceMethod yX4_readCompared, Cond.selects RX4 yX4_readCompared yX4_readCompared, Cond.initialized RX4, Cond.methodLink RX4 64 yX4_next, Cond.instanceMethod yX4_next, Cond.selects RX4 yX4_next yX4_next, Cond.code yX4_next cX4_next 1 (some .int), Cond.fieldLink RX4 37 "FigureTill$Law" "failed" "Z", Cond.fieldLink RX4 31 "FigureTill$Law" "end" "I", Cond.fieldLink RX4 22 "FigureTill$Law" "bytes" "[I", Cond.methodLink RX4 68 yX4_write, Cond.instanceMethod yX4_write, Cond.selects RX4 yX4_write yX4_write, Cond.code yX4_write cX4_write 2 none, Cond.fieldLink RX4 28 "FigureTill$Law" "drafted" "I", Cond.fieldLink RX4 25 "FigureTill$Law" "draft" "[I", Cond.code yX4_readAdded cX4_readAdded 4 none, Cond.methodLink RX4 77 yX4_readTimes, Cond.instanceMethod yX4_readTimes, Cond.selects RX4 yX4_readTimes yX4_readTimes, Cond.code yX4_readCompared cX4_readCompared 3 none, Cond.methodLink RX4 74 yX4_readAdded]
def wsX4_readBoth_r2 : List Cond := [Cond.instanceMethod yX4_readAdded, Cond.selects RX4 yX4_readAdded yX4_readAdded, Cond.code yX4_readEither cX4_readEither 3 none, Cond.methodLink RX4 61 yX4_readBoth, Cond.instanceMethod yX4_readBoth, Cond.selects RX4 yX4_readBoth yX4_readBoth, Cond.code yX4_readOne cX4_readOne 3 none, Cond.methodLink RX4 83 yX4_isDigit, Cond.static yX4_isDigit, Cond.code yX4_isDigit cX4_isDigit 1 (some .boolean), Cond.methodLink RX4 87 yX4_readNumber, Cond.instanceMethod yX4_readNumber, Cond.selects RX4 yX4_readNumber yX4_readNumber, Cond.code yX4_readNumber cX4_readNumber 3 none, Cond.methodLink RX4 90 yX4_nameOf, Cond.instanceMethod yX4_nameOf, Cond.selects RX4 yX4_nameOf yX4_nameOf, Cond.code yX4_nameOf cX4_nameOf 3 (some .int), Cond.fieldLink RX4 41 "FigureTill$Law" "names" "Ljava/lang/String;", Cond.methodLink RX4 97 yJ0_length_8abf5, Cond.instanceMethod yJ0_length_8abf5, Cond.selects RJ0 yJ0_length_8abf5 yJ0_length_8abf5, Cond.initialized RJ0, Cond.code yJ0_length_8abf5 cJ0_length_8abf5 1 (some .int)]
def wsX4_readBoth_r3 : List Cond := [Cond.fieldLink RJ0 9 "java/lang/String" "value" "[B", Cond.methodLink RJ0 335 yJ0_coder_7d493, Cond.instanceMethod yJ0_coder_7d493, Cond.selects RJ0 yJ0_coder_7d493 yJ0_coder_7d493, Cond.code yJ0_coder_7d493 cJ0_coder_7d493 1 (some .byte), Cond.fieldLink RJ0 38 "java/lang/String" "COMPACT_STRINGS" "Z", Cond.fieldLink RJ0 15 "java/lang/String" "coder" "B", Cond.methodLink RX4 101 yJ0_charAt_5068e, Cond.instanceMethod yJ0_charAt_5068e, Cond.selects RJ0 yJ0_charAt_5068e yJ0_charAt_5068e, Cond.code yJ0_charAt_5068e cJ0_charAt_5068e 2 (some .char), Cond.methodLink RJ0 492 yJ0_isLatin1_aae02, Cond.instanceMethod yJ0_isLatin1_aae02, Cond.selects RJ0 yJ0_isLatin1_aae02 yJ0_isLatin1_aae02, Cond.code yJ0_isLatin1_aae02 cJ0_isLatin1_aae02 1 (some .boolean), Cond.methodLink RJ0 495 yJ1_charAt_3b067, Cond.static yJ1_charAt_3b067, Cond.initialized RJ1, Cond.code yJ1_charAt_3b067 cJ1_charAt_3b067 2 (some .char), Cond.methodLink RJ1 9 yJ0_checkIndex_df160, Cond.static yJ0_checkIndex_df160, Cond.code yJ0_checkIndex_df160 cJ0_checkIndex_df160 2 none, Cond.fieldLink RJ0 1053 "jdk/internal/util/Preconditions" "SIOOBE_FORMATTER" "Ljava/util/function/BiFunction;", Cond.methodLink RJ0 1059 yJ3_checkIndex_8e157]
def wsX4_readBoth_r4 : List Cond := [Cond.static yJ3_checkIndex_8e157, Cond.initialized RJ3, Cond.code yJ3_checkIndex_8e157 cJ3_checkIndex_8e157 3 (some .int), Cond.methodLink RJ0 498 yJ2_charAt_3b067, Cond.static yJ2_charAt_3b067, Cond.initialized RJ2, Cond.code yJ2_charAt_3b067 cJ2_charAt_3b067 2 (some .char), Cond.methodLink RJ2 67 yJ2_checkIndex_2214a, Cond.static yJ2_checkIndex_2214a, Cond.code yJ2_checkIndex_2214a cJ2_checkIndex_2214a 2 none, Cond.methodLink RJ2 48 yJ2_length_9d52b, Cond.static yJ2_length_9d52b, Cond.code yJ2_length_9d52b cJ2_length_9d52b 1 (some .int), Cond.methodLink RJ2 414 yJ0_checkIndex_df160, Cond.methodLink RJ2 71 yJ2_getChar_3b067, Cond.static yJ2_getChar_3b067, Cond.code yJ2_getChar_3b067 cJ2_getChar_3b067 2 (some .char), Cond.fieldLink RJ2 44 "java/lang/StringUTF16" "$assertionsDisabled" "Z", Cond.fieldLink RJ2 59 "java/lang/StringUTF16" "HI_BYTE_SHIFT" "I", Cond.fieldLink RJ2 63 "java/lang/StringUTF16" "LO_BYTE_SHIFT" "I", Cond.methodLink RX4 80 yX4_readOne, Cond.instanceMethod yX4_readOne, Cond.selects RX4 yX4_readOne yX4_readOne, Cond.methodLink RX4 57 yX4_readEither]
def wsX4_readBoth_r5 : List Cond := [Cond.instanceMethod yX4_readEither, Cond.selects RX4 yX4_readEither yX4_readEither, Cond.methodLink RX4 94 yX4_readClose, Cond.instanceMethod yX4_readClose, Cond.selects RX4 yX4_readClose yX4_readClose, Cond.code yX4_readClose cX4_readClose 1 none, Cond.code yX4_readTimes cX4_readTimes 4 none]
def wsX4_readBoth : List Cond := .code yX4_readBoth cX4_readBoth 3 none :: ((wsX4_readBoth_r1 ++ (wsX4_readBoth_r2 ++ (wsX4_readBoth_r3 ++ (wsX4_readBoth_r4 ++ wsX4_readBoth_r5)))) ++ wsX40)
def wsX4_readCompared_r1 : List Cond := [Cond.fieldLink RX4 34 "FigureTill$Law" "place" "I", Cond.methodLink RX4 74 yX4_readAdded, Cond.instanceMethod yX4_readAdded, Cond.selects RX4 yX4_readAdded yX4_readAdded, Cond.initialized RX4, Cond.methodLink RX4 64 yX4_next, Cond.instanceMethod yX4_next, Cond.selects RX4 yX4_next yX4_next, Cond.code yX4_next cX4_next 1 (some .int), Cond.fieldLink RX4 37 "FigureTill$Law" "failed" "Z", Cond.fieldLink RX4 31 "FigureTill$Law" "end" "I", Cond.fieldLink RX4 22 "FigureTill$Law" "bytes" "[I", Cond.methodLink RX4 68 yX4_write, Cond.instanceMethod yX4_write, Cond.selects RX4 yX4_write yX4_write, Cond.code yX4_write cX4_write 2 none, Cond.fieldLink RX4 28 "FigureTill$Law" "drafted" "I", Cond.fieldLink RX4 25 "FigureTill$Law" "draft" "[I", Cond.code yX4_readAdded cX4_readAdded 4 none, Cond.methodLink RX4 77 yX4_readTimes, Cond.instanceMethod yX4_readTimes, Cond.selects RX4 yX4_readTimes yX4_readTimes, Cond.code yX4_readBoth cX4_readBoth 3 none, Cond.methodLink RX4 71 yX4_readCompared]
def wsX4_readCompared_r2 : List Cond := [Cond.instanceMethod yX4_readCompared, Cond.selects RX4 yX4_readCompared yX4_readCompared, Cond.code yX4_readEither cX4_readEither 3 none, Cond.methodLink RX4 61 yX4_readBoth, Cond.instanceMethod yX4_readBoth, Cond.selects RX4 yX4_readBoth yX4_readBoth, Cond.code yX4_readOne cX4_readOne 3 none, Cond.methodLink RX4 83 yX4_isDigit, Cond.static yX4_isDigit, Cond.code yX4_isDigit cX4_isDigit 1 (some .boolean), Cond.methodLink RX4 87 yX4_readNumber, Cond.instanceMethod yX4_readNumber, Cond.selects RX4 yX4_readNumber yX4_readNumber, Cond.code yX4_readNumber cX4_readNumber 3 none, Cond.methodLink RX4 90 yX4_nameOf, Cond.instanceMethod yX4_nameOf, Cond.selects RX4 yX4_nameOf yX4_nameOf, Cond.code yX4_nameOf cX4_nameOf 3 (some .int), Cond.fieldLink RX4 41 "FigureTill$Law" "names" "Ljava/lang/String;", Cond.methodLink RX4 97 yJ0_length_8abf5, Cond.instanceMethod yJ0_length_8abf5, Cond.selects RJ0 yJ0_length_8abf5 yJ0_length_8abf5, Cond.initialized RJ0, Cond.code yJ0_length_8abf5 cJ0_length_8abf5 1 (some .int)]
def wsX4_readCompared_r3 : List Cond := [Cond.fieldLink RJ0 9 "java/lang/String" "value" "[B", Cond.methodLink RJ0 335 yJ0_coder_7d493, Cond.instanceMethod yJ0_coder_7d493, Cond.selects RJ0 yJ0_coder_7d493 yJ0_coder_7d493, Cond.code yJ0_coder_7d493 cJ0_coder_7d493 1 (some .byte), Cond.fieldLink RJ0 38 "java/lang/String" "COMPACT_STRINGS" "Z", Cond.fieldLink RJ0 15 "java/lang/String" "coder" "B", Cond.methodLink RX4 101 yJ0_charAt_5068e, Cond.instanceMethod yJ0_charAt_5068e, Cond.selects RJ0 yJ0_charAt_5068e yJ0_charAt_5068e, Cond.code yJ0_charAt_5068e cJ0_charAt_5068e 2 (some .char), Cond.methodLink RJ0 492 yJ0_isLatin1_aae02, Cond.instanceMethod yJ0_isLatin1_aae02, Cond.selects RJ0 yJ0_isLatin1_aae02 yJ0_isLatin1_aae02, Cond.code yJ0_isLatin1_aae02 cJ0_isLatin1_aae02 1 (some .boolean), Cond.methodLink RJ0 495 yJ1_charAt_3b067, Cond.static yJ1_charAt_3b067, Cond.initialized RJ1, Cond.code yJ1_charAt_3b067 cJ1_charAt_3b067 2 (some .char), Cond.methodLink RJ1 9 yJ0_checkIndex_df160, Cond.static yJ0_checkIndex_df160, Cond.code yJ0_checkIndex_df160 cJ0_checkIndex_df160 2 none, Cond.fieldLink RJ0 1053 "jdk/internal/util/Preconditions" "SIOOBE_FORMATTER" "Ljava/util/function/BiFunction;", Cond.methodLink RJ0 1059 yJ3_checkIndex_8e157]
def wsX4_readCompared_r4 : List Cond := [Cond.static yJ3_checkIndex_8e157, Cond.initialized RJ3, Cond.code yJ3_checkIndex_8e157 cJ3_checkIndex_8e157 3 (some .int), Cond.methodLink RJ0 498 yJ2_charAt_3b067, Cond.static yJ2_charAt_3b067, Cond.initialized RJ2, Cond.code yJ2_charAt_3b067 cJ2_charAt_3b067 2 (some .char), Cond.methodLink RJ2 67 yJ2_checkIndex_2214a, Cond.static yJ2_checkIndex_2214a, Cond.code yJ2_checkIndex_2214a cJ2_checkIndex_2214a 2 none, Cond.methodLink RJ2 48 yJ2_length_9d52b, Cond.static yJ2_length_9d52b, Cond.code yJ2_length_9d52b cJ2_length_9d52b 1 (some .int), Cond.methodLink RJ2 414 yJ0_checkIndex_df160, Cond.methodLink RJ2 71 yJ2_getChar_3b067, Cond.static yJ2_getChar_3b067, Cond.code yJ2_getChar_3b067 cJ2_getChar_3b067 2 (some .char), Cond.fieldLink RJ2 44 "java/lang/StringUTF16" "$assertionsDisabled" "Z", Cond.fieldLink RJ2 59 "java/lang/StringUTF16" "HI_BYTE_SHIFT" "I", Cond.fieldLink RJ2 63 "java/lang/StringUTF16" "LO_BYTE_SHIFT" "I", Cond.methodLink RX4 80 yX4_readOne, Cond.instanceMethod yX4_readOne, Cond.selects RX4 yX4_readOne yX4_readOne, Cond.methodLink RX4 57 yX4_readEither]
def wsX4_readCompared_r5 : List Cond := [Cond.instanceMethod yX4_readEither, Cond.selects RX4 yX4_readEither yX4_readEither, Cond.methodLink RX4 94 yX4_readClose, Cond.instanceMethod yX4_readClose, Cond.selects RX4 yX4_readClose yX4_readClose, Cond.code yX4_readClose cX4_readClose 1 none, Cond.code yX4_readTimes cX4_readTimes 4 none]
def wsX4_readCompared : List Cond := .code yX4_readCompared cX4_readCompared 3 none :: ((wsX4_readCompared_r1 ++ (wsX4_readCompared_r2 ++ (wsX4_readCompared_r3 ++ (wsX4_readCompared_r4 ++ wsX4_readCompared_r5)))) ++ wsX40)
def wsX4_readEither_r1 : List Cond := [Cond.fieldLink RX4 34 "FigureTill$Law" "place" "I", Cond.methodLink RX4 61 yX4_readBoth, Cond.instanceMethod yX4_readBoth, Cond.selects RX4 yX4_readBoth yX4_readBoth, Cond.initialized RX4, Cond.methodLink RX4 64 yX4_next, Cond.instanceMethod yX4_next, Cond.selects RX4 yX4_next yX4_next, Cond.code yX4_next cX4_next 1 (some .int), Cond.fieldLink RX4 37 "FigureTill$Law" "failed" "Z", Cond.fieldLink RX4 31 "FigureTill$Law" "end" "I", Cond.fieldLink RX4 22 "FigureTill$Law" "bytes" "[I", Cond.methodLink RX4 68 yX4_write, Cond.instanceMethod yX4_write, Cond.selects RX4 yX4_write yX4_write, Cond.code yX4_write cX4_write 2 none, Cond.fieldLink RX4 28 "FigureTill$Law" "drafted" "I", Cond.fieldLink RX4 25 "FigureTill$Law" "draft" "[I", Cond.code yX4_readAdded cX4_readAdded 4 none, Cond.methodLink RX4 77 yX4_readTimes, Cond.instanceMethod yX4_readTimes, Cond.selects RX4 yX4_readTimes yX4_readTimes, Cond.code yX4_readBoth cX4_readBoth 3 none, Cond.methodLink RX4 71 yX4_readCompared]
def wsX4_readEither_r2 : List Cond := [Cond.instanceMethod yX4_readCompared, Cond.selects RX4 yX4_readCompared yX4_readCompared, Cond.code yX4_readCompared cX4_readCompared 3 none, Cond.methodLink RX4 74 yX4_readAdded, Cond.instanceMethod yX4_readAdded, Cond.selects RX4 yX4_readAdded yX4_readAdded, Cond.code yX4_readOne cX4_readOne 3 none, Cond.methodLink RX4 83 yX4_isDigit, Cond.static yX4_isDigit, Cond.code yX4_isDigit cX4_isDigit 1 (some .boolean), Cond.methodLink RX4 87 yX4_readNumber, Cond.instanceMethod yX4_readNumber, Cond.selects RX4 yX4_readNumber yX4_readNumber, Cond.code yX4_readNumber cX4_readNumber 3 none, Cond.methodLink RX4 90 yX4_nameOf, Cond.instanceMethod yX4_nameOf, Cond.selects RX4 yX4_nameOf yX4_nameOf, Cond.code yX4_nameOf cX4_nameOf 3 (some .int), Cond.fieldLink RX4 41 "FigureTill$Law" "names" "Ljava/lang/String;", Cond.methodLink RX4 97 yJ0_length_8abf5, Cond.instanceMethod yJ0_length_8abf5, Cond.selects RJ0 yJ0_length_8abf5 yJ0_length_8abf5, Cond.initialized RJ0, Cond.code yJ0_length_8abf5 cJ0_length_8abf5 1 (some .int)]
def wsX4_readEither_r3 : List Cond := [Cond.fieldLink RJ0 9 "java/lang/String" "value" "[B", Cond.methodLink RJ0 335 yJ0_coder_7d493, Cond.instanceMethod yJ0_coder_7d493, Cond.selects RJ0 yJ0_coder_7d493 yJ0_coder_7d493, Cond.code yJ0_coder_7d493 cJ0_coder_7d493 1 (some .byte), Cond.fieldLink RJ0 38 "java/lang/String" "COMPACT_STRINGS" "Z", Cond.fieldLink RJ0 15 "java/lang/String" "coder" "B", Cond.methodLink RX4 101 yJ0_charAt_5068e, Cond.instanceMethod yJ0_charAt_5068e, Cond.selects RJ0 yJ0_charAt_5068e yJ0_charAt_5068e, Cond.code yJ0_charAt_5068e cJ0_charAt_5068e 2 (some .char), Cond.methodLink RJ0 492 yJ0_isLatin1_aae02, Cond.instanceMethod yJ0_isLatin1_aae02, Cond.selects RJ0 yJ0_isLatin1_aae02 yJ0_isLatin1_aae02, Cond.code yJ0_isLatin1_aae02 cJ0_isLatin1_aae02 1 (some .boolean), Cond.methodLink RJ0 495 yJ1_charAt_3b067, Cond.static yJ1_charAt_3b067, Cond.initialized RJ1, Cond.code yJ1_charAt_3b067 cJ1_charAt_3b067 2 (some .char), Cond.methodLink RJ1 9 yJ0_checkIndex_df160, Cond.static yJ0_checkIndex_df160, Cond.code yJ0_checkIndex_df160 cJ0_checkIndex_df160 2 none, Cond.fieldLink RJ0 1053 "jdk/internal/util/Preconditions" "SIOOBE_FORMATTER" "Ljava/util/function/BiFunction;", Cond.methodLink RJ0 1059 yJ3_checkIndex_8e157]
def wsX4_readEither_r4 : List Cond := [Cond.static yJ3_checkIndex_8e157, Cond.initialized RJ3, Cond.code yJ3_checkIndex_8e157 cJ3_checkIndex_8e157 3 (some .int), Cond.methodLink RJ0 498 yJ2_charAt_3b067, Cond.static yJ2_charAt_3b067, Cond.initialized RJ2, Cond.code yJ2_charAt_3b067 cJ2_charAt_3b067 2 (some .char), Cond.methodLink RJ2 67 yJ2_checkIndex_2214a, Cond.static yJ2_checkIndex_2214a, Cond.code yJ2_checkIndex_2214a cJ2_checkIndex_2214a 2 none, Cond.methodLink RJ2 48 yJ2_length_9d52b, Cond.static yJ2_length_9d52b, Cond.code yJ2_length_9d52b cJ2_length_9d52b 1 (some .int), Cond.methodLink RJ2 414 yJ0_checkIndex_df160, Cond.methodLink RJ2 71 yJ2_getChar_3b067, Cond.static yJ2_getChar_3b067, Cond.code yJ2_getChar_3b067 cJ2_getChar_3b067 2 (some .char), Cond.fieldLink RJ2 44 "java/lang/StringUTF16" "$assertionsDisabled" "Z", Cond.fieldLink RJ2 59 "java/lang/StringUTF16" "HI_BYTE_SHIFT" "I", Cond.fieldLink RJ2 63 "java/lang/StringUTF16" "LO_BYTE_SHIFT" "I", Cond.methodLink RX4 80 yX4_readOne, Cond.instanceMethod yX4_readOne, Cond.selects RX4 yX4_readOne yX4_readOne, Cond.methodLink RX4 57 yX4_readEither]
def wsX4_readEither_r5 : List Cond := [Cond.instanceMethod yX4_readEither, Cond.selects RX4 yX4_readEither yX4_readEither, Cond.methodLink RX4 94 yX4_readClose, Cond.instanceMethod yX4_readClose, Cond.selects RX4 yX4_readClose yX4_readClose, Cond.code yX4_readClose cX4_readClose 1 none, Cond.code yX4_readTimes cX4_readTimes 4 none]
def wsX4_readEither : List Cond := .code yX4_readEither cX4_readEither 3 none :: ((wsX4_readEither_r1 ++ (wsX4_readEither_r2 ++ (wsX4_readEither_r3 ++ (wsX4_readEither_r4 ++ wsX4_readEither_r5)))) ++ wsX40)
def wsX4_readOne_r1 : List Cond := [Cond.fieldLink RX4 34 "FigureTill$Law" "place" "I", Cond.fieldLink RX4 37 "FigureTill$Law" "failed" "Z", Cond.methodLink RX4 64 yX4_next, Cond.instanceMethod yX4_next, Cond.selects RX4 yX4_next yX4_next, Cond.initialized RX4, Cond.code yX4_next cX4_next 1 (some .int), Cond.fieldLink RX4 31 "FigureTill$Law" "end" "I", Cond.fieldLink RX4 22 "FigureTill$Law" "bytes" "[I", Cond.methodLink RX4 83 yX4_isDigit, Cond.static yX4_isDigit, Cond.code yX4_isDigit cX4_isDigit 1 (some .boolean), Cond.methodLink RX4 87 yX4_readNumber, Cond.instanceMethod yX4_readNumber, Cond.selects RX4 yX4_readNumber yX4_readNumber, Cond.code yX4_readNumber cX4_readNumber 3 none, Cond.methodLink RX4 68 yX4_write, Cond.instanceMethod yX4_write, Cond.selects RX4 yX4_write yX4_write, Cond.code yX4_write cX4_write 2 none, Cond.fieldLink RX4 28 "FigureTill$Law" "drafted" "I", Cond.fieldLink RX4 25 "FigureTill$Law" "draft" "[I", Cond.methodLink RX4 90 yX4_nameOf, Cond.instanceMethod yX4_nameOf]
def wsX4_readOne_r2 : List Cond := [Cond.selects RX4 yX4_nameOf yX4_nameOf, Cond.code yX4_nameOf cX4_nameOf 3 (some .int), Cond.fieldLink RX4 41 "FigureTill$Law" "names" "Ljava/lang/String;", Cond.methodLink RX4 97 yJ0_length_8abf5, Cond.instanceMethod yJ0_length_8abf5, Cond.selects RJ0 yJ0_length_8abf5 yJ0_length_8abf5, Cond.initialized RJ0, Cond.code yJ0_length_8abf5 cJ0_length_8abf5 1 (some .int), Cond.fieldLink RJ0 9 "java/lang/String" "value" "[B", Cond.methodLink RJ0 335 yJ0_coder_7d493, Cond.instanceMethod yJ0_coder_7d493, Cond.selects RJ0 yJ0_coder_7d493 yJ0_coder_7d493, Cond.code yJ0_coder_7d493 cJ0_coder_7d493 1 (some .byte), Cond.fieldLink RJ0 38 "java/lang/String" "COMPACT_STRINGS" "Z", Cond.fieldLink RJ0 15 "java/lang/String" "coder" "B", Cond.methodLink RX4 101 yJ0_charAt_5068e, Cond.instanceMethod yJ0_charAt_5068e, Cond.selects RJ0 yJ0_charAt_5068e yJ0_charAt_5068e, Cond.code yJ0_charAt_5068e cJ0_charAt_5068e 2 (some .char), Cond.methodLink RJ0 492 yJ0_isLatin1_aae02, Cond.instanceMethod yJ0_isLatin1_aae02, Cond.selects RJ0 yJ0_isLatin1_aae02 yJ0_isLatin1_aae02, Cond.code yJ0_isLatin1_aae02 cJ0_isLatin1_aae02 1 (some .boolean), Cond.methodLink RJ0 495 yJ1_charAt_3b067]
def wsX4_readOne_r3 : List Cond := [Cond.static yJ1_charAt_3b067, Cond.initialized RJ1, Cond.code yJ1_charAt_3b067 cJ1_charAt_3b067 2 (some .char), Cond.methodLink RJ1 9 yJ0_checkIndex_df160, Cond.static yJ0_checkIndex_df160, Cond.code yJ0_checkIndex_df160 cJ0_checkIndex_df160 2 none, Cond.fieldLink RJ0 1053 "jdk/internal/util/Preconditions" "SIOOBE_FORMATTER" "Ljava/util/function/BiFunction;", Cond.methodLink RJ0 1059 yJ3_checkIndex_8e157, Cond.static yJ3_checkIndex_8e157, Cond.initialized RJ3, Cond.code yJ3_checkIndex_8e157 cJ3_checkIndex_8e157 3 (some .int), Cond.methodLink RJ0 498 yJ2_charAt_3b067, Cond.static yJ2_charAt_3b067, Cond.initialized RJ2, Cond.code yJ2_charAt_3b067 cJ2_charAt_3b067 2 (some .char), Cond.methodLink RJ2 67 yJ2_checkIndex_2214a, Cond.static yJ2_checkIndex_2214a, Cond.code yJ2_checkIndex_2214a cJ2_checkIndex_2214a 2 none, Cond.methodLink RJ2 48 yJ2_length_9d52b, Cond.static yJ2_length_9d52b, Cond.code yJ2_length_9d52b cJ2_length_9d52b 1 (some .int), Cond.methodLink RJ2 414 yJ0_checkIndex_df160, Cond.methodLink RJ2 71 yJ2_getChar_3b067, Cond.static yJ2_getChar_3b067]
def wsX4_readOne_r4 : List Cond := [Cond.code yJ2_getChar_3b067 cJ2_getChar_3b067 2 (some .char), Cond.fieldLink RJ2 44 "java/lang/StringUTF16" "$assertionsDisabled" "Z", Cond.fieldLink RJ2 59 "java/lang/StringUTF16" "HI_BYTE_SHIFT" "I", Cond.fieldLink RJ2 63 "java/lang/StringUTF16" "LO_BYTE_SHIFT" "I", Cond.methodLink RX4 80 yX4_readOne, Cond.instanceMethod yX4_readOne, Cond.selects RX4 yX4_readOne yX4_readOne, Cond.methodLink RX4 57 yX4_readEither, Cond.instanceMethod yX4_readEither, Cond.selects RX4 yX4_readEither yX4_readEither, Cond.methodLink RX4 94 yX4_readClose, Cond.instanceMethod yX4_readClose, Cond.selects RX4 yX4_readClose yX4_readClose, Cond.code yX4_readClose cX4_readClose 1 none, Cond.code yX4_readAdded cX4_readAdded 4 none, Cond.methodLink RX4 77 yX4_readTimes, Cond.instanceMethod yX4_readTimes, Cond.selects RX4 yX4_readTimes yX4_readTimes, Cond.code yX4_readBoth cX4_readBoth 3 none, Cond.methodLink RX4 71 yX4_readCompared, Cond.instanceMethod yX4_readCompared, Cond.selects RX4 yX4_readCompared yX4_readCompared, Cond.code yX4_readCompared cX4_readCompared 3 none, Cond.methodLink RX4 74 yX4_readAdded]
def wsX4_readOne_r5 : List Cond := [Cond.instanceMethod yX4_readAdded, Cond.selects RX4 yX4_readAdded yX4_readAdded, Cond.code yX4_readEither cX4_readEither 3 none, Cond.methodLink RX4 61 yX4_readBoth, Cond.instanceMethod yX4_readBoth, Cond.selects RX4 yX4_readBoth yX4_readBoth, Cond.code yX4_readTimes cX4_readTimes 4 none]
def wsX4_readOne : List Cond := .code yX4_readOne cX4_readOne 3 none :: ((wsX4_readOne_r1 ++ (wsX4_readOne_r2 ++ (wsX4_readOne_r3 ++ (wsX4_readOne_r4 ++ wsX4_readOne_r5)))) ++ wsX40)
def wsX4_readTimes_r1 : List Cond := [Cond.fieldLink RX4 34 "FigureTill$Law" "place" "I", Cond.methodLink RX4 80 yX4_readOne, Cond.instanceMethod yX4_readOne, Cond.selects RX4 yX4_readOne yX4_readOne, Cond.initialized RX4, Cond.methodLink RX4 64 yX4_next, Cond.instanceMethod yX4_next, Cond.selects RX4 yX4_next yX4_next, Cond.code yX4_next cX4_next 1 (some .int), Cond.fieldLink RX4 37 "FigureTill$Law" "failed" "Z", Cond.fieldLink RX4 31 "FigureTill$Law" "end" "I", Cond.fieldLink RX4 22 "FigureTill$Law" "bytes" "[I", Cond.methodLink RX4 68 yX4_write, Cond.instanceMethod yX4_write, Cond.selects RX4 yX4_write yX4_write, Cond.code yX4_write cX4_write 2 none, Cond.fieldLink RX4 28 "FigureTill$Law" "drafted" "I", Cond.fieldLink RX4 25 "FigureTill$Law" "draft" "[I", Cond.code yX4_readAdded cX4_readAdded 4 none, Cond.methodLink RX4 77 yX4_readTimes, Cond.instanceMethod yX4_readTimes, Cond.selects RX4 yX4_readTimes yX4_readTimes, Cond.code yX4_readBoth cX4_readBoth 3 none, Cond.methodLink RX4 71 yX4_readCompared]
def wsX4_readTimes_r2 : List Cond := [Cond.instanceMethod yX4_readCompared, Cond.selects RX4 yX4_readCompared yX4_readCompared, Cond.code yX4_readCompared cX4_readCompared 3 none, Cond.methodLink RX4 74 yX4_readAdded, Cond.instanceMethod yX4_readAdded, Cond.selects RX4 yX4_readAdded yX4_readAdded, Cond.code yX4_readEither cX4_readEither 3 none, Cond.methodLink RX4 61 yX4_readBoth, Cond.instanceMethod yX4_readBoth, Cond.selects RX4 yX4_readBoth yX4_readBoth, Cond.code yX4_readOne cX4_readOne 3 none, Cond.methodLink RX4 83 yX4_isDigit, Cond.static yX4_isDigit, Cond.code yX4_isDigit cX4_isDigit 1 (some .boolean), Cond.methodLink RX4 87 yX4_readNumber, Cond.instanceMethod yX4_readNumber, Cond.selects RX4 yX4_readNumber yX4_readNumber, Cond.code yX4_readNumber cX4_readNumber 3 none, Cond.methodLink RX4 90 yX4_nameOf, Cond.instanceMethod yX4_nameOf, Cond.selects RX4 yX4_nameOf yX4_nameOf, Cond.code yX4_nameOf cX4_nameOf 3 (some .int), Cond.fieldLink RX4 41 "FigureTill$Law" "names" "Ljava/lang/String;", Cond.methodLink RX4 97 yJ0_length_8abf5]
def wsX4_readTimes_r3 : List Cond := [Cond.instanceMethod yJ0_length_8abf5, Cond.selects RJ0 yJ0_length_8abf5 yJ0_length_8abf5, Cond.initialized RJ0, Cond.code yJ0_length_8abf5 cJ0_length_8abf5 1 (some .int), Cond.fieldLink RJ0 9 "java/lang/String" "value" "[B", Cond.methodLink RJ0 335 yJ0_coder_7d493, Cond.instanceMethod yJ0_coder_7d493, Cond.selects RJ0 yJ0_coder_7d493 yJ0_coder_7d493, Cond.code yJ0_coder_7d493 cJ0_coder_7d493 1 (some .byte), Cond.fieldLink RJ0 38 "java/lang/String" "COMPACT_STRINGS" "Z", Cond.fieldLink RJ0 15 "java/lang/String" "coder" "B", Cond.methodLink RX4 101 yJ0_charAt_5068e, Cond.instanceMethod yJ0_charAt_5068e, Cond.selects RJ0 yJ0_charAt_5068e yJ0_charAt_5068e, Cond.code yJ0_charAt_5068e cJ0_charAt_5068e 2 (some .char), Cond.methodLink RJ0 492 yJ0_isLatin1_aae02, Cond.instanceMethod yJ0_isLatin1_aae02, Cond.selects RJ0 yJ0_isLatin1_aae02 yJ0_isLatin1_aae02, Cond.code yJ0_isLatin1_aae02 cJ0_isLatin1_aae02 1 (some .boolean), Cond.methodLink RJ0 495 yJ1_charAt_3b067, Cond.static yJ1_charAt_3b067, Cond.initialized RJ1, Cond.code yJ1_charAt_3b067 cJ1_charAt_3b067 2 (some .char), Cond.methodLink RJ1 9 yJ0_checkIndex_df160]
def wsX4_readTimes_r4 : List Cond := [Cond.static yJ0_checkIndex_df160, Cond.code yJ0_checkIndex_df160 cJ0_checkIndex_df160 2 none, Cond.fieldLink RJ0 1053 "jdk/internal/util/Preconditions" "SIOOBE_FORMATTER" "Ljava/util/function/BiFunction;", Cond.methodLink RJ0 1059 yJ3_checkIndex_8e157, Cond.static yJ3_checkIndex_8e157, Cond.initialized RJ3, Cond.code yJ3_checkIndex_8e157 cJ3_checkIndex_8e157 3 (some .int), Cond.methodLink RJ0 498 yJ2_charAt_3b067, Cond.static yJ2_charAt_3b067, Cond.initialized RJ2, Cond.code yJ2_charAt_3b067 cJ2_charAt_3b067 2 (some .char), Cond.methodLink RJ2 67 yJ2_checkIndex_2214a, Cond.static yJ2_checkIndex_2214a, Cond.code yJ2_checkIndex_2214a cJ2_checkIndex_2214a 2 none, Cond.methodLink RJ2 48 yJ2_length_9d52b, Cond.static yJ2_length_9d52b, Cond.code yJ2_length_9d52b cJ2_length_9d52b 1 (some .int), Cond.methodLink RJ2 414 yJ0_checkIndex_df160, Cond.methodLink RJ2 71 yJ2_getChar_3b067, Cond.static yJ2_getChar_3b067, Cond.code yJ2_getChar_3b067 cJ2_getChar_3b067 2 (some .char), Cond.fieldLink RJ2 44 "java/lang/StringUTF16" "$assertionsDisabled" "Z", Cond.fieldLink RJ2 59 "java/lang/StringUTF16" "HI_BYTE_SHIFT" "I", Cond.fieldLink RJ2 63 "java/lang/StringUTF16" "LO_BYTE_SHIFT" "I"]
def wsX4_readTimes_r5 : List Cond := [Cond.methodLink RX4 57 yX4_readEither, Cond.instanceMethod yX4_readEither, Cond.selects RX4 yX4_readEither yX4_readEither, Cond.methodLink RX4 94 yX4_readClose, Cond.instanceMethod yX4_readClose, Cond.selects RX4 yX4_readClose yX4_readClose, Cond.code yX4_readClose cX4_readClose 1 none]
def wsX4_readTimes : List Cond := .code yX4_readTimes cX4_readTimes 4 none :: ((wsX4_readTimes_r1 ++ (wsX4_readTimes_r2 ++ (wsX4_readTimes_r3 ++ (wsX4_readTimes_r4 ++ wsX4_readTimes_r5)))) ++ wsX40)
def wsX4_fault_r1 : List Cond := [Cond.methodLink RX4 51 Lib.Math.min.name, Cond.static Lib.Math.min.name, Cond.initialized "java/lang/Math", Cond.code Lib.Math.min.name Lib.Math.min.code 2 (some .int), Cond.fieldLink RX4 31 "FigureTill$Law" "end" "I", Cond.fieldLink RX4 22 "FigureTill$Law" "bytes" "[I", Cond.methodLink RX4 45 arraycopyName, Cond.native arraycopyName, Cond.static arraycopyName, Cond.initialized "java/lang/System", Cond.fieldLink RX4 34 "FigureTill$Law" "place" "I", Cond.fieldLink RX4 28 "FigureTill$Law" "drafted" "I", Cond.fieldLink RX4 37 "FigureTill$Law" "failed" "Z", Cond.fieldLink RX4 25 "FigureTill$Law" "draft" "[I", Cond.fieldLink RX4 9 "FigureTill$Law" "code" "[I", Cond.fieldLink RX4 15 "FigureTill$Law" "length" "I", Cond.methodLink RX4 57 yX4_readEither, Cond.instanceMethod yX4_readEither, Cond.selects RX4 yX4_readEither yX4_readEither, Cond.initialized RX4, Cond.code yX4_readEither cX4_readEither 3 none, Cond.methodLink RX4 61 yX4_readBoth, Cond.instanceMethod yX4_readBoth, Cond.selects RX4 yX4_readBoth yX4_readBoth]
def wsX4_fault_r2 : List Cond := [Cond.methodLink RX4 64 yX4_next, Cond.instanceMethod yX4_next, Cond.selects RX4 yX4_next yX4_next, Cond.code yX4_next cX4_next 1 (some .int), Cond.methodLink RX4 68 yX4_write, Cond.instanceMethod yX4_write, Cond.selects RX4 yX4_write yX4_write, Cond.code yX4_write cX4_write 2 none, Cond.code yX4_readAdded cX4_readAdded 4 none, Cond.methodLink RX4 77 yX4_readTimes, Cond.instanceMethod yX4_readTimes, Cond.selects RX4 yX4_readTimes yX4_readTimes, Cond.code yX4_readBoth cX4_readBoth 3 none, Cond.methodLink RX4 71 yX4_readCompared, Cond.instanceMethod yX4_readCompared, Cond.selects RX4 yX4_readCompared yX4_readCompared, Cond.code yX4_readCompared cX4_readCompared 3 none, Cond.methodLink RX4 74 yX4_readAdded, Cond.instanceMethod yX4_readAdded, Cond.selects RX4 yX4_readAdded yX4_readAdded, Cond.code yX4_readOne cX4_readOne 3 none, Cond.methodLink RX4 83 yX4_isDigit, Cond.static yX4_isDigit, Cond.code yX4_isDigit cX4_isDigit 1 (some .boolean)]
def wsX4_fault_r3 : List Cond := [Cond.methodLink RX4 87 yX4_readNumber, Cond.instanceMethod yX4_readNumber, Cond.selects RX4 yX4_readNumber yX4_readNumber, Cond.code yX4_readNumber cX4_readNumber 3 none, Cond.methodLink RX4 90 yX4_nameOf, Cond.instanceMethod yX4_nameOf, Cond.selects RX4 yX4_nameOf yX4_nameOf, Cond.code yX4_nameOf cX4_nameOf 3 (some .int), Cond.fieldLink RX4 41 "FigureTill$Law" "names" "Ljava/lang/String;", Cond.methodLink RX4 97 yJ0_length_8abf5, Cond.instanceMethod yJ0_length_8abf5, Cond.selects RJ0 yJ0_length_8abf5 yJ0_length_8abf5, Cond.initialized RJ0, Cond.code yJ0_length_8abf5 cJ0_length_8abf5 1 (some .int), Cond.fieldLink RJ0 9 "java/lang/String" "value" "[B", Cond.methodLink RJ0 335 yJ0_coder_7d493, Cond.instanceMethod yJ0_coder_7d493, Cond.selects RJ0 yJ0_coder_7d493 yJ0_coder_7d493, Cond.code yJ0_coder_7d493 cJ0_coder_7d493 1 (some .byte), Cond.fieldLink RJ0 38 "java/lang/String" "COMPACT_STRINGS" "Z", Cond.fieldLink RJ0 15 "java/lang/String" "coder" "B", Cond.methodLink RX4 101 yJ0_charAt_5068e, Cond.instanceMethod yJ0_charAt_5068e, Cond.selects RJ0 yJ0_charAt_5068e yJ0_charAt_5068e]
def wsX4_fault_r4 : List Cond := [Cond.code yJ0_charAt_5068e cJ0_charAt_5068e 2 (some .char), Cond.methodLink RJ0 492 yJ0_isLatin1_aae02, Cond.instanceMethod yJ0_isLatin1_aae02, Cond.selects RJ0 yJ0_isLatin1_aae02 yJ0_isLatin1_aae02, Cond.code yJ0_isLatin1_aae02 cJ0_isLatin1_aae02 1 (some .boolean), Cond.methodLink RJ0 495 yJ1_charAt_3b067, Cond.static yJ1_charAt_3b067, Cond.initialized RJ1, Cond.code yJ1_charAt_3b067 cJ1_charAt_3b067 2 (some .char), Cond.methodLink RJ1 9 yJ0_checkIndex_df160, Cond.static yJ0_checkIndex_df160, Cond.code yJ0_checkIndex_df160 cJ0_checkIndex_df160 2 none, Cond.fieldLink RJ0 1053 "jdk/internal/util/Preconditions" "SIOOBE_FORMATTER" "Ljava/util/function/BiFunction;", Cond.methodLink RJ0 1059 yJ3_checkIndex_8e157, Cond.static yJ3_checkIndex_8e157, Cond.initialized RJ3, Cond.code yJ3_checkIndex_8e157 cJ3_checkIndex_8e157 3 (some .int), Cond.methodLink RJ0 498 yJ2_charAt_3b067, Cond.static yJ2_charAt_3b067, Cond.initialized RJ2, Cond.code yJ2_charAt_3b067 cJ2_charAt_3b067 2 (some .char), Cond.methodLink RJ2 67 yJ2_checkIndex_2214a, Cond.static yJ2_checkIndex_2214a, Cond.code yJ2_checkIndex_2214a cJ2_checkIndex_2214a 2 none]
def wsX4_fault_r5 : List Cond := [Cond.methodLink RJ2 48 yJ2_length_9d52b, Cond.static yJ2_length_9d52b, Cond.code yJ2_length_9d52b cJ2_length_9d52b 1 (some .int), Cond.methodLink RJ2 414 yJ0_checkIndex_df160, Cond.methodLink RJ2 71 yJ2_getChar_3b067, Cond.static yJ2_getChar_3b067, Cond.code yJ2_getChar_3b067 cJ2_getChar_3b067 2 (some .char), Cond.fieldLink RJ2 44 "java/lang/StringUTF16" "$assertionsDisabled" "Z", Cond.fieldLink RJ2 59 "java/lang/StringUTF16" "HI_BYTE_SHIFT" "I", Cond.fieldLink RJ2 63 "java/lang/StringUTF16" "LO_BYTE_SHIFT" "I", Cond.methodLink RX4 80 yX4_readOne, Cond.instanceMethod yX4_readOne, Cond.selects RX4 yX4_readOne yX4_readOne, Cond.methodLink RX4 94 yX4_readClose, Cond.instanceMethod yX4_readClose, Cond.selects RX4 yX4_readClose yX4_readClose, Cond.code yX4_readClose cX4_readClose 1 none, Cond.code yX4_readTimes cX4_readTimes 4 none]
def wsX4_fault : List Cond := .code yX4_fault cX4_fault 3 (some .int) :: ((wsX4_fault_r1 ++ (wsX4_fault_r2 ++ (wsX4_fault_r3 ++ (wsX4_fault_r4 ++ wsX4_fault_r5)))) ++ wsX40)
def wsX4_named : List Cond := .code yX4_named cX4_named 4 (some .int) :: ([])
def wsX4_joined : List Cond := .code yX4_joined cX4_joined 3 (some .int) :: ([])
def wsX4_workedOut : List Cond := .code yX4_workedOut cX4_workedOut 7 (some .int) :: ([.fieldLink RX4 15 "FigureTill$Law" "length" "I", .fieldLink RX4 9 "FigureTill$Law" "code" "[I", .fieldLink RX4 19 "FigureTill$Law" "stack" "[I", .methodLink RX4 105 yX4_named, .static yX4_named, .initialized RX4, .code yX4_named cX4_named 4 (some .int), .methodLink RX4 109 yX4_joined, .static yX4_joined, .code yX4_joined cX4_joined 3 (some .int)] ++ wsX40)
def wsX6_init : List Cond := .code yX6_init cX6_init 3 none :: ([.methodLink RX6 1 yX8_init, .instanceMethod yX8_init, .initialized RX8, .code yX8_init cX8_init 3 none, .methodLink RX8 1 objectInit, .instanceMethod objectInit, .code objectInit ⟨#[0xb1]⟩ 1 none, .fieldLink RX8 7 "FigureTill$Till" "number" "I", .fieldLink RX8 13 "FigureTill$Till" "m" "I"] ++ wsX10 ++ wsX20 ++ wsX30 ++ wsX50 ++ wsX60 ++ wsX80 ++ wsX90)
def wsX5_init : List Cond := .code yX5_init cX5_init 3 none :: ([.methodLink RX5 1 yX6_init, .instanceMethod yX6_init, .initialized RX6, .code yX6_init cX6_init 3 none, .methodLink RX6 1 yX8_init, .instanceMethod yX8_init, .initialized RX8, .code yX8_init cX8_init 3 none, .methodLink RX8 1 objectInit, .instanceMethod objectInit, .code objectInit ⟨#[0xb1]⟩ 1 none, .fieldLink RX8 7 "FigureTill$Till" "number" "I", .fieldLink RX8 13 "FigureTill$Till" "m" "I"] ++ wsX10 ++ wsX20 ++ wsX30 ++ wsX50 ++ wsX60 ++ wsX80 ++ wsX90)
def wsX5_kind : List Cond := .code yX5_kind cX5_kind 1 (some .int) :: ([])
def wsX6_isOf : List Cond := .code yX6_isOf cX6_isOf 2 (some .boolean) :: ([.methodLink RX6 7 yX8_isOf, .sameMethod "FigureTill$Till" "FigureTill$Till" "isOf" "(I)Z", .superclass RX6 RX8, .instanceMethod yX8_isOf, .initialized RX8, .code yX8_isOf cX8_isOf 2 (some .boolean)])
def wsX5_isOf : List Cond := .code yX5_isOf cX5_isOf 2 (some .boolean) :: ([.methodLink RX5 7 yX6_isOf, .sameMethod "FigureTill$RootTill" "FigureTill$RootTill" "isOf" "(I)Z", .superclass RX5 RX6, .instanceMethod yX6_isOf, .initialized RX6, .code yX6_isOf cX6_isOf 2 (some .boolean), .methodLink RX6 7 yX8_isOf, .sameMethod "FigureTill$Till" "FigureTill$Till" "isOf" "(I)Z", .superclass RX6 RX8, .instanceMethod yX8_isOf, .initialized RX8, .code yX8_isOf cX8_isOf 2 (some .boolean)])
def wsX11_oneFigure : List Cond := .code yX11_oneFigure cX11_oneFigure 4 (some .int) :: ([.methodLink RX11 122 yX11_figureSum, .static yX11_figureSum, .initialized RX11, .code yX11_figureSum cX11_figureSum 5 (some .int)])
def wsX5_due : List Cond := .code yX5_due cX5_due 4 (some .int) :: ([.fieldLink RX5 11 "FigureTill$OtherTill" "m" "I", .sameField "FigureTill$OtherTill" "FigureTill$Till" "m" "I", .static yX11_oneFigure, .initialized RX11, .code yX11_oneFigure cX11_oneFigure 4 (some .int), .methodLink RX11 122 yX11_figureSum, .static yX11_figureSum, .code yX11_figureSum cX11_figureSum 5 (some .int)] ++ wsX10 ++ wsX20 ++ wsX30 ++ wsX50 ++ wsX60 ++ wsX80 ++ wsX90)
def wsX6_kind : List Cond := .code yX6_kind cX6_kind 1 (some .int) :: ([])
def wsX6_due : List Cond := .code yX6_due cX6_due 4 (some .int) :: ([.static yX11_oneFigure, .initialized RX11, .code yX11_oneFigure cX11_oneFigure 4 (some .int), .methodLink RX11 122 yX11_figureSum, .static yX11_figureSum, .code yX11_figureSum cX11_figureSum 5 (some .int)])
def wsX9_init : List Cond := .code yX9_init cX9_init 3 none :: ([.methodLink RX9 1 yX8_init, .instanceMethod yX8_init, .initialized RX8, .code yX8_init cX8_init 3 none, .methodLink RX8 1 objectInit, .instanceMethod objectInit, .code objectInit ⟨#[0xb1]⟩ 1 none, .fieldLink RX8 7 "FigureTill$Till" "number" "I", .fieldLink RX8 13 "FigureTill$Till" "m" "I"] ++ wsX10 ++ wsX20 ++ wsX30 ++ wsX50 ++ wsX60 ++ wsX80 ++ wsX90)
def wsX11_tillOf_r1 : List Cond := [Cond.classLink RX11 310 RX3, Cond.instantiable RX3 2, Cond.initialized RX3, Cond.classLink RX11 314 RX6, Cond.instantiable RX6 2, Cond.initialized RX6, Cond.classLink RX11 317 RX1, Cond.instantiable RX1 2, Cond.initialized RX1, Cond.classLink RX11 320 RX5, Cond.instantiable RX5 2, Cond.initialized RX5, Cond.classLink RX11 323 RX2, Cond.instantiable RX2 2, Cond.initialized RX2, Cond.classLink RX11 326 RX9, Cond.instantiable RX9 2, Cond.initialized RX9, Cond.classLink RX11 111 RX8, Cond.instantiable RX8 2, Cond.initialized RX8, Cond.methodLink RX11 312 yX3_init, Cond.instanceMethod yX3_init, Cond.code yX3_init cX3_init 3 none]
def wsX11_tillOf_r2 : List Cond := [Cond.methodLink RX3 1 yX8_init, Cond.instanceMethod yX8_init, Cond.code yX8_init cX8_init 3 none, Cond.methodLink RX8 1 objectInit, Cond.instanceMethod objectInit, Cond.code objectInit ⟨#[0xb1]⟩ 1 none, Cond.fieldLink RX8 7 "FigureTill$Till" "number" "I", Cond.fieldLink RX8 13 "FigureTill$Till" "m" "I", Cond.methodLink RX11 316 yX6_init, Cond.instanceMethod yX6_init, Cond.code yX6_init cX6_init 3 none, Cond.methodLink RX6 1 yX8_init, Cond.methodLink RX11 319 yX1_init, Cond.instanceMethod yX1_init, Cond.code yX1_init cX1_init 3 none, Cond.methodLink RX1 1 yX8_init, Cond.methodLink RX11 322 yX5_init, Cond.instanceMethod yX5_init, Cond.code yX5_init cX5_init 3 none, Cond.methodLink RX5 1 yX6_init, Cond.methodLink RX11 325 yX2_init, Cond.instanceMethod yX2_init, Cond.code yX2_init cX2_init 3 none, Cond.methodLink RX2 1 yX3_init]
def wsX11_tillOf_r3 : List Cond := [Cond.methodLink RX11 328 yX9_init, Cond.instanceMethod yX9_init, Cond.code yX9_init cX9_init 3 none, Cond.methodLink RX9 1 yX8_init, Cond.methodLink RX11 329 yX8_init]
def wsX11_tillOf : List Cond := .code yX11_tillOf cX11_tillOf 3 (some (.object "FigureTill$Till")) :: ((wsX11_tillOf_r1 ++ (wsX11_tillOf_r2 ++ wsX11_tillOf_r3)) ++ wsX30 ++ wsX60 ++ wsX10 ++ wsX50 ++ wsX20 ++ wsX90 ++ wsX80)
def wsX7_init_r1 : List Cond := [Cond.methodLink RX7 3 objectInit, Cond.instanceMethod objectInit, Cond.code objectInit ⟨#[0xb1]⟩ 1 none, Cond.classLink RX7 9 "[[I", Cond.arrayClass .int, Cond.fieldLink RX7 11 "FigureTill$Shop" "goods" "[[I", Cond.classLink RX7 16 RX8, Cond.fieldLink RX7 18 "FigureTill$Shop" "tills" "[LFigureTill$Till;", Cond.fieldLink RX7 22 "FigureTill$Shop" "takings" "I", Cond.fieldLink RX7 26 "FigureTill$Shop" "costs" "I", Cond.fieldLink RX7 29 "FigureTill$Shop" "goes" "I", Cond.fieldLink RX7 32 "FigureTill$Shop" "z" "I", Cond.fieldLink RX7 35 "FigureTill$Shop" "tape" "[I", Cond.fieldLink RX7 39 "FigureTill$Shop" "fed" "I", Cond.classLink RX7 42 RX4, Cond.instantiable RX4 10, Cond.initialized RX4, Cond.fieldLink RX7 49 "FigureTill$Shop" "paysLaw" "LFigureTill$Law;", Cond.fieldLink RX7 55 "FigureTill$Shop" "valuesLaw" "LFigureTill$Law;", Cond.fieldLink RX7 58 "FigureTill$Shop" "waiting" "[I", Cond.fieldLink RX7 61 "FigureTill$Shop" "waits" "I", Cond.instanceMethod yX4_init, Cond.code yX4_init cX4_init 2 none, Cond.methodLink RX4 3 objectInit]
def wsX7_init_r2 : List Cond := [Cond.fieldLink RX4 9 "FigureTill$Law" "code" "[I", Cond.fieldLink RX4 15 "FigureTill$Law" "length" "I", Cond.fieldLink RX4 19 "FigureTill$Law" "stack" "[I", Cond.fieldLink RX4 22 "FigureTill$Law" "bytes" "[I", Cond.fieldLink RX4 25 "FigureTill$Law" "draft" "[I", Cond.fieldLink RX4 28 "FigureTill$Law" "drafted" "I", Cond.fieldLink RX4 31 "FigureTill$Law" "end" "I", Cond.fieldLink RX4 34 "FigureTill$Law" "place" "I", Cond.fieldLink RX4 37 "FigureTill$Law" "failed" "Z", Cond.fieldLink RX4 41 "FigureTill$Law" "names" "Ljava/lang/String;", Cond.static yX11_tillOf, Cond.initialized RX11, Cond.code yX11_tillOf cX11_tillOf 3 (some (.object "FigureTill$Till")), Cond.classLink RX11 310 RX3, Cond.instantiable RX3 2, Cond.initialized RX3, Cond.classLink RX11 314 RX6, Cond.instantiable RX6 2, Cond.initialized RX6, Cond.classLink RX11 317 RX1, Cond.instantiable RX1 2, Cond.initialized RX1, Cond.classLink RX11 320 RX5, Cond.instantiable RX5 2]
def wsX7_init_r3 : List Cond := [Cond.initialized RX5, Cond.classLink RX11 323 RX2, Cond.instantiable RX2 2, Cond.initialized RX2, Cond.classLink RX11 326 RX9, Cond.instantiable RX9 2, Cond.initialized RX9, Cond.classLink RX11 111 RX8, Cond.instantiable RX8 2, Cond.initialized RX8, Cond.methodLink RX11 312 yX3_init, Cond.instanceMethod yX3_init, Cond.code yX3_init cX3_init 3 none, Cond.methodLink RX3 1 yX8_init, Cond.instanceMethod yX8_init, Cond.code yX8_init cX8_init 3 none, Cond.methodLink RX8 1 objectInit, Cond.fieldLink RX8 7 "FigureTill$Till" "number" "I", Cond.fieldLink RX8 13 "FigureTill$Till" "m" "I", Cond.methodLink RX11 316 yX6_init, Cond.instanceMethod yX6_init, Cond.code yX6_init cX6_init 3 none, Cond.methodLink RX6 1 yX8_init, Cond.methodLink RX11 319 yX1_init]
def wsX7_init_r4 : List Cond := [Cond.instanceMethod yX1_init, Cond.code yX1_init cX1_init 3 none, Cond.methodLink RX1 1 yX8_init, Cond.methodLink RX11 322 yX5_init, Cond.instanceMethod yX5_init, Cond.code yX5_init cX5_init 3 none, Cond.methodLink RX5 1 yX6_init, Cond.methodLink RX11 325 yX2_init, Cond.instanceMethod yX2_init, Cond.code yX2_init cX2_init 3 none, Cond.methodLink RX2 1 yX3_init, Cond.methodLink RX11 328 yX9_init, Cond.instanceMethod yX9_init, Cond.code yX9_init cX9_init 3 none, Cond.methodLink RX9 1 yX8_init, Cond.methodLink RX11 329 yX8_init]
def wsX7_init : List Cond := .code yX7_init cX7_init 2 none :: ((wsX7_init_r1 ++ (wsX7_init_r2 ++ (wsX7_init_r3 ++ wsX7_init_r4))) ++ wsX70 ++ wsX40 ++ wsX30 ++ wsX60 ++ wsX10 ++ wsX50 ++ wsX20 ++ wsX90 ++ wsX80)
def wsX7_become : List Cond := .code yX7_become cX7_become 3 none :: ([.fieldLink RX7 11 "FigureTill$Shop" "goods" "[[I", .methodLink RX7 71 arraycopyName, .native arraycopyName, .static arraycopyName, .initialized "java/lang/System", .fieldLink RX7 18 "FigureTill$Shop" "tills" "[LFigureTill$Till;", .fieldLink RX7 22 "FigureTill$Shop" "takings" "I", .fieldLink RX7 26 "FigureTill$Shop" "costs" "I", .fieldLink RX7 29 "FigureTill$Shop" "goes" "I", .fieldLink RX7 32 "FigureTill$Shop" "z" "I", .fieldLink RX7 35 "FigureTill$Shop" "tape" "[I", .fieldLink RX7 39 "FigureTill$Shop" "fed" "I", .fieldLink RX7 49 "FigureTill$Shop" "paysLaw" "LFigureTill$Law;", .fieldLink RX7 55 "FigureTill$Shop" "valuesLaw" "LFigureTill$Law;", .fieldLink RX7 58 "FigureTill$Shop" "waiting" "[I", .fieldLink RX7 61 "FigureTill$Shop" "waits" "I", .instanceMethod yX4_become, .initialized RX4, .selects RX4 yX4_become yX4_become, .code yX4_become cX4_become 2 none, .fieldLink RX4 9 "FigureTill$Law" "code" "[I", .methodLink RX4 45 arraycopyName, .fieldLink RX4 15 "FigureTill$Law" "length" "I"] ++ wsX70 ++ wsX40)
def wsX7_law : List Cond := .code yX7_law cX7_law 2 (some (.object "FigureTill$Law")) :: ([.fieldLink RX7 49 "FigureTill$Shop" "paysLaw" "LFigureTill$Law;", .fieldLink RX7 55 "FigureTill$Shop" "valuesLaw" "LFigureTill$Law;"] ++ wsX70)
def wsX8_due : List Cond := .code yX8_due cX8_due 4 (some .int) :: ([.static yX11_figureSum, .initialized RX11, .code yX11_figureSum cX11_figureSum 5 (some .int)])
def wsX9_due_r1 : List Cond := [Cond.fieldLink RX9 17 "FigureTill$ToldTill" "m" "I", Cond.sameField "FigureTill$ToldTill" "FigureTill$Till" "m" "I", Cond.instanceMethod yX4_isTold, Cond.initialized RX4, Cond.selects RX4 yX4_isTold yX4_isTold, Cond.code yX4_isTold cX4_isTold 1 (some .boolean), Cond.fieldLink RX4 15 "FigureTill$Law" "length" "I", Cond.instanceMethod yX4_workedOut, Cond.selects RX4 yX4_workedOut yX4_workedOut, Cond.code yX4_workedOut cX4_workedOut 7 (some .int), Cond.fieldLink RX4 9 "FigureTill$Law" "code" "[I", Cond.fieldLink RX4 19 "FigureTill$Law" "stack" "[I", Cond.methodLink RX4 105 yX4_named, Cond.static yX4_named, Cond.code yX4_named cX4_named 4 (some .int), Cond.methodLink RX4 109 yX4_joined, Cond.static yX4_joined, Cond.code yX4_joined cX4_joined 3 (some .int), Cond.methodLink RX9 27 yX8_due, Cond.sameMethod "FigureTill$Till" "FigureTill$Till" "due" "(IILFigureTill$Law;)I", Cond.superclass RX9 RX8, Cond.instanceMethod yX8_due, Cond.initialized RX8, Cond.code yX8_due cX8_due 4 (some .int)]
def wsX9_due_r2 : List Cond := [Cond.static yX11_figureSum, Cond.initialized RX11, Cond.code yX11_figureSum cX11_figureSum 5 (some .int)]
def wsX9_due : List Cond := .code yX9_due cX9_due 4 (some .int) :: ((wsX9_due_r1 ++ wsX9_due_r2) ++ wsX10 ++ wsX20 ++ wsX30 ++ wsX50 ++ wsX60 ++ wsX80 ++ wsX90 ++ wsX40)
def wsX11_held : List Cond := .code yX11_held cX11_held 2 (some .int) :: ([.methodLink RX11 205 Lib.Math.min.name, .static Lib.Math.min.name, .initialized "java/lang/Math", .code Lib.Math.min.name Lib.Math.min.code 2 (some .int), .methodLink RX11 297 Lib.Math.max.name, .static Lib.Math.max.name, .code Lib.Math.max.name Lib.Math.max.code 2 (some .int)])
def wsX7_paid_r1 : List Cond := [Cond.fieldLink RX7 18 "FigureTill$Shop" "tills" "[LFigureTill$Till;", Cond.fieldLink RX7 49 "FigureTill$Shop" "paysLaw" "LFigureTill$Law;", Cond.methodLink RX7 81 ⟨"FigureTill$Till", "due", "(IILFigureTill$Law;)I"⟩, Cond.sameMethod "FigureTill$Till" "FigureTill$Till" "due" "(IILFigureTill$Law;)I", Cond.instanceMethod ⟨"FigureTill$Till", "due", "(IILFigureTill$Law;)I"⟩, Cond.selects RX1 ⟨"FigureTill$Till", "due", "(IILFigureTill$Law;)I"⟩ yX1_due, Cond.instanceMethod yX1_due, Cond.initialized RX1, Cond.code yX1_due cX1_due 4 (some .int), Cond.fieldLink RX1 11 "FigureTill$ErrsTill" "m" "I", Cond.sameField "FigureTill$ErrsTill" "FigureTill$Till" "m" "I", Cond.static yX11_figureSum, Cond.initialized RX11, Cond.code yX11_figureSum cX11_figureSum 5 (some .int), Cond.code yX8_due cX8_due 4 (some .int), Cond.selects RX2 ⟨"FigureTill$Till", "due", "(IILFigureTill$Law;)I"⟩ yX2_due, Cond.instanceMethod yX2_due, Cond.initialized RX2, Cond.code yX2_due cX2_due 4 (some .int), Cond.fieldLink RX2 11 "FigureTill$FloorTill" "m" "I", Cond.sameField "FigureTill$FloorTill" "FigureTill$Till" "m" "I", Cond.methodLink RX2 21 Lib.Math.max.name, Cond.static Lib.Math.max.name, Cond.initialized "java/lang/Math"]
def wsX7_paid_r2 : List Cond := [Cond.code Lib.Math.max.name Lib.Math.max.code 2 (some .int), Cond.methodLink RX2 17 yX3_due, Cond.sameMethod "FigureTill$LastTill" "FigureTill$LastTill" "due" "(IILFigureTill$Law;)I", Cond.superclass RX2 RX3, Cond.instanceMethod yX3_due, Cond.initialized RX3, Cond.code yX3_due cX3_due 4 (some .int), Cond.selects RX3 ⟨"FigureTill$Till", "due", "(IILFigureTill$Law;)I"⟩ yX3_due, Cond.selects RX5 ⟨"FigureTill$Till", "due", "(IILFigureTill$Law;)I"⟩ yX5_due, Cond.instanceMethod yX5_due, Cond.initialized RX5, Cond.code yX5_due cX5_due 4 (some .int), Cond.fieldLink RX5 11 "FigureTill$OtherTill" "m" "I", Cond.sameField "FigureTill$OtherTill" "FigureTill$Till" "m" "I", Cond.static yX11_oneFigure, Cond.code yX11_oneFigure cX11_oneFigure 4 (some .int), Cond.methodLink RX11 122 yX11_figureSum, Cond.selects RX6 ⟨"FigureTill$Till", "due", "(IILFigureTill$Law;)I"⟩ yX6_due, Cond.instanceMethod yX6_due, Cond.initialized RX6, Cond.code yX6_due cX6_due 4 (some .int), Cond.methodLink RX7 81 yX8_due, Cond.instanceMethod yX8_due, Cond.selects RX8 yX8_due yX8_due]
def wsX7_paid_r3 : List Cond := [Cond.initialized RX8, Cond.selects RX9 ⟨"FigureTill$Till", "due", "(IILFigureTill$Law;)I"⟩ yX9_due, Cond.instanceMethod yX9_due, Cond.initialized RX9, Cond.code yX9_due cX9_due 4 (some .int), Cond.fieldLink RX9 17 "FigureTill$ToldTill" "m" "I", Cond.sameField "FigureTill$ToldTill" "FigureTill$Till" "m" "I", Cond.instanceMethod yX4_isTold, Cond.initialized RX4, Cond.selects RX4 yX4_isTold yX4_isTold, Cond.code yX4_isTold cX4_isTold 1 (some .boolean), Cond.fieldLink RX4 15 "FigureTill$Law" "length" "I", Cond.instanceMethod yX4_workedOut, Cond.selects RX4 yX4_workedOut yX4_workedOut, Cond.code yX4_workedOut cX4_workedOut 7 (some .int), Cond.fieldLink RX4 9 "FigureTill$Law" "code" "[I", Cond.fieldLink RX4 19 "FigureTill$Law" "stack" "[I", Cond.methodLink RX4 105 yX4_named, Cond.static yX4_named, Cond.code yX4_named cX4_named 4 (some .int), Cond.methodLink RX4 109 yX4_joined, Cond.static yX4_joined, Cond.code yX4_joined cX4_joined 3 (some .int), Cond.methodLink RX9 27 yX8_due]
def wsX7_paid_r4 : List Cond := [Cond.superclass RX9 RX8, Cond.static yX11_held, Cond.code yX11_held cX11_held 2 (some .int), Cond.methodLink RX11 205 Lib.Math.min.name, Cond.static Lib.Math.min.name, Cond.code Lib.Math.min.name Lib.Math.min.code 2 (some .int), Cond.methodLink RX11 297 Lib.Math.max.name]
def wsX7_paid : List Cond := .code yX7_paid cX7_paid 4 (some .int) :: ((wsX7_paid_r1 ++ (wsX7_paid_r2 ++ (wsX7_paid_r3 ++ wsX7_paid_r4))) ++ wsX70 ++ wsX10 ++ wsX20 ++ wsX30 ++ wsX50 ++ wsX60 ++ wsX80 ++ wsX90 ++ wsX40)
def wsX7_valueOf_r1 : List Cond := [Cond.fieldLink RX7 55 "FigureTill$Shop" "valuesLaw" "LFigureTill$Law;", Cond.fieldLink RX7 11 "FigureTill$Shop" "goods" "[[I", Cond.instanceMethod yX4_isTold, Cond.initialized RX4, Cond.selects RX4 yX4_isTold yX4_isTold, Cond.code yX4_isTold cX4_isTold 1 (some .boolean), Cond.fieldLink RX4 15 "FigureTill$Law" "length" "I", Cond.instanceMethod yX4_workedOut, Cond.selects RX4 yX4_workedOut yX4_workedOut, Cond.code yX4_workedOut cX4_workedOut 7 (some .int), Cond.fieldLink RX4 9 "FigureTill$Law" "code" "[I", Cond.fieldLink RX4 19 "FigureTill$Law" "stack" "[I", Cond.methodLink RX4 105 yX4_named, Cond.static yX4_named, Cond.code yX4_named cX4_named 4 (some .int), Cond.methodLink RX4 109 yX4_joined, Cond.static yX4_joined, Cond.code yX4_joined cX4_joined 3 (some .int), Cond.static yX11_held, Cond.initialized RX11, Cond.code yX11_held cX11_held 2 (some .int), Cond.methodLink RX11 205 Lib.Math.min.name, Cond.static Lib.Math.min.name, Cond.initialized "java/lang/Math"]
def wsX7_valueOf_r2 : List Cond := [Cond.code Lib.Math.min.name Lib.Math.min.code 2 (some .int), Cond.methodLink RX11 297 Lib.Math.max.name, Cond.static Lib.Math.max.name, Cond.code Lib.Math.max.name Lib.Math.max.code 2 (some .int)]
def wsX7_valueOf : List Cond := .code yX7_valueOf cX7_valueOf 2 (some .int) :: ((wsX7_valueOf_r1 ++ wsX7_valueOf_r2) ++ wsX70 ++ wsX40)
def wsX7_stockOfAll : List Cond := .code yX7_stockOfAll cX7_stockOfAll 3 (some .int) :: ([.fieldLink RX7 11 "FigureTill$Shop" "goods" "[[I"] ++ wsX70)
def wsX7_hasStock : List Cond := .code yX7_hasStock cX7_hasStock 3 (some .boolean) :: ([.fieldLink RX7 11 "FigureTill$Shop" "goods" "[[I"] ++ wsX70 ++ wsX00)
def wsX7_sold_r1 : List Cond := [Cond.fieldLink RX7 11 "FigureTill$Shop" "goods" "[[I", Cond.constant RX7 111 (99999999), Cond.fieldLink RX7 22 "FigureTill$Shop" "takings" "I", Cond.methodLink RX7 112 Lib.Math.min.name, Cond.static Lib.Math.min.name, Cond.initialized "java/lang/Math", Cond.code Lib.Math.min.name Lib.Math.min.code 2 (some .int), Cond.fieldLink RX7 26 "FigureTill$Shop" "costs" "I", Cond.fieldLink RX7 29 "FigureTill$Shop" "goes" "I", Cond.methodLink RX7 108 yX7_paid, Cond.instanceMethod yX7_paid, Cond.selects RX7 yX7_paid yX7_paid, Cond.initialized RX7, Cond.code yX7_paid cX7_paid 4 (some .int), Cond.fieldLink RX7 18 "FigureTill$Shop" "tills" "[LFigureTill$Till;", Cond.fieldLink RX7 49 "FigureTill$Shop" "paysLaw" "LFigureTill$Law;", Cond.methodLink RX7 81 ⟨"FigureTill$Till", "due", "(IILFigureTill$Law;)I"⟩, Cond.sameMethod "FigureTill$Till" "FigureTill$Till" "due" "(IILFigureTill$Law;)I", Cond.instanceMethod ⟨"FigureTill$Till", "due", "(IILFigureTill$Law;)I"⟩, Cond.selects RX1 ⟨"FigureTill$Till", "due", "(IILFigureTill$Law;)I"⟩ yX1_due, Cond.instanceMethod yX1_due, Cond.initialized RX1, Cond.code yX1_due cX1_due 4 (some .int), Cond.fieldLink RX1 11 "FigureTill$ErrsTill" "m" "I"]
def wsX7_sold_r2 : List Cond := [Cond.sameField "FigureTill$ErrsTill" "FigureTill$Till" "m" "I", Cond.static yX11_figureSum, Cond.initialized RX11, Cond.code yX11_figureSum cX11_figureSum 5 (some .int), Cond.code yX8_due cX8_due 4 (some .int), Cond.selects RX2 ⟨"FigureTill$Till", "due", "(IILFigureTill$Law;)I"⟩ yX2_due, Cond.instanceMethod yX2_due, Cond.initialized RX2, Cond.code yX2_due cX2_due 4 (some .int), Cond.fieldLink RX2 11 "FigureTill$FloorTill" "m" "I", Cond.sameField "FigureTill$FloorTill" "FigureTill$Till" "m" "I", Cond.methodLink RX2 21 Lib.Math.max.name, Cond.static Lib.Math.max.name, Cond.code Lib.Math.max.name Lib.Math.max.code 2 (some .int), Cond.methodLink RX2 17 yX3_due, Cond.sameMethod "FigureTill$LastTill" "FigureTill$LastTill" "due" "(IILFigureTill$Law;)I", Cond.superclass RX2 RX3, Cond.instanceMethod yX3_due, Cond.initialized RX3, Cond.code yX3_due cX3_due 4 (some .int), Cond.selects RX3 ⟨"FigureTill$Till", "due", "(IILFigureTill$Law;)I"⟩ yX3_due, Cond.selects RX5 ⟨"FigureTill$Till", "due", "(IILFigureTill$Law;)I"⟩ yX5_due, Cond.instanceMethod yX5_due, Cond.initialized RX5]
def wsX7_sold_r3 : List Cond := [Cond.code yX5_due cX5_due 4 (some .int), Cond.fieldLink RX5 11 "FigureTill$OtherTill" "m" "I", Cond.sameField "FigureTill$OtherTill" "FigureTill$Till" "m" "I", Cond.static yX11_oneFigure, Cond.code yX11_oneFigure cX11_oneFigure 4 (some .int), Cond.methodLink RX11 122 yX11_figureSum, Cond.selects RX6 ⟨"FigureTill$Till", "due", "(IILFigureTill$Law;)I"⟩ yX6_due, Cond.instanceMethod yX6_due, Cond.initialized RX6, Cond.code yX6_due cX6_due 4 (some .int), Cond.methodLink RX7 81 yX8_due, Cond.instanceMethod yX8_due, Cond.selects RX8 yX8_due yX8_due, Cond.initialized RX8, Cond.selects RX9 ⟨"FigureTill$Till", "due", "(IILFigureTill$Law;)I"⟩ yX9_due, Cond.instanceMethod yX9_due, Cond.initialized RX9, Cond.code yX9_due cX9_due 4 (some .int), Cond.fieldLink RX9 17 "FigureTill$ToldTill" "m" "I", Cond.sameField "FigureTill$ToldTill" "FigureTill$Till" "m" "I", Cond.instanceMethod yX4_isTold, Cond.initialized RX4, Cond.selects RX4 yX4_isTold yX4_isTold, Cond.code yX4_isTold cX4_isTold 1 (some .boolean)]
def wsX7_sold_r4 : List Cond := [Cond.fieldLink RX4 15 "FigureTill$Law" "length" "I", Cond.instanceMethod yX4_workedOut, Cond.selects RX4 yX4_workedOut yX4_workedOut, Cond.code yX4_workedOut cX4_workedOut 7 (some .int), Cond.fieldLink RX4 9 "FigureTill$Law" "code" "[I", Cond.fieldLink RX4 19 "FigureTill$Law" "stack" "[I", Cond.methodLink RX4 105 yX4_named, Cond.static yX4_named, Cond.code yX4_named cX4_named 4 (some .int), Cond.methodLink RX4 109 yX4_joined, Cond.static yX4_joined, Cond.code yX4_joined cX4_joined 3 (some .int), Cond.methodLink RX9 27 yX8_due, Cond.superclass RX9 RX8, Cond.static yX11_held, Cond.code yX11_held cX11_held 2 (some .int), Cond.methodLink RX11 205 Lib.Math.min.name, Cond.methodLink RX11 297 Lib.Math.max.name, Cond.instanceMethod yX0_sumBy, Cond.initialized RX0, Cond.selects RX0 yX0_sumBy yX0_sumBy, Cond.code yX0_sumBy cX0_sumBy 4 (some .int), Cond.fieldLink RX0 9 "FigureTill$Basket" "row" "[I"]
def wsX7_sold : List Cond := .code yX7_sold cX7_sold 5 (some .int) :: ((wsX7_sold_r1 ++ (wsX7_sold_r2 ++ (wsX7_sold_r3 ++ wsX7_sold_r4))) ++ wsX00 ++ wsX70 ++ wsX10 ++ wsX20 ++ wsX30 ++ wsX50 ++ wsX60 ++ wsX80 ++ wsX90 ++ wsX40)
def wsX7_drawn : List Cond := .code yX7_drawn cX7_drawn 2 (some .int) :: ([.fieldLink RX7 32 "FigureTill$Shop" "z" "I", .constant RX7 121 (1103515245)] ++ wsX70)
def wsX8_kind : List Cond := .code yX8_kind cX8_kind 1 (some .int) :: ([])
def wsX9_kind : List Cond := .code yX9_kind cX9_kind 1 (some .int) :: ([])
def wsX9_isOf : List Cond := .code yX9_isOf cX9_isOf 2 (some .boolean) :: ([.methodLink RX9 7 yX8_isOf, .sameMethod "FigureTill$Till" "FigureTill$Till" "isOf" "(I)Z", .superclass RX9 RX8, .instanceMethod yX8_isOf, .initialized RX8, .code yX8_isOf cX8_isOf 2 (some .boolean)])
def wsX10_init : List Cond := .code yX10_init cX10_init 1 none :: ([.methodLink RX10 3 objectInit, .instanceMethod objectInit, .code objectInit ⟨#[0xb1]⟩ 1 none, .arrayClass .int, .fieldLink RX10 9 "FigureTill$Trace" "bodies" "[I", .fieldLink RX10 15 "FigureTill$Trace" "length" "I", .fieldLink RX10 19 "FigureTill$Trace" "parted" "Z"] ++ wsX100)
def wsX10_start : List Cond := .code yX10_start cX10_start 1 none :: ([.fieldLink RX10 15 "FigureTill$Trace" "length" "I", .fieldLink RX10 19 "FigureTill$Trace" "parted" "Z"] ++ wsX100)
def wsX11_init_r1 : List Cond := [Cond.methodLink RX11 1 objectInit, Cond.instanceMethod objectInit, Cond.code objectInit ⟨#[0xb1]⟩ 1 none, Cond.classLink RX11 7 RX7, Cond.instantiable RX7 12, Cond.initialized RX7, Cond.fieldLink RX11 10 "FigureTill" "shop" "LFigureTill$Shop;", Cond.fieldLink RX11 16 "FigureTill" "kept" "LFigureTill$Shop;", Cond.fieldLink RX11 19 "FigureTill" "imaged" "Z", Cond.fieldLink RX11 23 "FigureTill" "images" "I", Cond.arrayClass .int, Cond.fieldLink RX11 27 "FigureTill" "sheetBits" "[I", Cond.fieldLink RX11 31 "FigureTill" "sheetLengths" "[I", Cond.classLink RX11 34 "[[I", Cond.fieldLink RX11 36 "FigureTill" "sheetNumbers" "[[I", Cond.classLink RX11 39 RX10, Cond.instantiable RX10 3, Cond.initialized RX10, Cond.fieldLink RX11 42 "FigureTill" "trace" "LFigureTill$Trace;", Cond.fieldLink RX11 46 "FigureTill" "errors" "[I", Cond.classLink RX11 49 RX0, Cond.instantiable RX0 3, Cond.initialized RX0, Cond.fieldLink RX11 52 "FigureTill" "one" "LFigureTill$Basket;"]
def wsX11_init_r2 : List Cond := [Cond.fieldLink RX11 56 "FigureTill" "second" "LFigureTill$Basket;", Cond.fieldLink RX11 59 "FigureTill" "extra" "LFigureTill$Basket;", Cond.fieldLink RX11 62 "FigureTill" "room" "[I", Cond.fieldLink RX11 65 "FigureTill" "values" "[I", Cond.fieldLink RX11 68 "FigureTill" "best" "LFigureTill$Basket;", Cond.fieldLink RX11 71 "FigureTill" "bestPaid" "I", Cond.fieldLink RX11 74 "FigureTill" "bestNet" "I", Cond.instanceMethod yX7_init, Cond.code yX7_init cX7_init 2 none, Cond.methodLink RX7 3 objectInit, Cond.classLink RX7 9 "[[I", Cond.fieldLink RX7 11 "FigureTill$Shop" "goods" "[[I", Cond.classLink RX7 16 RX8, Cond.fieldLink RX7 18 "FigureTill$Shop" "tills" "[LFigureTill$Till;", Cond.fieldLink RX7 22 "FigureTill$Shop" "takings" "I", Cond.fieldLink RX7 26 "FigureTill$Shop" "costs" "I", Cond.fieldLink RX7 29 "FigureTill$Shop" "goes" "I", Cond.fieldLink RX7 32 "FigureTill$Shop" "z" "I", Cond.fieldLink RX7 35 "FigureTill$Shop" "tape" "[I", Cond.fieldLink RX7 39 "FigureTill$Shop" "fed" "I", Cond.classLink RX7 42 RX4, Cond.instantiable RX4 10, Cond.initialized RX4, Cond.fieldLink RX7 49 "FigureTill$Shop" "paysLaw" "LFigureTill$Law;"]
def wsX11_init_r3 : List Cond := [Cond.fieldLink RX7 55 "FigureTill$Shop" "valuesLaw" "LFigureTill$Law;", Cond.fieldLink RX7 58 "FigureTill$Shop" "waiting" "[I", Cond.fieldLink RX7 61 "FigureTill$Shop" "waits" "I", Cond.instanceMethod yX4_init, Cond.code yX4_init cX4_init 2 none, Cond.methodLink RX4 3 objectInit, Cond.fieldLink RX4 9 "FigureTill$Law" "code" "[I", Cond.fieldLink RX4 15 "FigureTill$Law" "length" "I", Cond.fieldLink RX4 19 "FigureTill$Law" "stack" "[I", Cond.fieldLink RX4 22 "FigureTill$Law" "bytes" "[I", Cond.fieldLink RX4 25 "FigureTill$Law" "draft" "[I", Cond.fieldLink RX4 28 "FigureTill$Law" "drafted" "I", Cond.fieldLink RX4 31 "FigureTill$Law" "end" "I", Cond.fieldLink RX4 34 "FigureTill$Law" "place" "I", Cond.fieldLink RX4 37 "FigureTill$Law" "failed" "Z", Cond.fieldLink RX4 41 "FigureTill$Law" "names" "Ljava/lang/String;", Cond.static yX11_tillOf, Cond.initialized RX11, Cond.code yX11_tillOf cX11_tillOf 3 (some (.object "FigureTill$Till")), Cond.classLink RX11 310 RX3, Cond.instantiable RX3 2, Cond.initialized RX3, Cond.classLink RX11 314 RX6, Cond.instantiable RX6 2]
def wsX11_init_r4 : List Cond := [Cond.initialized RX6, Cond.classLink RX11 317 RX1, Cond.instantiable RX1 2, Cond.initialized RX1, Cond.classLink RX11 320 RX5, Cond.instantiable RX5 2, Cond.initialized RX5, Cond.classLink RX11 323 RX2, Cond.instantiable RX2 2, Cond.initialized RX2, Cond.classLink RX11 326 RX9, Cond.instantiable RX9 2, Cond.initialized RX9, Cond.classLink RX11 111 RX8, Cond.instantiable RX8 2, Cond.initialized RX8, Cond.methodLink RX11 312 yX3_init, Cond.instanceMethod yX3_init, Cond.code yX3_init cX3_init 3 none, Cond.methodLink RX3 1 yX8_init, Cond.instanceMethod yX8_init, Cond.code yX8_init cX8_init 3 none, Cond.methodLink RX8 1 objectInit, Cond.fieldLink RX8 7 "FigureTill$Till" "number" "I"]
def wsX11_init_r5 : List Cond := [Cond.fieldLink RX8 13 "FigureTill$Till" "m" "I", Cond.methodLink RX11 316 yX6_init, Cond.instanceMethod yX6_init, Cond.code yX6_init cX6_init 3 none, Cond.methodLink RX6 1 yX8_init, Cond.methodLink RX11 319 yX1_init, Cond.instanceMethod yX1_init, Cond.code yX1_init cX1_init 3 none, Cond.methodLink RX1 1 yX8_init, Cond.methodLink RX11 322 yX5_init, Cond.instanceMethod yX5_init, Cond.code yX5_init cX5_init 3 none, Cond.methodLink RX5 1 yX6_init, Cond.methodLink RX11 325 yX2_init, Cond.instanceMethod yX2_init, Cond.code yX2_init cX2_init 3 none, Cond.methodLink RX2 1 yX3_init, Cond.methodLink RX11 328 yX9_init, Cond.instanceMethod yX9_init, Cond.code yX9_init cX9_init 3 none, Cond.methodLink RX9 1 yX8_init, Cond.methodLink RX11 329 yX8_init, Cond.instanceMethod yX10_init, Cond.code yX10_init cX10_init 1 none]
def wsX11_init_r6 : List Cond := [Cond.methodLink RX10 3 objectInit, Cond.fieldLink RX10 9 "FigureTill$Trace" "bodies" "[I", Cond.fieldLink RX10 15 "FigureTill$Trace" "length" "I", Cond.fieldLink RX10 19 "FigureTill$Trace" "parted" "Z", Cond.instanceMethod yX0_init, Cond.code yX0_init cX0_init 1 none, Cond.methodLink RX0 3 objectInit, Cond.fieldLink RX0 9 "FigureTill$Basket" "row" "[I", Cond.fieldLink RX0 15 "FigureTill$Basket" "things" "I", Cond.fieldLink RX0 19 "FigureTill$Basket" "sum" "I"]
def wsX11_init : List Cond := .code yX11_init cX11_init 1 none :: ((wsX11_init_r1 ++ (wsX11_init_r2 ++ (wsX11_init_r3 ++ (wsX11_init_r4 ++ (wsX11_init_r5 ++ wsX11_init_r6))))) ++ wsX70 ++ wsX110 ++ wsX100 ++ wsX00 ++ wsX40 ++ wsX30 ++ wsX60 ++ wsX10 ++ wsX50 ++ wsX20 ++ wsX90 ++ wsX80)
def wsX11_within : List Cond := .code yX11_within cX11_within 3 (some .boolean) :: ([])
def wsX11_isThing : List Cond := .code yX11_isThing cX11_isThing 1 (some .boolean) :: ([.methodLink RX11 81 yX11_within, .static yX11_within, .initialized RX11, .code yX11_within cX11_within 3 (some .boolean)])
def wsX11_isGood : List Cond := .code yX11_isGood cX11_isGood 2 (some .boolean) :: ([.fieldLink RX11 300 "FigureTill" "LEAST" "[I", .fieldLink RX11 303 "FigureTill" "MOST" "[I", .methodLink RX11 81 yX11_within, .static yX11_within, .initialized RX11, .code yX11_within cX11_within 3 (some .boolean)])
def wsX11_error : List Cond := .code yX11_error cX11_error 2 (some .int) :: ([.fieldLink RX11 46 "FigureTill" "errors" "[I", .constant RX11 296 (-1000000000), .methodLink RX11 81 yX11_within, .static yX11_within, .initialized RX11, .code yX11_within cX11_within 3 (some .boolean)] ++ wsX110)
def wsX11_thing : List Cond := .code yX11_thing cX11_thing 5 (some .int) :: ([.fieldLink RX11 10 "FigureTill" "shop" "LFigureTill$Shop;", .methodLink RX11 77 yX11_isThing, .static yX11_isThing, .initialized RX11, .code yX11_isThing cX11_isThing 1 (some .boolean), .methodLink RX11 81 yX11_within, .static yX11_within, .code yX11_within cX11_within 3 (some .boolean), .methodLink RX11 85 yX11_isGood, .static yX11_isGood, .code yX11_isGood cX11_isGood 2 (some .boolean), .fieldLink RX11 300 "FigureTill" "LEAST" "[I", .fieldLink RX11 303 "FigureTill" "MOST" "[I", .methodLink RX11 89 yX11_error, .instanceMethod yX11_error, .selects RX11 yX11_error yX11_error, .code yX11_error cX11_error 2 (some .int), .fieldLink RX11 46 "FigureTill" "errors" "[I", .constant RX11 296 (-1000000000)] ++ wsX110 ++ wsX70)
def wsX11_thingIs_r1 : List Cond := [Cond.fieldLink RX11 10 "FigureTill" "shop" "LFigureTill$Shop;", Cond.methodLink RX11 77 yX11_isThing, Cond.static yX11_isThing, Cond.initialized RX11, Cond.code yX11_isThing cX11_isThing 1 (some .boolean), Cond.methodLink RX11 81 yX11_within, Cond.static yX11_within, Cond.code yX11_within cX11_within 3 (some .boolean), Cond.methodLink RX11 89 yX11_error, Cond.instanceMethod yX11_error, Cond.selects RX11 yX11_error yX11_error, Cond.code yX11_error cX11_error 2 (some .int), Cond.fieldLink RX11 46 "FigureTill" "errors" "[I", Cond.constant RX11 296 (-1000000000), Cond.instanceMethod yX7_valueOf, Cond.initialized RX7, Cond.selects RX7 yX7_valueOf yX7_valueOf, Cond.code yX7_valueOf cX7_valueOf 2 (some .int), Cond.fieldLink RX7 55 "FigureTill$Shop" "valuesLaw" "LFigureTill$Law;", Cond.fieldLink RX7 11 "FigureTill$Shop" "goods" "[[I", Cond.instanceMethod yX4_isTold, Cond.initialized RX4, Cond.selects RX4 yX4_isTold yX4_isTold, Cond.code yX4_isTold cX4_isTold 1 (some .boolean)]
def wsX11_thingIs_r2 : List Cond := [Cond.fieldLink RX4 15 "FigureTill$Law" "length" "I", Cond.instanceMethod yX4_workedOut, Cond.selects RX4 yX4_workedOut yX4_workedOut, Cond.code yX4_workedOut cX4_workedOut 7 (some .int), Cond.fieldLink RX4 9 "FigureTill$Law" "code" "[I", Cond.fieldLink RX4 19 "FigureTill$Law" "stack" "[I", Cond.methodLink RX4 105 yX4_named, Cond.static yX4_named, Cond.code yX4_named cX4_named 4 (some .int), Cond.methodLink RX4 109 yX4_joined, Cond.static yX4_joined, Cond.code yX4_joined cX4_joined 3 (some .int), Cond.static yX11_held, Cond.code yX11_held cX11_held 2 (some .int), Cond.methodLink RX11 205 Lib.Math.min.name, Cond.static Lib.Math.min.name, Cond.initialized "java/lang/Math", Cond.code Lib.Math.min.name Lib.Math.min.code 2 (some .int), Cond.methodLink RX11 297 Lib.Math.max.name, Cond.static Lib.Math.max.name, Cond.code Lib.Math.max.name Lib.Math.max.code 2 (some .int)]
def wsX11_thingIs : List Cond := .code yX11_thingIs cX11_thingIs 3 (some .int) :: ((wsX11_thingIs_r1 ++ wsX11_thingIs_r2) ++ wsX110 ++ wsX70 ++ wsX40)
def wsX11_isTill : List Cond := .code yX11_isTill cX11_isTill 1 (some .boolean) :: ([.methodLink RX11 81 yX11_within, .static yX11_within, .initialized RX11, .code yX11_within cX11_within 3 (some .boolean)])
def wsX11_till_r1 : List Cond := [Cond.fieldLink RX11 10 "FigureTill" "shop" "LFigureTill$Shop;", Cond.fieldLink RX11 116 "FigureTill$Till" "m" "I", Cond.methodLink RX11 99 yX11_isTill, Cond.static yX11_isTill, Cond.initialized RX11, Cond.code yX11_isTill cX11_isTill 1 (some .boolean), Cond.methodLink RX11 81 yX11_within, Cond.static yX11_within, Cond.code yX11_within cX11_within 3 (some .boolean), Cond.methodLink RX11 89 yX11_error, Cond.instanceMethod yX11_error, Cond.selects RX11 yX11_error yX11_error, Cond.code yX11_error cX11_error 2 (some .int), Cond.fieldLink RX11 46 "FigureTill" "errors" "[I", Cond.constant RX11 296 (-1000000000), Cond.methodLink RX11 106 yX11_tillOf, Cond.static yX11_tillOf, Cond.code yX11_tillOf cX11_tillOf 3 (some (.object "FigureTill$Till")), Cond.classLink RX11 310 RX3, Cond.instantiable RX3 2, Cond.initialized RX3, Cond.classLink RX11 314 RX6, Cond.instantiable RX6 2, Cond.initialized RX6]
def wsX11_till_r2 : List Cond := [Cond.classLink RX11 317 RX1, Cond.instantiable RX1 2, Cond.initialized RX1, Cond.classLink RX11 320 RX5, Cond.instantiable RX5 2, Cond.initialized RX5, Cond.classLink RX11 323 RX2, Cond.instantiable RX2 2, Cond.initialized RX2, Cond.classLink RX11 326 RX9, Cond.instantiable RX9 2, Cond.initialized RX9, Cond.classLink RX11 111 RX8, Cond.instantiable RX8 2, Cond.initialized RX8, Cond.methodLink RX11 312 yX3_init, Cond.instanceMethod yX3_init, Cond.code yX3_init cX3_init 3 none, Cond.methodLink RX3 1 yX8_init, Cond.instanceMethod yX8_init, Cond.code yX8_init cX8_init 3 none, Cond.methodLink RX8 1 objectInit, Cond.instanceMethod objectInit, Cond.code objectInit ⟨#[0xb1]⟩ 1 none]
def wsX11_till_r3 : List Cond := [Cond.fieldLink RX8 7 "FigureTill$Till" "number" "I", Cond.fieldLink RX8 13 "FigureTill$Till" "m" "I", Cond.methodLink RX11 316 yX6_init, Cond.instanceMethod yX6_init, Cond.code yX6_init cX6_init 3 none, Cond.methodLink RX6 1 yX8_init, Cond.methodLink RX11 319 yX1_init, Cond.instanceMethod yX1_init, Cond.code yX1_init cX1_init 3 none, Cond.methodLink RX1 1 yX8_init, Cond.methodLink RX11 322 yX5_init, Cond.instanceMethod yX5_init, Cond.code yX5_init cX5_init 3 none, Cond.methodLink RX5 1 yX6_init, Cond.methodLink RX11 325 yX2_init, Cond.instanceMethod yX2_init, Cond.code yX2_init cX2_init 3 none, Cond.methodLink RX2 1 yX3_init, Cond.methodLink RX11 328 yX9_init, Cond.instanceMethod yX9_init, Cond.code yX9_init cX9_init 3 none, Cond.methodLink RX9 1 yX8_init, Cond.methodLink RX11 329 yX8_init, Cond.methodLink RX11 110 ⟨"FigureTill$Till", "kind", "()I"⟩]
def wsX11_till_r4 : List Cond := [Cond.sameMethod "FigureTill$Till" "FigureTill$Till" "kind" "()I", Cond.instanceMethod ⟨"FigureTill$Till", "kind", "()I"⟩, Cond.selects RX1 ⟨"FigureTill$Till", "kind", "()I"⟩ yX1_kind, Cond.instanceMethod yX1_kind, Cond.code yX1_kind cX1_kind 1 (some .int), Cond.code yX8_kind cX8_kind 1 (some .int), Cond.selects RX2 ⟨"FigureTill$Till", "kind", "()I"⟩ yX2_kind, Cond.instanceMethod yX2_kind, Cond.code yX2_kind cX2_kind 1 (some .int), Cond.selects RX3 ⟨"FigureTill$Till", "kind", "()I"⟩ yX3_kind, Cond.instanceMethod yX3_kind, Cond.code yX3_kind cX3_kind 1 (some .int), Cond.selects RX5 ⟨"FigureTill$Till", "kind", "()I"⟩ yX5_kind, Cond.instanceMethod yX5_kind, Cond.code yX5_kind cX5_kind 1 (some .int), Cond.selects RX6 ⟨"FigureTill$Till", "kind", "()I"⟩ yX6_kind, Cond.instanceMethod yX6_kind, Cond.code yX6_kind cX6_kind 1 (some .int), Cond.methodLink RX11 110 yX8_kind, Cond.instanceMethod yX8_kind, Cond.selects RX8 yX8_kind yX8_kind, Cond.selects RX9 ⟨"FigureTill$Till", "kind", "()I"⟩ yX9_kind, Cond.instanceMethod yX9_kind, Cond.code yX9_kind cX9_kind 1 (some .int)]
def wsX11_till : List Cond := .code yX11_till cX11_till 4 (some .int) :: ((wsX11_till_r1 ++ (wsX11_till_r2 ++ (wsX11_till_r3 ++ wsX11_till_r4))) ++ wsX110 ++ wsX70 ++ wsX10 ++ wsX20 ++ wsX30 ++ wsX50 ++ wsX60 ++ wsX80 ++ wsX90)
def wsX11_tillIs_r1 : List Cond := [Cond.fieldLink RX11 10 "FigureTill" "shop" "LFigureTill$Shop;", Cond.fieldLink RX11 116 "FigureTill$Till" "m" "I", Cond.methodLink RX11 99 yX11_isTill, Cond.static yX11_isTill, Cond.initialized RX11, Cond.code yX11_isTill cX11_isTill 1 (some .boolean), Cond.methodLink RX11 81 yX11_within, Cond.static yX11_within, Cond.code yX11_within cX11_within 3 (some .boolean), Cond.methodLink RX11 89 yX11_error, Cond.instanceMethod yX11_error, Cond.selects RX11 yX11_error yX11_error, Cond.code yX11_error cX11_error 2 (some .int), Cond.fieldLink RX11 46 "FigureTill" "errors" "[I", Cond.constant RX11 296 (-1000000000), Cond.methodLink RX11 110 ⟨"FigureTill$Till", "kind", "()I"⟩, Cond.sameMethod "FigureTill$Till" "FigureTill$Till" "kind" "()I", Cond.instanceMethod ⟨"FigureTill$Till", "kind", "()I"⟩, Cond.selects RX1 ⟨"FigureTill$Till", "kind", "()I"⟩ yX1_kind, Cond.instanceMethod yX1_kind, Cond.initialized RX1, Cond.code yX1_kind cX1_kind 1 (some .int), Cond.code yX8_kind cX8_kind 1 (some .int), Cond.selects RX2 ⟨"FigureTill$Till", "kind", "()I"⟩ yX2_kind]
def wsX11_tillIs_r2 : List Cond := [Cond.instanceMethod yX2_kind, Cond.initialized RX2, Cond.code yX2_kind cX2_kind 1 (some .int), Cond.selects RX3 ⟨"FigureTill$Till", "kind", "()I"⟩ yX3_kind, Cond.instanceMethod yX3_kind, Cond.initialized RX3, Cond.code yX3_kind cX3_kind 1 (some .int), Cond.selects RX5 ⟨"FigureTill$Till", "kind", "()I"⟩ yX5_kind, Cond.instanceMethod yX5_kind, Cond.initialized RX5, Cond.code yX5_kind cX5_kind 1 (some .int), Cond.selects RX6 ⟨"FigureTill$Till", "kind", "()I"⟩ yX6_kind, Cond.instanceMethod yX6_kind, Cond.initialized RX6, Cond.code yX6_kind cX6_kind 1 (some .int), Cond.methodLink RX11 110 yX8_kind, Cond.instanceMethod yX8_kind, Cond.selects RX8 yX8_kind yX8_kind, Cond.initialized RX8, Cond.selects RX9 ⟨"FigureTill$Till", "kind", "()I"⟩ yX9_kind, Cond.instanceMethod yX9_kind, Cond.initialized RX9, Cond.code yX9_kind cX9_kind 1 (some .int)]
def wsX11_tillIs : List Cond := .code yX11_tillIs cX11_tillIs 3 (some .int) :: ((wsX11_tillIs_r1 ++ wsX11_tillIs_r2) ++ wsX110 ++ wsX70 ++ wsX10 ++ wsX20 ++ wsX30 ++ wsX50 ++ wsX60 ++ wsX80 ++ wsX90)
def wsX11_as_r1 : List Cond := [Cond.fieldLink RX11 10 "FigureTill" "shop" "LFigureTill$Shop;", Cond.fieldLink RX11 116 "FigureTill$Till" "m" "I", Cond.methodLink RX11 99 yX11_isTill, Cond.static yX11_isTill, Cond.initialized RX11, Cond.code yX11_isTill cX11_isTill 1 (some .boolean), Cond.methodLink RX11 81 yX11_within, Cond.static yX11_within, Cond.code yX11_within cX11_within 3 (some .boolean), Cond.methodLink RX11 89 yX11_error, Cond.instanceMethod yX11_error, Cond.selects RX11 yX11_error yX11_error, Cond.code yX11_error cX11_error 2 (some .int), Cond.fieldLink RX11 46 "FigureTill" "errors" "[I", Cond.constant RX11 296 (-1000000000), Cond.methodLink RX11 119 ⟨"FigureTill$Till", "isOf", "(I)Z"⟩, Cond.sameMethod "FigureTill$Till" "FigureTill$Till" "isOf" "(I)Z", Cond.instanceMethod ⟨"FigureTill$Till", "isOf", "(I)Z"⟩, Cond.selects RX1 ⟨"FigureTill$Till", "isOf", "(I)Z"⟩ yX1_isOf, Cond.instanceMethod yX1_isOf, Cond.initialized RX1, Cond.code yX1_isOf cX1_isOf 2 (some .boolean), Cond.methodLink RX1 7 yX8_isOf, Cond.superclass RX1 RX8]
def wsX11_as_r2 : List Cond := [Cond.instanceMethod yX8_isOf, Cond.initialized RX8, Cond.code yX8_isOf cX8_isOf 2 (some .boolean), Cond.selects RX2 ⟨"FigureTill$Till", "isOf", "(I)Z"⟩ yX2_isOf, Cond.instanceMethod yX2_isOf, Cond.initialized RX2, Cond.code yX2_isOf cX2_isOf 2 (some .boolean), Cond.methodLink RX2 7 yX3_isOf, Cond.sameMethod "FigureTill$LastTill" "FigureTill$LastTill" "isOf" "(I)Z", Cond.superclass RX2 RX3, Cond.instanceMethod yX3_isOf, Cond.initialized RX3, Cond.code yX3_isOf cX3_isOf 2 (some .boolean), Cond.methodLink RX3 7 yX8_isOf, Cond.superclass RX3 RX8, Cond.selects RX3 ⟨"FigureTill$Till", "isOf", "(I)Z"⟩ yX3_isOf, Cond.selects RX5 ⟨"FigureTill$Till", "isOf", "(I)Z"⟩ yX5_isOf, Cond.instanceMethod yX5_isOf, Cond.initialized RX5, Cond.code yX5_isOf cX5_isOf 2 (some .boolean), Cond.methodLink RX5 7 yX6_isOf, Cond.sameMethod "FigureTill$RootTill" "FigureTill$RootTill" "isOf" "(I)Z", Cond.superclass RX5 RX6, Cond.instanceMethod yX6_isOf]
def wsX11_as_r3 : List Cond := [Cond.initialized RX6, Cond.code yX6_isOf cX6_isOf 2 (some .boolean), Cond.methodLink RX6 7 yX8_isOf, Cond.superclass RX6 RX8, Cond.selects RX6 ⟨"FigureTill$Till", "isOf", "(I)Z"⟩ yX6_isOf, Cond.methodLink RX11 119 yX8_isOf, Cond.selects RX8 yX8_isOf yX8_isOf, Cond.selects RX9 ⟨"FigureTill$Till", "isOf", "(I)Z"⟩ yX9_isOf, Cond.instanceMethod yX9_isOf, Cond.initialized RX9, Cond.code yX9_isOf cX9_isOf 2 (some .boolean), Cond.methodLink RX9 7 yX8_isOf, Cond.superclass RX9 RX8]
def wsX11_as : List Cond := .code yX11_as cX11_as 3 (some .int) :: ((wsX11_as_r1 ++ (wsX11_as_r2 ++ wsX11_as_r3)) ++ wsX110 ++ wsX70 ++ wsX10 ++ wsX20 ++ wsX30 ++ wsX50 ++ wsX60 ++ wsX80 ++ wsX90)
def wsX11_figures : List Cond := .code yX11_figures cX11_figures 3 (some .int) :: ([.methodLink RX11 81 yX11_within, .static yX11_within, .initialized RX11, .code yX11_within cX11_within 3 (some .boolean), .methodLink RX11 89 yX11_error, .instanceMethod yX11_error, .selects RX11 yX11_error yX11_error, .code yX11_error cX11_error 2 (some .int), .fieldLink RX11 46 "FigureTill" "errors" "[I", .constant RX11 296 (-1000000000), .methodLink RX11 122 yX11_figureSum, .static yX11_figureSum, .code yX11_figureSum cX11_figureSum 5 (some .int)] ++ wsX110)
def wsX11_asks_r1 : List Cond := [Cond.constant RX11 126 (299970), Cond.fieldLink RX11 10 "FigureTill" "shop" "LFigureTill$Shop;", Cond.methodLink RX11 99 yX11_isTill, Cond.static yX11_isTill, Cond.initialized RX11, Cond.code yX11_isTill cX11_isTill 1 (some .boolean), Cond.methodLink RX11 81 yX11_within, Cond.static yX11_within, Cond.code yX11_within cX11_within 3 (some .boolean), Cond.methodLink RX11 89 yX11_error, Cond.instanceMethod yX11_error, Cond.selects RX11 yX11_error yX11_error, Cond.code yX11_error cX11_error 2 (some .int), Cond.fieldLink RX11 46 "FigureTill" "errors" "[I", Cond.constant RX11 296 (-1000000000), Cond.instanceMethod yX7_paid, Cond.initialized RX7, Cond.selects RX7 yX7_paid yX7_paid, Cond.code yX7_paid cX7_paid 4 (some .int), Cond.fieldLink RX7 18 "FigureTill$Shop" "tills" "[LFigureTill$Till;", Cond.fieldLink RX7 49 "FigureTill$Shop" "paysLaw" "LFigureTill$Law;", Cond.methodLink RX7 81 ⟨"FigureTill$Till", "due", "(IILFigureTill$Law;)I"⟩, Cond.sameMethod "FigureTill$Till" "FigureTill$Till" "due" "(IILFigureTill$Law;)I", Cond.instanceMethod ⟨"FigureTill$Till", "due", "(IILFigureTill$Law;)I"⟩]
def wsX11_asks_r2 : List Cond := [Cond.selects RX1 ⟨"FigureTill$Till", "due", "(IILFigureTill$Law;)I"⟩ yX1_due, Cond.instanceMethod yX1_due, Cond.initialized RX1, Cond.code yX1_due cX1_due 4 (some .int), Cond.fieldLink RX1 11 "FigureTill$ErrsTill" "m" "I", Cond.sameField "FigureTill$ErrsTill" "FigureTill$Till" "m" "I", Cond.static yX11_figureSum, Cond.code yX11_figureSum cX11_figureSum 5 (some .int), Cond.code yX8_due cX8_due 4 (some .int), Cond.selects RX2 ⟨"FigureTill$Till", "due", "(IILFigureTill$Law;)I"⟩ yX2_due, Cond.instanceMethod yX2_due, Cond.initialized RX2, Cond.code yX2_due cX2_due 4 (some .int), Cond.fieldLink RX2 11 "FigureTill$FloorTill" "m" "I", Cond.sameField "FigureTill$FloorTill" "FigureTill$Till" "m" "I", Cond.methodLink RX2 21 Lib.Math.max.name, Cond.static Lib.Math.max.name, Cond.initialized "java/lang/Math", Cond.code Lib.Math.max.name Lib.Math.max.code 2 (some .int), Cond.methodLink RX2 17 yX3_due, Cond.sameMethod "FigureTill$LastTill" "FigureTill$LastTill" "due" "(IILFigureTill$Law;)I", Cond.superclass RX2 RX3, Cond.instanceMethod yX3_due, Cond.initialized RX3]
def wsX11_asks_r3 : List Cond := [Cond.code yX3_due cX3_due 4 (some .int), Cond.selects RX3 ⟨"FigureTill$Till", "due", "(IILFigureTill$Law;)I"⟩ yX3_due, Cond.selects RX5 ⟨"FigureTill$Till", "due", "(IILFigureTill$Law;)I"⟩ yX5_due, Cond.instanceMethod yX5_due, Cond.initialized RX5, Cond.code yX5_due cX5_due 4 (some .int), Cond.fieldLink RX5 11 "FigureTill$OtherTill" "m" "I", Cond.sameField "FigureTill$OtherTill" "FigureTill$Till" "m" "I", Cond.static yX11_oneFigure, Cond.code yX11_oneFigure cX11_oneFigure 4 (some .int), Cond.methodLink RX11 122 yX11_figureSum, Cond.selects RX6 ⟨"FigureTill$Till", "due", "(IILFigureTill$Law;)I"⟩ yX6_due, Cond.instanceMethod yX6_due, Cond.initialized RX6, Cond.code yX6_due cX6_due 4 (some .int), Cond.methodLink RX7 81 yX8_due, Cond.instanceMethod yX8_due, Cond.selects RX8 yX8_due yX8_due, Cond.initialized RX8, Cond.selects RX9 ⟨"FigureTill$Till", "due", "(IILFigureTill$Law;)I"⟩ yX9_due, Cond.instanceMethod yX9_due, Cond.initialized RX9, Cond.code yX9_due cX9_due 4 (some .int), Cond.fieldLink RX9 17 "FigureTill$ToldTill" "m" "I"]
def wsX11_asks_r4 : List Cond := [Cond.sameField "FigureTill$ToldTill" "FigureTill$Till" "m" "I", Cond.instanceMethod yX4_isTold, Cond.initialized RX4, Cond.selects RX4 yX4_isTold yX4_isTold, Cond.code yX4_isTold cX4_isTold 1 (some .boolean), Cond.fieldLink RX4 15 "FigureTill$Law" "length" "I", Cond.instanceMethod yX4_workedOut, Cond.selects RX4 yX4_workedOut yX4_workedOut, Cond.code yX4_workedOut cX4_workedOut 7 (some .int), Cond.fieldLink RX4 9 "FigureTill$Law" "code" "[I", Cond.fieldLink RX4 19 "FigureTill$Law" "stack" "[I", Cond.methodLink RX4 105 yX4_named, Cond.static yX4_named, Cond.code yX4_named cX4_named 4 (some .int), Cond.methodLink RX4 109 yX4_joined, Cond.static yX4_joined, Cond.code yX4_joined cX4_joined 3 (some .int), Cond.methodLink RX9 27 yX8_due, Cond.superclass RX9 RX8, Cond.static yX11_held, Cond.code yX11_held cX11_held 2 (some .int), Cond.methodLink RX11 205 Lib.Math.min.name, Cond.static Lib.Math.min.name, Cond.code Lib.Math.min.name Lib.Math.min.code 2 (some .int)]
def wsX11_asks_r5 : List Cond := [Cond.methodLink RX11 297 Lib.Math.max.name]
def wsX11_asks : List Cond := .code yX11_asks cX11_asks 4 (some .int) :: ((wsX11_asks_r1 ++ (wsX11_asks_r2 ++ (wsX11_asks_r3 ++ (wsX11_asks_r4 ++ wsX11_asks_r5)))) ++ wsX110 ++ wsX70 ++ wsX10 ++ wsX20 ++ wsX30 ++ wsX50 ++ wsX60 ++ wsX80 ++ wsX90 ++ wsX40)
def wsX11_feed : List Cond := .code yX11_feed cX11_feed 5 (some .int) :: ([.fieldLink RX11 10 "FigureTill" "shop" "LFigureTill$Shop;", .methodLink RX11 81 yX11_within, .static yX11_within, .initialized RX11, .code yX11_within cX11_within 3 (some .boolean), .methodLink RX11 89 yX11_error, .instanceMethod yX11_error, .selects RX11 yX11_error yX11_error, .code yX11_error cX11_error 2 (some .int), .fieldLink RX11 46 "FigureTill" "errors" "[I", .constant RX11 296 (-1000000000)] ++ wsX110 ++ wsX70)
def wsX11_text_r1 : List Cond := [Cond.fieldLink RX11 10 "FigureTill" "shop" "LFigureTill$Shop;", Cond.methodLink RX11 81 yX11_within, Cond.static yX11_within, Cond.initialized RX11, Cond.code yX11_within cX11_within 3 (some .boolean), Cond.methodLink RX11 89 yX11_error, Cond.instanceMethod yX11_error, Cond.selects RX11 yX11_error yX11_error, Cond.code yX11_error cX11_error 2 (some .int), Cond.fieldLink RX11 46 "FigureTill" "errors" "[I", Cond.constant RX11 296 (-1000000000), Cond.instanceMethod yX7_law, Cond.initialized RX7, Cond.selects RX7 yX7_law yX7_law, Cond.code yX7_law cX7_law 2 (some (.object "FigureTill$Law")), Cond.fieldLink RX7 49 "FigureTill$Shop" "paysLaw" "LFigureTill$Law;", Cond.fieldLink RX7 55 "FigureTill$Shop" "valuesLaw" "LFigureTill$Law;", Cond.instanceMethod yX4_fault, Cond.initialized RX4, Cond.selects RX4 yX4_fault yX4_fault, Cond.code yX4_fault cX4_fault 3 (some .int), Cond.methodLink RX4 51 Lib.Math.min.name, Cond.static Lib.Math.min.name, Cond.initialized "java/lang/Math"]
def wsX11_text_r2 : List Cond := [Cond.code Lib.Math.min.name Lib.Math.min.code 2 (some .int), Cond.fieldLink RX4 31 "FigureTill$Law" "end" "I", Cond.fieldLink RX4 22 "FigureTill$Law" "bytes" "[I", Cond.methodLink RX4 45 arraycopyName, Cond.native arraycopyName, Cond.static arraycopyName, Cond.initialized "java/lang/System", Cond.fieldLink RX4 34 "FigureTill$Law" "place" "I", Cond.fieldLink RX4 28 "FigureTill$Law" "drafted" "I", Cond.fieldLink RX4 37 "FigureTill$Law" "failed" "Z", Cond.fieldLink RX4 25 "FigureTill$Law" "draft" "[I", Cond.fieldLink RX4 9 "FigureTill$Law" "code" "[I", Cond.fieldLink RX4 15 "FigureTill$Law" "length" "I", Cond.methodLink RX4 57 yX4_readEither, Cond.instanceMethod yX4_readEither, Cond.selects RX4 yX4_readEither yX4_readEither, Cond.code yX4_readEither cX4_readEither 3 none, Cond.methodLink RX4 61 yX4_readBoth, Cond.instanceMethod yX4_readBoth, Cond.selects RX4 yX4_readBoth yX4_readBoth, Cond.methodLink RX4 64 yX4_next, Cond.instanceMethod yX4_next, Cond.selects RX4 yX4_next yX4_next, Cond.code yX4_next cX4_next 1 (some .int)]
def wsX11_text_r3 : List Cond := [Cond.methodLink RX4 68 yX4_write, Cond.instanceMethod yX4_write, Cond.selects RX4 yX4_write yX4_write, Cond.code yX4_write cX4_write 2 none, Cond.code yX4_readAdded cX4_readAdded 4 none, Cond.methodLink RX4 77 yX4_readTimes, Cond.instanceMethod yX4_readTimes, Cond.selects RX4 yX4_readTimes yX4_readTimes, Cond.code yX4_readBoth cX4_readBoth 3 none, Cond.methodLink RX4 71 yX4_readCompared, Cond.instanceMethod yX4_readCompared, Cond.selects RX4 yX4_readCompared yX4_readCompared, Cond.code yX4_readCompared cX4_readCompared 3 none, Cond.methodLink RX4 74 yX4_readAdded, Cond.instanceMethod yX4_readAdded, Cond.selects RX4 yX4_readAdded yX4_readAdded, Cond.code yX4_readOne cX4_readOne 3 none, Cond.methodLink RX4 83 yX4_isDigit, Cond.static yX4_isDigit, Cond.code yX4_isDigit cX4_isDigit 1 (some .boolean), Cond.methodLink RX4 87 yX4_readNumber, Cond.instanceMethod yX4_readNumber, Cond.selects RX4 yX4_readNumber yX4_readNumber, Cond.code yX4_readNumber cX4_readNumber 3 none]
def wsX11_text_r4 : List Cond := [Cond.methodLink RX4 90 yX4_nameOf, Cond.instanceMethod yX4_nameOf, Cond.selects RX4 yX4_nameOf yX4_nameOf, Cond.code yX4_nameOf cX4_nameOf 3 (some .int), Cond.fieldLink RX4 41 "FigureTill$Law" "names" "Ljava/lang/String;", Cond.methodLink RX4 97 yJ0_length_8abf5, Cond.instanceMethod yJ0_length_8abf5, Cond.selects RJ0 yJ0_length_8abf5 yJ0_length_8abf5, Cond.initialized RJ0, Cond.code yJ0_length_8abf5 cJ0_length_8abf5 1 (some .int), Cond.fieldLink RJ0 9 "java/lang/String" "value" "[B", Cond.methodLink RJ0 335 yJ0_coder_7d493, Cond.instanceMethod yJ0_coder_7d493, Cond.selects RJ0 yJ0_coder_7d493 yJ0_coder_7d493, Cond.code yJ0_coder_7d493 cJ0_coder_7d493 1 (some .byte), Cond.fieldLink RJ0 38 "java/lang/String" "COMPACT_STRINGS" "Z", Cond.fieldLink RJ0 15 "java/lang/String" "coder" "B", Cond.methodLink RX4 101 yJ0_charAt_5068e, Cond.instanceMethod yJ0_charAt_5068e, Cond.selects RJ0 yJ0_charAt_5068e yJ0_charAt_5068e, Cond.code yJ0_charAt_5068e cJ0_charAt_5068e 2 (some .char), Cond.methodLink RJ0 492 yJ0_isLatin1_aae02, Cond.instanceMethod yJ0_isLatin1_aae02, Cond.selects RJ0 yJ0_isLatin1_aae02 yJ0_isLatin1_aae02]
def wsX11_text_r5 : List Cond := [Cond.code yJ0_isLatin1_aae02 cJ0_isLatin1_aae02 1 (some .boolean), Cond.methodLink RJ0 495 yJ1_charAt_3b067, Cond.static yJ1_charAt_3b067, Cond.initialized RJ1, Cond.code yJ1_charAt_3b067 cJ1_charAt_3b067 2 (some .char), Cond.methodLink RJ1 9 yJ0_checkIndex_df160, Cond.static yJ0_checkIndex_df160, Cond.code yJ0_checkIndex_df160 cJ0_checkIndex_df160 2 none, Cond.fieldLink RJ0 1053 "jdk/internal/util/Preconditions" "SIOOBE_FORMATTER" "Ljava/util/function/BiFunction;", Cond.methodLink RJ0 1059 yJ3_checkIndex_8e157, Cond.static yJ3_checkIndex_8e157, Cond.initialized RJ3, Cond.code yJ3_checkIndex_8e157 cJ3_checkIndex_8e157 3 (some .int), Cond.methodLink RJ0 498 yJ2_charAt_3b067, Cond.static yJ2_charAt_3b067, Cond.initialized RJ2, Cond.code yJ2_charAt_3b067 cJ2_charAt_3b067 2 (some .char), Cond.methodLink RJ2 67 yJ2_checkIndex_2214a, Cond.static yJ2_checkIndex_2214a, Cond.code yJ2_checkIndex_2214a cJ2_checkIndex_2214a 2 none, Cond.methodLink RJ2 48 yJ2_length_9d52b, Cond.static yJ2_length_9d52b, Cond.code yJ2_length_9d52b cJ2_length_9d52b 1 (some .int), Cond.methodLink RJ2 414 yJ0_checkIndex_df160]
def wsX11_text_r6 : List Cond := [Cond.methodLink RJ2 71 yJ2_getChar_3b067, Cond.static yJ2_getChar_3b067, Cond.code yJ2_getChar_3b067 cJ2_getChar_3b067 2 (some .char), Cond.fieldLink RJ2 44 "java/lang/StringUTF16" "$assertionsDisabled" "Z", Cond.fieldLink RJ2 59 "java/lang/StringUTF16" "HI_BYTE_SHIFT" "I", Cond.fieldLink RJ2 63 "java/lang/StringUTF16" "LO_BYTE_SHIFT" "I", Cond.methodLink RX4 80 yX4_readOne, Cond.instanceMethod yX4_readOne, Cond.selects RX4 yX4_readOne yX4_readOne, Cond.methodLink RX4 94 yX4_readClose, Cond.instanceMethod yX4_readClose, Cond.selects RX4 yX4_readClose yX4_readClose, Cond.code yX4_readClose cX4_readClose 1 none, Cond.code yX4_readTimes cX4_readTimes 4 none]
def wsX11_text : List Cond := .code yX11_text cX11_text 3 (some .int) :: ((wsX11_text_r1 ++ (wsX11_text_r2 ++ (wsX11_text_r3 ++ (wsX11_text_r4 ++ (wsX11_text_r5 ++ wsX11_text_r6))))) ++ wsX110 ++ wsX70 ++ wsX40)
def wsX11_untell : List Cond := .code yX11_untell cX11_untell 4 (some .int) :: ([.fieldLink RX11 10 "FigureTill" "shop" "LFigureTill$Shop;", .methodLink RX11 81 yX11_within, .static yX11_within, .initialized RX11, .code yX11_within cX11_within 3 (some .boolean), .methodLink RX11 89 yX11_error, .instanceMethod yX11_error, .selects RX11 yX11_error yX11_error, .code yX11_error cX11_error 2 (some .int), .fieldLink RX11 46 "FigureTill" "errors" "[I", .constant RX11 296 (-1000000000), .instanceMethod yX7_law, .initialized RX7, .selects RX7 yX7_law yX7_law, .code yX7_law cX7_law 2 (some (.object "FigureTill$Law")), .fieldLink RX7 49 "FigureTill$Shop" "paysLaw" "LFigureTill$Law;", .fieldLink RX7 55 "FigureTill$Shop" "valuesLaw" "LFigureTill$Law;", .instanceMethod yX4_isTold, .initialized RX4, .selects RX4 yX4_isTold yX4_isTold, .code yX4_isTold cX4_isTold 1 (some .boolean), .fieldLink RX4 15 "FigureTill$Law" "length" "I"] ++ wsX110 ++ wsX40 ++ wsX70)
def wsX11_isSheet : List Cond := .code yX11_isSheet cX11_isSheet 1 (some .boolean) :: ([.methodLink RX11 81 yX11_within, .static yX11_within, .initialized RX11, .code yX11_within cX11_within 3 (some .boolean)])
def wsX11_isMissing : List Cond := .code yX11_isMissing cX11_isMissing 2 (some .boolean) :: ([.fieldLink RX11 27 "FigureTill" "sheetBits" "[I"] ++ wsX110)
def wsX11_reads : List Cond := .code yX11_reads cX11_reads 4 (some .boolean) :: ([.fieldLink RX11 31 "FigureTill" "sheetLengths" "[I", .fieldLink RX11 36 "FigureTill" "sheetNumbers" "[[I", .fieldLink RX11 10 "FigureTill" "shop" "LFigureTill$Shop;", .instanceMethod yX0_clear, .initialized RX0, .selects RX0 yX0_clear yX0_clear, .code yX0_clear cX0_clear 2 none, .fieldLink RX0 9 "FigureTill$Basket" "row" "[I", .fieldLink RX0 15 "FigureTill$Basket" "things" "I", .fieldLink RX0 19 "FigureTill$Basket" "sum" "I", .methodLink RX11 81 yX11_within, .static yX11_within, .initialized RX11, .code yX11_within cX11_within 3 (some .boolean), .instanceMethod yX0_add, .selects RX0 yX0_add yX0_add, .code yX0_add cX0_add 3 none, .methodLink RX0 28 yX0_sumBy, .instanceMethod yX0_sumBy, .selects RX0 yX0_sumBy yX0_sumBy, .code yX0_sumBy cX0_sumBy 4 (some .int)] ++ wsX110 ++ wsX00 ++ wsX70)
def wsX11_refusal__r1 : List Cond := [Cond.fieldLink RX11 52 "FigureTill" "one" "LFigureTill$Basket;", Cond.methodLink RX11 210 yX11_isMissing, Cond.instanceMethod yX11_isMissing, Cond.selects RX11 yX11_isMissing yX11_isMissing, Cond.initialized RX11, Cond.code yX11_isMissing cX11_isMissing 2 (some .boolean), Cond.fieldLink RX11 27 "FigureTill" "sheetBits" "[I", Cond.methodLink RX11 213 yX11_reads, Cond.instanceMethod yX11_reads, Cond.selects RX11 yX11_reads yX11_reads, Cond.code yX11_reads cX11_reads 4 (some .boolean), Cond.fieldLink RX11 31 "FigureTill" "sheetLengths" "[I", Cond.fieldLink RX11 36 "FigureTill" "sheetNumbers" "[[I", Cond.fieldLink RX11 10 "FigureTill" "shop" "LFigureTill$Shop;", Cond.instanceMethod yX0_clear, Cond.initialized RX0, Cond.selects RX0 yX0_clear yX0_clear, Cond.code yX0_clear cX0_clear 2 none, Cond.fieldLink RX0 9 "FigureTill$Basket" "row" "[I", Cond.fieldLink RX0 15 "FigureTill$Basket" "things" "I", Cond.fieldLink RX0 19 "FigureTill$Basket" "sum" "I", Cond.methodLink RX11 81 yX11_within, Cond.static yX11_within, Cond.code yX11_within cX11_within 3 (some .boolean)]
def wsX11_refusal__r2 : List Cond := [Cond.instanceMethod yX0_add, Cond.selects RX0 yX0_add yX0_add, Cond.code yX0_add cX0_add 3 none, Cond.methodLink RX0 28 yX0_sumBy, Cond.instanceMethod yX0_sumBy, Cond.selects RX0 yX0_sumBy yX0_sumBy, Cond.code yX0_sumBy cX0_sumBy 4 (some .int)]
def wsX11_refusal_ : List Cond := .code yX11_refusal_ cX11_refusal_ 3 (some .int) :: ((wsX11_refusal__r1 ++ wsX11_refusal__r2) ++ wsX110 ++ wsX00 ++ wsX70)
def wsX11_basket_r1 : List Cond := [Cond.fieldLink RX11 52 "FigureTill" "one" "LFigureTill$Basket;", Cond.fieldLink RX11 10 "FigureTill" "shop" "LFigureTill$Shop;", Cond.methodLink RX11 154 yX11_isSheet, Cond.static yX11_isSheet, Cond.initialized RX11, Cond.code yX11_isSheet cX11_isSheet 1 (some .boolean), Cond.methodLink RX11 81 yX11_within, Cond.static yX11_within, Cond.code yX11_within cX11_within 3 (some .boolean), Cond.methodLink RX11 89 yX11_error, Cond.instanceMethod yX11_error, Cond.selects RX11 yX11_error yX11_error, Cond.code yX11_error cX11_error 2 (some .int), Cond.fieldLink RX11 46 "FigureTill" "errors" "[I", Cond.constant RX11 296 (-1000000000), Cond.methodLink RX11 157 yX11_refusal_, Cond.instanceMethod yX11_refusal_, Cond.selects RX11 yX11_refusal_ yX11_refusal_, Cond.code yX11_refusal_ cX11_refusal_ 3 (some .int), Cond.methodLink RX11 210 yX11_isMissing, Cond.instanceMethod yX11_isMissing, Cond.selects RX11 yX11_isMissing yX11_isMissing, Cond.code yX11_isMissing cX11_isMissing 2 (some .boolean), Cond.fieldLink RX11 27 "FigureTill" "sheetBits" "[I"]
def wsX11_basket_r2 : List Cond := [Cond.methodLink RX11 213 yX11_reads, Cond.instanceMethod yX11_reads, Cond.selects RX11 yX11_reads yX11_reads, Cond.code yX11_reads cX11_reads 4 (some .boolean), Cond.fieldLink RX11 31 "FigureTill" "sheetLengths" "[I", Cond.fieldLink RX11 36 "FigureTill" "sheetNumbers" "[[I", Cond.instanceMethod yX0_clear, Cond.initialized RX0, Cond.selects RX0 yX0_clear yX0_clear, Cond.code yX0_clear cX0_clear 2 none, Cond.fieldLink RX0 9 "FigureTill$Basket" "row" "[I", Cond.fieldLink RX0 15 "FigureTill$Basket" "things" "I", Cond.fieldLink RX0 19 "FigureTill$Basket" "sum" "I", Cond.instanceMethod yX0_add, Cond.selects RX0 yX0_add yX0_add, Cond.code yX0_add cX0_add 3 none, Cond.methodLink RX0 28 yX0_sumBy, Cond.instanceMethod yX0_sumBy, Cond.selects RX0 yX0_sumBy yX0_sumBy, Cond.code yX0_sumBy cX0_sumBy 4 (some .int)]
def wsX11_basket : List Cond := .code yX11_basket cX11_basket 4 (some .int) :: ((wsX11_basket_r1 ++ wsX11_basket_r2) ++ wsX110 ++ wsX00 ++ wsX70)
def wsX11_refusal_r1 : List Cond := [Cond.methodLink RX11 154 yX11_isSheet, Cond.static yX11_isSheet, Cond.initialized RX11, Cond.code yX11_isSheet cX11_isSheet 1 (some .boolean), Cond.methodLink RX11 81 yX11_within, Cond.static yX11_within, Cond.code yX11_within cX11_within 3 (some .boolean), Cond.methodLink RX11 99 yX11_isTill, Cond.static yX11_isTill, Cond.code yX11_isTill cX11_isTill 1 (some .boolean), Cond.methodLink RX11 157 yX11_refusal_, Cond.instanceMethod yX11_refusal_, Cond.selects RX11 yX11_refusal_ yX11_refusal_, Cond.code yX11_refusal_ cX11_refusal_ 3 (some .int), Cond.fieldLink RX11 52 "FigureTill" "one" "LFigureTill$Basket;", Cond.methodLink RX11 210 yX11_isMissing, Cond.instanceMethod yX11_isMissing, Cond.selects RX11 yX11_isMissing yX11_isMissing, Cond.code yX11_isMissing cX11_isMissing 2 (some .boolean), Cond.fieldLink RX11 27 "FigureTill" "sheetBits" "[I", Cond.methodLink RX11 213 yX11_reads, Cond.instanceMethod yX11_reads, Cond.selects RX11 yX11_reads yX11_reads, Cond.code yX11_reads cX11_reads 4 (some .boolean)]
def wsX11_refusal_r2 : List Cond := [Cond.fieldLink RX11 31 "FigureTill" "sheetLengths" "[I", Cond.fieldLink RX11 36 "FigureTill" "sheetNumbers" "[[I", Cond.fieldLink RX11 10 "FigureTill" "shop" "LFigureTill$Shop;", Cond.instanceMethod yX0_clear, Cond.initialized RX0, Cond.selects RX0 yX0_clear yX0_clear, Cond.code yX0_clear cX0_clear 2 none, Cond.fieldLink RX0 9 "FigureTill$Basket" "row" "[I", Cond.fieldLink RX0 15 "FigureTill$Basket" "things" "I", Cond.fieldLink RX0 19 "FigureTill$Basket" "sum" "I", Cond.instanceMethod yX0_add, Cond.selects RX0 yX0_add yX0_add, Cond.code yX0_add cX0_add 3 none, Cond.methodLink RX0 28 yX0_sumBy, Cond.instanceMethod yX0_sumBy, Cond.selects RX0 yX0_sumBy yX0_sumBy, Cond.code yX0_sumBy cX0_sumBy 4 (some .int)]
def wsX11_refusal : List Cond := .code yX11_refusal cX11_refusal 4 (some .int) :: ((wsX11_refusal_r1 ++ wsX11_refusal_r2) ++ wsX110 ++ wsX00 ++ wsX70)
def wsX11_pays_r1 : List Cond := [Cond.fieldLink RX11 10 "FigureTill" "shop" "LFigureTill$Shop;", Cond.fieldLink RX11 52 "FigureTill" "one" "LFigureTill$Basket;", Cond.methodLink RX11 170 yX11_refusal, Cond.instanceMethod yX11_refusal, Cond.selects RX11 yX11_refusal yX11_refusal, Cond.initialized RX11, Cond.code yX11_refusal cX11_refusal 4 (some .int), Cond.methodLink RX11 154 yX11_isSheet, Cond.static yX11_isSheet, Cond.code yX11_isSheet cX11_isSheet 1 (some .boolean), Cond.methodLink RX11 81 yX11_within, Cond.static yX11_within, Cond.code yX11_within cX11_within 3 (some .boolean), Cond.methodLink RX11 99 yX11_isTill, Cond.static yX11_isTill, Cond.code yX11_isTill cX11_isTill 1 (some .boolean), Cond.methodLink RX11 157 yX11_refusal_, Cond.instanceMethod yX11_refusal_, Cond.selects RX11 yX11_refusal_ yX11_refusal_, Cond.code yX11_refusal_ cX11_refusal_ 3 (some .int), Cond.methodLink RX11 210 yX11_isMissing, Cond.instanceMethod yX11_isMissing, Cond.selects RX11 yX11_isMissing yX11_isMissing, Cond.code yX11_isMissing cX11_isMissing 2 (some .boolean)]
def wsX11_pays_r2 : List Cond := [Cond.fieldLink RX11 27 "FigureTill" "sheetBits" "[I", Cond.methodLink RX11 213 yX11_reads, Cond.instanceMethod yX11_reads, Cond.selects RX11 yX11_reads yX11_reads, Cond.code yX11_reads cX11_reads 4 (some .boolean), Cond.fieldLink RX11 31 "FigureTill" "sheetLengths" "[I", Cond.fieldLink RX11 36 "FigureTill" "sheetNumbers" "[[I", Cond.instanceMethod yX0_clear, Cond.initialized RX0, Cond.selects RX0 yX0_clear yX0_clear, Cond.code yX0_clear cX0_clear 2 none, Cond.fieldLink RX0 9 "FigureTill$Basket" "row" "[I", Cond.fieldLink RX0 15 "FigureTill$Basket" "things" "I", Cond.fieldLink RX0 19 "FigureTill$Basket" "sum" "I", Cond.instanceMethod yX0_add, Cond.selects RX0 yX0_add yX0_add, Cond.code yX0_add cX0_add 3 none, Cond.methodLink RX0 28 yX0_sumBy, Cond.instanceMethod yX0_sumBy, Cond.selects RX0 yX0_sumBy yX0_sumBy, Cond.code yX0_sumBy cX0_sumBy 4 (some .int), Cond.methodLink RX11 89 yX11_error, Cond.instanceMethod yX11_error, Cond.selects RX11 yX11_error yX11_error]
def wsX11_pays_r3 : List Cond := [Cond.code yX11_error cX11_error 2 (some .int), Cond.fieldLink RX11 46 "FigureTill" "errors" "[I", Cond.constant RX11 296 (-1000000000), Cond.instanceMethod yX7_paid, Cond.initialized RX7, Cond.selects RX7 yX7_paid yX7_paid, Cond.code yX7_paid cX7_paid 4 (some .int), Cond.fieldLink RX7 18 "FigureTill$Shop" "tills" "[LFigureTill$Till;", Cond.fieldLink RX7 49 "FigureTill$Shop" "paysLaw" "LFigureTill$Law;", Cond.methodLink RX7 81 ⟨"FigureTill$Till", "due", "(IILFigureTill$Law;)I"⟩, Cond.sameMethod "FigureTill$Till" "FigureTill$Till" "due" "(IILFigureTill$Law;)I", Cond.instanceMethod ⟨"FigureTill$Till", "due", "(IILFigureTill$Law;)I"⟩, Cond.selects RX1 ⟨"FigureTill$Till", "due", "(IILFigureTill$Law;)I"⟩ yX1_due, Cond.instanceMethod yX1_due, Cond.initialized RX1, Cond.code yX1_due cX1_due 4 (some .int), Cond.fieldLink RX1 11 "FigureTill$ErrsTill" "m" "I", Cond.sameField "FigureTill$ErrsTill" "FigureTill$Till" "m" "I", Cond.static yX11_figureSum, Cond.code yX11_figureSum cX11_figureSum 5 (some .int), Cond.code yX8_due cX8_due 4 (some .int), Cond.selects RX2 ⟨"FigureTill$Till", "due", "(IILFigureTill$Law;)I"⟩ yX2_due, Cond.instanceMethod yX2_due, Cond.initialized RX2]
def wsX11_pays_r4 : List Cond := [Cond.code yX2_due cX2_due 4 (some .int), Cond.fieldLink RX2 11 "FigureTill$FloorTill" "m" "I", Cond.sameField "FigureTill$FloorTill" "FigureTill$Till" "m" "I", Cond.methodLink RX2 21 Lib.Math.max.name, Cond.static Lib.Math.max.name, Cond.initialized "java/lang/Math", Cond.code Lib.Math.max.name Lib.Math.max.code 2 (some .int), Cond.methodLink RX2 17 yX3_due, Cond.sameMethod "FigureTill$LastTill" "FigureTill$LastTill" "due" "(IILFigureTill$Law;)I", Cond.superclass RX2 RX3, Cond.instanceMethod yX3_due, Cond.initialized RX3, Cond.code yX3_due cX3_due 4 (some .int), Cond.selects RX3 ⟨"FigureTill$Till", "due", "(IILFigureTill$Law;)I"⟩ yX3_due, Cond.selects RX5 ⟨"FigureTill$Till", "due", "(IILFigureTill$Law;)I"⟩ yX5_due, Cond.instanceMethod yX5_due, Cond.initialized RX5, Cond.code yX5_due cX5_due 4 (some .int), Cond.fieldLink RX5 11 "FigureTill$OtherTill" "m" "I", Cond.sameField "FigureTill$OtherTill" "FigureTill$Till" "m" "I", Cond.static yX11_oneFigure, Cond.code yX11_oneFigure cX11_oneFigure 4 (some .int), Cond.methodLink RX11 122 yX11_figureSum, Cond.selects RX6 ⟨"FigureTill$Till", "due", "(IILFigureTill$Law;)I"⟩ yX6_due]
def wsX11_pays_r5 : List Cond := [Cond.instanceMethod yX6_due, Cond.initialized RX6, Cond.code yX6_due cX6_due 4 (some .int), Cond.methodLink RX7 81 yX8_due, Cond.instanceMethod yX8_due, Cond.selects RX8 yX8_due yX8_due, Cond.initialized RX8, Cond.selects RX9 ⟨"FigureTill$Till", "due", "(IILFigureTill$Law;)I"⟩ yX9_due, Cond.instanceMethod yX9_due, Cond.initialized RX9, Cond.code yX9_due cX9_due 4 (some .int), Cond.fieldLink RX9 17 "FigureTill$ToldTill" "m" "I", Cond.sameField "FigureTill$ToldTill" "FigureTill$Till" "m" "I", Cond.instanceMethod yX4_isTold, Cond.initialized RX4, Cond.selects RX4 yX4_isTold yX4_isTold, Cond.code yX4_isTold cX4_isTold 1 (some .boolean), Cond.fieldLink RX4 15 "FigureTill$Law" "length" "I", Cond.instanceMethod yX4_workedOut, Cond.selects RX4 yX4_workedOut yX4_workedOut, Cond.code yX4_workedOut cX4_workedOut 7 (some .int), Cond.fieldLink RX4 9 "FigureTill$Law" "code" "[I", Cond.fieldLink RX4 19 "FigureTill$Law" "stack" "[I", Cond.methodLink RX4 105 yX4_named]
def wsX11_pays_r6 : List Cond := [Cond.static yX4_named, Cond.code yX4_named cX4_named 4 (some .int), Cond.methodLink RX4 109 yX4_joined, Cond.static yX4_joined, Cond.code yX4_joined cX4_joined 3 (some .int), Cond.methodLink RX9 27 yX8_due, Cond.superclass RX9 RX8, Cond.static yX11_held, Cond.code yX11_held cX11_held 2 (some .int), Cond.methodLink RX11 205 Lib.Math.min.name, Cond.static Lib.Math.min.name, Cond.code Lib.Math.min.name Lib.Math.min.code 2 (some .int), Cond.methodLink RX11 297 Lib.Math.max.name]
def wsX11_pays : List Cond := .code yX11_pays cX11_pays 4 (some .int) :: ((wsX11_pays_r1 ++ (wsX11_pays_r2 ++ (wsX11_pays_r3 ++ (wsX11_pays_r4 ++ (wsX11_pays_r5 ++ wsX11_pays_r6))))) ++ wsX110 ++ wsX00 ++ wsX70 ++ wsX10 ++ wsX20 ++ wsX30 ++ wsX50 ++ wsX60 ++ wsX80 ++ wsX90 ++ wsX40)
def wsX11_go_r1 : List Cond := [Cond.fieldLink RX11 10 "FigureTill" "shop" "LFigureTill$Shop;", Cond.fieldLink RX11 52 "FigureTill" "one" "LFigureTill$Basket;", Cond.methodLink RX11 170 yX11_refusal, Cond.instanceMethod yX11_refusal, Cond.selects RX11 yX11_refusal yX11_refusal, Cond.initialized RX11, Cond.code yX11_refusal cX11_refusal 4 (some .int), Cond.methodLink RX11 154 yX11_isSheet, Cond.static yX11_isSheet, Cond.code yX11_isSheet cX11_isSheet 1 (some .boolean), Cond.methodLink RX11 81 yX11_within, Cond.static yX11_within, Cond.code yX11_within cX11_within 3 (some .boolean), Cond.methodLink RX11 99 yX11_isTill, Cond.static yX11_isTill, Cond.code yX11_isTill cX11_isTill 1 (some .boolean), Cond.methodLink RX11 157 yX11_refusal_, Cond.instanceMethod yX11_refusal_, Cond.selects RX11 yX11_refusal_ yX11_refusal_, Cond.code yX11_refusal_ cX11_refusal_ 3 (some .int), Cond.methodLink RX11 210 yX11_isMissing, Cond.instanceMethod yX11_isMissing, Cond.selects RX11 yX11_isMissing yX11_isMissing, Cond.code yX11_isMissing cX11_isMissing 2 (some .boolean)]
def wsX11_go_r2 : List Cond := [Cond.fieldLink RX11 27 "FigureTill" "sheetBits" "[I", Cond.methodLink RX11 213 yX11_reads, Cond.instanceMethod yX11_reads, Cond.selects RX11 yX11_reads yX11_reads, Cond.code yX11_reads cX11_reads 4 (some .boolean), Cond.fieldLink RX11 31 "FigureTill" "sheetLengths" "[I", Cond.fieldLink RX11 36 "FigureTill" "sheetNumbers" "[[I", Cond.instanceMethod yX0_clear, Cond.initialized RX0, Cond.selects RX0 yX0_clear yX0_clear, Cond.code yX0_clear cX0_clear 2 none, Cond.fieldLink RX0 9 "FigureTill$Basket" "row" "[I", Cond.fieldLink RX0 15 "FigureTill$Basket" "things" "I", Cond.fieldLink RX0 19 "FigureTill$Basket" "sum" "I", Cond.instanceMethod yX0_add, Cond.selects RX0 yX0_add yX0_add, Cond.code yX0_add cX0_add 3 none, Cond.methodLink RX0 28 yX0_sumBy, Cond.instanceMethod yX0_sumBy, Cond.selects RX0 yX0_sumBy yX0_sumBy, Cond.code yX0_sumBy cX0_sumBy 4 (some .int), Cond.methodLink RX11 89 yX11_error, Cond.instanceMethod yX11_error, Cond.selects RX11 yX11_error yX11_error]
def wsX11_go_r3 : List Cond := [Cond.code yX11_error cX11_error 2 (some .int), Cond.fieldLink RX11 46 "FigureTill" "errors" "[I", Cond.constant RX11 296 (-1000000000), Cond.instanceMethod yX7_hasStock, Cond.initialized RX7, Cond.selects RX7 yX7_hasStock yX7_hasStock, Cond.code yX7_hasStock cX7_hasStock 3 (some .boolean), Cond.fieldLink RX7 11 "FigureTill$Shop" "goods" "[[I", Cond.instanceMethod yX7_sold, Cond.selects RX7 yX7_sold yX7_sold, Cond.code yX7_sold cX7_sold 5 (some .int), Cond.constant RX7 111 (99999999), Cond.fieldLink RX7 22 "FigureTill$Shop" "takings" "I", Cond.methodLink RX7 112 Lib.Math.min.name, Cond.static Lib.Math.min.name, Cond.initialized "java/lang/Math", Cond.code Lib.Math.min.name Lib.Math.min.code 2 (some .int), Cond.fieldLink RX7 26 "FigureTill$Shop" "costs" "I", Cond.fieldLink RX7 29 "FigureTill$Shop" "goes" "I", Cond.methodLink RX7 108 yX7_paid, Cond.instanceMethod yX7_paid, Cond.selects RX7 yX7_paid yX7_paid, Cond.code yX7_paid cX7_paid 4 (some .int), Cond.fieldLink RX7 18 "FigureTill$Shop" "tills" "[LFigureTill$Till;"]
def wsX11_go_r4 : List Cond := [Cond.fieldLink RX7 49 "FigureTill$Shop" "paysLaw" "LFigureTill$Law;", Cond.methodLink RX7 81 ⟨"FigureTill$Till", "due", "(IILFigureTill$Law;)I"⟩, Cond.sameMethod "FigureTill$Till" "FigureTill$Till" "due" "(IILFigureTill$Law;)I", Cond.instanceMethod ⟨"FigureTill$Till", "due", "(IILFigureTill$Law;)I"⟩, Cond.selects RX1 ⟨"FigureTill$Till", "due", "(IILFigureTill$Law;)I"⟩ yX1_due, Cond.instanceMethod yX1_due, Cond.initialized RX1, Cond.code yX1_due cX1_due 4 (some .int), Cond.fieldLink RX1 11 "FigureTill$ErrsTill" "m" "I", Cond.sameField "FigureTill$ErrsTill" "FigureTill$Till" "m" "I", Cond.static yX11_figureSum, Cond.code yX11_figureSum cX11_figureSum 5 (some .int), Cond.code yX8_due cX8_due 4 (some .int), Cond.selects RX2 ⟨"FigureTill$Till", "due", "(IILFigureTill$Law;)I"⟩ yX2_due, Cond.instanceMethod yX2_due, Cond.initialized RX2, Cond.code yX2_due cX2_due 4 (some .int), Cond.fieldLink RX2 11 "FigureTill$FloorTill" "m" "I", Cond.sameField "FigureTill$FloorTill" "FigureTill$Till" "m" "I", Cond.methodLink RX2 21 Lib.Math.max.name, Cond.static Lib.Math.max.name, Cond.code Lib.Math.max.name Lib.Math.max.code 2 (some .int), Cond.methodLink RX2 17 yX3_due, Cond.sameMethod "FigureTill$LastTill" "FigureTill$LastTill" "due" "(IILFigureTill$Law;)I"]
def wsX11_go_r5 : List Cond := [Cond.superclass RX2 RX3, Cond.instanceMethod yX3_due, Cond.initialized RX3, Cond.code yX3_due cX3_due 4 (some .int), Cond.selects RX3 ⟨"FigureTill$Till", "due", "(IILFigureTill$Law;)I"⟩ yX3_due, Cond.selects RX5 ⟨"FigureTill$Till", "due", "(IILFigureTill$Law;)I"⟩ yX5_due, Cond.instanceMethod yX5_due, Cond.initialized RX5, Cond.code yX5_due cX5_due 4 (some .int), Cond.fieldLink RX5 11 "FigureTill$OtherTill" "m" "I", Cond.sameField "FigureTill$OtherTill" "FigureTill$Till" "m" "I", Cond.static yX11_oneFigure, Cond.code yX11_oneFigure cX11_oneFigure 4 (some .int), Cond.methodLink RX11 122 yX11_figureSum, Cond.selects RX6 ⟨"FigureTill$Till", "due", "(IILFigureTill$Law;)I"⟩ yX6_due, Cond.instanceMethod yX6_due, Cond.initialized RX6, Cond.code yX6_due cX6_due 4 (some .int), Cond.methodLink RX7 81 yX8_due, Cond.instanceMethod yX8_due, Cond.selects RX8 yX8_due yX8_due, Cond.initialized RX8, Cond.selects RX9 ⟨"FigureTill$Till", "due", "(IILFigureTill$Law;)I"⟩ yX9_due, Cond.instanceMethod yX9_due]
def wsX11_go_r6 : List Cond := [Cond.initialized RX9, Cond.code yX9_due cX9_due 4 (some .int), Cond.fieldLink RX9 17 "FigureTill$ToldTill" "m" "I", Cond.sameField "FigureTill$ToldTill" "FigureTill$Till" "m" "I", Cond.instanceMethod yX4_isTold, Cond.initialized RX4, Cond.selects RX4 yX4_isTold yX4_isTold, Cond.code yX4_isTold cX4_isTold 1 (some .boolean), Cond.fieldLink RX4 15 "FigureTill$Law" "length" "I", Cond.instanceMethod yX4_workedOut, Cond.selects RX4 yX4_workedOut yX4_workedOut, Cond.code yX4_workedOut cX4_workedOut 7 (some .int), Cond.fieldLink RX4 9 "FigureTill$Law" "code" "[I", Cond.fieldLink RX4 19 "FigureTill$Law" "stack" "[I", Cond.methodLink RX4 105 yX4_named, Cond.static yX4_named, Cond.code yX4_named cX4_named 4 (some .int), Cond.methodLink RX4 109 yX4_joined, Cond.static yX4_joined, Cond.code yX4_joined cX4_joined 3 (some .int), Cond.methodLink RX9 27 yX8_due, Cond.superclass RX9 RX8, Cond.static yX11_held, Cond.code yX11_held cX11_held 2 (some .int)]
def wsX11_go_r7 : List Cond := [Cond.methodLink RX11 205 Lib.Math.min.name, Cond.methodLink RX11 297 Lib.Math.max.name]
def wsX11_go : List Cond := .code yX11_go cX11_go 4 (some .int) :: ((wsX11_go_r1 ++ (wsX11_go_r2 ++ (wsX11_go_r3 ++ (wsX11_go_r4 ++ (wsX11_go_r5 ++ (wsX11_go_r6 ++ wsX11_go_r7)))))) ++ wsX110 ++ wsX00 ++ wsX70 ++ wsX10 ++ wsX20 ++ wsX30 ++ wsX50 ++ wsX60 ++ wsX80 ++ wsX90 ++ wsX40)
def wsX11_draws_r1 : List Cond := [Cond.fieldLink RX11 10 "FigureTill" "shop" "LFigureTill$Shop;", Cond.fieldLink RX11 52 "FigureTill" "one" "LFigureTill$Basket;", Cond.methodLink RX11 81 yX11_within, Cond.static yX11_within, Cond.initialized RX11, Cond.code yX11_within cX11_within 3 (some .boolean), Cond.methodLink RX11 89 yX11_error, Cond.instanceMethod yX11_error, Cond.selects RX11 yX11_error yX11_error, Cond.code yX11_error cX11_error 2 (some .int), Cond.fieldLink RX11 46 "FigureTill" "errors" "[I", Cond.constant RX11 296 (-1000000000), Cond.instanceMethod yX7_drawn, Cond.initialized RX7, Cond.selects RX7 yX7_drawn yX7_drawn, Cond.code yX7_drawn cX7_drawn 2 (some .int), Cond.fieldLink RX7 32 "FigureTill$Shop" "z" "I", Cond.constant RX7 121 (1103515245), Cond.instanceMethod yX0_clear, Cond.initialized RX0, Cond.selects RX0 yX0_clear yX0_clear, Cond.code yX0_clear cX0_clear 2 none, Cond.fieldLink RX0 9 "FigureTill$Basket" "row" "[I", Cond.fieldLink RX0 15 "FigureTill$Basket" "things" "I"]
def wsX11_draws_r2 : List Cond := [Cond.fieldLink RX0 19 "FigureTill$Basket" "sum" "I", Cond.instanceMethod yX0_add, Cond.selects RX0 yX0_add yX0_add, Cond.code yX0_add cX0_add 3 none, Cond.methodLink RX0 28 yX0_sumBy, Cond.instanceMethod yX0_sumBy, Cond.selects RX0 yX0_sumBy yX0_sumBy, Cond.code yX0_sumBy cX0_sumBy 4 (some .int), Cond.instanceMethod yX7_hasStock, Cond.selects RX7 yX7_hasStock yX7_hasStock, Cond.code yX7_hasStock cX7_hasStock 3 (some .boolean), Cond.fieldLink RX7 11 "FigureTill$Shop" "goods" "[[I", Cond.instanceMethod yX7_sold, Cond.selects RX7 yX7_sold yX7_sold, Cond.code yX7_sold cX7_sold 5 (some .int), Cond.constant RX7 111 (99999999), Cond.fieldLink RX7 22 "FigureTill$Shop" "takings" "I", Cond.methodLink RX7 112 Lib.Math.min.name, Cond.static Lib.Math.min.name, Cond.initialized "java/lang/Math", Cond.code Lib.Math.min.name Lib.Math.min.code 2 (some .int), Cond.fieldLink RX7 26 "FigureTill$Shop" "costs" "I", Cond.fieldLink RX7 29 "FigureTill$Shop" "goes" "I", Cond.methodLink RX7 108 yX7_paid]
def wsX11_draws_r3 : List Cond := [Cond.instanceMethod yX7_paid, Cond.selects RX7 yX7_paid yX7_paid, Cond.code yX7_paid cX7_paid 4 (some .int), Cond.fieldLink RX7 18 "FigureTill$Shop" "tills" "[LFigureTill$Till;", Cond.fieldLink RX7 49 "FigureTill$Shop" "paysLaw" "LFigureTill$Law;", Cond.methodLink RX7 81 ⟨"FigureTill$Till", "due", "(IILFigureTill$Law;)I"⟩, Cond.sameMethod "FigureTill$Till" "FigureTill$Till" "due" "(IILFigureTill$Law;)I", Cond.instanceMethod ⟨"FigureTill$Till", "due", "(IILFigureTill$Law;)I"⟩, Cond.selects RX1 ⟨"FigureTill$Till", "due", "(IILFigureTill$Law;)I"⟩ yX1_due, Cond.instanceMethod yX1_due, Cond.initialized RX1, Cond.code yX1_due cX1_due 4 (some .int), Cond.fieldLink RX1 11 "FigureTill$ErrsTill" "m" "I", Cond.sameField "FigureTill$ErrsTill" "FigureTill$Till" "m" "I", Cond.static yX11_figureSum, Cond.code yX11_figureSum cX11_figureSum 5 (some .int), Cond.code yX8_due cX8_due 4 (some .int), Cond.selects RX2 ⟨"FigureTill$Till", "due", "(IILFigureTill$Law;)I"⟩ yX2_due, Cond.instanceMethod yX2_due, Cond.initialized RX2, Cond.code yX2_due cX2_due 4 (some .int), Cond.fieldLink RX2 11 "FigureTill$FloorTill" "m" "I", Cond.sameField "FigureTill$FloorTill" "FigureTill$Till" "m" "I", Cond.methodLink RX2 21 Lib.Math.max.name]
def wsX11_draws_r4 : List Cond := [Cond.static Lib.Math.max.name, Cond.code Lib.Math.max.name Lib.Math.max.code 2 (some .int), Cond.methodLink RX2 17 yX3_due, Cond.sameMethod "FigureTill$LastTill" "FigureTill$LastTill" "due" "(IILFigureTill$Law;)I", Cond.superclass RX2 RX3, Cond.instanceMethod yX3_due, Cond.initialized RX3, Cond.code yX3_due cX3_due 4 (some .int), Cond.selects RX3 ⟨"FigureTill$Till", "due", "(IILFigureTill$Law;)I"⟩ yX3_due, Cond.selects RX5 ⟨"FigureTill$Till", "due", "(IILFigureTill$Law;)I"⟩ yX5_due, Cond.instanceMethod yX5_due, Cond.initialized RX5, Cond.code yX5_due cX5_due 4 (some .int), Cond.fieldLink RX5 11 "FigureTill$OtherTill" "m" "I", Cond.sameField "FigureTill$OtherTill" "FigureTill$Till" "m" "I", Cond.static yX11_oneFigure, Cond.code yX11_oneFigure cX11_oneFigure 4 (some .int), Cond.methodLink RX11 122 yX11_figureSum, Cond.selects RX6 ⟨"FigureTill$Till", "due", "(IILFigureTill$Law;)I"⟩ yX6_due, Cond.instanceMethod yX6_due, Cond.initialized RX6, Cond.code yX6_due cX6_due 4 (some .int), Cond.methodLink RX7 81 yX8_due, Cond.instanceMethod yX8_due]
def wsX11_draws_r5 : List Cond := [Cond.selects RX8 yX8_due yX8_due, Cond.initialized RX8, Cond.selects RX9 ⟨"FigureTill$Till", "due", "(IILFigureTill$Law;)I"⟩ yX9_due, Cond.instanceMethod yX9_due, Cond.initialized RX9, Cond.code yX9_due cX9_due 4 (some .int), Cond.fieldLink RX9 17 "FigureTill$ToldTill" "m" "I", Cond.sameField "FigureTill$ToldTill" "FigureTill$Till" "m" "I", Cond.instanceMethod yX4_isTold, Cond.initialized RX4, Cond.selects RX4 yX4_isTold yX4_isTold, Cond.code yX4_isTold cX4_isTold 1 (some .boolean), Cond.fieldLink RX4 15 "FigureTill$Law" "length" "I", Cond.instanceMethod yX4_workedOut, Cond.selects RX4 yX4_workedOut yX4_workedOut, Cond.code yX4_workedOut cX4_workedOut 7 (some .int), Cond.fieldLink RX4 9 "FigureTill$Law" "code" "[I", Cond.fieldLink RX4 19 "FigureTill$Law" "stack" "[I", Cond.methodLink RX4 105 yX4_named, Cond.static yX4_named, Cond.code yX4_named cX4_named 4 (some .int), Cond.methodLink RX4 109 yX4_joined, Cond.static yX4_joined, Cond.code yX4_joined cX4_joined 3 (some .int)]
def wsX11_draws_r6 : List Cond := [Cond.methodLink RX9 27 yX8_due, Cond.superclass RX9 RX8, Cond.static yX11_held, Cond.code yX11_held cX11_held 2 (some .int), Cond.methodLink RX11 205 Lib.Math.min.name, Cond.methodLink RX11 297 Lib.Math.max.name]
def wsX11_draws : List Cond := .code yX11_draws cX11_draws 7 (some .int) :: ((wsX11_draws_r1 ++ (wsX11_draws_r2 ++ (wsX11_draws_r3 ++ (wsX11_draws_r4 ++ (wsX11_draws_r5 ++ wsX11_draws_r6))))) ++ wsX110 ++ wsX00 ++ wsX70 ++ wsX10 ++ wsX20 ++ wsX30 ++ wsX50 ++ wsX60 ++ wsX80 ++ wsX90 ++ wsX40)
def wsX11_seed : List Cond := .code yX11_seed cX11_seed 3 (some .int) :: ([.fieldLink RX11 10 "FigureTill" "shop" "LFigureTill$Shop;"] ++ wsX110 ++ wsX70)
def wsX11_findCheapest_r1 : List Cond := [Cond.fieldLink RX11 62 "FigureTill" "room" "[I", Cond.fieldLink RX11 52 "FigureTill" "one" "LFigureTill$Basket;", Cond.fieldLink RX11 65 "FigureTill" "values" "[I", Cond.fieldLink RX11 10 "FigureTill" "shop" "LFigureTill$Shop;", Cond.methodLink RX11 205 Lib.Math.min.name, Cond.static Lib.Math.min.name, Cond.initialized "java/lang/Math", Cond.code Lib.Math.min.name Lib.Math.min.code 2 (some .int), Cond.fieldLink RX11 59 "FigureTill" "extra" "LFigureTill$Basket;", Cond.fieldLink RX11 68 "FigureTill" "best" "LFigureTill$Basket;", Cond.fieldLink RX11 71 "FigureTill" "bestPaid" "I", Cond.fieldLink RX11 74 "FigureTill" "bestNet" "I", Cond.constant RX11 200 (1000000), Cond.instanceMethod yX7_valueOf, Cond.initialized RX7, Cond.selects RX7 yX7_valueOf yX7_valueOf, Cond.code yX7_valueOf cX7_valueOf 2 (some .int), Cond.fieldLink RX7 55 "FigureTill$Shop" "valuesLaw" "LFigureTill$Law;", Cond.fieldLink RX7 11 "FigureTill$Shop" "goods" "[[I", Cond.instanceMethod yX4_isTold, Cond.initialized RX4, Cond.selects RX4 yX4_isTold yX4_isTold, Cond.code yX4_isTold cX4_isTold 1 (some .boolean), Cond.fieldLink RX4 15 "FigureTill$Law" "length" "I"]
def wsX11_findCheapest_r2 : List Cond := [Cond.instanceMethod yX4_workedOut, Cond.selects RX4 yX4_workedOut yX4_workedOut, Cond.code yX4_workedOut cX4_workedOut 7 (some .int), Cond.fieldLink RX4 9 "FigureTill$Law" "code" "[I", Cond.fieldLink RX4 19 "FigureTill$Law" "stack" "[I", Cond.methodLink RX4 105 yX4_named, Cond.static yX4_named, Cond.code yX4_named cX4_named 4 (some .int), Cond.methodLink RX4 109 yX4_joined, Cond.static yX4_joined, Cond.code yX4_joined cX4_joined 3 (some .int), Cond.static yX11_held, Cond.initialized RX11, Cond.code yX11_held cX11_held 2 (some .int), Cond.methodLink RX11 297 Lib.Math.max.name, Cond.static Lib.Math.max.name, Cond.code Lib.Math.max.name Lib.Math.max.code 2 (some .int), Cond.instanceMethod yX0_clear, Cond.initialized RX0, Cond.selects RX0 yX0_clear yX0_clear, Cond.code yX0_clear cX0_clear 2 none, Cond.fieldLink RX0 9 "FigureTill$Basket" "row" "[I", Cond.fieldLink RX0 15 "FigureTill$Basket" "things" "I", Cond.fieldLink RX0 19 "FigureTill$Basket" "sum" "I"]
def wsX11_findCheapest_r3 : List Cond := [Cond.instanceMethod yX0_copy, Cond.selects RX0 yX0_copy yX0_copy, Cond.code yX0_copy cX0_copy 2 none, Cond.methodLink RX0 22 arraycopyName, Cond.native arraycopyName, Cond.static arraycopyName, Cond.initialized "java/lang/System", Cond.instanceMethod yX7_paid, Cond.selects RX7 yX7_paid yX7_paid, Cond.code yX7_paid cX7_paid 4 (some .int), Cond.fieldLink RX7 18 "FigureTill$Shop" "tills" "[LFigureTill$Till;", Cond.fieldLink RX7 49 "FigureTill$Shop" "paysLaw" "LFigureTill$Law;", Cond.methodLink RX7 81 ⟨"FigureTill$Till", "due", "(IILFigureTill$Law;)I"⟩, Cond.sameMethod "FigureTill$Till" "FigureTill$Till" "due" "(IILFigureTill$Law;)I", Cond.instanceMethod ⟨"FigureTill$Till", "due", "(IILFigureTill$Law;)I"⟩, Cond.selects RX1 ⟨"FigureTill$Till", "due", "(IILFigureTill$Law;)I"⟩ yX1_due, Cond.instanceMethod yX1_due, Cond.initialized RX1, Cond.code yX1_due cX1_due 4 (some .int), Cond.fieldLink RX1 11 "FigureTill$ErrsTill" "m" "I", Cond.sameField "FigureTill$ErrsTill" "FigureTill$Till" "m" "I", Cond.static yX11_figureSum, Cond.code yX11_figureSum cX11_figureSum 5 (some .int), Cond.code yX8_due cX8_due 4 (some .int)]
def wsX11_findCheapest_r4 : List Cond := [Cond.selects RX2 ⟨"FigureTill$Till", "due", "(IILFigureTill$Law;)I"⟩ yX2_due, Cond.instanceMethod yX2_due, Cond.initialized RX2, Cond.code yX2_due cX2_due 4 (some .int), Cond.fieldLink RX2 11 "FigureTill$FloorTill" "m" "I", Cond.sameField "FigureTill$FloorTill" "FigureTill$Till" "m" "I", Cond.methodLink RX2 21 Lib.Math.max.name, Cond.methodLink RX2 17 yX3_due, Cond.sameMethod "FigureTill$LastTill" "FigureTill$LastTill" "due" "(IILFigureTill$Law;)I", Cond.superclass RX2 RX3, Cond.instanceMethod yX3_due, Cond.initialized RX3, Cond.code yX3_due cX3_due 4 (some .int), Cond.selects RX3 ⟨"FigureTill$Till", "due", "(IILFigureTill$Law;)I"⟩ yX3_due, Cond.selects RX5 ⟨"FigureTill$Till", "due", "(IILFigureTill$Law;)I"⟩ yX5_due, Cond.instanceMethod yX5_due, Cond.initialized RX5, Cond.code yX5_due cX5_due 4 (some .int), Cond.fieldLink RX5 11 "FigureTill$OtherTill" "m" "I", Cond.sameField "FigureTill$OtherTill" "FigureTill$Till" "m" "I", Cond.static yX11_oneFigure, Cond.code yX11_oneFigure cX11_oneFigure 4 (some .int), Cond.methodLink RX11 122 yX11_figureSum, Cond.selects RX6 ⟨"FigureTill$Till", "due", "(IILFigureTill$Law;)I"⟩ yX6_due]
def wsX11_findCheapest_r5 : List Cond := [Cond.instanceMethod yX6_due, Cond.initialized RX6, Cond.code yX6_due cX6_due 4 (some .int), Cond.methodLink RX7 81 yX8_due, Cond.instanceMethod yX8_due, Cond.selects RX8 yX8_due yX8_due, Cond.initialized RX8, Cond.selects RX9 ⟨"FigureTill$Till", "due", "(IILFigureTill$Law;)I"⟩ yX9_due, Cond.instanceMethod yX9_due, Cond.initialized RX9, Cond.code yX9_due cX9_due 4 (some .int), Cond.fieldLink RX9 17 "FigureTill$ToldTill" "m" "I", Cond.sameField "FigureTill$ToldTill" "FigureTill$Till" "m" "I", Cond.methodLink RX9 27 yX8_due, Cond.superclass RX9 RX8, Cond.instanceMethod yX0_step, Cond.selects RX0 yX0_step yX0_step, Cond.code yX0_step cX0_step 5 (some .boolean), Cond.instanceMethod yX0_sumBy, Cond.selects RX0 yX0_sumBy yX0_sumBy, Cond.code yX0_sumBy cX0_sumBy 4 (some .int)]
def wsX11_findCheapest : List Cond := .code yX11_findCheapest cX11_findCheapest 7 none :: ((wsX11_findCheapest_r1 ++ (wsX11_findCheapest_r2 ++ (wsX11_findCheapest_r3 ++ (wsX11_findCheapest_r4 ++ wsX11_findCheapest_r5)))) ++ wsX110 ++ wsX00 ++ wsX70 ++ wsX40 ++ wsX10 ++ wsX20 ++ wsX30 ++ wsX50 ++ wsX60 ++ wsX80 ++ wsX90)
def wsX11_more_r1 : List Cond := [Cond.fieldLink RX11 68 "FigureTill" "best" "LFigureTill$Basket;", Cond.fieldLink RX11 71 "FigureTill" "bestPaid" "I", Cond.fieldLink RX11 74 "FigureTill" "bestNet" "I", Cond.methodLink RX11 81 yX11_within, Cond.static yX11_within, Cond.initialized RX11, Cond.code yX11_within cX11_within 3 (some .boolean), Cond.methodLink RX11 89 yX11_error, Cond.instanceMethod yX11_error, Cond.selects RX11 yX11_error yX11_error, Cond.code yX11_error cX11_error 2 (some .int), Cond.fieldLink RX11 46 "FigureTill" "errors" "[I", Cond.constant RX11 296 (-1000000000), Cond.methodLink RX11 170 yX11_refusal, Cond.instanceMethod yX11_refusal, Cond.selects RX11 yX11_refusal yX11_refusal, Cond.code yX11_refusal cX11_refusal 4 (some .int), Cond.methodLink RX11 154 yX11_isSheet, Cond.static yX11_isSheet, Cond.code yX11_isSheet cX11_isSheet 1 (some .boolean), Cond.methodLink RX11 99 yX11_isTill, Cond.static yX11_isTill, Cond.code yX11_isTill cX11_isTill 1 (some .boolean), Cond.methodLink RX11 157 yX11_refusal_]
def wsX11_more_r2 : List Cond := [Cond.instanceMethod yX11_refusal_, Cond.selects RX11 yX11_refusal_ yX11_refusal_, Cond.code yX11_refusal_ cX11_refusal_ 3 (some .int), Cond.fieldLink RX11 52 "FigureTill" "one" "LFigureTill$Basket;", Cond.methodLink RX11 210 yX11_isMissing, Cond.instanceMethod yX11_isMissing, Cond.selects RX11 yX11_isMissing yX11_isMissing, Cond.code yX11_isMissing cX11_isMissing 2 (some .boolean), Cond.fieldLink RX11 27 "FigureTill" "sheetBits" "[I", Cond.methodLink RX11 213 yX11_reads, Cond.instanceMethod yX11_reads, Cond.selects RX11 yX11_reads yX11_reads, Cond.code yX11_reads cX11_reads 4 (some .boolean), Cond.fieldLink RX11 31 "FigureTill" "sheetLengths" "[I", Cond.fieldLink RX11 36 "FigureTill" "sheetNumbers" "[[I", Cond.fieldLink RX11 10 "FigureTill" "shop" "LFigureTill$Shop;", Cond.instanceMethod yX0_clear, Cond.initialized RX0, Cond.selects RX0 yX0_clear yX0_clear, Cond.code yX0_clear cX0_clear 2 none, Cond.fieldLink RX0 9 "FigureTill$Basket" "row" "[I", Cond.fieldLink RX0 15 "FigureTill$Basket" "things" "I", Cond.fieldLink RX0 19 "FigureTill$Basket" "sum" "I", Cond.instanceMethod yX0_add]
def wsX11_more_r3 : List Cond := [Cond.selects RX0 yX0_add yX0_add, Cond.code yX0_add cX0_add 3 none, Cond.methodLink RX0 28 yX0_sumBy, Cond.instanceMethod yX0_sumBy, Cond.selects RX0 yX0_sumBy yX0_sumBy, Cond.code yX0_sumBy cX0_sumBy 4 (some .int), Cond.methodLink RX11 196 yX11_findCheapest, Cond.instanceMethod yX11_findCheapest, Cond.selects RX11 yX11_findCheapest yX11_findCheapest, Cond.code yX11_findCheapest cX11_findCheapest 7 none, Cond.fieldLink RX11 62 "FigureTill" "room" "[I", Cond.fieldLink RX11 65 "FigureTill" "values" "[I", Cond.methodLink RX11 205 Lib.Math.min.name, Cond.static Lib.Math.min.name, Cond.initialized "java/lang/Math", Cond.code Lib.Math.min.name Lib.Math.min.code 2 (some .int), Cond.fieldLink RX11 59 "FigureTill" "extra" "LFigureTill$Basket;", Cond.constant RX11 200 (1000000), Cond.instanceMethod yX7_valueOf, Cond.initialized RX7, Cond.selects RX7 yX7_valueOf yX7_valueOf, Cond.code yX7_valueOf cX7_valueOf 2 (some .int), Cond.fieldLink RX7 55 "FigureTill$Shop" "valuesLaw" "LFigureTill$Law;", Cond.fieldLink RX7 11 "FigureTill$Shop" "goods" "[[I"]
def wsX11_more_r4 : List Cond := [Cond.instanceMethod yX4_isTold, Cond.initialized RX4, Cond.selects RX4 yX4_isTold yX4_isTold, Cond.code yX4_isTold cX4_isTold 1 (some .boolean), Cond.fieldLink RX4 15 "FigureTill$Law" "length" "I", Cond.instanceMethod yX4_workedOut, Cond.selects RX4 yX4_workedOut yX4_workedOut, Cond.code yX4_workedOut cX4_workedOut 7 (some .int), Cond.fieldLink RX4 9 "FigureTill$Law" "code" "[I", Cond.fieldLink RX4 19 "FigureTill$Law" "stack" "[I", Cond.methodLink RX4 105 yX4_named, Cond.static yX4_named, Cond.code yX4_named cX4_named 4 (some .int), Cond.methodLink RX4 109 yX4_joined, Cond.static yX4_joined, Cond.code yX4_joined cX4_joined 3 (some .int), Cond.static yX11_held, Cond.code yX11_held cX11_held 2 (some .int), Cond.methodLink RX11 297 Lib.Math.max.name, Cond.static Lib.Math.max.name, Cond.code Lib.Math.max.name Lib.Math.max.code 2 (some .int), Cond.instanceMethod yX0_copy, Cond.selects RX0 yX0_copy yX0_copy, Cond.code yX0_copy cX0_copy 2 none]
def wsX11_more_r5 : List Cond := [Cond.methodLink RX0 22 arraycopyName, Cond.native arraycopyName, Cond.static arraycopyName, Cond.initialized "java/lang/System", Cond.instanceMethod yX7_paid, Cond.selects RX7 yX7_paid yX7_paid, Cond.code yX7_paid cX7_paid 4 (some .int), Cond.fieldLink RX7 18 "FigureTill$Shop" "tills" "[LFigureTill$Till;", Cond.fieldLink RX7 49 "FigureTill$Shop" "paysLaw" "LFigureTill$Law;", Cond.methodLink RX7 81 ⟨"FigureTill$Till", "due", "(IILFigureTill$Law;)I"⟩, Cond.sameMethod "FigureTill$Till" "FigureTill$Till" "due" "(IILFigureTill$Law;)I", Cond.instanceMethod ⟨"FigureTill$Till", "due", "(IILFigureTill$Law;)I"⟩, Cond.selects RX1 ⟨"FigureTill$Till", "due", "(IILFigureTill$Law;)I"⟩ yX1_due, Cond.instanceMethod yX1_due, Cond.initialized RX1, Cond.code yX1_due cX1_due 4 (some .int), Cond.fieldLink RX1 11 "FigureTill$ErrsTill" "m" "I", Cond.sameField "FigureTill$ErrsTill" "FigureTill$Till" "m" "I", Cond.static yX11_figureSum, Cond.code yX11_figureSum cX11_figureSum 5 (some .int), Cond.code yX8_due cX8_due 4 (some .int), Cond.selects RX2 ⟨"FigureTill$Till", "due", "(IILFigureTill$Law;)I"⟩ yX2_due, Cond.instanceMethod yX2_due, Cond.initialized RX2]
def wsX11_more_r6 : List Cond := [Cond.code yX2_due cX2_due 4 (some .int), Cond.fieldLink RX2 11 "FigureTill$FloorTill" "m" "I", Cond.sameField "FigureTill$FloorTill" "FigureTill$Till" "m" "I", Cond.methodLink RX2 21 Lib.Math.max.name, Cond.methodLink RX2 17 yX3_due, Cond.sameMethod "FigureTill$LastTill" "FigureTill$LastTill" "due" "(IILFigureTill$Law;)I", Cond.superclass RX2 RX3, Cond.instanceMethod yX3_due, Cond.initialized RX3, Cond.code yX3_due cX3_due 4 (some .int), Cond.selects RX3 ⟨"FigureTill$Till", "due", "(IILFigureTill$Law;)I"⟩ yX3_due, Cond.selects RX5 ⟨"FigureTill$Till", "due", "(IILFigureTill$Law;)I"⟩ yX5_due, Cond.instanceMethod yX5_due, Cond.initialized RX5, Cond.code yX5_due cX5_due 4 (some .int), Cond.fieldLink RX5 11 "FigureTill$OtherTill" "m" "I", Cond.sameField "FigureTill$OtherTill" "FigureTill$Till" "m" "I", Cond.static yX11_oneFigure, Cond.code yX11_oneFigure cX11_oneFigure 4 (some .int), Cond.methodLink RX11 122 yX11_figureSum, Cond.selects RX6 ⟨"FigureTill$Till", "due", "(IILFigureTill$Law;)I"⟩ yX6_due, Cond.instanceMethod yX6_due, Cond.initialized RX6, Cond.code yX6_due cX6_due 4 (some .int)]
def wsX11_more_r7 : List Cond := [Cond.methodLink RX7 81 yX8_due, Cond.instanceMethod yX8_due, Cond.selects RX8 yX8_due yX8_due, Cond.initialized RX8, Cond.selects RX9 ⟨"FigureTill$Till", "due", "(IILFigureTill$Law;)I"⟩ yX9_due, Cond.instanceMethod yX9_due, Cond.initialized RX9, Cond.code yX9_due cX9_due 4 (some .int), Cond.fieldLink RX9 17 "FigureTill$ToldTill" "m" "I", Cond.sameField "FigureTill$ToldTill" "FigureTill$Till" "m" "I", Cond.methodLink RX9 27 yX8_due, Cond.superclass RX9 RX8, Cond.instanceMethod yX0_step, Cond.selects RX0 yX0_step yX0_step, Cond.code yX0_step cX0_step 5 (some .boolean)]
def wsX11_more : List Cond := .code yX11_more cX11_more 6 (some .int) :: ((wsX11_more_r1 ++ (wsX11_more_r2 ++ (wsX11_more_r3 ++ (wsX11_more_r4 ++ (wsX11_more_r5 ++ (wsX11_more_r6 ++ wsX11_more_r7)))))) ++ wsX110 ++ wsX00 ++ wsX70 ++ wsX40 ++ wsX10 ++ wsX20 ++ wsX30 ++ wsX50 ++ wsX60 ++ wsX80 ++ wsX90)
def wsX11_inTwo_r1 : List Cond := [Cond.fieldLink RX11 59 "FigureTill" "extra" "LFigureTill$Basket;", Cond.fieldLink RX11 10 "FigureTill" "shop" "LFigureTill$Shop;", Cond.fieldLink RX11 52 "FigureTill" "one" "LFigureTill$Basket;", Cond.constant RX11 200 (1000000), Cond.methodLink RX11 205 Lib.Math.min.name, Cond.static Lib.Math.min.name, Cond.initialized "java/lang/Math", Cond.code Lib.Math.min.name Lib.Math.min.code 2 (some .int), Cond.methodLink RX11 170 yX11_refusal, Cond.instanceMethod yX11_refusal, Cond.selects RX11 yX11_refusal yX11_refusal, Cond.initialized RX11, Cond.code yX11_refusal cX11_refusal 4 (some .int), Cond.methodLink RX11 154 yX11_isSheet, Cond.static yX11_isSheet, Cond.code yX11_isSheet cX11_isSheet 1 (some .boolean), Cond.methodLink RX11 81 yX11_within, Cond.static yX11_within, Cond.code yX11_within cX11_within 3 (some .boolean), Cond.methodLink RX11 99 yX11_isTill, Cond.static yX11_isTill, Cond.code yX11_isTill cX11_isTill 1 (some .boolean), Cond.methodLink RX11 157 yX11_refusal_, Cond.instanceMethod yX11_refusal_]
def wsX11_inTwo_r2 : List Cond := [Cond.selects RX11 yX11_refusal_ yX11_refusal_, Cond.code yX11_refusal_ cX11_refusal_ 3 (some .int), Cond.methodLink RX11 210 yX11_isMissing, Cond.instanceMethod yX11_isMissing, Cond.selects RX11 yX11_isMissing yX11_isMissing, Cond.code yX11_isMissing cX11_isMissing 2 (some .boolean), Cond.fieldLink RX11 27 "FigureTill" "sheetBits" "[I", Cond.methodLink RX11 213 yX11_reads, Cond.instanceMethod yX11_reads, Cond.selects RX11 yX11_reads yX11_reads, Cond.code yX11_reads cX11_reads 4 (some .boolean), Cond.fieldLink RX11 31 "FigureTill" "sheetLengths" "[I", Cond.fieldLink RX11 36 "FigureTill" "sheetNumbers" "[[I", Cond.instanceMethod yX0_clear, Cond.initialized RX0, Cond.selects RX0 yX0_clear yX0_clear, Cond.code yX0_clear cX0_clear 2 none, Cond.fieldLink RX0 9 "FigureTill$Basket" "row" "[I", Cond.fieldLink RX0 15 "FigureTill$Basket" "things" "I", Cond.fieldLink RX0 19 "FigureTill$Basket" "sum" "I", Cond.instanceMethod yX0_add, Cond.selects RX0 yX0_add yX0_add, Cond.code yX0_add cX0_add 3 none, Cond.methodLink RX0 28 yX0_sumBy]
def wsX11_inTwo_r3 : List Cond := [Cond.instanceMethod yX0_sumBy, Cond.selects RX0 yX0_sumBy yX0_sumBy, Cond.code yX0_sumBy cX0_sumBy 4 (some .int), Cond.methodLink RX11 89 yX11_error, Cond.instanceMethod yX11_error, Cond.selects RX11 yX11_error yX11_error, Cond.code yX11_error cX11_error 2 (some .int), Cond.fieldLink RX11 46 "FigureTill" "errors" "[I", Cond.constant RX11 296 (-1000000000), Cond.instanceMethod yX7_paid, Cond.initialized RX7, Cond.selects RX7 yX7_paid yX7_paid, Cond.code yX7_paid cX7_paid 4 (some .int), Cond.fieldLink RX7 18 "FigureTill$Shop" "tills" "[LFigureTill$Till;", Cond.fieldLink RX7 49 "FigureTill$Shop" "paysLaw" "LFigureTill$Law;", Cond.methodLink RX7 81 ⟨"FigureTill$Till", "due", "(IILFigureTill$Law;)I"⟩, Cond.sameMethod "FigureTill$Till" "FigureTill$Till" "due" "(IILFigureTill$Law;)I", Cond.instanceMethod ⟨"FigureTill$Till", "due", "(IILFigureTill$Law;)I"⟩, Cond.selects RX1 ⟨"FigureTill$Till", "due", "(IILFigureTill$Law;)I"⟩ yX1_due, Cond.instanceMethod yX1_due, Cond.initialized RX1, Cond.code yX1_due cX1_due 4 (some .int), Cond.fieldLink RX1 11 "FigureTill$ErrsTill" "m" "I", Cond.sameField "FigureTill$ErrsTill" "FigureTill$Till" "m" "I"]
def wsX11_inTwo_r4 : List Cond := [Cond.static yX11_figureSum, Cond.code yX11_figureSum cX11_figureSum 5 (some .int), Cond.code yX8_due cX8_due 4 (some .int), Cond.selects RX2 ⟨"FigureTill$Till", "due", "(IILFigureTill$Law;)I"⟩ yX2_due, Cond.instanceMethod yX2_due, Cond.initialized RX2, Cond.code yX2_due cX2_due 4 (some .int), Cond.fieldLink RX2 11 "FigureTill$FloorTill" "m" "I", Cond.sameField "FigureTill$FloorTill" "FigureTill$Till" "m" "I", Cond.methodLink RX2 21 Lib.Math.max.name, Cond.static Lib.Math.max.name, Cond.code Lib.Math.max.name Lib.Math.max.code 2 (some .int), Cond.methodLink RX2 17 yX3_due, Cond.sameMethod "FigureTill$LastTill" "FigureTill$LastTill" "due" "(IILFigureTill$Law;)I", Cond.superclass RX2 RX3, Cond.instanceMethod yX3_due, Cond.initialized RX3, Cond.code yX3_due cX3_due 4 (some .int), Cond.selects RX3 ⟨"FigureTill$Till", "due", "(IILFigureTill$Law;)I"⟩ yX3_due, Cond.selects RX5 ⟨"FigureTill$Till", "due", "(IILFigureTill$Law;)I"⟩ yX5_due, Cond.instanceMethod yX5_due, Cond.initialized RX5, Cond.code yX5_due cX5_due 4 (some .int), Cond.fieldLink RX5 11 "FigureTill$OtherTill" "m" "I"]
def wsX11_inTwo_r5 : List Cond := [Cond.sameField "FigureTill$OtherTill" "FigureTill$Till" "m" "I", Cond.static yX11_oneFigure, Cond.code yX11_oneFigure cX11_oneFigure 4 (some .int), Cond.methodLink RX11 122 yX11_figureSum, Cond.selects RX6 ⟨"FigureTill$Till", "due", "(IILFigureTill$Law;)I"⟩ yX6_due, Cond.instanceMethod yX6_due, Cond.initialized RX6, Cond.code yX6_due cX6_due 4 (some .int), Cond.methodLink RX7 81 yX8_due, Cond.instanceMethod yX8_due, Cond.selects RX8 yX8_due yX8_due, Cond.initialized RX8, Cond.selects RX9 ⟨"FigureTill$Till", "due", "(IILFigureTill$Law;)I"⟩ yX9_due, Cond.instanceMethod yX9_due, Cond.initialized RX9, Cond.code yX9_due cX9_due 4 (some .int), Cond.fieldLink RX9 17 "FigureTill$ToldTill" "m" "I", Cond.sameField "FigureTill$ToldTill" "FigureTill$Till" "m" "I", Cond.instanceMethod yX4_isTold, Cond.initialized RX4, Cond.selects RX4 yX4_isTold yX4_isTold, Cond.code yX4_isTold cX4_isTold 1 (some .boolean), Cond.fieldLink RX4 15 "FigureTill$Law" "length" "I", Cond.instanceMethod yX4_workedOut]
def wsX11_inTwo_r6 : List Cond := [Cond.selects RX4 yX4_workedOut yX4_workedOut, Cond.code yX4_workedOut cX4_workedOut 7 (some .int), Cond.fieldLink RX4 9 "FigureTill$Law" "code" "[I", Cond.fieldLink RX4 19 "FigureTill$Law" "stack" "[I", Cond.methodLink RX4 105 yX4_named, Cond.static yX4_named, Cond.code yX4_named cX4_named 4 (some .int), Cond.methodLink RX4 109 yX4_joined, Cond.static yX4_joined, Cond.code yX4_joined cX4_joined 3 (some .int), Cond.methodLink RX9 27 yX8_due, Cond.superclass RX9 RX8, Cond.static yX11_held, Cond.code yX11_held cX11_held 2 (some .int), Cond.methodLink RX11 297 Lib.Math.max.name, Cond.instanceMethod yX0_step, Cond.selects RX0 yX0_step yX0_step, Cond.code yX0_step cX0_step 5 (some .boolean)]
def wsX11_inTwo : List Cond := .code yX11_inTwo cX11_inTwo 7 (some .int) :: ((wsX11_inTwo_r1 ++ (wsX11_inTwo_r2 ++ (wsX11_inTwo_r3 ++ (wsX11_inTwo_r4 ++ (wsX11_inTwo_r5 ++ wsX11_inTwo_r6))))) ++ wsX110 ++ wsX00 ++ wsX70 ++ wsX10 ++ wsX20 ++ wsX30 ++ wsX50 ++ wsX60 ++ wsX80 ++ wsX90 ++ wsX40)
def wsX11_together_r1 : List Cond := [Cond.fieldLink RX11 52 "FigureTill" "one" "LFigureTill$Basket;", Cond.fieldLink RX11 56 "FigureTill" "second" "LFigureTill$Basket;", Cond.fieldLink RX11 10 "FigureTill" "shop" "LFigureTill$Shop;", Cond.methodLink RX11 154 yX11_isSheet, Cond.static yX11_isSheet, Cond.initialized RX11, Cond.code yX11_isSheet cX11_isSheet 1 (some .boolean), Cond.methodLink RX11 81 yX11_within, Cond.static yX11_within, Cond.code yX11_within cX11_within 3 (some .boolean), Cond.methodLink RX11 99 yX11_isTill, Cond.static yX11_isTill, Cond.code yX11_isTill cX11_isTill 1 (some .boolean), Cond.methodLink RX11 89 yX11_error, Cond.instanceMethod yX11_error, Cond.selects RX11 yX11_error yX11_error, Cond.code yX11_error cX11_error 2 (some .int), Cond.fieldLink RX11 46 "FigureTill" "errors" "[I", Cond.constant RX11 296 (-1000000000), Cond.methodLink RX11 210 yX11_isMissing, Cond.instanceMethod yX11_isMissing, Cond.selects RX11 yX11_isMissing yX11_isMissing, Cond.code yX11_isMissing cX11_isMissing 2 (some .boolean), Cond.fieldLink RX11 27 "FigureTill" "sheetBits" "[I"]
def wsX11_together_r2 : List Cond := [Cond.methodLink RX11 213 yX11_reads, Cond.instanceMethod yX11_reads, Cond.selects RX11 yX11_reads yX11_reads, Cond.code yX11_reads cX11_reads 4 (some .boolean), Cond.fieldLink RX11 31 "FigureTill" "sheetLengths" "[I", Cond.fieldLink RX11 36 "FigureTill" "sheetNumbers" "[[I", Cond.instanceMethod yX0_clear, Cond.initialized RX0, Cond.selects RX0 yX0_clear yX0_clear, Cond.code yX0_clear cX0_clear 2 none, Cond.fieldLink RX0 9 "FigureTill$Basket" "row" "[I", Cond.fieldLink RX0 15 "FigureTill$Basket" "things" "I", Cond.fieldLink RX0 19 "FigureTill$Basket" "sum" "I", Cond.instanceMethod yX0_add, Cond.selects RX0 yX0_add yX0_add, Cond.code yX0_add cX0_add 3 none, Cond.methodLink RX0 28 yX0_sumBy, Cond.instanceMethod yX0_sumBy, Cond.selects RX0 yX0_sumBy yX0_sumBy, Cond.code yX0_sumBy cX0_sumBy 4 (some .int), Cond.instanceMethod yX7_paid, Cond.initialized RX7, Cond.selects RX7 yX7_paid yX7_paid, Cond.code yX7_paid cX7_paid 4 (some .int)]
def wsX11_together_r3 : List Cond := [Cond.fieldLink RX7 18 "FigureTill$Shop" "tills" "[LFigureTill$Till;", Cond.fieldLink RX7 49 "FigureTill$Shop" "paysLaw" "LFigureTill$Law;", Cond.methodLink RX7 81 ⟨"FigureTill$Till", "due", "(IILFigureTill$Law;)I"⟩, Cond.sameMethod "FigureTill$Till" "FigureTill$Till" "due" "(IILFigureTill$Law;)I", Cond.instanceMethod ⟨"FigureTill$Till", "due", "(IILFigureTill$Law;)I"⟩, Cond.selects RX1 ⟨"FigureTill$Till", "due", "(IILFigureTill$Law;)I"⟩ yX1_due, Cond.instanceMethod yX1_due, Cond.initialized RX1, Cond.code yX1_due cX1_due 4 (some .int), Cond.fieldLink RX1 11 "FigureTill$ErrsTill" "m" "I", Cond.sameField "FigureTill$ErrsTill" "FigureTill$Till" "m" "I", Cond.static yX11_figureSum, Cond.code yX11_figureSum cX11_figureSum 5 (some .int), Cond.code yX8_due cX8_due 4 (some .int), Cond.selects RX2 ⟨"FigureTill$Till", "due", "(IILFigureTill$Law;)I"⟩ yX2_due, Cond.instanceMethod yX2_due, Cond.initialized RX2, Cond.code yX2_due cX2_due 4 (some .int), Cond.fieldLink RX2 11 "FigureTill$FloorTill" "m" "I", Cond.sameField "FigureTill$FloorTill" "FigureTill$Till" "m" "I", Cond.methodLink RX2 21 Lib.Math.max.name, Cond.static Lib.Math.max.name, Cond.initialized "java/lang/Math", Cond.code Lib.Math.max.name Lib.Math.max.code 2 (some .int)]
def wsX11_together_r4 : List Cond := [Cond.methodLink RX2 17 yX3_due, Cond.sameMethod "FigureTill$LastTill" "FigureTill$LastTill" "due" "(IILFigureTill$Law;)I", Cond.superclass RX2 RX3, Cond.instanceMethod yX3_due, Cond.initialized RX3, Cond.code yX3_due cX3_due 4 (some .int), Cond.selects RX3 ⟨"FigureTill$Till", "due", "(IILFigureTill$Law;)I"⟩ yX3_due, Cond.selects RX5 ⟨"FigureTill$Till", "due", "(IILFigureTill$Law;)I"⟩ yX5_due, Cond.instanceMethod yX5_due, Cond.initialized RX5, Cond.code yX5_due cX5_due 4 (some .int), Cond.fieldLink RX5 11 "FigureTill$OtherTill" "m" "I", Cond.sameField "FigureTill$OtherTill" "FigureTill$Till" "m" "I", Cond.static yX11_oneFigure, Cond.code yX11_oneFigure cX11_oneFigure 4 (some .int), Cond.methodLink RX11 122 yX11_figureSum, Cond.selects RX6 ⟨"FigureTill$Till", "due", "(IILFigureTill$Law;)I"⟩ yX6_due, Cond.instanceMethod yX6_due, Cond.initialized RX6, Cond.code yX6_due cX6_due 4 (some .int), Cond.methodLink RX7 81 yX8_due, Cond.instanceMethod yX8_due, Cond.selects RX8 yX8_due yX8_due, Cond.initialized RX8]
def wsX11_together_r5 : List Cond := [Cond.selects RX9 ⟨"FigureTill$Till", "due", "(IILFigureTill$Law;)I"⟩ yX9_due, Cond.instanceMethod yX9_due, Cond.initialized RX9, Cond.code yX9_due cX9_due 4 (some .int), Cond.fieldLink RX9 17 "FigureTill$ToldTill" "m" "I", Cond.sameField "FigureTill$ToldTill" "FigureTill$Till" "m" "I", Cond.instanceMethod yX4_isTold, Cond.initialized RX4, Cond.selects RX4 yX4_isTold yX4_isTold, Cond.code yX4_isTold cX4_isTold 1 (some .boolean), Cond.fieldLink RX4 15 "FigureTill$Law" "length" "I", Cond.instanceMethod yX4_workedOut, Cond.selects RX4 yX4_workedOut yX4_workedOut, Cond.code yX4_workedOut cX4_workedOut 7 (some .int), Cond.fieldLink RX4 9 "FigureTill$Law" "code" "[I", Cond.fieldLink RX4 19 "FigureTill$Law" "stack" "[I", Cond.methodLink RX4 105 yX4_named, Cond.static yX4_named, Cond.code yX4_named cX4_named 4 (some .int), Cond.methodLink RX4 109 yX4_joined, Cond.static yX4_joined, Cond.code yX4_joined cX4_joined 3 (some .int), Cond.methodLink RX9 27 yX8_due, Cond.superclass RX9 RX8]
def wsX11_together_r6 : List Cond := [Cond.static yX11_held, Cond.code yX11_held cX11_held 2 (some .int), Cond.methodLink RX11 205 Lib.Math.min.name, Cond.static Lib.Math.min.name, Cond.code Lib.Math.min.name Lib.Math.min.code 2 (some .int), Cond.methodLink RX11 297 Lib.Math.max.name]
def wsX11_together : List Cond := .code yX11_together cX11_together 5 (some .int) :: ((wsX11_together_r1 ++ (wsX11_together_r2 ++ (wsX11_together_r3 ++ (wsX11_together_r4 ++ (wsX11_together_r5 ++ wsX11_together_r6))))) ++ wsX110 ++ wsX00 ++ wsX70 ++ wsX10 ++ wsX20 ++ wsX30 ++ wsX50 ++ wsX60 ++ wsX80 ++ wsX90 ++ wsX40)
def wsX11_worth_r1 : List Cond := [Cond.fieldLink RX11 10 "FigureTill" "shop" "LFigureTill$Shop;", Cond.fieldLink RX11 52 "FigureTill" "one" "LFigureTill$Basket;", Cond.methodLink RX11 77 yX11_isThing, Cond.static yX11_isThing, Cond.initialized RX11, Cond.code yX11_isThing cX11_isThing 1 (some .boolean), Cond.methodLink RX11 81 yX11_within, Cond.static yX11_within, Cond.code yX11_within cX11_within 3 (some .boolean), Cond.methodLink RX11 89 yX11_error, Cond.instanceMethod yX11_error, Cond.selects RX11 yX11_error yX11_error, Cond.code yX11_error cX11_error 2 (some .int), Cond.fieldLink RX11 46 "FigureTill" "errors" "[I", Cond.constant RX11 296 (-1000000000), Cond.methodLink RX11 170 yX11_refusal, Cond.instanceMethod yX11_refusal, Cond.selects RX11 yX11_refusal yX11_refusal, Cond.code yX11_refusal cX11_refusal 4 (some .int), Cond.methodLink RX11 154 yX11_isSheet, Cond.static yX11_isSheet, Cond.code yX11_isSheet cX11_isSheet 1 (some .boolean), Cond.methodLink RX11 99 yX11_isTill, Cond.static yX11_isTill]
def wsX11_worth_r2 : List Cond := [Cond.code yX11_isTill cX11_isTill 1 (some .boolean), Cond.methodLink RX11 157 yX11_refusal_, Cond.instanceMethod yX11_refusal_, Cond.selects RX11 yX11_refusal_ yX11_refusal_, Cond.code yX11_refusal_ cX11_refusal_ 3 (some .int), Cond.methodLink RX11 210 yX11_isMissing, Cond.instanceMethod yX11_isMissing, Cond.selects RX11 yX11_isMissing yX11_isMissing, Cond.code yX11_isMissing cX11_isMissing 2 (some .boolean), Cond.fieldLink RX11 27 "FigureTill" "sheetBits" "[I", Cond.methodLink RX11 213 yX11_reads, Cond.instanceMethod yX11_reads, Cond.selects RX11 yX11_reads yX11_reads, Cond.code yX11_reads cX11_reads 4 (some .boolean), Cond.fieldLink RX11 31 "FigureTill" "sheetLengths" "[I", Cond.fieldLink RX11 36 "FigureTill" "sheetNumbers" "[[I", Cond.instanceMethod yX0_clear, Cond.initialized RX0, Cond.selects RX0 yX0_clear yX0_clear, Cond.code yX0_clear cX0_clear 2 none, Cond.fieldLink RX0 9 "FigureTill$Basket" "row" "[I", Cond.fieldLink RX0 15 "FigureTill$Basket" "things" "I", Cond.fieldLink RX0 19 "FigureTill$Basket" "sum" "I", Cond.instanceMethod yX0_add]
def wsX11_worth_r3 : List Cond := [Cond.selects RX0 yX0_add yX0_add, Cond.code yX0_add cX0_add 3 none, Cond.methodLink RX0 28 yX0_sumBy, Cond.instanceMethod yX0_sumBy, Cond.selects RX0 yX0_sumBy yX0_sumBy, Cond.code yX0_sumBy cX0_sumBy 4 (some .int), Cond.instanceMethod yX7_paid, Cond.initialized RX7, Cond.selects RX7 yX7_paid yX7_paid, Cond.code yX7_paid cX7_paid 4 (some .int), Cond.fieldLink RX7 18 "FigureTill$Shop" "tills" "[LFigureTill$Till;", Cond.fieldLink RX7 49 "FigureTill$Shop" "paysLaw" "LFigureTill$Law;", Cond.methodLink RX7 81 ⟨"FigureTill$Till", "due", "(IILFigureTill$Law;)I"⟩, Cond.sameMethod "FigureTill$Till" "FigureTill$Till" "due" "(IILFigureTill$Law;)I", Cond.instanceMethod ⟨"FigureTill$Till", "due", "(IILFigureTill$Law;)I"⟩, Cond.selects RX1 ⟨"FigureTill$Till", "due", "(IILFigureTill$Law;)I"⟩ yX1_due, Cond.instanceMethod yX1_due, Cond.initialized RX1, Cond.code yX1_due cX1_due 4 (some .int), Cond.fieldLink RX1 11 "FigureTill$ErrsTill" "m" "I", Cond.sameField "FigureTill$ErrsTill" "FigureTill$Till" "m" "I", Cond.static yX11_figureSum, Cond.code yX11_figureSum cX11_figureSum 5 (some .int), Cond.code yX8_due cX8_due 4 (some .int)]
def wsX11_worth_r4 : List Cond := [Cond.selects RX2 ⟨"FigureTill$Till", "due", "(IILFigureTill$Law;)I"⟩ yX2_due, Cond.instanceMethod yX2_due, Cond.initialized RX2, Cond.code yX2_due cX2_due 4 (some .int), Cond.fieldLink RX2 11 "FigureTill$FloorTill" "m" "I", Cond.sameField "FigureTill$FloorTill" "FigureTill$Till" "m" "I", Cond.methodLink RX2 21 Lib.Math.max.name, Cond.static Lib.Math.max.name, Cond.initialized "java/lang/Math", Cond.code Lib.Math.max.name Lib.Math.max.code 2 (some .int), Cond.methodLink RX2 17 yX3_due, Cond.sameMethod "FigureTill$LastTill" "FigureTill$LastTill" "due" "(IILFigureTill$Law;)I", Cond.superclass RX2 RX3, Cond.instanceMethod yX3_due, Cond.initialized RX3, Cond.code yX3_due cX3_due 4 (some .int), Cond.selects RX3 ⟨"FigureTill$Till", "due", "(IILFigureTill$Law;)I"⟩ yX3_due, Cond.selects RX5 ⟨"FigureTill$Till", "due", "(IILFigureTill$Law;)I"⟩ yX5_due, Cond.instanceMethod yX5_due, Cond.initialized RX5, Cond.code yX5_due cX5_due 4 (some .int), Cond.fieldLink RX5 11 "FigureTill$OtherTill" "m" "I", Cond.sameField "FigureTill$OtherTill" "FigureTill$Till" "m" "I", Cond.static yX11_oneFigure]
def wsX11_worth_r5 : List Cond := [Cond.code yX11_oneFigure cX11_oneFigure 4 (some .int), Cond.methodLink RX11 122 yX11_figureSum, Cond.selects RX6 ⟨"FigureTill$Till", "due", "(IILFigureTill$Law;)I"⟩ yX6_due, Cond.instanceMethod yX6_due, Cond.initialized RX6, Cond.code yX6_due cX6_due 4 (some .int), Cond.methodLink RX7 81 yX8_due, Cond.instanceMethod yX8_due, Cond.selects RX8 yX8_due yX8_due, Cond.initialized RX8, Cond.selects RX9 ⟨"FigureTill$Till", "due", "(IILFigureTill$Law;)I"⟩ yX9_due, Cond.instanceMethod yX9_due, Cond.initialized RX9, Cond.code yX9_due cX9_due 4 (some .int), Cond.fieldLink RX9 17 "FigureTill$ToldTill" "m" "I", Cond.sameField "FigureTill$ToldTill" "FigureTill$Till" "m" "I", Cond.instanceMethod yX4_isTold, Cond.initialized RX4, Cond.selects RX4 yX4_isTold yX4_isTold, Cond.code yX4_isTold cX4_isTold 1 (some .boolean), Cond.fieldLink RX4 15 "FigureTill$Law" "length" "I", Cond.instanceMethod yX4_workedOut, Cond.selects RX4 yX4_workedOut yX4_workedOut, Cond.code yX4_workedOut cX4_workedOut 7 (some .int)]
def wsX11_worth_r6 : List Cond := [Cond.fieldLink RX4 9 "FigureTill$Law" "code" "[I", Cond.fieldLink RX4 19 "FigureTill$Law" "stack" "[I", Cond.methodLink RX4 105 yX4_named, Cond.static yX4_named, Cond.code yX4_named cX4_named 4 (some .int), Cond.methodLink RX4 109 yX4_joined, Cond.static yX4_joined, Cond.code yX4_joined cX4_joined 3 (some .int), Cond.methodLink RX9 27 yX8_due, Cond.superclass RX9 RX8, Cond.static yX11_held, Cond.code yX11_held cX11_held 2 (some .int), Cond.methodLink RX11 205 Lib.Math.min.name, Cond.static Lib.Math.min.name, Cond.code Lib.Math.min.name Lib.Math.min.code 2 (some .int), Cond.methodLink RX11 297 Lib.Math.max.name]
def wsX11_worth : List Cond := .code yX11_worth cX11_worth 5 (some .int) :: ((wsX11_worth_r1 ++ (wsX11_worth_r2 ++ (wsX11_worth_r3 ++ (wsX11_worth_r4 ++ (wsX11_worth_r5 ++ wsX11_worth_r6))))) ++ wsX110 ++ wsX00 ++ wsX70 ++ wsX10 ++ wsX20 ++ wsX30 ++ wsX50 ++ wsX60 ++ wsX80 ++ wsX90 ++ wsX40)
def wsX11_paidIfDearer_r1 : List Cond := [Cond.fieldLink RX11 10 "FigureTill" "shop" "LFigureTill$Shop;", Cond.fieldLink RX11 52 "FigureTill" "one" "LFigureTill$Basket;", Cond.fieldLink RX11 71 "FigureTill" "bestPaid" "I", Cond.methodLink RX11 85 yX11_isGood, Cond.static yX11_isGood, Cond.initialized RX11, Cond.code yX11_isGood cX11_isGood 2 (some .boolean), Cond.fieldLink RX11 300 "FigureTill" "LEAST" "[I", Cond.fieldLink RX11 303 "FigureTill" "MOST" "[I", Cond.methodLink RX11 81 yX11_within, Cond.static yX11_within, Cond.code yX11_within cX11_within 3 (some .boolean), Cond.instanceMethod yX0_add, Cond.initialized RX0, Cond.selects RX0 yX0_add yX0_add, Cond.code yX0_add cX0_add 3 none, Cond.fieldLink RX0 15 "FigureTill$Basket" "things" "I", Cond.fieldLink RX0 9 "FigureTill$Basket" "row" "[I", Cond.fieldLink RX0 19 "FigureTill$Basket" "sum" "I", Cond.methodLink RX0 28 yX0_sumBy, Cond.instanceMethod yX0_sumBy, Cond.selects RX0 yX0_sumBy yX0_sumBy, Cond.code yX0_sumBy cX0_sumBy 4 (some .int), Cond.methodLink RX11 196 yX11_findCheapest]
def wsX11_paidIfDearer_r2 : List Cond := [Cond.instanceMethod yX11_findCheapest, Cond.selects RX11 yX11_findCheapest yX11_findCheapest, Cond.code yX11_findCheapest cX11_findCheapest 7 none, Cond.fieldLink RX11 62 "FigureTill" "room" "[I", Cond.fieldLink RX11 65 "FigureTill" "values" "[I", Cond.methodLink RX11 205 Lib.Math.min.name, Cond.static Lib.Math.min.name, Cond.initialized "java/lang/Math", Cond.code Lib.Math.min.name Lib.Math.min.code 2 (some .int), Cond.fieldLink RX11 59 "FigureTill" "extra" "LFigureTill$Basket;", Cond.fieldLink RX11 68 "FigureTill" "best" "LFigureTill$Basket;", Cond.fieldLink RX11 74 "FigureTill" "bestNet" "I", Cond.constant RX11 200 (1000000), Cond.instanceMethod yX7_valueOf, Cond.initialized RX7, Cond.selects RX7 yX7_valueOf yX7_valueOf, Cond.code yX7_valueOf cX7_valueOf 2 (some .int), Cond.fieldLink RX7 55 "FigureTill$Shop" "valuesLaw" "LFigureTill$Law;", Cond.fieldLink RX7 11 "FigureTill$Shop" "goods" "[[I", Cond.instanceMethod yX4_isTold, Cond.initialized RX4, Cond.selects RX4 yX4_isTold yX4_isTold, Cond.code yX4_isTold cX4_isTold 1 (some .boolean), Cond.fieldLink RX4 15 "FigureTill$Law" "length" "I"]
def wsX11_paidIfDearer_r3 : List Cond := [Cond.instanceMethod yX4_workedOut, Cond.selects RX4 yX4_workedOut yX4_workedOut, Cond.code yX4_workedOut cX4_workedOut 7 (some .int), Cond.fieldLink RX4 9 "FigureTill$Law" "code" "[I", Cond.fieldLink RX4 19 "FigureTill$Law" "stack" "[I", Cond.methodLink RX4 105 yX4_named, Cond.static yX4_named, Cond.code yX4_named cX4_named 4 (some .int), Cond.methodLink RX4 109 yX4_joined, Cond.static yX4_joined, Cond.code yX4_joined cX4_joined 3 (some .int), Cond.static yX11_held, Cond.code yX11_held cX11_held 2 (some .int), Cond.methodLink RX11 297 Lib.Math.max.name, Cond.static Lib.Math.max.name, Cond.code Lib.Math.max.name Lib.Math.max.code 2 (some .int), Cond.instanceMethod yX0_clear, Cond.selects RX0 yX0_clear yX0_clear, Cond.code yX0_clear cX0_clear 2 none, Cond.instanceMethod yX0_copy, Cond.selects RX0 yX0_copy yX0_copy, Cond.code yX0_copy cX0_copy 2 none, Cond.methodLink RX0 22 arraycopyName, Cond.native arraycopyName]
def wsX11_paidIfDearer_r4 : List Cond := [Cond.static arraycopyName, Cond.initialized "java/lang/System", Cond.instanceMethod yX7_paid, Cond.selects RX7 yX7_paid yX7_paid, Cond.code yX7_paid cX7_paid 4 (some .int), Cond.fieldLink RX7 18 "FigureTill$Shop" "tills" "[LFigureTill$Till;", Cond.fieldLink RX7 49 "FigureTill$Shop" "paysLaw" "LFigureTill$Law;", Cond.methodLink RX7 81 ⟨"FigureTill$Till", "due", "(IILFigureTill$Law;)I"⟩, Cond.sameMethod "FigureTill$Till" "FigureTill$Till" "due" "(IILFigureTill$Law;)I", Cond.instanceMethod ⟨"FigureTill$Till", "due", "(IILFigureTill$Law;)I"⟩, Cond.selects RX1 ⟨"FigureTill$Till", "due", "(IILFigureTill$Law;)I"⟩ yX1_due, Cond.instanceMethod yX1_due, Cond.initialized RX1, Cond.code yX1_due cX1_due 4 (some .int), Cond.fieldLink RX1 11 "FigureTill$ErrsTill" "m" "I", Cond.sameField "FigureTill$ErrsTill" "FigureTill$Till" "m" "I", Cond.static yX11_figureSum, Cond.code yX11_figureSum cX11_figureSum 5 (some .int), Cond.code yX8_due cX8_due 4 (some .int), Cond.selects RX2 ⟨"FigureTill$Till", "due", "(IILFigureTill$Law;)I"⟩ yX2_due, Cond.instanceMethod yX2_due, Cond.initialized RX2, Cond.code yX2_due cX2_due 4 (some .int), Cond.fieldLink RX2 11 "FigureTill$FloorTill" "m" "I"]
def wsX11_paidIfDearer_r5 : List Cond := [Cond.sameField "FigureTill$FloorTill" "FigureTill$Till" "m" "I", Cond.methodLink RX2 21 Lib.Math.max.name, Cond.methodLink RX2 17 yX3_due, Cond.sameMethod "FigureTill$LastTill" "FigureTill$LastTill" "due" "(IILFigureTill$Law;)I", Cond.superclass RX2 RX3, Cond.instanceMethod yX3_due, Cond.initialized RX3, Cond.code yX3_due cX3_due 4 (some .int), Cond.selects RX3 ⟨"FigureTill$Till", "due", "(IILFigureTill$Law;)I"⟩ yX3_due, Cond.selects RX5 ⟨"FigureTill$Till", "due", "(IILFigureTill$Law;)I"⟩ yX5_due, Cond.instanceMethod yX5_due, Cond.initialized RX5, Cond.code yX5_due cX5_due 4 (some .int), Cond.fieldLink RX5 11 "FigureTill$OtherTill" "m" "I", Cond.sameField "FigureTill$OtherTill" "FigureTill$Till" "m" "I", Cond.static yX11_oneFigure, Cond.code yX11_oneFigure cX11_oneFigure 4 (some .int), Cond.methodLink RX11 122 yX11_figureSum, Cond.selects RX6 ⟨"FigureTill$Till", "due", "(IILFigureTill$Law;)I"⟩ yX6_due, Cond.instanceMethod yX6_due, Cond.initialized RX6, Cond.code yX6_due cX6_due 4 (some .int), Cond.methodLink RX7 81 yX8_due, Cond.instanceMethod yX8_due]
def wsX11_paidIfDearer_r6 : List Cond := [Cond.selects RX8 yX8_due yX8_due, Cond.initialized RX8, Cond.selects RX9 ⟨"FigureTill$Till", "due", "(IILFigureTill$Law;)I"⟩ yX9_due, Cond.instanceMethod yX9_due, Cond.initialized RX9, Cond.code yX9_due cX9_due 4 (some .int), Cond.fieldLink RX9 17 "FigureTill$ToldTill" "m" "I", Cond.sameField "FigureTill$ToldTill" "FigureTill$Till" "m" "I", Cond.methodLink RX9 27 yX8_due, Cond.superclass RX9 RX8, Cond.instanceMethod yX0_step, Cond.selects RX0 yX0_step yX0_step, Cond.code yX0_step cX0_step 5 (some .boolean)]
def wsX11_paidIfDearer : List Cond := .code yX11_paidIfDearer cX11_paidIfDearer 7 (some .int) :: ((wsX11_paidIfDearer_r1 ++ (wsX11_paidIfDearer_r2 ++ (wsX11_paidIfDearer_r3 ++ (wsX11_paidIfDearer_r4 ++ (wsX11_paidIfDearer_r5 ++ wsX11_paidIfDearer_r6))))) ++ wsX110 ++ wsX70 ++ wsX00 ++ wsX40 ++ wsX10 ++ wsX20 ++ wsX30 ++ wsX50 ++ wsX60 ++ wsX80 ++ wsX90)
def wsX11_dearer_r1 : List Cond := [Cond.fieldLink RX11 71 "FigureTill" "bestPaid" "I", Cond.methodLink RX11 81 yX11_within, Cond.static yX11_within, Cond.initialized RX11, Cond.code yX11_within cX11_within 3 (some .boolean), Cond.methodLink RX11 89 yX11_error, Cond.instanceMethod yX11_error, Cond.selects RX11 yX11_error yX11_error, Cond.code yX11_error cX11_error 2 (some .int), Cond.fieldLink RX11 46 "FigureTill" "errors" "[I", Cond.constant RX11 296 (-1000000000), Cond.methodLink RX11 170 yX11_refusal, Cond.instanceMethod yX11_refusal, Cond.selects RX11 yX11_refusal yX11_refusal, Cond.code yX11_refusal cX11_refusal 4 (some .int), Cond.methodLink RX11 154 yX11_isSheet, Cond.static yX11_isSheet, Cond.code yX11_isSheet cX11_isSheet 1 (some .boolean), Cond.methodLink RX11 99 yX11_isTill, Cond.static yX11_isTill, Cond.code yX11_isTill cX11_isTill 1 (some .boolean), Cond.methodLink RX11 157 yX11_refusal_, Cond.instanceMethod yX11_refusal_, Cond.selects RX11 yX11_refusal_ yX11_refusal_]
def wsX11_dearer_r2 : List Cond := [Cond.code yX11_refusal_ cX11_refusal_ 3 (some .int), Cond.fieldLink RX11 52 "FigureTill" "one" "LFigureTill$Basket;", Cond.methodLink RX11 210 yX11_isMissing, Cond.instanceMethod yX11_isMissing, Cond.selects RX11 yX11_isMissing yX11_isMissing, Cond.code yX11_isMissing cX11_isMissing 2 (some .boolean), Cond.fieldLink RX11 27 "FigureTill" "sheetBits" "[I", Cond.methodLink RX11 213 yX11_reads, Cond.instanceMethod yX11_reads, Cond.selects RX11 yX11_reads yX11_reads, Cond.code yX11_reads cX11_reads 4 (some .boolean), Cond.fieldLink RX11 31 "FigureTill" "sheetLengths" "[I", Cond.fieldLink RX11 36 "FigureTill" "sheetNumbers" "[[I", Cond.fieldLink RX11 10 "FigureTill" "shop" "LFigureTill$Shop;", Cond.instanceMethod yX0_clear, Cond.initialized RX0, Cond.selects RX0 yX0_clear yX0_clear, Cond.code yX0_clear cX0_clear 2 none, Cond.fieldLink RX0 9 "FigureTill$Basket" "row" "[I", Cond.fieldLink RX0 15 "FigureTill$Basket" "things" "I", Cond.fieldLink RX0 19 "FigureTill$Basket" "sum" "I", Cond.instanceMethod yX0_add, Cond.selects RX0 yX0_add yX0_add, Cond.code yX0_add cX0_add 3 none]
def wsX11_dearer_r3 : List Cond := [Cond.methodLink RX0 28 yX0_sumBy, Cond.instanceMethod yX0_sumBy, Cond.selects RX0 yX0_sumBy yX0_sumBy, Cond.code yX0_sumBy cX0_sumBy 4 (some .int), Cond.methodLink RX11 196 yX11_findCheapest, Cond.instanceMethod yX11_findCheapest, Cond.selects RX11 yX11_findCheapest yX11_findCheapest, Cond.code yX11_findCheapest cX11_findCheapest 7 none, Cond.fieldLink RX11 62 "FigureTill" "room" "[I", Cond.fieldLink RX11 65 "FigureTill" "values" "[I", Cond.methodLink RX11 205 Lib.Math.min.name, Cond.static Lib.Math.min.name, Cond.initialized "java/lang/Math", Cond.code Lib.Math.min.name Lib.Math.min.code 2 (some .int), Cond.fieldLink RX11 59 "FigureTill" "extra" "LFigureTill$Basket;", Cond.fieldLink RX11 68 "FigureTill" "best" "LFigureTill$Basket;", Cond.fieldLink RX11 74 "FigureTill" "bestNet" "I", Cond.constant RX11 200 (1000000), Cond.instanceMethod yX7_valueOf, Cond.initialized RX7, Cond.selects RX7 yX7_valueOf yX7_valueOf, Cond.code yX7_valueOf cX7_valueOf 2 (some .int), Cond.fieldLink RX7 55 "FigureTill$Shop" "valuesLaw" "LFigureTill$Law;", Cond.fieldLink RX7 11 "FigureTill$Shop" "goods" "[[I"]
def wsX11_dearer_r4 : List Cond := [Cond.instanceMethod yX4_isTold, Cond.initialized RX4, Cond.selects RX4 yX4_isTold yX4_isTold, Cond.code yX4_isTold cX4_isTold 1 (some .boolean), Cond.fieldLink RX4 15 "FigureTill$Law" "length" "I", Cond.instanceMethod yX4_workedOut, Cond.selects RX4 yX4_workedOut yX4_workedOut, Cond.code yX4_workedOut cX4_workedOut 7 (some .int), Cond.fieldLink RX4 9 "FigureTill$Law" "code" "[I", Cond.fieldLink RX4 19 "FigureTill$Law" "stack" "[I", Cond.methodLink RX4 105 yX4_named, Cond.static yX4_named, Cond.code yX4_named cX4_named 4 (some .int), Cond.methodLink RX4 109 yX4_joined, Cond.static yX4_joined, Cond.code yX4_joined cX4_joined 3 (some .int), Cond.static yX11_held, Cond.code yX11_held cX11_held 2 (some .int), Cond.methodLink RX11 297 Lib.Math.max.name, Cond.static Lib.Math.max.name, Cond.code Lib.Math.max.name Lib.Math.max.code 2 (some .int), Cond.instanceMethod yX0_copy, Cond.selects RX0 yX0_copy yX0_copy, Cond.code yX0_copy cX0_copy 2 none]
def wsX11_dearer_r5 : List Cond := [Cond.methodLink RX0 22 arraycopyName, Cond.native arraycopyName, Cond.static arraycopyName, Cond.initialized "java/lang/System", Cond.instanceMethod yX7_paid, Cond.selects RX7 yX7_paid yX7_paid, Cond.code yX7_paid cX7_paid 4 (some .int), Cond.fieldLink RX7 18 "FigureTill$Shop" "tills" "[LFigureTill$Till;", Cond.fieldLink RX7 49 "FigureTill$Shop" "paysLaw" "LFigureTill$Law;", Cond.methodLink RX7 81 ⟨"FigureTill$Till", "due", "(IILFigureTill$Law;)I"⟩, Cond.sameMethod "FigureTill$Till" "FigureTill$Till" "due" "(IILFigureTill$Law;)I", Cond.instanceMethod ⟨"FigureTill$Till", "due", "(IILFigureTill$Law;)I"⟩, Cond.selects RX1 ⟨"FigureTill$Till", "due", "(IILFigureTill$Law;)I"⟩ yX1_due, Cond.instanceMethod yX1_due, Cond.initialized RX1, Cond.code yX1_due cX1_due 4 (some .int), Cond.fieldLink RX1 11 "FigureTill$ErrsTill" "m" "I", Cond.sameField "FigureTill$ErrsTill" "FigureTill$Till" "m" "I", Cond.static yX11_figureSum, Cond.code yX11_figureSum cX11_figureSum 5 (some .int), Cond.code yX8_due cX8_due 4 (some .int), Cond.selects RX2 ⟨"FigureTill$Till", "due", "(IILFigureTill$Law;)I"⟩ yX2_due, Cond.instanceMethod yX2_due, Cond.initialized RX2]
def wsX11_dearer_r6 : List Cond := [Cond.code yX2_due cX2_due 4 (some .int), Cond.fieldLink RX2 11 "FigureTill$FloorTill" "m" "I", Cond.sameField "FigureTill$FloorTill" "FigureTill$Till" "m" "I", Cond.methodLink RX2 21 Lib.Math.max.name, Cond.methodLink RX2 17 yX3_due, Cond.sameMethod "FigureTill$LastTill" "FigureTill$LastTill" "due" "(IILFigureTill$Law;)I", Cond.superclass RX2 RX3, Cond.instanceMethod yX3_due, Cond.initialized RX3, Cond.code yX3_due cX3_due 4 (some .int), Cond.selects RX3 ⟨"FigureTill$Till", "due", "(IILFigureTill$Law;)I"⟩ yX3_due, Cond.selects RX5 ⟨"FigureTill$Till", "due", "(IILFigureTill$Law;)I"⟩ yX5_due, Cond.instanceMethod yX5_due, Cond.initialized RX5, Cond.code yX5_due cX5_due 4 (some .int), Cond.fieldLink RX5 11 "FigureTill$OtherTill" "m" "I", Cond.sameField "FigureTill$OtherTill" "FigureTill$Till" "m" "I", Cond.static yX11_oneFigure, Cond.code yX11_oneFigure cX11_oneFigure 4 (some .int), Cond.methodLink RX11 122 yX11_figureSum, Cond.selects RX6 ⟨"FigureTill$Till", "due", "(IILFigureTill$Law;)I"⟩ yX6_due, Cond.instanceMethod yX6_due, Cond.initialized RX6, Cond.code yX6_due cX6_due 4 (some .int)]
def wsX11_dearer_r7 : List Cond := [Cond.methodLink RX7 81 yX8_due, Cond.instanceMethod yX8_due, Cond.selects RX8 yX8_due yX8_due, Cond.initialized RX8, Cond.selects RX9 ⟨"FigureTill$Till", "due", "(IILFigureTill$Law;)I"⟩ yX9_due, Cond.instanceMethod yX9_due, Cond.initialized RX9, Cond.code yX9_due cX9_due 4 (some .int), Cond.fieldLink RX9 17 "FigureTill$ToldTill" "m" "I", Cond.sameField "FigureTill$ToldTill" "FigureTill$Till" "m" "I", Cond.methodLink RX9 27 yX8_due, Cond.superclass RX9 RX8, Cond.instanceMethod yX0_step, Cond.selects RX0 yX0_step yX0_step, Cond.code yX0_step cX0_step 5 (some .boolean), Cond.methodLink RX11 217 yX11_paidIfDearer, Cond.instanceMethod yX11_paidIfDearer, Cond.selects RX11 yX11_paidIfDearer yX11_paidIfDearer, Cond.code yX11_paidIfDearer cX11_paidIfDearer 7 (some .int), Cond.methodLink RX11 85 yX11_isGood, Cond.static yX11_isGood, Cond.code yX11_isGood cX11_isGood 2 (some .boolean), Cond.fieldLink RX11 300 "FigureTill" "LEAST" "[I", Cond.fieldLink RX11 303 "FigureTill" "MOST" "[I"]
def wsX11_dearer : List Cond := .code yX11_dearer cX11_dearer 10 (some .int) :: ((wsX11_dearer_r1 ++ (wsX11_dearer_r2 ++ (wsX11_dearer_r3 ++ (wsX11_dearer_r4 ++ (wsX11_dearer_r5 ++ (wsX11_dearer_r6 ++ wsX11_dearer_r7)))))) ++ wsX110 ++ wsX00 ++ wsX70 ++ wsX40 ++ wsX10 ++ wsX20 ++ wsX30 ++ wsX50 ++ wsX60 ++ wsX80 ++ wsX90)
def wsX11_allByNine : List Cond := .code yX11_allByNine cX11_allByNine 2 (some .int) :: ([.fieldLink RX11 10 "FigureTill" "shop" "LFigureTill$Shop;"] ++ wsX110 ++ wsX70)
def wsX11_startFew : List Cond := .code yX11_startFew cX11_startFew 2 none :: ([.fieldLink RX11 59 "FigureTill" "extra" "LFigureTill$Basket;", .fieldLink RX11 62 "FigureTill" "room" "[I", .instanceMethod yX0_clear, .initialized RX0, .selects RX0 yX0_clear yX0_clear, .code yX0_clear cX0_clear 2 none, .fieldLink RX0 9 "FigureTill$Basket" "row" "[I", .fieldLink RX0 15 "FigureTill$Basket" "things" "I", .fieldLink RX0 19 "FigureTill$Basket" "sum" "I"] ++ wsX110 ++ wsX00)
def wsX11_leastOfFew_r1 : List Cond := [Cond.constant RX11 200 (1000000), Cond.fieldLink RX11 59 "FigureTill" "extra" "LFigureTill$Basket;", Cond.fieldLink RX11 62 "FigureTill" "room" "[I", Cond.fieldLink RX11 10 "FigureTill" "shop" "LFigureTill$Shop;", Cond.methodLink RX11 205 Lib.Math.min.name, Cond.static Lib.Math.min.name, Cond.initialized "java/lang/Math", Cond.code Lib.Math.min.name Lib.Math.min.code 2 (some .int), Cond.methodLink RX11 233 yX11_startFew, Cond.instanceMethod yX11_startFew, Cond.selects RX11 yX11_startFew yX11_startFew, Cond.initialized RX11, Cond.code yX11_startFew cX11_startFew 2 none, Cond.instanceMethod yX0_clear, Cond.initialized RX0, Cond.selects RX0 yX0_clear yX0_clear, Cond.code yX0_clear cX0_clear 2 none, Cond.fieldLink RX0 9 "FigureTill$Basket" "row" "[I", Cond.fieldLink RX0 15 "FigureTill$Basket" "things" "I", Cond.fieldLink RX0 19 "FigureTill$Basket" "sum" "I", Cond.instanceMethod yX0_step, Cond.selects RX0 yX0_step yX0_step, Cond.code yX0_step cX0_step 5 (some .boolean), Cond.instanceMethod yX7_paid]
def wsX11_leastOfFew_r2 : List Cond := [Cond.initialized RX7, Cond.selects RX7 yX7_paid yX7_paid, Cond.code yX7_paid cX7_paid 4 (some .int), Cond.fieldLink RX7 18 "FigureTill$Shop" "tills" "[LFigureTill$Till;", Cond.fieldLink RX7 49 "FigureTill$Shop" "paysLaw" "LFigureTill$Law;", Cond.methodLink RX7 81 ⟨"FigureTill$Till", "due", "(IILFigureTill$Law;)I"⟩, Cond.sameMethod "FigureTill$Till" "FigureTill$Till" "due" "(IILFigureTill$Law;)I", Cond.instanceMethod ⟨"FigureTill$Till", "due", "(IILFigureTill$Law;)I"⟩, Cond.selects RX1 ⟨"FigureTill$Till", "due", "(IILFigureTill$Law;)I"⟩ yX1_due, Cond.instanceMethod yX1_due, Cond.initialized RX1, Cond.code yX1_due cX1_due 4 (some .int), Cond.fieldLink RX1 11 "FigureTill$ErrsTill" "m" "I", Cond.sameField "FigureTill$ErrsTill" "FigureTill$Till" "m" "I", Cond.static yX11_figureSum, Cond.code yX11_figureSum cX11_figureSum 5 (some .int), Cond.code yX8_due cX8_due 4 (some .int), Cond.selects RX2 ⟨"FigureTill$Till", "due", "(IILFigureTill$Law;)I"⟩ yX2_due, Cond.instanceMethod yX2_due, Cond.initialized RX2, Cond.code yX2_due cX2_due 4 (some .int), Cond.fieldLink RX2 11 "FigureTill$FloorTill" "m" "I", Cond.sameField "FigureTill$FloorTill" "FigureTill$Till" "m" "I", Cond.methodLink RX2 21 Lib.Math.max.name]
def wsX11_leastOfFew_r3 : List Cond := [Cond.static Lib.Math.max.name, Cond.code Lib.Math.max.name Lib.Math.max.code 2 (some .int), Cond.methodLink RX2 17 yX3_due, Cond.sameMethod "FigureTill$LastTill" "FigureTill$LastTill" "due" "(IILFigureTill$Law;)I", Cond.superclass RX2 RX3, Cond.instanceMethod yX3_due, Cond.initialized RX3, Cond.code yX3_due cX3_due 4 (some .int), Cond.selects RX3 ⟨"FigureTill$Till", "due", "(IILFigureTill$Law;)I"⟩ yX3_due, Cond.selects RX5 ⟨"FigureTill$Till", "due", "(IILFigureTill$Law;)I"⟩ yX5_due, Cond.instanceMethod yX5_due, Cond.initialized RX5, Cond.code yX5_due cX5_due 4 (some .int), Cond.fieldLink RX5 11 "FigureTill$OtherTill" "m" "I", Cond.sameField "FigureTill$OtherTill" "FigureTill$Till" "m" "I", Cond.static yX11_oneFigure, Cond.code yX11_oneFigure cX11_oneFigure 4 (some .int), Cond.methodLink RX11 122 yX11_figureSum, Cond.selects RX6 ⟨"FigureTill$Till", "due", "(IILFigureTill$Law;)I"⟩ yX6_due, Cond.instanceMethod yX6_due, Cond.initialized RX6, Cond.code yX6_due cX6_due 4 (some .int), Cond.methodLink RX7 81 yX8_due, Cond.instanceMethod yX8_due]
def wsX11_leastOfFew_r4 : List Cond := [Cond.selects RX8 yX8_due yX8_due, Cond.initialized RX8, Cond.selects RX9 ⟨"FigureTill$Till", "due", "(IILFigureTill$Law;)I"⟩ yX9_due, Cond.instanceMethod yX9_due, Cond.initialized RX9, Cond.code yX9_due cX9_due 4 (some .int), Cond.fieldLink RX9 17 "FigureTill$ToldTill" "m" "I", Cond.sameField "FigureTill$ToldTill" "FigureTill$Till" "m" "I", Cond.instanceMethod yX4_isTold, Cond.initialized RX4, Cond.selects RX4 yX4_isTold yX4_isTold, Cond.code yX4_isTold cX4_isTold 1 (some .boolean), Cond.fieldLink RX4 15 "FigureTill$Law" "length" "I", Cond.instanceMethod yX4_workedOut, Cond.selects RX4 yX4_workedOut yX4_workedOut, Cond.code yX4_workedOut cX4_workedOut 7 (some .int), Cond.fieldLink RX4 9 "FigureTill$Law" "code" "[I", Cond.fieldLink RX4 19 "FigureTill$Law" "stack" "[I", Cond.methodLink RX4 105 yX4_named, Cond.static yX4_named, Cond.code yX4_named cX4_named 4 (some .int), Cond.methodLink RX4 109 yX4_joined, Cond.static yX4_joined, Cond.code yX4_joined cX4_joined 3 (some .int)]
def wsX11_leastOfFew_r5 : List Cond := [Cond.methodLink RX9 27 yX8_due, Cond.superclass RX9 RX8, Cond.static yX11_held, Cond.code yX11_held cX11_held 2 (some .int), Cond.methodLink RX11 297 Lib.Math.max.name]
def wsX11_leastOfFew : List Cond := .code yX11_leastOfFew cX11_leastOfFew 4 (some .int) :: ((wsX11_leastOfFew_r1 ++ (wsX11_leastOfFew_r2 ++ (wsX11_leastOfFew_r3 ++ (wsX11_leastOfFew_r4 ++ wsX11_leastOfFew_r5)))) ++ wsX110 ++ wsX70 ++ wsX00 ++ wsX10 ++ wsX20 ++ wsX30 ++ wsX50 ++ wsX60 ++ wsX80 ++ wsX90 ++ wsX40)
def wsX11_nines_r1 : List Cond := [Cond.methodLink RX11 81 yX11_within, Cond.static yX11_within, Cond.initialized RX11, Cond.code yX11_within cX11_within 3 (some .boolean), Cond.methodLink RX11 89 yX11_error, Cond.instanceMethod yX11_error, Cond.selects RX11 yX11_error yX11_error, Cond.code yX11_error cX11_error 2 (some .int), Cond.fieldLink RX11 46 "FigureTill" "errors" "[I", Cond.constant RX11 296 (-1000000000), Cond.methodLink RX11 221 yX11_allByNine, Cond.instanceMethod yX11_allByNine, Cond.selects RX11 yX11_allByNine yX11_allByNine, Cond.code yX11_allByNine cX11_allByNine 2 (some .int), Cond.fieldLink RX11 10 "FigureTill" "shop" "LFigureTill$Shop;", Cond.methodLink RX11 224 yX11_leastOfFew, Cond.instanceMethod yX11_leastOfFew, Cond.selects RX11 yX11_leastOfFew yX11_leastOfFew, Cond.code yX11_leastOfFew cX11_leastOfFew 4 (some .int), Cond.constant RX11 200 (1000000), Cond.fieldLink RX11 59 "FigureTill" "extra" "LFigureTill$Basket;", Cond.fieldLink RX11 62 "FigureTill" "room" "[I", Cond.methodLink RX11 205 Lib.Math.min.name, Cond.static Lib.Math.min.name]
def wsX11_nines_r2 : List Cond := [Cond.initialized "java/lang/Math", Cond.code Lib.Math.min.name Lib.Math.min.code 2 (some .int), Cond.methodLink RX11 233 yX11_startFew, Cond.instanceMethod yX11_startFew, Cond.selects RX11 yX11_startFew yX11_startFew, Cond.code yX11_startFew cX11_startFew 2 none, Cond.instanceMethod yX0_clear, Cond.initialized RX0, Cond.selects RX0 yX0_clear yX0_clear, Cond.code yX0_clear cX0_clear 2 none, Cond.fieldLink RX0 9 "FigureTill$Basket" "row" "[I", Cond.fieldLink RX0 15 "FigureTill$Basket" "things" "I", Cond.fieldLink RX0 19 "FigureTill$Basket" "sum" "I", Cond.instanceMethod yX0_step, Cond.selects RX0 yX0_step yX0_step, Cond.code yX0_step cX0_step 5 (some .boolean), Cond.instanceMethod yX7_paid, Cond.initialized RX7, Cond.selects RX7 yX7_paid yX7_paid, Cond.code yX7_paid cX7_paid 4 (some .int), Cond.fieldLink RX7 18 "FigureTill$Shop" "tills" "[LFigureTill$Till;", Cond.fieldLink RX7 49 "FigureTill$Shop" "paysLaw" "LFigureTill$Law;", Cond.methodLink RX7 81 ⟨"FigureTill$Till", "due", "(IILFigureTill$Law;)I"⟩, Cond.sameMethod "FigureTill$Till" "FigureTill$Till" "due" "(IILFigureTill$Law;)I"]
def wsX11_nines_r3 : List Cond := [Cond.instanceMethod ⟨"FigureTill$Till", "due", "(IILFigureTill$Law;)I"⟩, Cond.selects RX1 ⟨"FigureTill$Till", "due", "(IILFigureTill$Law;)I"⟩ yX1_due, Cond.instanceMethod yX1_due, Cond.initialized RX1, Cond.code yX1_due cX1_due 4 (some .int), Cond.fieldLink RX1 11 "FigureTill$ErrsTill" "m" "I", Cond.sameField "FigureTill$ErrsTill" "FigureTill$Till" "m" "I", Cond.static yX11_figureSum, Cond.code yX11_figureSum cX11_figureSum 5 (some .int), Cond.code yX8_due cX8_due 4 (some .int), Cond.selects RX2 ⟨"FigureTill$Till", "due", "(IILFigureTill$Law;)I"⟩ yX2_due, Cond.instanceMethod yX2_due, Cond.initialized RX2, Cond.code yX2_due cX2_due 4 (some .int), Cond.fieldLink RX2 11 "FigureTill$FloorTill" "m" "I", Cond.sameField "FigureTill$FloorTill" "FigureTill$Till" "m" "I", Cond.methodLink RX2 21 Lib.Math.max.name, Cond.static Lib.Math.max.name, Cond.code Lib.Math.max.name Lib.Math.max.code 2 (some .int), Cond.methodLink RX2 17 yX3_due, Cond.sameMethod "FigureTill$LastTill" "FigureTill$LastTill" "due" "(IILFigureTill$Law;)I", Cond.superclass RX2 RX3, Cond.instanceMethod yX3_due, Cond.initialized RX3]
def wsX11_nines_r4 : List Cond := [Cond.code yX3_due cX3_due 4 (some .int), Cond.selects RX3 ⟨"FigureTill$Till", "due", "(IILFigureTill$Law;)I"⟩ yX3_due, Cond.selects RX5 ⟨"FigureTill$Till", "due", "(IILFigureTill$Law;)I"⟩ yX5_due, Cond.instanceMethod yX5_due, Cond.initialized RX5, Cond.code yX5_due cX5_due 4 (some .int), Cond.fieldLink RX5 11 "FigureTill$OtherTill" "m" "I", Cond.sameField "FigureTill$OtherTill" "FigureTill$Till" "m" "I", Cond.static yX11_oneFigure, Cond.code yX11_oneFigure cX11_oneFigure 4 (some .int), Cond.methodLink RX11 122 yX11_figureSum, Cond.selects RX6 ⟨"FigureTill$Till", "due", "(IILFigureTill$Law;)I"⟩ yX6_due, Cond.instanceMethod yX6_due, Cond.initialized RX6, Cond.code yX6_due cX6_due 4 (some .int), Cond.methodLink RX7 81 yX8_due, Cond.instanceMethod yX8_due, Cond.selects RX8 yX8_due yX8_due, Cond.initialized RX8, Cond.selects RX9 ⟨"FigureTill$Till", "due", "(IILFigureTill$Law;)I"⟩ yX9_due, Cond.instanceMethod yX9_due, Cond.initialized RX9, Cond.code yX9_due cX9_due 4 (some .int), Cond.fieldLink RX9 17 "FigureTill$ToldTill" "m" "I"]
def wsX11_nines_r5 : List Cond := [Cond.sameField "FigureTill$ToldTill" "FigureTill$Till" "m" "I", Cond.instanceMethod yX4_isTold, Cond.initialized RX4, Cond.selects RX4 yX4_isTold yX4_isTold, Cond.code yX4_isTold cX4_isTold 1 (some .boolean), Cond.fieldLink RX4 15 "FigureTill$Law" "length" "I", Cond.instanceMethod yX4_workedOut, Cond.selects RX4 yX4_workedOut yX4_workedOut, Cond.code yX4_workedOut cX4_workedOut 7 (some .int), Cond.fieldLink RX4 9 "FigureTill$Law" "code" "[I", Cond.fieldLink RX4 19 "FigureTill$Law" "stack" "[I", Cond.methodLink RX4 105 yX4_named, Cond.static yX4_named, Cond.code yX4_named cX4_named 4 (some .int), Cond.methodLink RX4 109 yX4_joined, Cond.static yX4_joined, Cond.code yX4_joined cX4_joined 3 (some .int), Cond.methodLink RX9 27 yX8_due, Cond.superclass RX9 RX8, Cond.static yX11_held, Cond.code yX11_held cX11_held 2 (some .int), Cond.methodLink RX11 297 Lib.Math.max.name]
def wsX11_nines : List Cond := .code yX11_nines cX11_nines 2 (some .int) :: ((wsX11_nines_r1 ++ (wsX11_nines_r2 ++ (wsX11_nines_r3 ++ (wsX11_nines_r4 ++ wsX11_nines_r5)))) ++ wsX110 ++ wsX70 ++ wsX00 ++ wsX10 ++ wsX20 ++ wsX30 ++ wsX50 ++ wsX60 ++ wsX80 ++ wsX90 ++ wsX40)
def wsX11_takenInCases_r1 : List Cond := [Cond.fieldLink RX11 52 "FigureTill" "one" "LFigureTill$Basket;", Cond.fieldLink RX11 10 "FigureTill" "shop" "LFigureTill$Shop;", Cond.instanceMethod yX7_paid, Cond.initialized RX7, Cond.selects RX7 yX7_paid yX7_paid, Cond.code yX7_paid cX7_paid 4 (some .int), Cond.fieldLink RX7 18 "FigureTill$Shop" "tills" "[LFigureTill$Till;", Cond.fieldLink RX7 49 "FigureTill$Shop" "paysLaw" "LFigureTill$Law;", Cond.methodLink RX7 81 ⟨"FigureTill$Till", "due", "(IILFigureTill$Law;)I"⟩, Cond.sameMethod "FigureTill$Till" "FigureTill$Till" "due" "(IILFigureTill$Law;)I", Cond.instanceMethod ⟨"FigureTill$Till", "due", "(IILFigureTill$Law;)I"⟩, Cond.selects RX1 ⟨"FigureTill$Till", "due", "(IILFigureTill$Law;)I"⟩ yX1_due, Cond.instanceMethod yX1_due, Cond.initialized RX1, Cond.code yX1_due cX1_due 4 (some .int), Cond.fieldLink RX1 11 "FigureTill$ErrsTill" "m" "I", Cond.sameField "FigureTill$ErrsTill" "FigureTill$Till" "m" "I", Cond.static yX11_figureSum, Cond.initialized RX11, Cond.code yX11_figureSum cX11_figureSum 5 (some .int), Cond.code yX8_due cX8_due 4 (some .int), Cond.selects RX2 ⟨"FigureTill$Till", "due", "(IILFigureTill$Law;)I"⟩ yX2_due, Cond.instanceMethod yX2_due, Cond.initialized RX2]
def wsX11_takenInCases_r2 : List Cond := [Cond.code yX2_due cX2_due 4 (some .int), Cond.fieldLink RX2 11 "FigureTill$FloorTill" "m" "I", Cond.sameField "FigureTill$FloorTill" "FigureTill$Till" "m" "I", Cond.methodLink RX2 21 Lib.Math.max.name, Cond.static Lib.Math.max.name, Cond.initialized "java/lang/Math", Cond.code Lib.Math.max.name Lib.Math.max.code 2 (some .int), Cond.methodLink RX2 17 yX3_due, Cond.sameMethod "FigureTill$LastTill" "FigureTill$LastTill" "due" "(IILFigureTill$Law;)I", Cond.superclass RX2 RX3, Cond.instanceMethod yX3_due, Cond.initialized RX3, Cond.code yX3_due cX3_due 4 (some .int), Cond.selects RX3 ⟨"FigureTill$Till", "due", "(IILFigureTill$Law;)I"⟩ yX3_due, Cond.selects RX5 ⟨"FigureTill$Till", "due", "(IILFigureTill$Law;)I"⟩ yX5_due, Cond.instanceMethod yX5_due, Cond.initialized RX5, Cond.code yX5_due cX5_due 4 (some .int), Cond.fieldLink RX5 11 "FigureTill$OtherTill" "m" "I", Cond.sameField "FigureTill$OtherTill" "FigureTill$Till" "m" "I", Cond.static yX11_oneFigure, Cond.code yX11_oneFigure cX11_oneFigure 4 (some .int), Cond.methodLink RX11 122 yX11_figureSum, Cond.selects RX6 ⟨"FigureTill$Till", "due", "(IILFigureTill$Law;)I"⟩ yX6_due]
def wsX11_takenInCases_r3 : List Cond := [Cond.instanceMethod yX6_due, Cond.initialized RX6, Cond.code yX6_due cX6_due 4 (some .int), Cond.methodLink RX7 81 yX8_due, Cond.instanceMethod yX8_due, Cond.selects RX8 yX8_due yX8_due, Cond.initialized RX8, Cond.selects RX9 ⟨"FigureTill$Till", "due", "(IILFigureTill$Law;)I"⟩ yX9_due, Cond.instanceMethod yX9_due, Cond.initialized RX9, Cond.code yX9_due cX9_due 4 (some .int), Cond.fieldLink RX9 17 "FigureTill$ToldTill" "m" "I", Cond.sameField "FigureTill$ToldTill" "FigureTill$Till" "m" "I", Cond.instanceMethod yX4_isTold, Cond.initialized RX4, Cond.selects RX4 yX4_isTold yX4_isTold, Cond.code yX4_isTold cX4_isTold 1 (some .boolean), Cond.fieldLink RX4 15 "FigureTill$Law" "length" "I", Cond.instanceMethod yX4_workedOut, Cond.selects RX4 yX4_workedOut yX4_workedOut, Cond.code yX4_workedOut cX4_workedOut 7 (some .int), Cond.fieldLink RX4 9 "FigureTill$Law" "code" "[I", Cond.fieldLink RX4 19 "FigureTill$Law" "stack" "[I", Cond.methodLink RX4 105 yX4_named]
def wsX11_takenInCases_r4 : List Cond := [Cond.static yX4_named, Cond.code yX4_named cX4_named 4 (some .int), Cond.methodLink RX4 109 yX4_joined, Cond.static yX4_joined, Cond.code yX4_joined cX4_joined 3 (some .int), Cond.methodLink RX9 27 yX8_due, Cond.superclass RX9 RX8, Cond.static yX11_held, Cond.code yX11_held cX11_held 2 (some .int), Cond.methodLink RX11 205 Lib.Math.min.name, Cond.static Lib.Math.min.name, Cond.code Lib.Math.min.name Lib.Math.min.code 2 (some .int), Cond.methodLink RX11 297 Lib.Math.max.name]
def wsX11_takenInCases : List Cond := .code yX11_takenInCases cX11_takenInCases 5 (some .int) :: ((wsX11_takenInCases_r1 ++ (wsX11_takenInCases_r2 ++ (wsX11_takenInCases_r3 ++ wsX11_takenInCases_r4))) ++ wsX110 ++ wsX00 ++ wsX70 ++ wsX10 ++ wsX20 ++ wsX30 ++ wsX50 ++ wsX60 ++ wsX80 ++ wsX90 ++ wsX40)
def wsX11_commonDivisor : List Cond := .code yX11_commonDivisor cX11_commonDivisor 6 (some .int) :: ([.constant RX11 200 (1000000), .methodLink RX11 297 Lib.Math.max.name, .static Lib.Math.max.name, .initialized "java/lang/Math", .code Lib.Math.max.name Lib.Math.max.code 2 (some .int)])
def wsX11_erring_r1 : List Cond := [Cond.methodLink RX11 81 yX11_within, Cond.static yX11_within, Cond.initialized RX11, Cond.code yX11_within cX11_within 3 (some .boolean), Cond.methodLink RX11 89 yX11_error, Cond.instanceMethod yX11_error, Cond.selects RX11 yX11_error yX11_error, Cond.code yX11_error cX11_error 2 (some .int), Cond.fieldLink RX11 46 "FigureTill" "errors" "[I", Cond.constant RX11 296 (-1000000000), Cond.methodLink RX11 170 yX11_refusal, Cond.instanceMethod yX11_refusal, Cond.selects RX11 yX11_refusal yX11_refusal, Cond.code yX11_refusal cX11_refusal 4 (some .int), Cond.methodLink RX11 154 yX11_isSheet, Cond.static yX11_isSheet, Cond.code yX11_isSheet cX11_isSheet 1 (some .boolean), Cond.methodLink RX11 99 yX11_isTill, Cond.static yX11_isTill, Cond.code yX11_isTill cX11_isTill 1 (some .boolean), Cond.methodLink RX11 157 yX11_refusal_, Cond.instanceMethod yX11_refusal_, Cond.selects RX11 yX11_refusal_ yX11_refusal_, Cond.code yX11_refusal_ cX11_refusal_ 3 (some .int)]
def wsX11_erring_r2 : List Cond := [Cond.fieldLink RX11 52 "FigureTill" "one" "LFigureTill$Basket;", Cond.methodLink RX11 210 yX11_isMissing, Cond.instanceMethod yX11_isMissing, Cond.selects RX11 yX11_isMissing yX11_isMissing, Cond.code yX11_isMissing cX11_isMissing 2 (some .boolean), Cond.fieldLink RX11 27 "FigureTill" "sheetBits" "[I", Cond.methodLink RX11 213 yX11_reads, Cond.instanceMethod yX11_reads, Cond.selects RX11 yX11_reads yX11_reads, Cond.code yX11_reads cX11_reads 4 (some .boolean), Cond.fieldLink RX11 31 "FigureTill" "sheetLengths" "[I", Cond.fieldLink RX11 36 "FigureTill" "sheetNumbers" "[[I", Cond.fieldLink RX11 10 "FigureTill" "shop" "LFigureTill$Shop;", Cond.instanceMethod yX0_clear, Cond.initialized RX0, Cond.selects RX0 yX0_clear yX0_clear, Cond.code yX0_clear cX0_clear 2 none, Cond.fieldLink RX0 9 "FigureTill$Basket" "row" "[I", Cond.fieldLink RX0 15 "FigureTill$Basket" "things" "I", Cond.fieldLink RX0 19 "FigureTill$Basket" "sum" "I", Cond.instanceMethod yX0_add, Cond.selects RX0 yX0_add yX0_add, Cond.code yX0_add cX0_add 3 none, Cond.methodLink RX0 28 yX0_sumBy]
def wsX11_erring_r3 : List Cond := [Cond.instanceMethod yX0_sumBy, Cond.selects RX0 yX0_sumBy yX0_sumBy, Cond.code yX0_sumBy cX0_sumBy 4 (some .int), Cond.methodLink RX11 227 yX11_takenInCases, Cond.instanceMethod yX11_takenInCases, Cond.selects RX11 yX11_takenInCases yX11_takenInCases, Cond.code yX11_takenInCases cX11_takenInCases 5 (some .int), Cond.instanceMethod yX7_paid, Cond.initialized RX7, Cond.selects RX7 yX7_paid yX7_paid, Cond.code yX7_paid cX7_paid 4 (some .int), Cond.fieldLink RX7 18 "FigureTill$Shop" "tills" "[LFigureTill$Till;", Cond.fieldLink RX7 49 "FigureTill$Shop" "paysLaw" "LFigureTill$Law;", Cond.methodLink RX7 81 ⟨"FigureTill$Till", "due", "(IILFigureTill$Law;)I"⟩, Cond.sameMethod "FigureTill$Till" "FigureTill$Till" "due" "(IILFigureTill$Law;)I", Cond.instanceMethod ⟨"FigureTill$Till", "due", "(IILFigureTill$Law;)I"⟩, Cond.selects RX1 ⟨"FigureTill$Till", "due", "(IILFigureTill$Law;)I"⟩ yX1_due, Cond.instanceMethod yX1_due, Cond.initialized RX1, Cond.code yX1_due cX1_due 4 (some .int), Cond.fieldLink RX1 11 "FigureTill$ErrsTill" "m" "I", Cond.sameField "FigureTill$ErrsTill" "FigureTill$Till" "m" "I", Cond.static yX11_figureSum, Cond.code yX11_figureSum cX11_figureSum 5 (some .int)]
def wsX11_erring_r4 : List Cond := [Cond.code yX8_due cX8_due 4 (some .int), Cond.selects RX2 ⟨"FigureTill$Till", "due", "(IILFigureTill$Law;)I"⟩ yX2_due, Cond.instanceMethod yX2_due, Cond.initialized RX2, Cond.code yX2_due cX2_due 4 (some .int), Cond.fieldLink RX2 11 "FigureTill$FloorTill" "m" "I", Cond.sameField "FigureTill$FloorTill" "FigureTill$Till" "m" "I", Cond.methodLink RX2 21 Lib.Math.max.name, Cond.static Lib.Math.max.name, Cond.initialized "java/lang/Math", Cond.code Lib.Math.max.name Lib.Math.max.code 2 (some .int), Cond.methodLink RX2 17 yX3_due, Cond.sameMethod "FigureTill$LastTill" "FigureTill$LastTill" "due" "(IILFigureTill$Law;)I", Cond.superclass RX2 RX3, Cond.instanceMethod yX3_due, Cond.initialized RX3, Cond.code yX3_due cX3_due 4 (some .int), Cond.selects RX3 ⟨"FigureTill$Till", "due", "(IILFigureTill$Law;)I"⟩ yX3_due, Cond.selects RX5 ⟨"FigureTill$Till", "due", "(IILFigureTill$Law;)I"⟩ yX5_due, Cond.instanceMethod yX5_due, Cond.initialized RX5, Cond.code yX5_due cX5_due 4 (some .int), Cond.fieldLink RX5 11 "FigureTill$OtherTill" "m" "I", Cond.sameField "FigureTill$OtherTill" "FigureTill$Till" "m" "I"]
def wsX11_erring_r5 : List Cond := [Cond.static yX11_oneFigure, Cond.code yX11_oneFigure cX11_oneFigure 4 (some .int), Cond.methodLink RX11 122 yX11_figureSum, Cond.selects RX6 ⟨"FigureTill$Till", "due", "(IILFigureTill$Law;)I"⟩ yX6_due, Cond.instanceMethod yX6_due, Cond.initialized RX6, Cond.code yX6_due cX6_due 4 (some .int), Cond.methodLink RX7 81 yX8_due, Cond.instanceMethod yX8_due, Cond.selects RX8 yX8_due yX8_due, Cond.initialized RX8, Cond.selects RX9 ⟨"FigureTill$Till", "due", "(IILFigureTill$Law;)I"⟩ yX9_due, Cond.instanceMethod yX9_due, Cond.initialized RX9, Cond.code yX9_due cX9_due 4 (some .int), Cond.fieldLink RX9 17 "FigureTill$ToldTill" "m" "I", Cond.sameField "FigureTill$ToldTill" "FigureTill$Till" "m" "I", Cond.instanceMethod yX4_isTold, Cond.initialized RX4, Cond.selects RX4 yX4_isTold yX4_isTold, Cond.code yX4_isTold cX4_isTold 1 (some .boolean), Cond.fieldLink RX4 15 "FigureTill$Law" "length" "I", Cond.instanceMethod yX4_workedOut, Cond.selects RX4 yX4_workedOut yX4_workedOut]
def wsX11_erring_r6 : List Cond := [Cond.code yX4_workedOut cX4_workedOut 7 (some .int), Cond.fieldLink RX4 9 "FigureTill$Law" "code" "[I", Cond.fieldLink RX4 19 "FigureTill$Law" "stack" "[I", Cond.methodLink RX4 105 yX4_named, Cond.static yX4_named, Cond.code yX4_named cX4_named 4 (some .int), Cond.methodLink RX4 109 yX4_joined, Cond.static yX4_joined, Cond.code yX4_joined cX4_joined 3 (some .int), Cond.methodLink RX9 27 yX8_due, Cond.superclass RX9 RX8, Cond.static yX11_held, Cond.code yX11_held cX11_held 2 (some .int), Cond.methodLink RX11 205 Lib.Math.min.name, Cond.static Lib.Math.min.name, Cond.code Lib.Math.min.name Lib.Math.min.code 2 (some .int), Cond.methodLink RX11 297 Lib.Math.max.name, Cond.methodLink RX11 230 yX11_commonDivisor, Cond.static yX11_commonDivisor, Cond.code yX11_commonDivisor cX11_commonDivisor 6 (some .int), Cond.constant RX11 200 (1000000)]
def wsX11_erring : List Cond := .code yX11_erring cX11_erring 8 (some .long) :: ((wsX11_erring_r1 ++ (wsX11_erring_r2 ++ (wsX11_erring_r3 ++ (wsX11_erring_r4 ++ (wsX11_erring_r5 ++ wsX11_erring_r6))))) ++ wsX110 ++ wsX00 ++ wsX70 ++ wsX10 ++ wsX20 ++ wsX30 ++ wsX50 ++ wsX60 ++ wsX80 ++ wsX90 ++ wsX40)
def wsX11_wasIn_r1 : List Cond := [Cond.constant RX11 200 (1000000), Cond.fieldLink RX11 59 "FigureTill" "extra" "LFigureTill$Basket;", Cond.fieldLink RX11 62 "FigureTill" "room" "[I", Cond.fieldLink RX11 10 "FigureTill" "shop" "LFigureTill$Shop;", Cond.methodLink RX11 99 yX11_isTill, Cond.static yX11_isTill, Cond.initialized RX11, Cond.code yX11_isTill cX11_isTill 1 (some .boolean), Cond.methodLink RX11 81 yX11_within, Cond.static yX11_within, Cond.code yX11_within cX11_within 3 (some .boolean), Cond.methodLink RX11 89 yX11_error, Cond.instanceMethod yX11_error, Cond.selects RX11 yX11_error yX11_error, Cond.code yX11_error cX11_error 2 (some .int), Cond.fieldLink RX11 46 "FigureTill" "errors" "[I", Cond.constant RX11 296 (-1000000000), Cond.methodLink RX11 233 yX11_startFew, Cond.instanceMethod yX11_startFew, Cond.selects RX11 yX11_startFew yX11_startFew, Cond.code yX11_startFew cX11_startFew 2 none, Cond.instanceMethod yX0_clear, Cond.initialized RX0, Cond.selects RX0 yX0_clear yX0_clear]
def wsX11_wasIn_r2 : List Cond := [Cond.code yX0_clear cX0_clear 2 none, Cond.fieldLink RX0 9 "FigureTill$Basket" "row" "[I", Cond.fieldLink RX0 15 "FigureTill$Basket" "things" "I", Cond.fieldLink RX0 19 "FigureTill$Basket" "sum" "I", Cond.instanceMethod yX0_step, Cond.selects RX0 yX0_step yX0_step, Cond.code yX0_step cX0_step 5 (some .boolean), Cond.instanceMethod yX7_paid, Cond.initialized RX7, Cond.selects RX7 yX7_paid yX7_paid, Cond.code yX7_paid cX7_paid 4 (some .int), Cond.fieldLink RX7 18 "FigureTill$Shop" "tills" "[LFigureTill$Till;", Cond.fieldLink RX7 49 "FigureTill$Shop" "paysLaw" "LFigureTill$Law;", Cond.methodLink RX7 81 ⟨"FigureTill$Till", "due", "(IILFigureTill$Law;)I"⟩, Cond.sameMethod "FigureTill$Till" "FigureTill$Till" "due" "(IILFigureTill$Law;)I", Cond.instanceMethod ⟨"FigureTill$Till", "due", "(IILFigureTill$Law;)I"⟩, Cond.selects RX1 ⟨"FigureTill$Till", "due", "(IILFigureTill$Law;)I"⟩ yX1_due, Cond.instanceMethod yX1_due, Cond.initialized RX1, Cond.code yX1_due cX1_due 4 (some .int), Cond.fieldLink RX1 11 "FigureTill$ErrsTill" "m" "I", Cond.sameField "FigureTill$ErrsTill" "FigureTill$Till" "m" "I", Cond.static yX11_figureSum, Cond.code yX11_figureSum cX11_figureSum 5 (some .int)]
def wsX11_wasIn_r3 : List Cond := [Cond.code yX8_due cX8_due 4 (some .int), Cond.selects RX2 ⟨"FigureTill$Till", "due", "(IILFigureTill$Law;)I"⟩ yX2_due, Cond.instanceMethod yX2_due, Cond.initialized RX2, Cond.code yX2_due cX2_due 4 (some .int), Cond.fieldLink RX2 11 "FigureTill$FloorTill" "m" "I", Cond.sameField "FigureTill$FloorTill" "FigureTill$Till" "m" "I", Cond.methodLink RX2 21 Lib.Math.max.name, Cond.static Lib.Math.max.name, Cond.initialized "java/lang/Math", Cond.code Lib.Math.max.name Lib.Math.max.code 2 (some .int), Cond.methodLink RX2 17 yX3_due, Cond.sameMethod "FigureTill$LastTill" "FigureTill$LastTill" "due" "(IILFigureTill$Law;)I", Cond.superclass RX2 RX3, Cond.instanceMethod yX3_due, Cond.initialized RX3, Cond.code yX3_due cX3_due 4 (some .int), Cond.selects RX3 ⟨"FigureTill$Till", "due", "(IILFigureTill$Law;)I"⟩ yX3_due, Cond.selects RX5 ⟨"FigureTill$Till", "due", "(IILFigureTill$Law;)I"⟩ yX5_due, Cond.instanceMethod yX5_due, Cond.initialized RX5, Cond.code yX5_due cX5_due 4 (some .int), Cond.fieldLink RX5 11 "FigureTill$OtherTill" "m" "I", Cond.sameField "FigureTill$OtherTill" "FigureTill$Till" "m" "I"]
def wsX11_wasIn_r4 : List Cond := [Cond.static yX11_oneFigure, Cond.code yX11_oneFigure cX11_oneFigure 4 (some .int), Cond.methodLink RX11 122 yX11_figureSum, Cond.selects RX6 ⟨"FigureTill$Till", "due", "(IILFigureTill$Law;)I"⟩ yX6_due, Cond.instanceMethod yX6_due, Cond.initialized RX6, Cond.code yX6_due cX6_due 4 (some .int), Cond.methodLink RX7 81 yX8_due, Cond.instanceMethod yX8_due, Cond.selects RX8 yX8_due yX8_due, Cond.initialized RX8, Cond.selects RX9 ⟨"FigureTill$Till", "due", "(IILFigureTill$Law;)I"⟩ yX9_due, Cond.instanceMethod yX9_due, Cond.initialized RX9, Cond.code yX9_due cX9_due 4 (some .int), Cond.fieldLink RX9 17 "FigureTill$ToldTill" "m" "I", Cond.sameField "FigureTill$ToldTill" "FigureTill$Till" "m" "I", Cond.instanceMethod yX4_isTold, Cond.initialized RX4, Cond.selects RX4 yX4_isTold yX4_isTold, Cond.code yX4_isTold cX4_isTold 1 (some .boolean), Cond.fieldLink RX4 15 "FigureTill$Law" "length" "I", Cond.instanceMethod yX4_workedOut, Cond.selects RX4 yX4_workedOut yX4_workedOut]
def wsX11_wasIn_r5 : List Cond := [Cond.code yX4_workedOut cX4_workedOut 7 (some .int), Cond.fieldLink RX4 9 "FigureTill$Law" "code" "[I", Cond.fieldLink RX4 19 "FigureTill$Law" "stack" "[I", Cond.methodLink RX4 105 yX4_named, Cond.static yX4_named, Cond.code yX4_named cX4_named 4 (some .int), Cond.methodLink RX4 109 yX4_joined, Cond.static yX4_joined, Cond.code yX4_joined cX4_joined 3 (some .int), Cond.methodLink RX9 27 yX8_due, Cond.superclass RX9 RX8, Cond.static yX11_held, Cond.code yX11_held cX11_held 2 (some .int), Cond.methodLink RX11 205 Lib.Math.min.name, Cond.static Lib.Math.min.name, Cond.code Lib.Math.min.name Lib.Math.min.code 2 (some .int), Cond.methodLink RX11 297 Lib.Math.max.name, Cond.instanceMethod yX0_rowAsNumber, Cond.selects RX0 yX0_rowAsNumber yX0_rowAsNumber, Cond.code yX0_rowAsNumber cX0_rowAsNumber 3 (some .int)]
def wsX11_wasIn : List Cond := .code yX11_wasIn cX11_wasIn 7 (some .int) :: ((wsX11_wasIn_r1 ++ (wsX11_wasIn_r2 ++ (wsX11_wasIn_r3 ++ (wsX11_wasIn_r4 ++ wsX11_wasIn_r5)))) ++ wsX110 ++ wsX70 ++ wsX00 ++ wsX10 ++ wsX20 ++ wsX30 ++ wsX50 ++ wsX60 ++ wsX80 ++ wsX90 ++ wsX40)
def wsX11_voice_r1 : List Cond := [Cond.fieldLink RX11 42 "FigureTill" "trace" "LFigureTill$Trace;", Cond.fieldLink RX11 10 "FigureTill" "shop" "LFigureTill$Shop;", Cond.methodLink RX11 99 yX11_isTill, Cond.static yX11_isTill, Cond.initialized RX11, Cond.code yX11_isTill cX11_isTill 1 (some .boolean), Cond.methodLink RX11 81 yX11_within, Cond.static yX11_within, Cond.code yX11_within cX11_within 3 (some .boolean), Cond.methodLink RX11 89 yX11_error, Cond.instanceMethod yX11_error, Cond.selects RX11 yX11_error yX11_error, Cond.code yX11_error cX11_error 2 (some .int), Cond.fieldLink RX11 46 "FigureTill" "errors" "[I", Cond.constant RX11 296 (-1000000000), Cond.instanceMethod yX10_start, Cond.initialized RX10, Cond.selects RX10 yX10_start yX10_start, Cond.code yX10_start cX10_start 1 none, Cond.fieldLink RX10 15 "FigureTill$Trace" "length" "I", Cond.fieldLink RX10 19 "FigureTill$Trace" "parted" "Z", Cond.methodLink RX11 242 ⟨"FigureTill$Till", "adds", "(LFigureTill$Trace;I)I"⟩, Cond.sameMethod "FigureTill$Till" "FigureTill$Till" "adds" "(LFigureTill$Trace;I)I", Cond.selects RX1 ⟨"FigureTill$Till", "adds", "(LFigureTill$Trace;I)I"⟩ yX8_adds]
def wsX11_voice_r2 : List Cond := [Cond.instanceMethod yX8_adds, Cond.initialized RX8, Cond.code yX8_adds cX8_adds 3 (some .int), Cond.fieldLink RX8 7 "FigureTill$Till" "number" "I", Cond.instanceMethod yX10_began, Cond.selects RX10 yX10_began yX10_began, Cond.code yX10_began cX10_began 2 none, Cond.fieldLink RX10 9 "FigureTill$Trace" "bodies" "[I", Cond.instanceMethod ⟨"FigureTill$Till", "adds", "(LFigureTill$Trace;I)I"⟩, Cond.selects RX2 ⟨"FigureTill$Till", "adds", "(LFigureTill$Trace;I)I"⟩ yX2_adds, Cond.instanceMethod yX2_adds, Cond.initialized RX2, Cond.code yX2_adds cX2_adds 3 (some .int), Cond.methodLink RX2 33 yX3_adds, Cond.sameMethod "FigureTill$LastTill" "FigureTill$LastTill" "adds" "(LFigureTill$Trace;I)I", Cond.superclass RX2 RX3, Cond.instanceMethod yX3_adds, Cond.initialized RX3, Cond.code yX3_adds cX3_adds 3 (some .int), Cond.methodLink RX3 17 yX8_adds, Cond.superclass RX3 RX8, Cond.selects RX3 ⟨"FigureTill$Till", "adds", "(LFigureTill$Trace;I)I"⟩ yX3_adds, Cond.selects RX5 ⟨"FigureTill$Till", "adds", "(LFigureTill$Trace;I)I"⟩ yX8_adds, Cond.selects RX6 ⟨"FigureTill$Till", "adds", "(LFigureTill$Trace;I)I"⟩ yX8_adds]
def wsX11_voice_r3 : List Cond := [Cond.methodLink RX11 242 yX8_adds, Cond.selects RX8 yX8_adds yX8_adds, Cond.selects RX9 ⟨"FigureTill$Till", "adds", "(LFigureTill$Trace;I)I"⟩ yX9_adds, Cond.instanceMethod yX9_adds, Cond.initialized RX9, Cond.code yX9_adds cX9_adds 3 (some .int), Cond.methodLink RX11 246 ⟨"FigureTill$Till", "comes", "(LFigureTill$Trace;I)I"⟩, Cond.sameMethod "FigureTill$Till" "FigureTill$Till" "comes" "(LFigureTill$Trace;I)I", Cond.selects RX1 ⟨"FigureTill$Till", "comes", "(LFigureTill$Trace;I)I"⟩ yX8_comes, Cond.instanceMethod yX8_comes, Cond.code yX8_comes cX8_comes 3 (some .int), Cond.methodLink RX8 28 ⟨"FigureTill$Till", "adds", "(LFigureTill$Trace;I)I"⟩, Cond.methodLink RX8 28 yX8_adds, Cond.selects RX2 ⟨"FigureTill$Till", "comes", "(LFigureTill$Trace;I)I"⟩ yX8_comes, Cond.selects RX3 ⟨"FigureTill$Till", "comes", "(LFigureTill$Trace;I)I"⟩ yX8_comes, Cond.instanceMethod ⟨"FigureTill$Till", "comes", "(LFigureTill$Trace;I)I"⟩, Cond.selects RX5 ⟨"FigureTill$Till", "comes", "(LFigureTill$Trace;I)I"⟩ yX5_comes, Cond.instanceMethod yX5_comes, Cond.initialized RX5, Cond.code yX5_comes cX5_comes 3 (some .int), Cond.methodLink RX5 29 yX6_comes, Cond.sameMethod "FigureTill$RootTill" "FigureTill$RootTill" "comes" "(LFigureTill$Trace;I)I", Cond.superclass RX5 RX6, Cond.instanceMethod yX6_comes]
def wsX11_voice_r4 : List Cond := [Cond.initialized RX6, Cond.code yX6_comes cX6_comes 3 (some .int), Cond.methodLink RX6 23 yX8_comes, Cond.superclass RX6 RX8, Cond.selects RX6 ⟨"FigureTill$Till", "comes", "(LFigureTill$Trace;I)I"⟩ yX6_comes, Cond.methodLink RX11 246 yX8_comes, Cond.selects RX8 yX8_comes yX8_comes, Cond.selects RX9 ⟨"FigureTill$Till", "comes", "(LFigureTill$Trace;I)I"⟩ yX9_comes, Cond.instanceMethod yX9_comes, Cond.code yX9_comes cX9_comes 3 (some .int), Cond.fieldLink RX9 17 "FigureTill$ToldTill" "m" "I", Cond.sameField "FigureTill$ToldTill" "FigureTill$Till" "m" "I", Cond.methodLink RX9 37 yX8_comes, Cond.superclass RX9 RX8, Cond.methodLink RX11 249 ⟨"FigureTill$Till", "gives", "(LFigureTill$Trace;I)I"⟩, Cond.sameMethod "FigureTill$Till" "FigureTill$Till" "gives" "(LFigureTill$Trace;I)I", Cond.instanceMethod ⟨"FigureTill$Till", "gives", "(LFigureTill$Trace;I)I"⟩, Cond.selects RX1 ⟨"FigureTill$Till", "gives", "(LFigureTill$Trace;I)I"⟩ yX1_gives, Cond.instanceMethod yX1_gives, Cond.initialized RX1, Cond.code yX1_gives cX1_gives 3 (some .int), Cond.methodLink RX1 29 yX8_gives, Cond.superclass RX1 RX8, Cond.instanceMethod yX8_gives]
def wsX11_voice_r5 : List Cond := [Cond.code yX8_gives cX8_gives 3 (some .int), Cond.fieldLink RX8 13 "FigureTill$Till" "m" "I", Cond.methodLink RX8 32 ⟨"FigureTill$Till", "comes", "(LFigureTill$Trace;I)I"⟩, Cond.methodLink RX8 32 yX8_comes, Cond.selects RX2 ⟨"FigureTill$Till", "gives", "(LFigureTill$Trace;I)I"⟩ yX2_gives, Cond.instanceMethod yX2_gives, Cond.code yX2_gives cX2_gives 3 (some .int), Cond.fieldLink RX2 40 "FigureTill$FloorTill" "number" "I", Cond.sameField "FigureTill$FloorTill" "FigureTill$Till" "number" "I", Cond.selects RX3 ⟨"FigureTill$Till", "gives", "(LFigureTill$Trace;I)I"⟩ yX8_gives, Cond.selects RX5 ⟨"FigureTill$Till", "gives", "(LFigureTill$Trace;I)I"⟩ yX8_gives, Cond.selects RX6 ⟨"FigureTill$Till", "gives", "(LFigureTill$Trace;I)I"⟩ yX8_gives, Cond.methodLink RX11 249 yX8_gives, Cond.selects RX8 yX8_gives yX8_gives, Cond.selects RX9 ⟨"FigureTill$Till", "gives", "(LFigureTill$Trace;I)I"⟩ yX8_gives, Cond.methodLink RX11 252 ⟨"FigureTill$Till", "parts", "(LFigureTill$Trace;I)I"⟩, Cond.sameMethod "FigureTill$Till" "FigureTill$Till" "parts" "(LFigureTill$Trace;I)I", Cond.selects RX1 ⟨"FigureTill$Till", "parts", "(LFigureTill$Trace;I)I"⟩ yX8_parts, Cond.instanceMethod yX8_parts, Cond.code yX8_parts cX8_parts 4 (some .int), Cond.instanceMethod ⟨"FigureTill$Till", "parts", "(LFigureTill$Trace;I)I"⟩, Cond.selects RX2 ⟨"FigureTill$Till", "parts", "(LFigureTill$Trace;I)I"⟩ yX3_parts, Cond.instanceMethod yX3_parts, Cond.code yX3_parts cX3_parts 4 (some .int)]
def wsX11_voice_r6 : List Cond := [Cond.methodLink RX3 21 yX8_parts, Cond.methodLink RX3 28 ⟨"FigureTill$LastTill", "comes", "(LFigureTill$Trace;I)I"⟩, Cond.sameMethod "FigureTill$LastTill" "FigureTill$Till" "comes" "(LFigureTill$Trace;I)I", Cond.selects RX2 ⟨"FigureTill$LastTill", "comes", "(LFigureTill$Trace;I)I"⟩ yX8_comes, Cond.selects RX3 ⟨"FigureTill$LastTill", "comes", "(LFigureTill$Trace;I)I"⟩ yX8_comes, Cond.selects RX3 ⟨"FigureTill$Till", "parts", "(LFigureTill$Trace;I)I"⟩ yX3_parts, Cond.selects RX5 ⟨"FigureTill$Till", "parts", "(LFigureTill$Trace;I)I"⟩ yX8_parts, Cond.selects RX6 ⟨"FigureTill$Till", "parts", "(LFigureTill$Trace;I)I"⟩ yX8_parts, Cond.methodLink RX11 252 yX8_parts, Cond.selects RX8 yX8_parts yX8_parts, Cond.selects RX9 ⟨"FigureTill$Till", "parts", "(LFigureTill$Trace;I)I"⟩ yX8_parts]
def wsX11_voice : List Cond := .code yX11_voice cX11_voice 6 (some .int) :: ((wsX11_voice_r1 ++ (wsX11_voice_r2 ++ (wsX11_voice_r3 ++ (wsX11_voice_r4 ++ (wsX11_voice_r5 ++ wsX11_voice_r6))))) ++ wsX110 ++ wsX70 ++ wsX100 ++ wsX10 ++ wsX20 ++ wsX30 ++ wsX50 ++ wsX60 ++ wsX80 ++ wsX90)
def wsX11_body : List Cond := .code yX11_body cX11_body 2 (some .int) :: ([.fieldLink RX11 42 "FigureTill" "trace" "LFigureTill$Trace;", .methodLink RX11 81 yX11_within, .static yX11_within, .initialized RX11, .code yX11_within cX11_within 3 (some .boolean), .methodLink RX11 89 yX11_error, .instanceMethod yX11_error, .selects RX11 yX11_error yX11_error, .code yX11_error cX11_error 2 (some .int), .fieldLink RX11 46 "FigureTill" "errors" "[I", .constant RX11 296 (-1000000000)] ++ wsX110 ++ wsX100)
def wsX11_sheet : List Cond := .code yX11_sheet cX11_sheet 5 (some .int) :: ([.fieldLink RX11 27 "FigureTill" "sheetBits" "[I", .fieldLink RX11 31 "FigureTill" "sheetLengths" "[I", .fieldLink RX11 36 "FigureTill" "sheetNumbers" "[[I", .methodLink RX11 154 yX11_isSheet, .static yX11_isSheet, .initialized RX11, .code yX11_isSheet cX11_isSheet 1 (some .boolean), .methodLink RX11 81 yX11_within, .static yX11_within, .code yX11_within cX11_within 3 (some .boolean), .methodLink RX11 89 yX11_error, .instanceMethod yX11_error, .selects RX11 yX11_error yX11_error, .code yX11_error cX11_error 2 (some .int), .fieldLink RX11 46 "FigureTill" "errors" "[I", .constant RX11 296 (-1000000000)] ++ wsX110)
def wsX11_lowest : List Cond := .code yX11_lowest cX11_lowest 2 (some .int) :: ([])
def wsX11_put : List Cond := .code yX11_put cX11_put 4 (some .int) :: ([.fieldLink RX11 31 "FigureTill" "sheetLengths" "[I", .fieldLink RX11 36 "FigureTill" "sheetNumbers" "[[I", .fieldLink RX11 27 "FigureTill" "sheetBits" "[I", .methodLink RX11 154 yX11_isSheet, .static yX11_isSheet, .initialized RX11, .code yX11_isSheet cX11_isSheet 1 (some .boolean), .methodLink RX11 81 yX11_within, .static yX11_within, .code yX11_within cX11_within 3 (some .boolean), .methodLink RX11 89 yX11_error, .instanceMethod yX11_error, .selects RX11 yX11_error yX11_error, .code yX11_error cX11_error 2 (some .int), .fieldLink RX11 46 "FigureTill" "errors" "[I", .constant RX11 296 (-1000000000), .methodLink RX11 210 yX11_isMissing, .instanceMethod yX11_isMissing, .selects RX11 yX11_isMissing yX11_isMissing, .code yX11_isMissing cX11_isMissing 2 (some .boolean), .methodLink RX11 262 yX11_lowest, .static yX11_lowest, .code yX11_lowest cX11_lowest 2 (some .int)] ++ wsX110)
def wsX11_stand : List Cond := .code yX11_stand cX11_stand 4 (some .boolean) :: ([.fieldLink RX11 31 "FigureTill" "sheetLengths" "[I"] ++ wsX110)
def wsX11_move_r1 : List Cond := [Cond.fieldLink RX11 27 "FigureTill" "sheetBits" "[I", Cond.fieldLink RX11 36 "FigureTill" "sheetNumbers" "[[I", Cond.methodLink RX11 268 arraycopyName, Cond.native arraycopyName, Cond.static arraycopyName, Cond.initialized "java/lang/System", Cond.methodLink RX11 154 yX11_isSheet, Cond.static yX11_isSheet, Cond.initialized RX11, Cond.code yX11_isSheet cX11_isSheet 1 (some .boolean), Cond.methodLink RX11 81 yX11_within, Cond.static yX11_within, Cond.code yX11_within cX11_within 3 (some .boolean), Cond.methodLink RX11 89 yX11_error, Cond.instanceMethod yX11_error, Cond.selects RX11 yX11_error yX11_error, Cond.code yX11_error cX11_error 2 (some .int), Cond.fieldLink RX11 46 "FigureTill" "errors" "[I", Cond.constant RX11 296 (-1000000000), Cond.methodLink RX11 210 yX11_isMissing, Cond.instanceMethod yX11_isMissing, Cond.selects RX11 yX11_isMissing yX11_isMissing, Cond.code yX11_isMissing cX11_isMissing 2 (some .boolean), Cond.methodLink RX11 265 yX11_stand]
def wsX11_move_r2 : List Cond := [Cond.instanceMethod yX11_stand, Cond.selects RX11 yX11_stand yX11_stand, Cond.code yX11_stand cX11_stand 4 (some .boolean), Cond.fieldLink RX11 31 "FigureTill" "sheetLengths" "[I"]
def wsX11_move : List Cond := .code yX11_move cX11_move 6 (some .int) :: ((wsX11_move_r1 ++ wsX11_move_r2) ++ wsX110)
def wsX11_prices_r1 : List Cond := [Cond.fieldLink RX11 31 "FigureTill" "sheetLengths" "[I", Cond.methodLink RX11 205 Lib.Math.min.name, Cond.static Lib.Math.min.name, Cond.initialized "java/lang/Math", Cond.code Lib.Math.min.name Lib.Math.min.code 2 (some .int), Cond.fieldLink RX11 36 "FigureTill" "sheetNumbers" "[[I", Cond.fieldLink RX11 10 "FigureTill" "shop" "LFigureTill$Shop;", Cond.methodLink RX11 154 yX11_isSheet, Cond.static yX11_isSheet, Cond.initialized RX11, Cond.code yX11_isSheet cX11_isSheet 1 (some .boolean), Cond.methodLink RX11 81 yX11_within, Cond.static yX11_within, Cond.code yX11_within cX11_within 3 (some .boolean), Cond.methodLink RX11 89 yX11_error, Cond.instanceMethod yX11_error, Cond.selects RX11 yX11_error yX11_error, Cond.code yX11_error cX11_error 2 (some .int), Cond.fieldLink RX11 46 "FigureTill" "errors" "[I", Cond.constant RX11 296 (-1000000000), Cond.methodLink RX11 210 yX11_isMissing, Cond.instanceMethod yX11_isMissing, Cond.selects RX11 yX11_isMissing yX11_isMissing, Cond.code yX11_isMissing cX11_isMissing 2 (some .boolean)]
def wsX11_prices_r2 : List Cond := [Cond.fieldLink RX11 27 "FigureTill" "sheetBits" "[I", Cond.methodLink RX11 85 yX11_isGood, Cond.static yX11_isGood, Cond.code yX11_isGood cX11_isGood 2 (some .boolean), Cond.fieldLink RX11 300 "FigureTill" "LEAST" "[I", Cond.fieldLink RX11 303 "FigureTill" "MOST" "[I"]
def wsX11_prices : List Cond := .code yX11_prices cX11_prices 4 (some .int) :: ((wsX11_prices_r1 ++ wsX11_prices_r2) ++ wsX110 ++ wsX70)
def wsX11_image_r1 : List Cond := [Cond.fieldLink RX11 16 "FigureTill" "kept" "LFigureTill$Shop;", Cond.fieldLink RX11 10 "FigureTill" "shop" "LFigureTill$Shop;", Cond.fieldLink RX11 19 "FigureTill" "imaged" "Z", Cond.fieldLink RX11 23 "FigureTill" "images" "I", Cond.instanceMethod yX7_become, Cond.initialized RX7, Cond.selects RX7 yX7_become yX7_become, Cond.code yX7_become cX7_become 3 none, Cond.fieldLink RX7 11 "FigureTill$Shop" "goods" "[[I", Cond.methodLink RX7 71 arraycopyName, Cond.native arraycopyName, Cond.static arraycopyName, Cond.initialized "java/lang/System", Cond.fieldLink RX7 18 "FigureTill$Shop" "tills" "[LFigureTill$Till;", Cond.fieldLink RX7 22 "FigureTill$Shop" "takings" "I", Cond.fieldLink RX7 26 "FigureTill$Shop" "costs" "I", Cond.fieldLink RX7 29 "FigureTill$Shop" "goes" "I", Cond.fieldLink RX7 32 "FigureTill$Shop" "z" "I", Cond.fieldLink RX7 35 "FigureTill$Shop" "tape" "[I", Cond.fieldLink RX7 39 "FigureTill$Shop" "fed" "I", Cond.fieldLink RX7 49 "FigureTill$Shop" "paysLaw" "LFigureTill$Law;", Cond.fieldLink RX7 55 "FigureTill$Shop" "valuesLaw" "LFigureTill$Law;", Cond.fieldLink RX7 58 "FigureTill$Shop" "waiting" "[I", Cond.fieldLink RX7 61 "FigureTill$Shop" "waits" "I"]
def wsX11_image_r2 : List Cond := [Cond.instanceMethod yX4_become, Cond.initialized RX4, Cond.selects RX4 yX4_become yX4_become, Cond.code yX4_become cX4_become 2 none, Cond.fieldLink RX4 9 "FigureTill$Law" "code" "[I", Cond.methodLink RX4 45 arraycopyName, Cond.fieldLink RX4 15 "FigureTill$Law" "length" "I"]
def wsX11_image : List Cond := .code yX11_image cX11_image 1 (some .int) :: ((wsX11_image_r1 ++ wsX11_image_r2) ++ wsX110 ++ wsX70 ++ wsX40)
def wsX11_restore_r1 : List Cond := [Cond.fieldLink RX11 19 "FigureTill" "imaged" "Z", Cond.fieldLink RX11 10 "FigureTill" "shop" "LFigureTill$Shop;", Cond.fieldLink RX11 16 "FigureTill" "kept" "LFigureTill$Shop;", Cond.methodLink RX11 89 yX11_error, Cond.instanceMethod yX11_error, Cond.selects RX11 yX11_error yX11_error, Cond.initialized RX11, Cond.code yX11_error cX11_error 2 (some .int), Cond.fieldLink RX11 46 "FigureTill" "errors" "[I", Cond.constant RX11 296 (-1000000000), Cond.methodLink RX11 81 yX11_within, Cond.static yX11_within, Cond.code yX11_within cX11_within 3 (some .boolean), Cond.instanceMethod yX7_become, Cond.initialized RX7, Cond.selects RX7 yX7_become yX7_become, Cond.code yX7_become cX7_become 3 none, Cond.fieldLink RX7 11 "FigureTill$Shop" "goods" "[[I", Cond.methodLink RX7 71 arraycopyName, Cond.native arraycopyName, Cond.static arraycopyName, Cond.initialized "java/lang/System", Cond.fieldLink RX7 18 "FigureTill$Shop" "tills" "[LFigureTill$Till;", Cond.fieldLink RX7 22 "FigureTill$Shop" "takings" "I"]
def wsX11_restore_r2 : List Cond := [Cond.fieldLink RX7 26 "FigureTill$Shop" "costs" "I", Cond.fieldLink RX7 29 "FigureTill$Shop" "goes" "I", Cond.fieldLink RX7 32 "FigureTill$Shop" "z" "I", Cond.fieldLink RX7 35 "FigureTill$Shop" "tape" "[I", Cond.fieldLink RX7 39 "FigureTill$Shop" "fed" "I", Cond.fieldLink RX7 49 "FigureTill$Shop" "paysLaw" "LFigureTill$Law;", Cond.fieldLink RX7 55 "FigureTill$Shop" "valuesLaw" "LFigureTill$Law;", Cond.fieldLink RX7 58 "FigureTill$Shop" "waiting" "[I", Cond.fieldLink RX7 61 "FigureTill$Shop" "waits" "I", Cond.instanceMethod yX4_become, Cond.initialized RX4, Cond.selects RX4 yX4_become yX4_become, Cond.code yX4_become cX4_become 2 none, Cond.fieldLink RX4 9 "FigureTill$Law" "code" "[I", Cond.methodLink RX4 45 arraycopyName, Cond.fieldLink RX4 15 "FigureTill$Law" "length" "I"]
def wsX11_restore : List Cond := .code yX11_restore cX11_restore 1 (some .int) :: ((wsX11_restore_r1 ++ wsX11_restore_r2) ++ wsX110 ++ wsX70 ++ wsX40)
def wsX11_tell : List Cond := .code yX11_tell cX11_tell 2 (some .int) :: ([.fieldLink RX11 10 "FigureTill" "shop" "LFigureTill$Shop;", .methodLink RX11 89 yX11_error, .instanceMethod yX11_error, .selects RX11 yX11_error yX11_error, .initialized RX11, .code yX11_error cX11_error 2 (some .int), .fieldLink RX11 46 "FigureTill" "errors" "[I", .constant RX11 296 (-1000000000), .methodLink RX11 81 yX11_within, .static yX11_within, .code yX11_within cX11_within 3 (some .boolean)] ++ wsX110 ++ wsX70)
def wsX11_check_r1 : List Cond := [Cond.fieldLink RX11 10 "FigureTill" "shop" "LFigureTill$Shop;", Cond.methodLink RX11 99 yX11_isTill, Cond.static yX11_isTill, Cond.initialized RX11, Cond.code yX11_isTill cX11_isTill 1 (some .boolean), Cond.methodLink RX11 81 yX11_within, Cond.static yX11_within, Cond.code yX11_within cX11_within 3 (some .boolean), Cond.methodLink RX11 89 yX11_error, Cond.instanceMethod yX11_error, Cond.selects RX11 yX11_error yX11_error, Cond.code yX11_error cX11_error 2 (some .int), Cond.fieldLink RX11 46 "FigureTill" "errors" "[I", Cond.constant RX11 296 (-1000000000), Cond.instanceMethod yX7_paid, Cond.initialized RX7, Cond.selects RX7 yX7_paid yX7_paid, Cond.code yX7_paid cX7_paid 4 (some .int), Cond.fieldLink RX7 18 "FigureTill$Shop" "tills" "[LFigureTill$Till;", Cond.fieldLink RX7 49 "FigureTill$Shop" "paysLaw" "LFigureTill$Law;", Cond.methodLink RX7 81 ⟨"FigureTill$Till", "due", "(IILFigureTill$Law;)I"⟩, Cond.sameMethod "FigureTill$Till" "FigureTill$Till" "due" "(IILFigureTill$Law;)I", Cond.instanceMethod ⟨"FigureTill$Till", "due", "(IILFigureTill$Law;)I"⟩, Cond.selects RX1 ⟨"FigureTill$Till", "due", "(IILFigureTill$Law;)I"⟩ yX1_due]
def wsX11_check_r2 : List Cond := [Cond.instanceMethod yX1_due, Cond.initialized RX1, Cond.code yX1_due cX1_due 4 (some .int), Cond.fieldLink RX1 11 "FigureTill$ErrsTill" "m" "I", Cond.sameField "FigureTill$ErrsTill" "FigureTill$Till" "m" "I", Cond.static yX11_figureSum, Cond.code yX11_figureSum cX11_figureSum 5 (some .int), Cond.code yX8_due cX8_due 4 (some .int), Cond.selects RX2 ⟨"FigureTill$Till", "due", "(IILFigureTill$Law;)I"⟩ yX2_due, Cond.instanceMethod yX2_due, Cond.initialized RX2, Cond.code yX2_due cX2_due 4 (some .int), Cond.fieldLink RX2 11 "FigureTill$FloorTill" "m" "I", Cond.sameField "FigureTill$FloorTill" "FigureTill$Till" "m" "I", Cond.methodLink RX2 21 Lib.Math.max.name, Cond.static Lib.Math.max.name, Cond.initialized "java/lang/Math", Cond.code Lib.Math.max.name Lib.Math.max.code 2 (some .int), Cond.methodLink RX2 17 yX3_due, Cond.sameMethod "FigureTill$LastTill" "FigureTill$LastTill" "due" "(IILFigureTill$Law;)I", Cond.superclass RX2 RX3, Cond.instanceMethod yX3_due, Cond.initialized RX3, Cond.code yX3_due cX3_due 4 (some .int)]
def wsX11_check_r3 : List Cond := [Cond.selects RX3 ⟨"FigureTill$Till", "due", "(IILFigureTill$Law;)I"⟩ yX3_due, Cond.selects RX5 ⟨"FigureTill$Till", "due", "(IILFigureTill$Law;)I"⟩ yX5_due, Cond.instanceMethod yX5_due, Cond.initialized RX5, Cond.code yX5_due cX5_due 4 (some .int), Cond.fieldLink RX5 11 "FigureTill$OtherTill" "m" "I", Cond.sameField "FigureTill$OtherTill" "FigureTill$Till" "m" "I", Cond.static yX11_oneFigure, Cond.code yX11_oneFigure cX11_oneFigure 4 (some .int), Cond.methodLink RX11 122 yX11_figureSum, Cond.selects RX6 ⟨"FigureTill$Till", "due", "(IILFigureTill$Law;)I"⟩ yX6_due, Cond.instanceMethod yX6_due, Cond.initialized RX6, Cond.code yX6_due cX6_due 4 (some .int), Cond.methodLink RX7 81 yX8_due, Cond.instanceMethod yX8_due, Cond.selects RX8 yX8_due yX8_due, Cond.initialized RX8, Cond.selects RX9 ⟨"FigureTill$Till", "due", "(IILFigureTill$Law;)I"⟩ yX9_due, Cond.instanceMethod yX9_due, Cond.initialized RX9, Cond.code yX9_due cX9_due 4 (some .int), Cond.fieldLink RX9 17 "FigureTill$ToldTill" "m" "I", Cond.sameField "FigureTill$ToldTill" "FigureTill$Till" "m" "I"]
def wsX11_check_r4 : List Cond := [Cond.instanceMethod yX4_isTold, Cond.initialized RX4, Cond.selects RX4 yX4_isTold yX4_isTold, Cond.code yX4_isTold cX4_isTold 1 (some .boolean), Cond.fieldLink RX4 15 "FigureTill$Law" "length" "I", Cond.instanceMethod yX4_workedOut, Cond.selects RX4 yX4_workedOut yX4_workedOut, Cond.code yX4_workedOut cX4_workedOut 7 (some .int), Cond.fieldLink RX4 9 "FigureTill$Law" "code" "[I", Cond.fieldLink RX4 19 "FigureTill$Law" "stack" "[I", Cond.methodLink RX4 105 yX4_named, Cond.static yX4_named, Cond.code yX4_named cX4_named 4 (some .int), Cond.methodLink RX4 109 yX4_joined, Cond.static yX4_joined, Cond.code yX4_joined cX4_joined 3 (some .int), Cond.methodLink RX9 27 yX8_due, Cond.superclass RX9 RX8, Cond.static yX11_held, Cond.code yX11_held cX11_held 2 (some .int), Cond.methodLink RX11 205 Lib.Math.min.name, Cond.static Lib.Math.min.name, Cond.code Lib.Math.min.name Lib.Math.min.code 2 (some .int), Cond.methodLink RX11 297 Lib.Math.max.name]
def wsX11_check : List Cond := .code yX11_check cX11_check 4 (some .int) :: ((wsX11_check_r1 ++ (wsX11_check_r2 ++ (wsX11_check_r3 ++ wsX11_check_r4))) ++ wsX110 ++ wsX70 ++ wsX10 ++ wsX20 ++ wsX30 ++ wsX50 ++ wsX60 ++ wsX80 ++ wsX90 ++ wsX40)
def wsX11_count : List Cond := .code yX11_count cX11_count 2 (some .int) :: ([.fieldLink RX11 10 "FigureTill" "shop" "LFigureTill$Shop;", .fieldLink RX11 42 "FigureTill" "trace" "LFigureTill$Trace;", .instanceMethod yX7_stockOfAll, .initialized RX7, .selects RX7 yX7_stockOfAll yX7_stockOfAll, .code yX7_stockOfAll cX7_stockOfAll 3 (some .int), .fieldLink RX7 11 "FigureTill$Shop" "goods" "[[I", .methodLink RX11 89 yX11_error, .instanceMethod yX11_error, .selects RX11 yX11_error yX11_error, .initialized RX11, .code yX11_error cX11_error 2 (some .int), .fieldLink RX11 46 "FigureTill" "errors" "[I", .constant RX11 296 (-1000000000), .methodLink RX11 81 yX11_within, .static yX11_within, .code yX11_within cX11_within 3 (some .boolean)] ++ wsX110 ++ wsX70 ++ wsX100)
def wsX11_told : List Cond := .code yX11_told cX11_told 2 (some .int) :: ([.fieldLink RX11 46 "FigureTill" "errors" "[I", .methodLink RX11 81 yX11_within, .static yX11_within, .initialized RX11, .code yX11_within cX11_within 3 (some .boolean), .methodLink RX11 89 yX11_error, .instanceMethod yX11_error, .selects RX11 yX11_error yX11_error, .code yX11_error cX11_error 2 (some .int), .constant RX11 296 (-1000000000)] ++ wsX110)
def wsX12_init : List Cond := .code yX12_init cX12_init 3 none :: ([.methodLink RX12 1 objectInit, .instanceMethod objectInit, .code objectInit ⟨#[0xb1]⟩ 1 none, .arrayClass .int, .fieldLink RX12 7 "FigureTillModel" "s" "[I", .fieldLink RX12 13 "FigureTillModel" "kept" "[I", .fieldLink RX12 16 "FigureTillModel" "errors" "[I", .fieldLink RX12 19 "FigureTillModel" "step" "[I", .fieldLink RX12 22 "FigureTillModel" "named" "[I", .fieldLink RX12 25 "FigureTillModel" "pile" "[I", .fieldLink RX12 28 "FigureTillModel" "told" "[I", .fieldLink RX12 31 "FigureTillModel" "beside1" "[I", .fieldLink RX12 34 "FigureTillModel" "row" "[I", .fieldLink RX12 37 "FigureTillModel" "best" "[I", .fieldLink RX12 40 "FigureTillModel" "worthOf" "[I", .fieldLink RX12 43 "FigureTillModel" "trace" "[I", .fieldLink RX12 46 "FigureTillModel" "bits" "[I", .fieldLink RX12 49 "FigureTillModel" "sizes" "[I", .fieldLink RX12 52 "FigureTillModel" "number" "[I", .fieldLink RX12 55 "FigureTillModel" "aside" "[I"] ++ wsX120)
def wsX12_error : List Cond := .code yX12_error cX12_error 2 (some .int) :: ([.fieldLink RX12 16 "FigureTillModel" "errors" "[I", .constant RX12 58 (-1000000000)] ++ wsX120)
def wsX12_in : List Cond := .code yX12_in cX12_in 3 (some .boolean) :: ([])
def wsX12_held : List Cond := .code yX12_held cX12_held 3 (some .int) :: ([])
def wsX12_carry : List Cond := .code yX12_carry cX12_carry 3 none :: ([])
def wsX12_isThing : List Cond := .code yX12_isThing cX12_isThing 1 (some .boolean) :: ([.methodLink RX12 59 yX12_in, .static yX12_in, .initialized RX12, .code yX12_in cX12_in 3 (some .boolean)])
def wsX12_isTill : List Cond := .code yX12_isTill cX12_isTill 1 (some .boolean) :: ([.methodLink RX12 59 yX12_in, .static yX12_in, .initialized RX12, .code yX12_in cX12_in 3 (some .boolean)])
def wsX12_kindOf : List Cond := .code yX12_kindOf cX12_kindOf 2 (some .int) :: ([.fieldLink RX12 7 "FigureTillModel" "s" "[I"] ++ wsX120)
def wsX12_mOf : List Cond := .code yX12_mOf cX12_mOf 2 (some .int) :: ([.fieldLink RX12 7 "FigureTillModel" "s" "[I"] ++ wsX120)
def wsX12_change1 : List Cond := .code yX12_change1 cX12_change1 4 (some .int) :: ([.fieldLink RX12 7 "FigureTillModel" "s" "[I"] ++ wsX120)
def wsX12_feed : List Cond := .code yX12_feed cX12_feed 5 (some .int) :: ([.fieldLink RX12 7 "FigureTillModel" "s" "[I", .constantLong RX12 67 (255), .methodLink RX12 59 yX12_in, .static yX12_in, .initialized RX12, .code yX12_in cX12_in 3 (some .boolean), .methodLink RX12 63 yX12_error, .instanceMethod yX12_error, .selects RX12 yX12_error yX12_error, .code yX12_error cX12_error 2 (some .int), .fieldLink RX12 16 "FigureTillModel" "errors" "[I", .constant RX12 58 (-1000000000)] ++ wsX120)
def wsX12_look : List Cond := .code yX12_look cX12_look 1 (some .int) :: ([.fieldLink RX12 69 "FigureTillModel" "at" "I", .fieldLink RX12 7 "FigureTillModel" "s" "[I"] ++ wsX120)
def wsX12_isName : List Cond := .code yX12_isName cX12_isName 2 (some .boolean) :: ([.fieldLink RX12 73 "FigureTillModel" "use" "I"] ++ wsX120)
def wsX12_step1 : List Cond := .code yX12_step1 cX12_step1 3 none :: ([.fieldLink RX12 19 "FigureTillModel" "step" "[I", .fieldLink RX12 76 "FigureTillModel" "steps" "I"] ++ wsX120)
def wsX12_opens : List Cond := .code yX12_opens cX12_opens 1 (some .boolean) :: ([.fieldLink RX12 103 "FigureTillModel" "open" "I", .fieldLink RX12 69 "FigureTillModel" "at" "I"] ++ wsX120)
def wsX12_both_r1 : List Cond := [Cond.fieldLink RX12 69 "FigureTillModel" "at" "I", Cond.methodLink RX12 91 yX12_compared, Cond.instanceMethod yX12_compared, Cond.selects RX12 yX12_compared yX12_compared, Cond.initialized RX12, Cond.methodLink RX12 83 yX12_look, Cond.instanceMethod yX12_look, Cond.selects RX12 yX12_look yX12_look, Cond.code yX12_look cX12_look 1 (some .int), Cond.fieldLink RX12 7 "FigureTillModel" "s" "[I", Cond.methodLink RX12 87 yX12_step1, Cond.instanceMethod yX12_step1, Cond.selects RX12 yX12_step1 yX12_step1, Cond.code yX12_step1 cX12_step1 3 none, Cond.fieldLink RX12 19 "FigureTillModel" "step" "[I", Cond.fieldLink RX12 76 "FigureTillModel" "steps" "I", Cond.code yX12_compared cX12_compared 2 (some .boolean), Cond.methodLink RX12 94 yX12_sum, Cond.instanceMethod yX12_sum, Cond.selects RX12 yX12_sum yX12_sum, Cond.code yX12_one cX12_one 4 (some .boolean), Cond.fieldLink RX12 103 "FigureTillModel" "open" "I", Cond.methodLink RX12 106 yX12_isName, Cond.instanceMethod yX12_isName]
def wsX12_both_r2 : List Cond := [Cond.selects RX12 yX12_isName yX12_isName, Cond.code yX12_isName cX12_isName 2 (some .boolean), Cond.fieldLink RX12 73 "FigureTillModel" "use" "I", Cond.methodLink RX12 59 yX12_in, Cond.static yX12_in, Cond.code yX12_in cX12_in 3 (some .boolean), Cond.methodLink RX12 110 yX12_opens, Cond.instanceMethod yX12_opens, Cond.selects RX12 yX12_opens yX12_opens, Cond.code yX12_opens cX12_opens 1 (some .boolean), Cond.methodLink RX12 100 yX12_one, Cond.instanceMethod yX12_one, Cond.selects RX12 yX12_one yX12_one, Cond.methodLink RX12 113 yX12_whole, Cond.instanceMethod yX12_whole, Cond.selects RX12 yX12_whole yX12_whole, Cond.code yX12_product cX12_product 2 (some .boolean), Cond.code yX12_sum cX12_sum 2 (some .boolean), Cond.methodLink RX12 97 yX12_product, Cond.instanceMethod yX12_product, Cond.selects RX12 yX12_product yX12_product, Cond.code yX12_whole cX12_whole 1 (some .boolean), Cond.methodLink RX12 79 yX12_both, Cond.instanceMethod yX12_both]
def wsX12_both_r3 : List Cond := [Cond.selects RX12 yX12_both yX12_both]
def wsX12_both : List Cond := .code yX12_both cX12_both 1 (some .boolean) :: ((wsX12_both_r1 ++ (wsX12_both_r2 ++ wsX12_both_r3)) ++ wsX120)
def wsX12_compared_r1 : List Cond := [Cond.fieldLink RX12 69 "FigureTillModel" "at" "I", Cond.methodLink RX12 94 yX12_sum, Cond.instanceMethod yX12_sum, Cond.selects RX12 yX12_sum yX12_sum, Cond.initialized RX12, Cond.methodLink RX12 83 yX12_look, Cond.instanceMethod yX12_look, Cond.selects RX12 yX12_look yX12_look, Cond.code yX12_look cX12_look 1 (some .int), Cond.fieldLink RX12 7 "FigureTillModel" "s" "[I", Cond.methodLink RX12 87 yX12_step1, Cond.instanceMethod yX12_step1, Cond.selects RX12 yX12_step1 yX12_step1, Cond.code yX12_step1 cX12_step1 3 none, Cond.fieldLink RX12 19 "FigureTillModel" "step" "[I", Cond.fieldLink RX12 76 "FigureTillModel" "steps" "I", Cond.code yX12_both cX12_both 1 (some .boolean), Cond.methodLink RX12 91 yX12_compared, Cond.instanceMethod yX12_compared, Cond.selects RX12 yX12_compared yX12_compared, Cond.code yX12_one cX12_one 4 (some .boolean), Cond.fieldLink RX12 103 "FigureTillModel" "open" "I", Cond.methodLink RX12 106 yX12_isName, Cond.instanceMethod yX12_isName]
def wsX12_compared_r2 : List Cond := [Cond.selects RX12 yX12_isName yX12_isName, Cond.code yX12_isName cX12_isName 2 (some .boolean), Cond.fieldLink RX12 73 "FigureTillModel" "use" "I", Cond.methodLink RX12 59 yX12_in, Cond.static yX12_in, Cond.code yX12_in cX12_in 3 (some .boolean), Cond.methodLink RX12 110 yX12_opens, Cond.instanceMethod yX12_opens, Cond.selects RX12 yX12_opens yX12_opens, Cond.code yX12_opens cX12_opens 1 (some .boolean), Cond.methodLink RX12 100 yX12_one, Cond.instanceMethod yX12_one, Cond.selects RX12 yX12_one yX12_one, Cond.methodLink RX12 113 yX12_whole, Cond.instanceMethod yX12_whole, Cond.selects RX12 yX12_whole yX12_whole, Cond.code yX12_product cX12_product 2 (some .boolean), Cond.code yX12_sum cX12_sum 2 (some .boolean), Cond.methodLink RX12 97 yX12_product, Cond.instanceMethod yX12_product, Cond.selects RX12 yX12_product yX12_product, Cond.code yX12_whole cX12_whole 1 (some .boolean), Cond.methodLink RX12 79 yX12_both, Cond.instanceMethod yX12_both]
def wsX12_compared_r3 : List Cond := [Cond.selects RX12 yX12_both yX12_both]
def wsX12_compared : List Cond := .code yX12_compared cX12_compared 2 (some .boolean) :: ((wsX12_compared_r1 ++ (wsX12_compared_r2 ++ wsX12_compared_r3)) ++ wsX120)
def wsX12_one_r1 : List Cond := [Cond.fieldLink RX12 69 "FigureTillModel" "at" "I", Cond.fieldLink RX12 103 "FigureTillModel" "open" "I", Cond.methodLink RX12 83 yX12_look, Cond.instanceMethod yX12_look, Cond.selects RX12 yX12_look yX12_look, Cond.initialized RX12, Cond.code yX12_look cX12_look 1 (some .int), Cond.fieldLink RX12 7 "FigureTillModel" "s" "[I", Cond.methodLink RX12 106 yX12_isName, Cond.instanceMethod yX12_isName, Cond.selects RX12 yX12_isName yX12_isName, Cond.code yX12_isName cX12_isName 2 (some .boolean), Cond.fieldLink RX12 73 "FigureTillModel" "use" "I", Cond.methodLink RX12 87 yX12_step1, Cond.instanceMethod yX12_step1, Cond.selects RX12 yX12_step1 yX12_step1, Cond.code yX12_step1 cX12_step1 3 none, Cond.fieldLink RX12 19 "FigureTillModel" "step" "[I", Cond.fieldLink RX12 76 "FigureTillModel" "steps" "I", Cond.methodLink RX12 59 yX12_in, Cond.static yX12_in, Cond.code yX12_in cX12_in 3 (some .boolean), Cond.methodLink RX12 110 yX12_opens, Cond.instanceMethod yX12_opens]
def wsX12_one_r2 : List Cond := [Cond.selects RX12 yX12_opens yX12_opens, Cond.code yX12_opens cX12_opens 1 (some .boolean), Cond.methodLink RX12 100 yX12_one, Cond.instanceMethod yX12_one, Cond.selects RX12 yX12_one yX12_one, Cond.methodLink RX12 113 yX12_whole, Cond.instanceMethod yX12_whole, Cond.selects RX12 yX12_whole yX12_whole, Cond.code yX12_both cX12_both 1 (some .boolean), Cond.methodLink RX12 91 yX12_compared, Cond.instanceMethod yX12_compared, Cond.selects RX12 yX12_compared yX12_compared, Cond.code yX12_compared cX12_compared 2 (some .boolean), Cond.methodLink RX12 94 yX12_sum, Cond.instanceMethod yX12_sum, Cond.selects RX12 yX12_sum yX12_sum, Cond.code yX12_product cX12_product 2 (some .boolean), Cond.code yX12_sum cX12_sum 2 (some .boolean), Cond.methodLink RX12 97 yX12_product, Cond.instanceMethod yX12_product, Cond.selects RX12 yX12_product yX12_product, Cond.code yX12_whole cX12_whole 1 (some .boolean), Cond.methodLink RX12 79 yX12_both, Cond.instanceMethod yX12_both]
def wsX12_one_r3 : List Cond := [Cond.selects RX12 yX12_both yX12_both]
def wsX12_one : List Cond := .code yX12_one cX12_one 4 (some .boolean) :: ((wsX12_one_r1 ++ (wsX12_one_r2 ++ wsX12_one_r3)) ++ wsX120)
def wsX12_product_r1 : List Cond := [Cond.fieldLink RX12 69 "FigureTillModel" "at" "I", Cond.methodLink RX12 100 yX12_one, Cond.instanceMethod yX12_one, Cond.selects RX12 yX12_one yX12_one, Cond.initialized RX12, Cond.methodLink RX12 83 yX12_look, Cond.instanceMethod yX12_look, Cond.selects RX12 yX12_look yX12_look, Cond.code yX12_look cX12_look 1 (some .int), Cond.fieldLink RX12 7 "FigureTillModel" "s" "[I", Cond.methodLink RX12 87 yX12_step1, Cond.instanceMethod yX12_step1, Cond.selects RX12 yX12_step1 yX12_step1, Cond.code yX12_step1 cX12_step1 3 none, Cond.fieldLink RX12 19 "FigureTillModel" "step" "[I", Cond.fieldLink RX12 76 "FigureTillModel" "steps" "I", Cond.code yX12_both cX12_both 1 (some .boolean), Cond.methodLink RX12 91 yX12_compared, Cond.instanceMethod yX12_compared, Cond.selects RX12 yX12_compared yX12_compared, Cond.code yX12_compared cX12_compared 2 (some .boolean), Cond.methodLink RX12 94 yX12_sum, Cond.instanceMethod yX12_sum, Cond.selects RX12 yX12_sum yX12_sum]
def wsX12_product_r2 : List Cond := [Cond.code yX12_one cX12_one 4 (some .boolean), Cond.fieldLink RX12 103 "FigureTillModel" "open" "I", Cond.methodLink RX12 106 yX12_isName, Cond.instanceMethod yX12_isName, Cond.selects RX12 yX12_isName yX12_isName, Cond.code yX12_isName cX12_isName 2 (some .boolean), Cond.fieldLink RX12 73 "FigureTillModel" "use" "I", Cond.methodLink RX12 59 yX12_in, Cond.static yX12_in, Cond.code yX12_in cX12_in 3 (some .boolean), Cond.methodLink RX12 110 yX12_opens, Cond.instanceMethod yX12_opens, Cond.selects RX12 yX12_opens yX12_opens, Cond.code yX12_opens cX12_opens 1 (some .boolean), Cond.methodLink RX12 113 yX12_whole, Cond.instanceMethod yX12_whole, Cond.selects RX12 yX12_whole yX12_whole, Cond.code yX12_sum cX12_sum 2 (some .boolean), Cond.methodLink RX12 97 yX12_product, Cond.instanceMethod yX12_product, Cond.selects RX12 yX12_product yX12_product, Cond.code yX12_whole cX12_whole 1 (some .boolean), Cond.methodLink RX12 79 yX12_both, Cond.instanceMethod yX12_both]
def wsX12_product_r3 : List Cond := [Cond.selects RX12 yX12_both yX12_both]
def wsX12_product : List Cond := .code yX12_product cX12_product 2 (some .boolean) :: ((wsX12_product_r1 ++ (wsX12_product_r2 ++ wsX12_product_r3)) ++ wsX120)
def wsX12_sum_r1 : List Cond := [Cond.fieldLink RX12 69 "FigureTillModel" "at" "I", Cond.methodLink RX12 97 yX12_product, Cond.instanceMethod yX12_product, Cond.selects RX12 yX12_product yX12_product, Cond.initialized RX12, Cond.methodLink RX12 83 yX12_look, Cond.instanceMethod yX12_look, Cond.selects RX12 yX12_look yX12_look, Cond.code yX12_look cX12_look 1 (some .int), Cond.fieldLink RX12 7 "FigureTillModel" "s" "[I", Cond.methodLink RX12 87 yX12_step1, Cond.instanceMethod yX12_step1, Cond.selects RX12 yX12_step1 yX12_step1, Cond.code yX12_step1 cX12_step1 3 none, Cond.fieldLink RX12 19 "FigureTillModel" "step" "[I", Cond.fieldLink RX12 76 "FigureTillModel" "steps" "I", Cond.code yX12_both cX12_both 1 (some .boolean), Cond.methodLink RX12 91 yX12_compared, Cond.instanceMethod yX12_compared, Cond.selects RX12 yX12_compared yX12_compared, Cond.code yX12_compared cX12_compared 2 (some .boolean), Cond.methodLink RX12 94 yX12_sum, Cond.instanceMethod yX12_sum, Cond.selects RX12 yX12_sum yX12_sum]
def wsX12_sum_r2 : List Cond := [Cond.code yX12_one cX12_one 4 (some .boolean), Cond.fieldLink RX12 103 "FigureTillModel" "open" "I", Cond.methodLink RX12 106 yX12_isName, Cond.instanceMethod yX12_isName, Cond.selects RX12 yX12_isName yX12_isName, Cond.code yX12_isName cX12_isName 2 (some .boolean), Cond.fieldLink RX12 73 "FigureTillModel" "use" "I", Cond.methodLink RX12 59 yX12_in, Cond.static yX12_in, Cond.code yX12_in cX12_in 3 (some .boolean), Cond.methodLink RX12 110 yX12_opens, Cond.instanceMethod yX12_opens, Cond.selects RX12 yX12_opens yX12_opens, Cond.code yX12_opens cX12_opens 1 (some .boolean), Cond.methodLink RX12 100 yX12_one, Cond.instanceMethod yX12_one, Cond.selects RX12 yX12_one yX12_one, Cond.methodLink RX12 113 yX12_whole, Cond.instanceMethod yX12_whole, Cond.selects RX12 yX12_whole yX12_whole, Cond.code yX12_product cX12_product 2 (some .boolean), Cond.code yX12_whole cX12_whole 1 (some .boolean), Cond.methodLink RX12 79 yX12_both, Cond.instanceMethod yX12_both]
def wsX12_sum_r3 : List Cond := [Cond.selects RX12 yX12_both yX12_both]
def wsX12_sum : List Cond := .code yX12_sum cX12_sum 2 (some .boolean) :: ((wsX12_sum_r1 ++ (wsX12_sum_r2 ++ wsX12_sum_r3)) ++ wsX120)
def wsX12_whole_r1 : List Cond := [Cond.fieldLink RX12 69 "FigureTillModel" "at" "I", Cond.methodLink RX12 79 yX12_both, Cond.instanceMethod yX12_both, Cond.selects RX12 yX12_both yX12_both, Cond.initialized RX12, Cond.methodLink RX12 83 yX12_look, Cond.instanceMethod yX12_look, Cond.selects RX12 yX12_look yX12_look, Cond.code yX12_look cX12_look 1 (some .int), Cond.fieldLink RX12 7 "FigureTillModel" "s" "[I", Cond.methodLink RX12 87 yX12_step1, Cond.instanceMethod yX12_step1, Cond.selects RX12 yX12_step1 yX12_step1, Cond.code yX12_step1 cX12_step1 3 none, Cond.fieldLink RX12 19 "FigureTillModel" "step" "[I", Cond.fieldLink RX12 76 "FigureTillModel" "steps" "I", Cond.code yX12_both cX12_both 1 (some .boolean), Cond.methodLink RX12 91 yX12_compared, Cond.instanceMethod yX12_compared, Cond.selects RX12 yX12_compared yX12_compared, Cond.code yX12_compared cX12_compared 2 (some .boolean), Cond.methodLink RX12 94 yX12_sum, Cond.instanceMethod yX12_sum, Cond.selects RX12 yX12_sum yX12_sum]
def wsX12_whole_r2 : List Cond := [Cond.code yX12_one cX12_one 4 (some .boolean), Cond.fieldLink RX12 103 "FigureTillModel" "open" "I", Cond.methodLink RX12 106 yX12_isName, Cond.instanceMethod yX12_isName, Cond.selects RX12 yX12_isName yX12_isName, Cond.code yX12_isName cX12_isName 2 (some .boolean), Cond.fieldLink RX12 73 "FigureTillModel" "use" "I", Cond.methodLink RX12 59 yX12_in, Cond.static yX12_in, Cond.code yX12_in cX12_in 3 (some .boolean), Cond.methodLink RX12 110 yX12_opens, Cond.instanceMethod yX12_opens, Cond.selects RX12 yX12_opens yX12_opens, Cond.code yX12_opens cX12_opens 1 (some .boolean), Cond.methodLink RX12 100 yX12_one, Cond.instanceMethod yX12_one, Cond.selects RX12 yX12_one yX12_one, Cond.methodLink RX12 113 yX12_whole, Cond.instanceMethod yX12_whole, Cond.selects RX12 yX12_whole yX12_whole, Cond.code yX12_product cX12_product 2 (some .boolean), Cond.code yX12_sum cX12_sum 2 (some .boolean), Cond.methodLink RX12 97 yX12_product, Cond.instanceMethod yX12_product]
def wsX12_whole_r3 : List Cond := [Cond.selects RX12 yX12_product yX12_product]
def wsX12_whole : List Cond := .code yX12_whole cX12_whole 1 (some .boolean) :: ((wsX12_whole_r1 ++ (wsX12_whole_r2 ++ wsX12_whole_r3)) ++ wsX120)
def wsX12_hasText : List Cond := .code yX12_hasText cX12_hasText 2 (some .boolean) :: ([.fieldLink RX12 7 "FigureTillModel" "s" "[I"] ++ wsX120)
def wsX12_text_r1 : List Cond := [Cond.fieldLink RX12 73 "FigureTillModel" "use" "I", Cond.fieldLink RX12 69 "FigureTillModel" "at" "I", Cond.fieldLink RX12 103 "FigureTillModel" "open" "I", Cond.fieldLink RX12 76 "FigureTillModel" "steps" "I", Cond.fieldLink RX12 7 "FigureTillModel" "s" "[I", Cond.fieldLink RX12 19 "FigureTillModel" "step" "[I", Cond.methodLink RX12 59 yX12_in, Cond.static yX12_in, Cond.initialized RX12, Cond.code yX12_in cX12_in 3 (some .boolean), Cond.methodLink RX12 63 yX12_error, Cond.instanceMethod yX12_error, Cond.selects RX12 yX12_error yX12_error, Cond.code yX12_error cX12_error 2 (some .int), Cond.fieldLink RX12 16 "FigureTillModel" "errors" "[I", Cond.constant RX12 58 (-1000000000), Cond.methodLink RX12 113 yX12_whole, Cond.instanceMethod yX12_whole, Cond.selects RX12 yX12_whole yX12_whole, Cond.code yX12_whole cX12_whole 1 (some .boolean), Cond.methodLink RX12 79 yX12_both, Cond.instanceMethod yX12_both, Cond.selects RX12 yX12_both yX12_both, Cond.methodLink RX12 83 yX12_look]
def wsX12_text_r2 : List Cond := [Cond.instanceMethod yX12_look, Cond.selects RX12 yX12_look yX12_look, Cond.code yX12_look cX12_look 1 (some .int), Cond.methodLink RX12 87 yX12_step1, Cond.instanceMethod yX12_step1, Cond.selects RX12 yX12_step1 yX12_step1, Cond.code yX12_step1 cX12_step1 3 none, Cond.code yX12_both cX12_both 1 (some .boolean), Cond.methodLink RX12 91 yX12_compared, Cond.instanceMethod yX12_compared, Cond.selects RX12 yX12_compared yX12_compared, Cond.code yX12_compared cX12_compared 2 (some .boolean), Cond.methodLink RX12 94 yX12_sum, Cond.instanceMethod yX12_sum, Cond.selects RX12 yX12_sum yX12_sum, Cond.code yX12_one cX12_one 4 (some .boolean), Cond.methodLink RX12 106 yX12_isName, Cond.instanceMethod yX12_isName, Cond.selects RX12 yX12_isName yX12_isName, Cond.code yX12_isName cX12_isName 2 (some .boolean), Cond.methodLink RX12 110 yX12_opens, Cond.instanceMethod yX12_opens, Cond.selects RX12 yX12_opens yX12_opens, Cond.code yX12_opens cX12_opens 1 (some .boolean)]
def wsX12_text_r3 : List Cond := [Cond.methodLink RX12 100 yX12_one, Cond.instanceMethod yX12_one, Cond.selects RX12 yX12_one yX12_one, Cond.code yX12_product cX12_product 2 (some .boolean), Cond.code yX12_sum cX12_sum 2 (some .boolean), Cond.methodLink RX12 97 yX12_product, Cond.instanceMethod yX12_product, Cond.selects RX12 yX12_product yX12_product]
def wsX12_text : List Cond := .code yX12_text cX12_text 5 (some .int) :: ((wsX12_text_r1 ++ (wsX12_text_r2 ++ wsX12_text_r3)) ++ wsX120)
def wsX12_untell : List Cond := .code yX12_untell cX12_untell 3 (some .int) :: ([.fieldLink RX12 7 "FigureTillModel" "s" "[I", .methodLink RX12 59 yX12_in, .static yX12_in, .initialized RX12, .code yX12_in cX12_in 3 (some .boolean), .methodLink RX12 63 yX12_error, .instanceMethod yX12_error, .selects RX12 yX12_error yX12_error, .code yX12_error cX12_error 2 (some .int), .fieldLink RX12 16 "FigureTillModel" "errors" "[I", .constant RX12 58 (-1000000000), .methodLink RX12 116 yX12_hasText, .instanceMethod yX12_hasText, .selects RX12 yX12_hasText yX12_hasText, .code yX12_hasText cX12_hasText 2 (some .boolean)] ++ wsX120)
def wsX12_joined : List Cond := .code yX12_joined cX12_joined 3 (some .int) :: ([])
def wsX12_worked : List Cond := .code yX12_worked cX12_worked 7 (some .int) :: ([.fieldLink RX12 7 "FigureTillModel" "s" "[I", .fieldLink RX12 25 "FigureTillModel" "pile" "[I", .fieldLink RX12 22 "FigureTillModel" "named" "[I", .methodLink RX12 119 yX12_joined, .static yX12_joined, .initialized RX12, .code yX12_joined cX12_joined 3 (some .int)] ++ wsX120)
def wsX12_added : List Cond := .code yX12_added cX12_added 4 (some .int) :: ([])
def wsX12_rooted : List Cond := .code yX12_rooted cX12_rooted 3 (some .int) :: ([.methodLink RX12 123 yX12_added, .static yX12_added, .initialized RX12, .code yX12_added cX12_added 4 (some .int)])
def wsX12_asked_r1 : List Cond := [Cond.fieldLink RX12 22 "FigureTillModel" "named" "[I", Cond.methodLink RX12 127 yX12_mOf, Cond.instanceMethod yX12_mOf, Cond.selects RX12 yX12_mOf yX12_mOf, Cond.initialized RX12, Cond.code yX12_mOf cX12_mOf 2 (some .int), Cond.fieldLink RX12 7 "FigureTillModel" "s" "[I", Cond.methodLink RX12 123 yX12_added, Cond.static yX12_added, Cond.code yX12_added cX12_added 4 (some .int), Cond.methodLink RX12 130 yX12_kindOf, Cond.instanceMethod yX12_kindOf, Cond.selects RX12 yX12_kindOf yX12_kindOf, Cond.code yX12_kindOf cX12_kindOf 2 (some .int), Cond.methodLink RX12 133 yX12_rooted, Cond.static yX12_rooted, Cond.code yX12_rooted cX12_rooted 3 (some .int), Cond.methodLink RX12 116 yX12_hasText, Cond.instanceMethod yX12_hasText, Cond.selects RX12 yX12_hasText yX12_hasText, Cond.code yX12_hasText cX12_hasText 2 (some .boolean), Cond.methodLink RX12 136 yX12_worked, Cond.instanceMethod yX12_worked, Cond.selects RX12 yX12_worked yX12_worked]
def wsX12_asked_r2 : List Cond := [Cond.code yX12_worked cX12_worked 7 (some .int), Cond.fieldLink RX12 25 "FigureTillModel" "pile" "[I", Cond.methodLink RX12 119 yX12_joined, Cond.static yX12_joined, Cond.code yX12_joined cX12_joined 3 (some .int), Cond.methodLink RX12 139 yX12_held, Cond.static yX12_held, Cond.code yX12_held cX12_held 3 (some .int)]
def wsX12_asked : List Cond := .code yX12_asked cX12_asked 6 (some .int) :: ((wsX12_asked_r1 ++ wsX12_asked_r2) ++ wsX120)
def wsX12_values : List Cond := .code yX12_values cX12_values 2 (some .int) :: ([.fieldLink RX12 22 "FigureTillModel" "named" "[I", .fieldLink RX12 7 "FigureTillModel" "s" "[I", .methodLink RX12 116 yX12_hasText, .instanceMethod yX12_hasText, .selects RX12 yX12_hasText yX12_hasText, .initialized RX12, .code yX12_hasText cX12_hasText 2 (some .boolean), .methodLink RX12 136 yX12_worked, .instanceMethod yX12_worked, .selects RX12 yX12_worked yX12_worked, .code yX12_worked cX12_worked 7 (some .int), .fieldLink RX12 25 "FigureTillModel" "pile" "[I", .methodLink RX12 119 yX12_joined, .static yX12_joined, .code yX12_joined cX12_joined 3 (some .int), .methodLink RX12 139 yX12_held, .static yX12_held, .code yX12_held cX12_held 3 (some .int)] ++ wsX120)
def wsX12_many : List Cond := .code yX12_many cX12_many 3 (some .int) :: ([])
def wsX12_sumOf : List Cond := .code yX12_sumOf cX12_sumOf 4 (some .int) :: ([.fieldLink RX12 7 "FigureTillModel" "s" "[I"] ++ wsX120)
def wsX12_costOf : List Cond := .code yX12_costOf cX12_costOf 4 (some .int) :: ([.fieldLink RX12 7 "FigureTillModel" "s" "[I"] ++ wsX120)
def wsX12_paid_r1 : List Cond := [Cond.methodLink RX12 142 yX12_sumOf, Cond.instanceMethod yX12_sumOf, Cond.selects RX12 yX12_sumOf yX12_sumOf, Cond.initialized RX12, Cond.code yX12_sumOf cX12_sumOf 4 (some .int), Cond.fieldLink RX12 7 "FigureTillModel" "s" "[I", Cond.methodLink RX12 146 yX12_many, Cond.static yX12_many, Cond.code yX12_many cX12_many 3 (some .int), Cond.methodLink RX12 149 yX12_asked, Cond.instanceMethod yX12_asked, Cond.selects RX12 yX12_asked yX12_asked, Cond.code yX12_asked cX12_asked 6 (some .int), Cond.fieldLink RX12 22 "FigureTillModel" "named" "[I", Cond.methodLink RX12 127 yX12_mOf, Cond.instanceMethod yX12_mOf, Cond.selects RX12 yX12_mOf yX12_mOf, Cond.code yX12_mOf cX12_mOf 2 (some .int), Cond.methodLink RX12 123 yX12_added, Cond.static yX12_added, Cond.code yX12_added cX12_added 4 (some .int), Cond.methodLink RX12 130 yX12_kindOf, Cond.instanceMethod yX12_kindOf, Cond.selects RX12 yX12_kindOf yX12_kindOf]
def wsX12_paid_r2 : List Cond := [Cond.code yX12_kindOf cX12_kindOf 2 (some .int), Cond.methodLink RX12 133 yX12_rooted, Cond.static yX12_rooted, Cond.code yX12_rooted cX12_rooted 3 (some .int), Cond.methodLink RX12 116 yX12_hasText, Cond.instanceMethod yX12_hasText, Cond.selects RX12 yX12_hasText yX12_hasText, Cond.code yX12_hasText cX12_hasText 2 (some .boolean), Cond.methodLink RX12 136 yX12_worked, Cond.instanceMethod yX12_worked, Cond.selects RX12 yX12_worked yX12_worked, Cond.code yX12_worked cX12_worked 7 (some .int), Cond.fieldLink RX12 25 "FigureTillModel" "pile" "[I", Cond.methodLink RX12 119 yX12_joined, Cond.static yX12_joined, Cond.code yX12_joined cX12_joined 3 (some .int), Cond.methodLink RX12 139 yX12_held, Cond.static yX12_held, Cond.code yX12_held cX12_held 3 (some .int)]
def wsX12_paid : List Cond := .code yX12_paid cX12_paid 3 (some .int) :: ((wsX12_paid_r1 ++ wsX12_paid_r2) ++ wsX120)
def wsX12_thing : List Cond := .code yX12_thing cX12_thing 4 (some .int) :: ([.methodLink RX12 152 yX12_isThing, .static yX12_isThing, .initialized RX12, .code yX12_isThing cX12_isThing 1 (some .boolean), .methodLink RX12 59 yX12_in, .static yX12_in, .code yX12_in cX12_in 3 (some .boolean), .methodLink RX12 63 yX12_error, .instanceMethod yX12_error, .selects RX12 yX12_error yX12_error, .code yX12_error cX12_error 2 (some .int), .fieldLink RX12 16 "FigureTillModel" "errors" "[I", .constant RX12 58 (-1000000000), .methodLink RX12 155 yX12_change1, .instanceMethod yX12_change1, .selects RX12 yX12_change1 yX12_change1, .code yX12_change1 cX12_change1 4 (some .int), .fieldLink RX12 7 "FigureTillModel" "s" "[I"] ++ wsX120)
def wsX12_thingIs_r1 : List Cond := [Cond.fieldLink RX12 7 "FigureTillModel" "s" "[I", Cond.methodLink RX12 152 yX12_isThing, Cond.static yX12_isThing, Cond.initialized RX12, Cond.code yX12_isThing cX12_isThing 1 (some .boolean), Cond.methodLink RX12 59 yX12_in, Cond.static yX12_in, Cond.code yX12_in cX12_in 3 (some .boolean), Cond.methodLink RX12 63 yX12_error, Cond.instanceMethod yX12_error, Cond.selects RX12 yX12_error yX12_error, Cond.code yX12_error cX12_error 2 (some .int), Cond.fieldLink RX12 16 "FigureTillModel" "errors" "[I", Cond.constant RX12 58 (-1000000000), Cond.methodLink RX12 158 yX12_values, Cond.instanceMethod yX12_values, Cond.selects RX12 yX12_values yX12_values, Cond.code yX12_values cX12_values 2 (some .int), Cond.fieldLink RX12 22 "FigureTillModel" "named" "[I", Cond.methodLink RX12 116 yX12_hasText, Cond.instanceMethod yX12_hasText, Cond.selects RX12 yX12_hasText yX12_hasText, Cond.code yX12_hasText cX12_hasText 2 (some .boolean), Cond.methodLink RX12 136 yX12_worked]
def wsX12_thingIs_r2 : List Cond := [Cond.instanceMethod yX12_worked, Cond.selects RX12 yX12_worked yX12_worked, Cond.code yX12_worked cX12_worked 7 (some .int), Cond.fieldLink RX12 25 "FigureTillModel" "pile" "[I", Cond.methodLink RX12 119 yX12_joined, Cond.static yX12_joined, Cond.code yX12_joined cX12_joined 3 (some .int), Cond.methodLink RX12 139 yX12_held, Cond.static yX12_held, Cond.code yX12_held cX12_held 3 (some .int)]
def wsX12_thingIs : List Cond := .code yX12_thingIs cX12_thingIs 3 (some .int) :: ((wsX12_thingIs_r1 ++ wsX12_thingIs_r2) ++ wsX120)
def wsX12_till : List Cond := .code yX12_till cX12_till 4 (some .int) :: ([.fieldLink RX12 7 "FigureTillModel" "s" "[I", .methodLink RX12 161 yX12_isTill, .static yX12_isTill, .initialized RX12, .code yX12_isTill cX12_isTill 1 (some .boolean), .methodLink RX12 59 yX12_in, .static yX12_in, .code yX12_in cX12_in 3 (some .boolean), .methodLink RX12 63 yX12_error, .instanceMethod yX12_error, .selects RX12 yX12_error yX12_error, .code yX12_error cX12_error 2 (some .int), .fieldLink RX12 16 "FigureTillModel" "errors" "[I", .constant RX12 58 (-1000000000), .methodLink RX12 130 yX12_kindOf, .instanceMethod yX12_kindOf, .selects RX12 yX12_kindOf yX12_kindOf, .code yX12_kindOf cX12_kindOf 2 (some .int), .methodLink RX12 127 yX12_mOf, .instanceMethod yX12_mOf, .selects RX12 yX12_mOf yX12_mOf, .code yX12_mOf cX12_mOf 2 (some .int)] ++ wsX120)
def wsX12_tillIs : List Cond := .code yX12_tillIs cX12_tillIs 3 (some .int) :: ([.fieldLink RX12 7 "FigureTillModel" "s" "[I", .methodLink RX12 161 yX12_isTill, .static yX12_isTill, .initialized RX12, .code yX12_isTill cX12_isTill 1 (some .boolean), .methodLink RX12 59 yX12_in, .static yX12_in, .code yX12_in cX12_in 3 (some .boolean), .methodLink RX12 63 yX12_error, .instanceMethod yX12_error, .selects RX12 yX12_error yX12_error, .code yX12_error cX12_error 2 (some .int), .fieldLink RX12 16 "FigureTillModel" "errors" "[I", .constant RX12 58 (-1000000000)] ++ wsX120)
def wsX12_isUnder : List Cond := .code yX12_isUnder cX12_isUnder 2 (some .boolean) :: ([])
def wsX12_as_r1 : List Cond := [Cond.methodLink RX12 161 yX12_isTill, Cond.static yX12_isTill, Cond.initialized RX12, Cond.code yX12_isTill cX12_isTill 1 (some .boolean), Cond.methodLink RX12 59 yX12_in, Cond.static yX12_in, Cond.code yX12_in cX12_in 3 (some .boolean), Cond.methodLink RX12 63 yX12_error, Cond.instanceMethod yX12_error, Cond.selects RX12 yX12_error yX12_error, Cond.code yX12_error cX12_error 2 (some .int), Cond.fieldLink RX12 16 "FigureTillModel" "errors" "[I", Cond.constant RX12 58 (-1000000000), Cond.methodLink RX12 130 yX12_kindOf, Cond.instanceMethod yX12_kindOf, Cond.selects RX12 yX12_kindOf yX12_kindOf, Cond.code yX12_kindOf cX12_kindOf 2 (some .int), Cond.fieldLink RX12 7 "FigureTillModel" "s" "[I", Cond.methodLink RX12 164 yX12_isUnder, Cond.static yX12_isUnder, Cond.code yX12_isUnder cX12_isUnder 2 (some .boolean), Cond.methodLink RX12 127 yX12_mOf, Cond.instanceMethod yX12_mOf, Cond.selects RX12 yX12_mOf yX12_mOf]
def wsX12_as_r2 : List Cond := [Cond.code yX12_mOf cX12_mOf 2 (some .int)]
def wsX12_as : List Cond := .code yX12_as cX12_as 3 (some .int) :: ((wsX12_as_r1 ++ wsX12_as_r2) ++ wsX120)
def wsX12_figures : List Cond := .code yX12_figures cX12_figures 3 (some .int) :: ([.methodLink RX12 59 yX12_in, .static yX12_in, .initialized RX12, .code yX12_in cX12_in 3 (some .boolean), .methodLink RX12 123 yX12_added, .static yX12_added, .code yX12_added cX12_added 4 (some .int), .methodLink RX12 63 yX12_error, .instanceMethod yX12_error, .selects RX12 yX12_error yX12_error, .code yX12_error cX12_error 2 (some .int), .fieldLink RX12 16 "FigureTillModel" "errors" "[I", .constant RX12 58 (-1000000000)] ++ wsX120)
def wsX12_asks_r1 : List Cond := [Cond.constant RX12 168 (299970), Cond.methodLink RX12 161 yX12_isTill, Cond.static yX12_isTill, Cond.initialized RX12, Cond.code yX12_isTill cX12_isTill 1 (some .boolean), Cond.methodLink RX12 59 yX12_in, Cond.static yX12_in, Cond.code yX12_in cX12_in 3 (some .boolean), Cond.methodLink RX12 149 yX12_asked, Cond.instanceMethod yX12_asked, Cond.selects RX12 yX12_asked yX12_asked, Cond.code yX12_asked cX12_asked 6 (some .int), Cond.fieldLink RX12 22 "FigureTillModel" "named" "[I", Cond.methodLink RX12 127 yX12_mOf, Cond.instanceMethod yX12_mOf, Cond.selects RX12 yX12_mOf yX12_mOf, Cond.code yX12_mOf cX12_mOf 2 (some .int), Cond.fieldLink RX12 7 "FigureTillModel" "s" "[I", Cond.methodLink RX12 123 yX12_added, Cond.static yX12_added, Cond.code yX12_added cX12_added 4 (some .int), Cond.methodLink RX12 130 yX12_kindOf, Cond.instanceMethod yX12_kindOf, Cond.selects RX12 yX12_kindOf yX12_kindOf]
def wsX12_asks_r2 : List Cond := [Cond.code yX12_kindOf cX12_kindOf 2 (some .int), Cond.methodLink RX12 133 yX12_rooted, Cond.static yX12_rooted, Cond.code yX12_rooted cX12_rooted 3 (some .int), Cond.methodLink RX12 116 yX12_hasText, Cond.instanceMethod yX12_hasText, Cond.selects RX12 yX12_hasText yX12_hasText, Cond.code yX12_hasText cX12_hasText 2 (some .boolean), Cond.methodLink RX12 136 yX12_worked, Cond.instanceMethod yX12_worked, Cond.selects RX12 yX12_worked yX12_worked, Cond.code yX12_worked cX12_worked 7 (some .int), Cond.fieldLink RX12 25 "FigureTillModel" "pile" "[I", Cond.methodLink RX12 119 yX12_joined, Cond.static yX12_joined, Cond.code yX12_joined cX12_joined 3 (some .int), Cond.methodLink RX12 139 yX12_held, Cond.static yX12_held, Cond.code yX12_held cX12_held 3 (some .int), Cond.methodLink RX12 63 yX12_error, Cond.instanceMethod yX12_error, Cond.selects RX12 yX12_error yX12_error, Cond.code yX12_error cX12_error 2 (some .int), Cond.fieldLink RX12 16 "FigureTillModel" "errors" "[I"]
def wsX12_asks_r3 : List Cond := [Cond.constant RX12 58 (-1000000000)]
def wsX12_asks : List Cond := .code yX12_asks cX12_asks 4 (some .int) :: ((wsX12_asks_r1 ++ (wsX12_asks_r2 ++ wsX12_asks_r3)) ++ wsX120)
def wsX12_tells : List Cond := .code yX12_tells cX12_tells 5 (some .int) :: ([.fieldLink RX12 46 "FigureTillModel" "bits" "[I", .fieldLink RX12 49 "FigureTillModel" "sizes" "[I", .fieldLink RX12 52 "FigureTillModel" "number" "[I", .methodLink RX12 59 yX12_in, .static yX12_in, .initialized RX12, .code yX12_in cX12_in 3 (some .boolean), .methodLink RX12 146 yX12_many, .static yX12_many, .code yX12_many cX12_many 3 (some .int)] ++ wsX120)
def wsX12_isSheet : List Cond := .code yX12_isSheet cX12_isSheet 1 (some .boolean) :: ([.methodLink RX12 59 yX12_in, .static yX12_in, .initialized RX12, .code yX12_in cX12_in 3 (some .boolean)])
def wsX12_lacks : List Cond := .code yX12_lacks cX12_lacks 5 (some .int) :: ([.fieldLink RX12 28 "FigureTillModel" "told" "[I", .methodLink RX12 169 yX12_isSheet, .static yX12_isSheet, .initialized RX12, .code yX12_isSheet cX12_isSheet 1 (some .boolean), .methodLink RX12 59 yX12_in, .static yX12_in, .code yX12_in cX12_in 3 (some .boolean), .methodLink RX12 161 yX12_isTill, .static yX12_isTill, .code yX12_isTill cX12_isTill 1 (some .boolean), .methodLink RX12 172 yX12_tells, .instanceMethod yX12_tells, .selects RX12 yX12_tells yX12_tells, .code yX12_tells cX12_tells 5 (some .int), .fieldLink RX12 46 "FigureTillModel" "bits" "[I", .fieldLink RX12 49 "FigureTillModel" "sizes" "[I", .fieldLink RX12 52 "FigureTillModel" "number" "[I", .methodLink RX12 146 yX12_many, .static yX12_many, .code yX12_many cX12_many 3 (some .int)] ++ wsX120)
def wsX12_basket_r1 : List Cond := [Cond.fieldLink RX12 28 "FigureTillModel" "told" "[I", Cond.methodLink RX12 59 yX12_in, Cond.static yX12_in, Cond.initialized RX12, Cond.code yX12_in cX12_in 3 (some .boolean), Cond.methodLink RX12 176 yX12_lacks, Cond.instanceMethod yX12_lacks, Cond.selects RX12 yX12_lacks yX12_lacks, Cond.code yX12_lacks cX12_lacks 5 (some .int), Cond.methodLink RX12 169 yX12_isSheet, Cond.static yX12_isSheet, Cond.code yX12_isSheet cX12_isSheet 1 (some .boolean), Cond.methodLink RX12 161 yX12_isTill, Cond.static yX12_isTill, Cond.code yX12_isTill cX12_isTill 1 (some .boolean), Cond.methodLink RX12 172 yX12_tells, Cond.instanceMethod yX12_tells, Cond.selects RX12 yX12_tells yX12_tells, Cond.code yX12_tells cX12_tells 5 (some .int), Cond.fieldLink RX12 46 "FigureTillModel" "bits" "[I", Cond.fieldLink RX12 49 "FigureTillModel" "sizes" "[I", Cond.fieldLink RX12 52 "FigureTillModel" "number" "[I", Cond.methodLink RX12 146 yX12_many, Cond.static yX12_many]
def wsX12_basket_r2 : List Cond := [Cond.code yX12_many cX12_many 3 (some .int), Cond.methodLink RX12 63 yX12_error, Cond.instanceMethod yX12_error, Cond.selects RX12 yX12_error yX12_error, Cond.code yX12_error cX12_error 2 (some .int), Cond.fieldLink RX12 16 "FigureTillModel" "errors" "[I", Cond.constant RX12 58 (-1000000000), Cond.methodLink RX12 142 yX12_sumOf, Cond.instanceMethod yX12_sumOf, Cond.selects RX12 yX12_sumOf yX12_sumOf, Cond.code yX12_sumOf cX12_sumOf 4 (some .int), Cond.fieldLink RX12 7 "FigureTillModel" "s" "[I", Cond.methodLink RX12 180 yX12_costOf, Cond.instanceMethod yX12_costOf, Cond.selects RX12 yX12_costOf yX12_costOf, Cond.code yX12_costOf cX12_costOf 4 (some .int)]
def wsX12_basket : List Cond := .code yX12_basket cX12_basket 4 (some .int) :: ((wsX12_basket_r1 ++ wsX12_basket_r2) ++ wsX120)
def wsX12_pays_r1 : List Cond := [Cond.fieldLink RX12 28 "FigureTillModel" "told" "[I", Cond.methodLink RX12 176 yX12_lacks, Cond.instanceMethod yX12_lacks, Cond.selects RX12 yX12_lacks yX12_lacks, Cond.initialized RX12, Cond.code yX12_lacks cX12_lacks 5 (some .int), Cond.methodLink RX12 169 yX12_isSheet, Cond.static yX12_isSheet, Cond.code yX12_isSheet cX12_isSheet 1 (some .boolean), Cond.methodLink RX12 59 yX12_in, Cond.static yX12_in, Cond.code yX12_in cX12_in 3 (some .boolean), Cond.methodLink RX12 161 yX12_isTill, Cond.static yX12_isTill, Cond.code yX12_isTill cX12_isTill 1 (some .boolean), Cond.methodLink RX12 172 yX12_tells, Cond.instanceMethod yX12_tells, Cond.selects RX12 yX12_tells yX12_tells, Cond.code yX12_tells cX12_tells 5 (some .int), Cond.fieldLink RX12 46 "FigureTillModel" "bits" "[I", Cond.fieldLink RX12 49 "FigureTillModel" "sizes" "[I", Cond.fieldLink RX12 52 "FigureTillModel" "number" "[I", Cond.methodLink RX12 146 yX12_many, Cond.static yX12_many]
def wsX12_pays_r2 : List Cond := [Cond.code yX12_many cX12_many 3 (some .int), Cond.methodLink RX12 63 yX12_error, Cond.instanceMethod yX12_error, Cond.selects RX12 yX12_error yX12_error, Cond.code yX12_error cX12_error 2 (some .int), Cond.fieldLink RX12 16 "FigureTillModel" "errors" "[I", Cond.constant RX12 58 (-1000000000), Cond.methodLink RX12 183 yX12_paid, Cond.instanceMethod yX12_paid, Cond.selects RX12 yX12_paid yX12_paid, Cond.code yX12_paid cX12_paid 3 (some .int), Cond.methodLink RX12 142 yX12_sumOf, Cond.instanceMethod yX12_sumOf, Cond.selects RX12 yX12_sumOf yX12_sumOf, Cond.code yX12_sumOf cX12_sumOf 4 (some .int), Cond.fieldLink RX12 7 "FigureTillModel" "s" "[I", Cond.methodLink RX12 149 yX12_asked, Cond.instanceMethod yX12_asked, Cond.selects RX12 yX12_asked yX12_asked, Cond.code yX12_asked cX12_asked 6 (some .int), Cond.fieldLink RX12 22 "FigureTillModel" "named" "[I", Cond.methodLink RX12 127 yX12_mOf, Cond.instanceMethod yX12_mOf, Cond.selects RX12 yX12_mOf yX12_mOf]
def wsX12_pays_r3 : List Cond := [Cond.code yX12_mOf cX12_mOf 2 (some .int), Cond.methodLink RX12 123 yX12_added, Cond.static yX12_added, Cond.code yX12_added cX12_added 4 (some .int), Cond.methodLink RX12 130 yX12_kindOf, Cond.instanceMethod yX12_kindOf, Cond.selects RX12 yX12_kindOf yX12_kindOf, Cond.code yX12_kindOf cX12_kindOf 2 (some .int), Cond.methodLink RX12 133 yX12_rooted, Cond.static yX12_rooted, Cond.code yX12_rooted cX12_rooted 3 (some .int), Cond.methodLink RX12 116 yX12_hasText, Cond.instanceMethod yX12_hasText, Cond.selects RX12 yX12_hasText yX12_hasText, Cond.code yX12_hasText cX12_hasText 2 (some .boolean), Cond.methodLink RX12 136 yX12_worked, Cond.instanceMethod yX12_worked, Cond.selects RX12 yX12_worked yX12_worked, Cond.code yX12_worked cX12_worked 7 (some .int), Cond.fieldLink RX12 25 "FigureTillModel" "pile" "[I", Cond.methodLink RX12 119 yX12_joined, Cond.static yX12_joined, Cond.code yX12_joined cX12_joined 3 (some .int), Cond.methodLink RX12 139 yX12_held]
def wsX12_pays_r4 : List Cond := [Cond.static yX12_held, Cond.code yX12_held cX12_held 3 (some .int)]
def wsX12_pays : List Cond := .code yX12_pays cX12_pays 4 (some .int) :: ((wsX12_pays_r1 ++ (wsX12_pays_r2 ++ (wsX12_pays_r3 ++ wsX12_pays_r4))) ++ wsX120)
def wsX12_isInStock : List Cond := .code yX12_isInStock cX12_isInStock 4 (some .boolean) :: ([.fieldLink RX12 7 "FigureTillModel" "s" "[I"] ++ wsX120)
def wsX12_goes_r1 : List Cond := [Cond.fieldLink RX12 7 "FigureTillModel" "s" "[I", Cond.constant RX12 187 (99999999), Cond.methodLink RX12 183 yX12_paid, Cond.instanceMethod yX12_paid, Cond.selects RX12 yX12_paid yX12_paid, Cond.initialized RX12, Cond.code yX12_paid cX12_paid 3 (some .int), Cond.methodLink RX12 142 yX12_sumOf, Cond.instanceMethod yX12_sumOf, Cond.selects RX12 yX12_sumOf yX12_sumOf, Cond.code yX12_sumOf cX12_sumOf 4 (some .int), Cond.methodLink RX12 146 yX12_many, Cond.static yX12_many, Cond.code yX12_many cX12_many 3 (some .int), Cond.methodLink RX12 149 yX12_asked, Cond.instanceMethod yX12_asked, Cond.selects RX12 yX12_asked yX12_asked, Cond.code yX12_asked cX12_asked 6 (some .int), Cond.fieldLink RX12 22 "FigureTillModel" "named" "[I", Cond.methodLink RX12 127 yX12_mOf, Cond.instanceMethod yX12_mOf, Cond.selects RX12 yX12_mOf yX12_mOf, Cond.code yX12_mOf cX12_mOf 2 (some .int), Cond.methodLink RX12 123 yX12_added]
def wsX12_goes_r2 : List Cond := [Cond.static yX12_added, Cond.code yX12_added cX12_added 4 (some .int), Cond.methodLink RX12 130 yX12_kindOf, Cond.instanceMethod yX12_kindOf, Cond.selects RX12 yX12_kindOf yX12_kindOf, Cond.code yX12_kindOf cX12_kindOf 2 (some .int), Cond.methodLink RX12 133 yX12_rooted, Cond.static yX12_rooted, Cond.code yX12_rooted cX12_rooted 3 (some .int), Cond.methodLink RX12 116 yX12_hasText, Cond.instanceMethod yX12_hasText, Cond.selects RX12 yX12_hasText yX12_hasText, Cond.code yX12_hasText cX12_hasText 2 (some .boolean), Cond.methodLink RX12 136 yX12_worked, Cond.instanceMethod yX12_worked, Cond.selects RX12 yX12_worked yX12_worked, Cond.code yX12_worked cX12_worked 7 (some .int), Cond.fieldLink RX12 25 "FigureTillModel" "pile" "[I", Cond.methodLink RX12 119 yX12_joined, Cond.static yX12_joined, Cond.code yX12_joined cX12_joined 3 (some .int), Cond.methodLink RX12 139 yX12_held, Cond.static yX12_held, Cond.code yX12_held cX12_held 3 (some .int)]
def wsX12_goes_r3 : List Cond := [Cond.methodLink RX12 180 yX12_costOf, Cond.instanceMethod yX12_costOf, Cond.selects RX12 yX12_costOf yX12_costOf, Cond.code yX12_costOf cX12_costOf 4 (some .int)]
def wsX12_goes : List Cond := .code yX12_goes cX12_goes 5 (some .int) :: ((wsX12_goes_r1 ++ (wsX12_goes_r2 ++ wsX12_goes_r3)) ++ wsX120)
def wsX12_go_r1 : List Cond := [Cond.fieldLink RX12 28 "FigureTillModel" "told" "[I", Cond.methodLink RX12 176 yX12_lacks, Cond.instanceMethod yX12_lacks, Cond.selects RX12 yX12_lacks yX12_lacks, Cond.initialized RX12, Cond.code yX12_lacks cX12_lacks 5 (some .int), Cond.methodLink RX12 169 yX12_isSheet, Cond.static yX12_isSheet, Cond.code yX12_isSheet cX12_isSheet 1 (some .boolean), Cond.methodLink RX12 59 yX12_in, Cond.static yX12_in, Cond.code yX12_in cX12_in 3 (some .boolean), Cond.methodLink RX12 161 yX12_isTill, Cond.static yX12_isTill, Cond.code yX12_isTill cX12_isTill 1 (some .boolean), Cond.methodLink RX12 172 yX12_tells, Cond.instanceMethod yX12_tells, Cond.selects RX12 yX12_tells yX12_tells, Cond.code yX12_tells cX12_tells 5 (some .int), Cond.fieldLink RX12 46 "FigureTillModel" "bits" "[I", Cond.fieldLink RX12 49 "FigureTillModel" "sizes" "[I", Cond.fieldLink RX12 52 "FigureTillModel" "number" "[I", Cond.methodLink RX12 146 yX12_many, Cond.static yX12_many]
def wsX12_go_r2 : List Cond := [Cond.code yX12_many cX12_many 3 (some .int), Cond.methodLink RX12 188 yX12_isInStock, Cond.instanceMethod yX12_isInStock, Cond.selects RX12 yX12_isInStock yX12_isInStock, Cond.code yX12_isInStock cX12_isInStock 4 (some .boolean), Cond.fieldLink RX12 7 "FigureTillModel" "s" "[I", Cond.methodLink RX12 63 yX12_error, Cond.instanceMethod yX12_error, Cond.selects RX12 yX12_error yX12_error, Cond.code yX12_error cX12_error 2 (some .int), Cond.fieldLink RX12 16 "FigureTillModel" "errors" "[I", Cond.constant RX12 58 (-1000000000), Cond.methodLink RX12 192 yX12_goes, Cond.instanceMethod yX12_goes, Cond.selects RX12 yX12_goes yX12_goes, Cond.code yX12_goes cX12_goes 5 (some .int), Cond.constant RX12 187 (99999999), Cond.methodLink RX12 183 yX12_paid, Cond.instanceMethod yX12_paid, Cond.selects RX12 yX12_paid yX12_paid, Cond.code yX12_paid cX12_paid 3 (some .int), Cond.methodLink RX12 142 yX12_sumOf, Cond.instanceMethod yX12_sumOf, Cond.selects RX12 yX12_sumOf yX12_sumOf]
def wsX12_go_r3 : List Cond := [Cond.code yX12_sumOf cX12_sumOf 4 (some .int), Cond.methodLink RX12 149 yX12_asked, Cond.instanceMethod yX12_asked, Cond.selects RX12 yX12_asked yX12_asked, Cond.code yX12_asked cX12_asked 6 (some .int), Cond.fieldLink RX12 22 "FigureTillModel" "named" "[I", Cond.methodLink RX12 127 yX12_mOf, Cond.instanceMethod yX12_mOf, Cond.selects RX12 yX12_mOf yX12_mOf, Cond.code yX12_mOf cX12_mOf 2 (some .int), Cond.methodLink RX12 123 yX12_added, Cond.static yX12_added, Cond.code yX12_added cX12_added 4 (some .int), Cond.methodLink RX12 130 yX12_kindOf, Cond.instanceMethod yX12_kindOf, Cond.selects RX12 yX12_kindOf yX12_kindOf, Cond.code yX12_kindOf cX12_kindOf 2 (some .int), Cond.methodLink RX12 133 yX12_rooted, Cond.static yX12_rooted, Cond.code yX12_rooted cX12_rooted 3 (some .int), Cond.methodLink RX12 116 yX12_hasText, Cond.instanceMethod yX12_hasText, Cond.selects RX12 yX12_hasText yX12_hasText, Cond.code yX12_hasText cX12_hasText 2 (some .boolean)]
def wsX12_go_r4 : List Cond := [Cond.methodLink RX12 136 yX12_worked, Cond.instanceMethod yX12_worked, Cond.selects RX12 yX12_worked yX12_worked, Cond.code yX12_worked cX12_worked 7 (some .int), Cond.fieldLink RX12 25 "FigureTillModel" "pile" "[I", Cond.methodLink RX12 119 yX12_joined, Cond.static yX12_joined, Cond.code yX12_joined cX12_joined 3 (some .int), Cond.methodLink RX12 139 yX12_held, Cond.static yX12_held, Cond.code yX12_held cX12_held 3 (some .int), Cond.methodLink RX12 180 yX12_costOf, Cond.instanceMethod yX12_costOf, Cond.selects RX12 yX12_costOf yX12_costOf, Cond.code yX12_costOf cX12_costOf 4 (some .int)]
def wsX12_go : List Cond := .code yX12_go cX12_go 4 (some .int) :: ((wsX12_go_r1 ++ (wsX12_go_r2 ++ (wsX12_go_r3 ++ wsX12_go_r4))) ++ wsX120)
def wsX12_draw : List Cond := .code yX12_draw cX12_draw 1 (some .int) :: ([.fieldLink RX12 7 "FigureTillModel" "s" "[I", .constant RX12 195 (1103515245)] ++ wsX120)
def wsX12_draws_r1 : List Cond := [Cond.fieldLink RX12 28 "FigureTillModel" "told" "[I", Cond.methodLink RX12 59 yX12_in, Cond.static yX12_in, Cond.initialized RX12, Cond.code yX12_in cX12_in 3 (some .boolean), Cond.methodLink RX12 63 yX12_error, Cond.instanceMethod yX12_error, Cond.selects RX12 yX12_error yX12_error, Cond.code yX12_error cX12_error 2 (some .int), Cond.fieldLink RX12 16 "FigureTillModel" "errors" "[I", Cond.constant RX12 58 (-1000000000), Cond.methodLink RX12 196 yX12_draw, Cond.instanceMethod yX12_draw, Cond.selects RX12 yX12_draw yX12_draw, Cond.code yX12_draw cX12_draw 1 (some .int), Cond.fieldLink RX12 7 "FigureTillModel" "s" "[I", Cond.constant RX12 195 (1103515245), Cond.methodLink RX12 188 yX12_isInStock, Cond.instanceMethod yX12_isInStock, Cond.selects RX12 yX12_isInStock yX12_isInStock, Cond.code yX12_isInStock cX12_isInStock 4 (some .boolean), Cond.methodLink RX12 192 yX12_goes, Cond.instanceMethod yX12_goes, Cond.selects RX12 yX12_goes yX12_goes]
def wsX12_draws_r2 : List Cond := [Cond.code yX12_goes cX12_goes 5 (some .int), Cond.constant RX12 187 (99999999), Cond.methodLink RX12 183 yX12_paid, Cond.instanceMethod yX12_paid, Cond.selects RX12 yX12_paid yX12_paid, Cond.code yX12_paid cX12_paid 3 (some .int), Cond.methodLink RX12 142 yX12_sumOf, Cond.instanceMethod yX12_sumOf, Cond.selects RX12 yX12_sumOf yX12_sumOf, Cond.code yX12_sumOf cX12_sumOf 4 (some .int), Cond.methodLink RX12 146 yX12_many, Cond.static yX12_many, Cond.code yX12_many cX12_many 3 (some .int), Cond.methodLink RX12 149 yX12_asked, Cond.instanceMethod yX12_asked, Cond.selects RX12 yX12_asked yX12_asked, Cond.code yX12_asked cX12_asked 6 (some .int), Cond.fieldLink RX12 22 "FigureTillModel" "named" "[I", Cond.methodLink RX12 127 yX12_mOf, Cond.instanceMethod yX12_mOf, Cond.selects RX12 yX12_mOf yX12_mOf, Cond.code yX12_mOf cX12_mOf 2 (some .int), Cond.methodLink RX12 123 yX12_added, Cond.static yX12_added]
def wsX12_draws_r3 : List Cond := [Cond.code yX12_added cX12_added 4 (some .int), Cond.methodLink RX12 130 yX12_kindOf, Cond.instanceMethod yX12_kindOf, Cond.selects RX12 yX12_kindOf yX12_kindOf, Cond.code yX12_kindOf cX12_kindOf 2 (some .int), Cond.methodLink RX12 133 yX12_rooted, Cond.static yX12_rooted, Cond.code yX12_rooted cX12_rooted 3 (some .int), Cond.methodLink RX12 116 yX12_hasText, Cond.instanceMethod yX12_hasText, Cond.selects RX12 yX12_hasText yX12_hasText, Cond.code yX12_hasText cX12_hasText 2 (some .boolean), Cond.methodLink RX12 136 yX12_worked, Cond.instanceMethod yX12_worked, Cond.selects RX12 yX12_worked yX12_worked, Cond.code yX12_worked cX12_worked 7 (some .int), Cond.fieldLink RX12 25 "FigureTillModel" "pile" "[I", Cond.methodLink RX12 119 yX12_joined, Cond.static yX12_joined, Cond.code yX12_joined cX12_joined 3 (some .int), Cond.methodLink RX12 139 yX12_held, Cond.static yX12_held, Cond.code yX12_held cX12_held 3 (some .int), Cond.methodLink RX12 180 yX12_costOf]
def wsX12_draws_r4 : List Cond := [Cond.instanceMethod yX12_costOf, Cond.selects RX12 yX12_costOf yX12_costOf, Cond.code yX12_costOf cX12_costOf 4 (some .int)]
def wsX12_draws : List Cond := .code yX12_draws cX12_draws 7 (some .int) :: ((wsX12_draws_r1 ++ (wsX12_draws_r2 ++ (wsX12_draws_r3 ++ wsX12_draws_r4))) ++ wsX120)
def wsX12_seed : List Cond := .code yX12_seed cX12_seed 2 (some .int) :: ([.methodLink RX12 155 yX12_change1, .instanceMethod yX12_change1, .selects RX12 yX12_change1 yX12_change1, .initialized RX12, .code yX12_change1 cX12_change1 4 (some .int), .fieldLink RX12 7 "FigureTillModel" "s" "[I"] ++ wsX120)
def wsX12_tries_r1 : List Cond := [Cond.fieldLink RX12 34 "FigureTillModel" "row" "[I", Cond.fieldLink RX12 28 "FigureTillModel" "told" "[I", Cond.fieldLink RX12 40 "FigureTillModel" "worthOf" "[I", Cond.fieldLink RX12 199 "FigureTillModel" "bestMore" "I", Cond.fieldLink RX12 202 "FigureTillModel" "bestNet" "I", Cond.fieldLink RX12 37 "FigureTillModel" "best" "[I", Cond.methodLink RX12 183 yX12_paid, Cond.instanceMethod yX12_paid, Cond.selects RX12 yX12_paid yX12_paid, Cond.initialized RX12, Cond.code yX12_paid cX12_paid 3 (some .int), Cond.methodLink RX12 142 yX12_sumOf, Cond.instanceMethod yX12_sumOf, Cond.selects RX12 yX12_sumOf yX12_sumOf, Cond.code yX12_sumOf cX12_sumOf 4 (some .int), Cond.fieldLink RX12 7 "FigureTillModel" "s" "[I", Cond.methodLink RX12 146 yX12_many, Cond.static yX12_many, Cond.code yX12_many cX12_many 3 (some .int), Cond.methodLink RX12 149 yX12_asked, Cond.instanceMethod yX12_asked, Cond.selects RX12 yX12_asked yX12_asked, Cond.code yX12_asked cX12_asked 6 (some .int), Cond.fieldLink RX12 22 "FigureTillModel" "named" "[I"]
def wsX12_tries_r2 : List Cond := [Cond.methodLink RX12 127 yX12_mOf, Cond.instanceMethod yX12_mOf, Cond.selects RX12 yX12_mOf yX12_mOf, Cond.code yX12_mOf cX12_mOf 2 (some .int), Cond.methodLink RX12 123 yX12_added, Cond.static yX12_added, Cond.code yX12_added cX12_added 4 (some .int), Cond.methodLink RX12 130 yX12_kindOf, Cond.instanceMethod yX12_kindOf, Cond.selects RX12 yX12_kindOf yX12_kindOf, Cond.code yX12_kindOf cX12_kindOf 2 (some .int), Cond.methodLink RX12 133 yX12_rooted, Cond.static yX12_rooted, Cond.code yX12_rooted cX12_rooted 3 (some .int), Cond.methodLink RX12 116 yX12_hasText, Cond.instanceMethod yX12_hasText, Cond.selects RX12 yX12_hasText yX12_hasText, Cond.code yX12_hasText cX12_hasText 2 (some .boolean), Cond.methodLink RX12 136 yX12_worked, Cond.instanceMethod yX12_worked, Cond.selects RX12 yX12_worked yX12_worked, Cond.code yX12_worked cX12_worked 7 (some .int), Cond.fieldLink RX12 25 "FigureTillModel" "pile" "[I", Cond.methodLink RX12 119 yX12_joined]
def wsX12_tries_r3 : List Cond := [Cond.static yX12_joined, Cond.code yX12_joined cX12_joined 3 (some .int), Cond.methodLink RX12 139 yX12_held, Cond.static yX12_held, Cond.code yX12_held cX12_held 3 (some .int), Cond.methodLink RX12 205 yX12_tries, Cond.instanceMethod yX12_tries, Cond.selects RX12 yX12_tries yX12_tries]
def wsX12_tries : List Cond := .code yX12_tries cX12_tries 8 none :: ((wsX12_tries_r1 ++ (wsX12_tries_r2 ++ wsX12_tries_r3)) ++ wsX120)
def wsX12_seeks_r1 : List Cond := [Cond.fieldLink RX12 28 "FigureTillModel" "told" "[I", Cond.fieldLink RX12 40 "FigureTillModel" "worthOf" "[I", Cond.fieldLink RX12 199 "FigureTillModel" "bestMore" "I", Cond.methodLink RX12 146 yX12_many, Cond.static yX12_many, Cond.initialized RX12, Cond.code yX12_many cX12_many 3 (some .int), Cond.methodLink RX12 158 yX12_values, Cond.instanceMethod yX12_values, Cond.selects RX12 yX12_values yX12_values, Cond.code yX12_values cX12_values 2 (some .int), Cond.fieldLink RX12 22 "FigureTillModel" "named" "[I", Cond.fieldLink RX12 7 "FigureTillModel" "s" "[I", Cond.methodLink RX12 116 yX12_hasText, Cond.instanceMethod yX12_hasText, Cond.selects RX12 yX12_hasText yX12_hasText, Cond.code yX12_hasText cX12_hasText 2 (some .boolean), Cond.methodLink RX12 136 yX12_worked, Cond.instanceMethod yX12_worked, Cond.selects RX12 yX12_worked yX12_worked, Cond.code yX12_worked cX12_worked 7 (some .int), Cond.fieldLink RX12 25 "FigureTillModel" "pile" "[I", Cond.methodLink RX12 119 yX12_joined, Cond.static yX12_joined]
def wsX12_seeks_r2 : List Cond := [Cond.code yX12_joined cX12_joined 3 (some .int), Cond.methodLink RX12 139 yX12_held, Cond.static yX12_held, Cond.code yX12_held cX12_held 3 (some .int), Cond.methodLink RX12 205 yX12_tries, Cond.instanceMethod yX12_tries, Cond.selects RX12 yX12_tries yX12_tries, Cond.code yX12_tries cX12_tries 8 none, Cond.fieldLink RX12 34 "FigureTillModel" "row" "[I", Cond.fieldLink RX12 202 "FigureTillModel" "bestNet" "I", Cond.fieldLink RX12 37 "FigureTillModel" "best" "[I", Cond.methodLink RX12 183 yX12_paid, Cond.instanceMethod yX12_paid, Cond.selects RX12 yX12_paid yX12_paid, Cond.code yX12_paid cX12_paid 3 (some .int), Cond.methodLink RX12 142 yX12_sumOf, Cond.instanceMethod yX12_sumOf, Cond.selects RX12 yX12_sumOf yX12_sumOf, Cond.code yX12_sumOf cX12_sumOf 4 (some .int), Cond.methodLink RX12 149 yX12_asked, Cond.instanceMethod yX12_asked, Cond.selects RX12 yX12_asked yX12_asked, Cond.code yX12_asked cX12_asked 6 (some .int), Cond.methodLink RX12 127 yX12_mOf]
def wsX12_seeks_r3 : List Cond := [Cond.instanceMethod yX12_mOf, Cond.selects RX12 yX12_mOf yX12_mOf, Cond.code yX12_mOf cX12_mOf 2 (some .int), Cond.methodLink RX12 123 yX12_added, Cond.static yX12_added, Cond.code yX12_added cX12_added 4 (some .int), Cond.methodLink RX12 130 yX12_kindOf, Cond.instanceMethod yX12_kindOf, Cond.selects RX12 yX12_kindOf yX12_kindOf, Cond.code yX12_kindOf cX12_kindOf 2 (some .int), Cond.methodLink RX12 133 yX12_rooted, Cond.static yX12_rooted, Cond.code yX12_rooted cX12_rooted 3 (some .int)]
def wsX12_seeks : List Cond := .code yX12_seeks cX12_seeks 5 none :: ((wsX12_seeks_r1 ++ (wsX12_seeks_r2 ++ wsX12_seeks_r3)) ++ wsX120)
def wsX12_more_r1 : List Cond := [Cond.fieldLink RX12 202 "FigureTillModel" "bestNet" "I", Cond.fieldLink RX12 37 "FigureTillModel" "best" "[I", Cond.fieldLink RX12 28 "FigureTillModel" "told" "[I", Cond.methodLink RX12 59 yX12_in, Cond.static yX12_in, Cond.initialized RX12, Cond.code yX12_in cX12_in 3 (some .boolean), Cond.methodLink RX12 176 yX12_lacks, Cond.instanceMethod yX12_lacks, Cond.selects RX12 yX12_lacks yX12_lacks, Cond.code yX12_lacks cX12_lacks 5 (some .int), Cond.methodLink RX12 169 yX12_isSheet, Cond.static yX12_isSheet, Cond.code yX12_isSheet cX12_isSheet 1 (some .boolean), Cond.methodLink RX12 161 yX12_isTill, Cond.static yX12_isTill, Cond.code yX12_isTill cX12_isTill 1 (some .boolean), Cond.methodLink RX12 172 yX12_tells, Cond.instanceMethod yX12_tells, Cond.selects RX12 yX12_tells yX12_tells, Cond.code yX12_tells cX12_tells 5 (some .int), Cond.fieldLink RX12 46 "FigureTillModel" "bits" "[I", Cond.fieldLink RX12 49 "FigureTillModel" "sizes" "[I", Cond.fieldLink RX12 52 "FigureTillModel" "number" "[I"]
def wsX12_more_r2 : List Cond := [Cond.methodLink RX12 146 yX12_many, Cond.static yX12_many, Cond.code yX12_many cX12_many 3 (some .int), Cond.methodLink RX12 63 yX12_error, Cond.instanceMethod yX12_error, Cond.selects RX12 yX12_error yX12_error, Cond.code yX12_error cX12_error 2 (some .int), Cond.fieldLink RX12 16 "FigureTillModel" "errors" "[I", Cond.constant RX12 58 (-1000000000), Cond.methodLink RX12 209 yX12_seeks, Cond.instanceMethod yX12_seeks, Cond.selects RX12 yX12_seeks yX12_seeks, Cond.code yX12_seeks cX12_seeks 5 none, Cond.fieldLink RX12 40 "FigureTillModel" "worthOf" "[I", Cond.fieldLink RX12 199 "FigureTillModel" "bestMore" "I", Cond.methodLink RX12 158 yX12_values, Cond.instanceMethod yX12_values, Cond.selects RX12 yX12_values yX12_values, Cond.code yX12_values cX12_values 2 (some .int), Cond.fieldLink RX12 22 "FigureTillModel" "named" "[I", Cond.fieldLink RX12 7 "FigureTillModel" "s" "[I", Cond.methodLink RX12 116 yX12_hasText, Cond.instanceMethod yX12_hasText, Cond.selects RX12 yX12_hasText yX12_hasText]
def wsX12_more_r3 : List Cond := [Cond.code yX12_hasText cX12_hasText 2 (some .boolean), Cond.methodLink RX12 136 yX12_worked, Cond.instanceMethod yX12_worked, Cond.selects RX12 yX12_worked yX12_worked, Cond.code yX12_worked cX12_worked 7 (some .int), Cond.fieldLink RX12 25 "FigureTillModel" "pile" "[I", Cond.methodLink RX12 119 yX12_joined, Cond.static yX12_joined, Cond.code yX12_joined cX12_joined 3 (some .int), Cond.methodLink RX12 139 yX12_held, Cond.static yX12_held, Cond.code yX12_held cX12_held 3 (some .int), Cond.methodLink RX12 205 yX12_tries, Cond.instanceMethod yX12_tries, Cond.selects RX12 yX12_tries yX12_tries, Cond.code yX12_tries cX12_tries 8 none, Cond.fieldLink RX12 34 "FigureTillModel" "row" "[I", Cond.methodLink RX12 183 yX12_paid, Cond.instanceMethod yX12_paid, Cond.selects RX12 yX12_paid yX12_paid, Cond.code yX12_paid cX12_paid 3 (some .int), Cond.methodLink RX12 142 yX12_sumOf, Cond.instanceMethod yX12_sumOf, Cond.selects RX12 yX12_sumOf yX12_sumOf]
def wsX12_more_r4 : List Cond := [Cond.code yX12_sumOf cX12_sumOf 4 (some .int), Cond.methodLink RX12 149 yX12_asked, Cond.instanceMethod yX12_asked, Cond.selects RX12 yX12_asked yX12_asked, Cond.code yX12_asked cX12_asked 6 (some .int), Cond.methodLink RX12 127 yX12_mOf, Cond.instanceMethod yX12_mOf, Cond.selects RX12 yX12_mOf yX12_mOf, Cond.code yX12_mOf cX12_mOf 2 (some .int), Cond.methodLink RX12 123 yX12_added, Cond.static yX12_added, Cond.code yX12_added cX12_added 4 (some .int), Cond.methodLink RX12 130 yX12_kindOf, Cond.instanceMethod yX12_kindOf, Cond.selects RX12 yX12_kindOf yX12_kindOf, Cond.code yX12_kindOf cX12_kindOf 2 (some .int), Cond.methodLink RX12 133 yX12_rooted, Cond.static yX12_rooted, Cond.code yX12_rooted cX12_rooted 3 (some .int)]
def wsX12_more : List Cond := .code yX12_more cX12_more 6 (some .int) :: ((wsX12_more_r1 ++ (wsX12_more_r2 ++ (wsX12_more_r3 ++ wsX12_more_r4))) ++ wsX120)
def wsX12_parts_r1 : List Cond := [Cond.fieldLink RX12 34 "FigureTillModel" "row" "[I", Cond.fieldLink RX12 31 "FigureTillModel" "beside1" "[I", Cond.fieldLink RX12 212 "FigureTillModel" "leastApart" "I", Cond.fieldLink RX12 28 "FigureTillModel" "told" "[I", Cond.methodLink RX12 183 yX12_paid, Cond.instanceMethod yX12_paid, Cond.selects RX12 yX12_paid yX12_paid, Cond.initialized RX12, Cond.code yX12_paid cX12_paid 3 (some .int), Cond.methodLink RX12 142 yX12_sumOf, Cond.instanceMethod yX12_sumOf, Cond.selects RX12 yX12_sumOf yX12_sumOf, Cond.code yX12_sumOf cX12_sumOf 4 (some .int), Cond.fieldLink RX12 7 "FigureTillModel" "s" "[I", Cond.methodLink RX12 146 yX12_many, Cond.static yX12_many, Cond.code yX12_many cX12_many 3 (some .int), Cond.methodLink RX12 149 yX12_asked, Cond.instanceMethod yX12_asked, Cond.selects RX12 yX12_asked yX12_asked, Cond.code yX12_asked cX12_asked 6 (some .int), Cond.fieldLink RX12 22 "FigureTillModel" "named" "[I", Cond.methodLink RX12 127 yX12_mOf, Cond.instanceMethod yX12_mOf]
def wsX12_parts_r2 : List Cond := [Cond.selects RX12 yX12_mOf yX12_mOf, Cond.code yX12_mOf cX12_mOf 2 (some .int), Cond.methodLink RX12 123 yX12_added, Cond.static yX12_added, Cond.code yX12_added cX12_added 4 (some .int), Cond.methodLink RX12 130 yX12_kindOf, Cond.instanceMethod yX12_kindOf, Cond.selects RX12 yX12_kindOf yX12_kindOf, Cond.code yX12_kindOf cX12_kindOf 2 (some .int), Cond.methodLink RX12 133 yX12_rooted, Cond.static yX12_rooted, Cond.code yX12_rooted cX12_rooted 3 (some .int), Cond.methodLink RX12 116 yX12_hasText, Cond.instanceMethod yX12_hasText, Cond.selects RX12 yX12_hasText yX12_hasText, Cond.code yX12_hasText cX12_hasText 2 (some .boolean), Cond.methodLink RX12 136 yX12_worked, Cond.instanceMethod yX12_worked, Cond.selects RX12 yX12_worked yX12_worked, Cond.code yX12_worked cX12_worked 7 (some .int), Cond.fieldLink RX12 25 "FigureTillModel" "pile" "[I", Cond.methodLink RX12 119 yX12_joined, Cond.static yX12_joined, Cond.code yX12_joined cX12_joined 3 (some .int)]
def wsX12_parts_r3 : List Cond := [Cond.methodLink RX12 139 yX12_held, Cond.static yX12_held, Cond.code yX12_held cX12_held 3 (some .int), Cond.methodLink RX12 215 yX12_parts, Cond.instanceMethod yX12_parts, Cond.selects RX12 yX12_parts yX12_parts]
def wsX12_parts : List Cond := .code yX12_parts cX12_parts 4 none :: ((wsX12_parts_r1 ++ (wsX12_parts_r2 ++ wsX12_parts_r3)) ++ wsX120)
def wsX12_inTwo_r1 : List Cond := [Cond.fieldLink RX12 212 "FigureTillModel" "leastApart" "I", Cond.methodLink RX12 176 yX12_lacks, Cond.instanceMethod yX12_lacks, Cond.selects RX12 yX12_lacks yX12_lacks, Cond.initialized RX12, Cond.code yX12_lacks cX12_lacks 5 (some .int), Cond.fieldLink RX12 28 "FigureTillModel" "told" "[I", Cond.methodLink RX12 169 yX12_isSheet, Cond.static yX12_isSheet, Cond.code yX12_isSheet cX12_isSheet 1 (some .boolean), Cond.methodLink RX12 59 yX12_in, Cond.static yX12_in, Cond.code yX12_in cX12_in 3 (some .boolean), Cond.methodLink RX12 161 yX12_isTill, Cond.static yX12_isTill, Cond.code yX12_isTill cX12_isTill 1 (some .boolean), Cond.methodLink RX12 172 yX12_tells, Cond.instanceMethod yX12_tells, Cond.selects RX12 yX12_tells yX12_tells, Cond.code yX12_tells cX12_tells 5 (some .int), Cond.fieldLink RX12 46 "FigureTillModel" "bits" "[I", Cond.fieldLink RX12 49 "FigureTillModel" "sizes" "[I", Cond.fieldLink RX12 52 "FigureTillModel" "number" "[I", Cond.methodLink RX12 146 yX12_many]
def wsX12_inTwo_r2 : List Cond := [Cond.static yX12_many, Cond.code yX12_many cX12_many 3 (some .int), Cond.methodLink RX12 63 yX12_error, Cond.instanceMethod yX12_error, Cond.selects RX12 yX12_error yX12_error, Cond.code yX12_error cX12_error 2 (some .int), Cond.fieldLink RX12 16 "FigureTillModel" "errors" "[I", Cond.constant RX12 58 (-1000000000), Cond.methodLink RX12 215 yX12_parts, Cond.instanceMethod yX12_parts, Cond.selects RX12 yX12_parts yX12_parts, Cond.code yX12_parts cX12_parts 4 none, Cond.fieldLink RX12 34 "FigureTillModel" "row" "[I", Cond.fieldLink RX12 31 "FigureTillModel" "beside1" "[I", Cond.methodLink RX12 183 yX12_paid, Cond.instanceMethod yX12_paid, Cond.selects RX12 yX12_paid yX12_paid, Cond.code yX12_paid cX12_paid 3 (some .int), Cond.methodLink RX12 142 yX12_sumOf, Cond.instanceMethod yX12_sumOf, Cond.selects RX12 yX12_sumOf yX12_sumOf, Cond.code yX12_sumOf cX12_sumOf 4 (some .int), Cond.fieldLink RX12 7 "FigureTillModel" "s" "[I", Cond.methodLink RX12 149 yX12_asked]
def wsX12_inTwo_r3 : List Cond := [Cond.instanceMethod yX12_asked, Cond.selects RX12 yX12_asked yX12_asked, Cond.code yX12_asked cX12_asked 6 (some .int), Cond.fieldLink RX12 22 "FigureTillModel" "named" "[I", Cond.methodLink RX12 127 yX12_mOf, Cond.instanceMethod yX12_mOf, Cond.selects RX12 yX12_mOf yX12_mOf, Cond.code yX12_mOf cX12_mOf 2 (some .int), Cond.methodLink RX12 123 yX12_added, Cond.static yX12_added, Cond.code yX12_added cX12_added 4 (some .int), Cond.methodLink RX12 130 yX12_kindOf, Cond.instanceMethod yX12_kindOf, Cond.selects RX12 yX12_kindOf yX12_kindOf, Cond.code yX12_kindOf cX12_kindOf 2 (some .int), Cond.methodLink RX12 133 yX12_rooted, Cond.static yX12_rooted, Cond.code yX12_rooted cX12_rooted 3 (some .int), Cond.methodLink RX12 116 yX12_hasText, Cond.instanceMethod yX12_hasText, Cond.selects RX12 yX12_hasText yX12_hasText, Cond.code yX12_hasText cX12_hasText 2 (some .boolean), Cond.methodLink RX12 136 yX12_worked, Cond.instanceMethod yX12_worked]
def wsX12_inTwo_r4 : List Cond := [Cond.selects RX12 yX12_worked yX12_worked, Cond.code yX12_worked cX12_worked 7 (some .int), Cond.fieldLink RX12 25 "FigureTillModel" "pile" "[I", Cond.methodLink RX12 119 yX12_joined, Cond.static yX12_joined, Cond.code yX12_joined cX12_joined 3 (some .int), Cond.methodLink RX12 139 yX12_held, Cond.static yX12_held, Cond.code yX12_held cX12_held 3 (some .int)]
def wsX12_inTwo : List Cond := .code yX12_inTwo cX12_inTwo 4 (some .int) :: ((wsX12_inTwo_r1 ++ (wsX12_inTwo_r2 ++ (wsX12_inTwo_r3 ++ wsX12_inTwo_r4))) ++ wsX120)
def wsX12_together_r1 : List Cond := [Cond.fieldLink RX12 31 "FigureTillModel" "beside1" "[I", Cond.fieldLink RX12 28 "FigureTillModel" "told" "[I", Cond.fieldLink RX12 34 "FigureTillModel" "row" "[I", Cond.methodLink RX12 169 yX12_isSheet, Cond.static yX12_isSheet, Cond.initialized RX12, Cond.code yX12_isSheet cX12_isSheet 1 (some .boolean), Cond.methodLink RX12 59 yX12_in, Cond.static yX12_in, Cond.code yX12_in cX12_in 3 (some .boolean), Cond.methodLink RX12 176 yX12_lacks, Cond.instanceMethod yX12_lacks, Cond.selects RX12 yX12_lacks yX12_lacks, Cond.code yX12_lacks cX12_lacks 5 (some .int), Cond.methodLink RX12 161 yX12_isTill, Cond.static yX12_isTill, Cond.code yX12_isTill cX12_isTill 1 (some .boolean), Cond.methodLink RX12 172 yX12_tells, Cond.instanceMethod yX12_tells, Cond.selects RX12 yX12_tells yX12_tells, Cond.code yX12_tells cX12_tells 5 (some .int), Cond.fieldLink RX12 46 "FigureTillModel" "bits" "[I", Cond.fieldLink RX12 49 "FigureTillModel" "sizes" "[I", Cond.fieldLink RX12 52 "FigureTillModel" "number" "[I"]
def wsX12_together_r2 : List Cond := [Cond.methodLink RX12 146 yX12_many, Cond.static yX12_many, Cond.code yX12_many cX12_many 3 (some .int), Cond.methodLink RX12 63 yX12_error, Cond.instanceMethod yX12_error, Cond.selects RX12 yX12_error yX12_error, Cond.code yX12_error cX12_error 2 (some .int), Cond.fieldLink RX12 16 "FigureTillModel" "errors" "[I", Cond.constant RX12 58 (-1000000000), Cond.methodLink RX12 183 yX12_paid, Cond.instanceMethod yX12_paid, Cond.selects RX12 yX12_paid yX12_paid, Cond.code yX12_paid cX12_paid 3 (some .int), Cond.methodLink RX12 142 yX12_sumOf, Cond.instanceMethod yX12_sumOf, Cond.selects RX12 yX12_sumOf yX12_sumOf, Cond.code yX12_sumOf cX12_sumOf 4 (some .int), Cond.fieldLink RX12 7 "FigureTillModel" "s" "[I", Cond.methodLink RX12 149 yX12_asked, Cond.instanceMethod yX12_asked, Cond.selects RX12 yX12_asked yX12_asked, Cond.code yX12_asked cX12_asked 6 (some .int), Cond.fieldLink RX12 22 "FigureTillModel" "named" "[I", Cond.methodLink RX12 127 yX12_mOf]
def wsX12_together_r3 : List Cond := [Cond.instanceMethod yX12_mOf, Cond.selects RX12 yX12_mOf yX12_mOf, Cond.code yX12_mOf cX12_mOf 2 (some .int), Cond.methodLink RX12 123 yX12_added, Cond.static yX12_added, Cond.code yX12_added cX12_added 4 (some .int), Cond.methodLink RX12 130 yX12_kindOf, Cond.instanceMethod yX12_kindOf, Cond.selects RX12 yX12_kindOf yX12_kindOf, Cond.code yX12_kindOf cX12_kindOf 2 (some .int), Cond.methodLink RX12 133 yX12_rooted, Cond.static yX12_rooted, Cond.code yX12_rooted cX12_rooted 3 (some .int), Cond.methodLink RX12 116 yX12_hasText, Cond.instanceMethod yX12_hasText, Cond.selects RX12 yX12_hasText yX12_hasText, Cond.code yX12_hasText cX12_hasText 2 (some .boolean), Cond.methodLink RX12 136 yX12_worked, Cond.instanceMethod yX12_worked, Cond.selects RX12 yX12_worked yX12_worked, Cond.code yX12_worked cX12_worked 7 (some .int), Cond.fieldLink RX12 25 "FigureTillModel" "pile" "[I", Cond.methodLink RX12 119 yX12_joined, Cond.static yX12_joined]
def wsX12_together_r4 : List Cond := [Cond.code yX12_joined cX12_joined 3 (some .int), Cond.methodLink RX12 139 yX12_held, Cond.static yX12_held, Cond.code yX12_held cX12_held 3 (some .int)]
def wsX12_together : List Cond := .code yX12_together cX12_together 6 (some .int) :: ((wsX12_together_r1 ++ (wsX12_together_r2 ++ (wsX12_together_r3 ++ wsX12_together_r4))) ++ wsX120)
def wsX12_worth_r1 : List Cond := [Cond.fieldLink RX12 28 "FigureTillModel" "told" "[I", Cond.methodLink RX12 152 yX12_isThing, Cond.static yX12_isThing, Cond.initialized RX12, Cond.code yX12_isThing cX12_isThing 1 (some .boolean), Cond.methodLink RX12 59 yX12_in, Cond.static yX12_in, Cond.code yX12_in cX12_in 3 (some .boolean), Cond.methodLink RX12 176 yX12_lacks, Cond.instanceMethod yX12_lacks, Cond.selects RX12 yX12_lacks yX12_lacks, Cond.code yX12_lacks cX12_lacks 5 (some .int), Cond.methodLink RX12 169 yX12_isSheet, Cond.static yX12_isSheet, Cond.code yX12_isSheet cX12_isSheet 1 (some .boolean), Cond.methodLink RX12 161 yX12_isTill, Cond.static yX12_isTill, Cond.code yX12_isTill cX12_isTill 1 (some .boolean), Cond.methodLink RX12 172 yX12_tells, Cond.instanceMethod yX12_tells, Cond.selects RX12 yX12_tells yX12_tells, Cond.code yX12_tells cX12_tells 5 (some .int), Cond.fieldLink RX12 46 "FigureTillModel" "bits" "[I", Cond.fieldLink RX12 49 "FigureTillModel" "sizes" "[I"]
def wsX12_worth_r2 : List Cond := [Cond.fieldLink RX12 52 "FigureTillModel" "number" "[I", Cond.methodLink RX12 146 yX12_many, Cond.static yX12_many, Cond.code yX12_many cX12_many 3 (some .int), Cond.methodLink RX12 63 yX12_error, Cond.instanceMethod yX12_error, Cond.selects RX12 yX12_error yX12_error, Cond.code yX12_error cX12_error 2 (some .int), Cond.fieldLink RX12 16 "FigureTillModel" "errors" "[I", Cond.constant RX12 58 (-1000000000), Cond.methodLink RX12 183 yX12_paid, Cond.instanceMethod yX12_paid, Cond.selects RX12 yX12_paid yX12_paid, Cond.code yX12_paid cX12_paid 3 (some .int), Cond.methodLink RX12 142 yX12_sumOf, Cond.instanceMethod yX12_sumOf, Cond.selects RX12 yX12_sumOf yX12_sumOf, Cond.code yX12_sumOf cX12_sumOf 4 (some .int), Cond.fieldLink RX12 7 "FigureTillModel" "s" "[I", Cond.methodLink RX12 149 yX12_asked, Cond.instanceMethod yX12_asked, Cond.selects RX12 yX12_asked yX12_asked, Cond.code yX12_asked cX12_asked 6 (some .int), Cond.fieldLink RX12 22 "FigureTillModel" "named" "[I"]
def wsX12_worth_r3 : List Cond := [Cond.methodLink RX12 127 yX12_mOf, Cond.instanceMethod yX12_mOf, Cond.selects RX12 yX12_mOf yX12_mOf, Cond.code yX12_mOf cX12_mOf 2 (some .int), Cond.methodLink RX12 123 yX12_added, Cond.static yX12_added, Cond.code yX12_added cX12_added 4 (some .int), Cond.methodLink RX12 130 yX12_kindOf, Cond.instanceMethod yX12_kindOf, Cond.selects RX12 yX12_kindOf yX12_kindOf, Cond.code yX12_kindOf cX12_kindOf 2 (some .int), Cond.methodLink RX12 133 yX12_rooted, Cond.static yX12_rooted, Cond.code yX12_rooted cX12_rooted 3 (some .int), Cond.methodLink RX12 116 yX12_hasText, Cond.instanceMethod yX12_hasText, Cond.selects RX12 yX12_hasText yX12_hasText, Cond.code yX12_hasText cX12_hasText 2 (some .boolean), Cond.methodLink RX12 136 yX12_worked, Cond.instanceMethod yX12_worked, Cond.selects RX12 yX12_worked yX12_worked, Cond.code yX12_worked cX12_worked 7 (some .int), Cond.fieldLink RX12 25 "FigureTillModel" "pile" "[I", Cond.methodLink RX12 119 yX12_joined]
def wsX12_worth_r4 : List Cond := [Cond.static yX12_joined, Cond.code yX12_joined cX12_joined 3 (some .int), Cond.methodLink RX12 139 yX12_held, Cond.static yX12_held, Cond.code yX12_held cX12_held 3 (some .int)]
def wsX12_worth : List Cond := .code yX12_worth cX12_worth 6 (some .int) :: ((wsX12_worth_r1 ++ (wsX12_worth_r2 ++ (wsX12_worth_r3 ++ wsX12_worth_r4))) ++ wsX120)
def wsX12_dearer_r1 : List Cond := [Cond.fieldLink RX12 7 "FigureTillModel" "s" "[I", Cond.fieldLink RX12 37 "FigureTillModel" "best" "[I", Cond.methodLink RX12 59 yX12_in, Cond.static yX12_in, Cond.initialized RX12, Cond.code yX12_in cX12_in 3 (some .boolean), Cond.methodLink RX12 176 yX12_lacks, Cond.instanceMethod yX12_lacks, Cond.selects RX12 yX12_lacks yX12_lacks, Cond.code yX12_lacks cX12_lacks 5 (some .int), Cond.fieldLink RX12 28 "FigureTillModel" "told" "[I", Cond.methodLink RX12 169 yX12_isSheet, Cond.static yX12_isSheet, Cond.code yX12_isSheet cX12_isSheet 1 (some .boolean), Cond.methodLink RX12 161 yX12_isTill, Cond.static yX12_isTill, Cond.code yX12_isTill cX12_isTill 1 (some .boolean), Cond.methodLink RX12 172 yX12_tells, Cond.instanceMethod yX12_tells, Cond.selects RX12 yX12_tells yX12_tells, Cond.code yX12_tells cX12_tells 5 (some .int), Cond.fieldLink RX12 46 "FigureTillModel" "bits" "[I", Cond.fieldLink RX12 49 "FigureTillModel" "sizes" "[I", Cond.fieldLink RX12 52 "FigureTillModel" "number" "[I"]
def wsX12_dearer_r2 : List Cond := [Cond.methodLink RX12 146 yX12_many, Cond.static yX12_many, Cond.code yX12_many cX12_many 3 (some .int), Cond.methodLink RX12 63 yX12_error, Cond.instanceMethod yX12_error, Cond.selects RX12 yX12_error yX12_error, Cond.code yX12_error cX12_error 2 (some .int), Cond.fieldLink RX12 16 "FigureTillModel" "errors" "[I", Cond.constant RX12 58 (-1000000000), Cond.methodLink RX12 209 yX12_seeks, Cond.instanceMethod yX12_seeks, Cond.selects RX12 yX12_seeks yX12_seeks, Cond.code yX12_seeks cX12_seeks 5 none, Cond.fieldLink RX12 40 "FigureTillModel" "worthOf" "[I", Cond.fieldLink RX12 199 "FigureTillModel" "bestMore" "I", Cond.methodLink RX12 158 yX12_values, Cond.instanceMethod yX12_values, Cond.selects RX12 yX12_values yX12_values, Cond.code yX12_values cX12_values 2 (some .int), Cond.fieldLink RX12 22 "FigureTillModel" "named" "[I", Cond.methodLink RX12 116 yX12_hasText, Cond.instanceMethod yX12_hasText, Cond.selects RX12 yX12_hasText yX12_hasText, Cond.code yX12_hasText cX12_hasText 2 (some .boolean)]
def wsX12_dearer_r3 : List Cond := [Cond.methodLink RX12 136 yX12_worked, Cond.instanceMethod yX12_worked, Cond.selects RX12 yX12_worked yX12_worked, Cond.code yX12_worked cX12_worked 7 (some .int), Cond.fieldLink RX12 25 "FigureTillModel" "pile" "[I", Cond.methodLink RX12 119 yX12_joined, Cond.static yX12_joined, Cond.code yX12_joined cX12_joined 3 (some .int), Cond.methodLink RX12 139 yX12_held, Cond.static yX12_held, Cond.code yX12_held cX12_held 3 (some .int), Cond.methodLink RX12 205 yX12_tries, Cond.instanceMethod yX12_tries, Cond.selects RX12 yX12_tries yX12_tries, Cond.code yX12_tries cX12_tries 8 none, Cond.fieldLink RX12 34 "FigureTillModel" "row" "[I", Cond.fieldLink RX12 202 "FigureTillModel" "bestNet" "I", Cond.methodLink RX12 183 yX12_paid, Cond.instanceMethod yX12_paid, Cond.selects RX12 yX12_paid yX12_paid, Cond.code yX12_paid cX12_paid 3 (some .int), Cond.methodLink RX12 142 yX12_sumOf, Cond.instanceMethod yX12_sumOf, Cond.selects RX12 yX12_sumOf yX12_sumOf]
def wsX12_dearer_r4 : List Cond := [Cond.code yX12_sumOf cX12_sumOf 4 (some .int), Cond.methodLink RX12 149 yX12_asked, Cond.instanceMethod yX12_asked, Cond.selects RX12 yX12_asked yX12_asked, Cond.code yX12_asked cX12_asked 6 (some .int), Cond.methodLink RX12 127 yX12_mOf, Cond.instanceMethod yX12_mOf, Cond.selects RX12 yX12_mOf yX12_mOf, Cond.code yX12_mOf cX12_mOf 2 (some .int), Cond.methodLink RX12 123 yX12_added, Cond.static yX12_added, Cond.code yX12_added cX12_added 4 (some .int), Cond.methodLink RX12 130 yX12_kindOf, Cond.instanceMethod yX12_kindOf, Cond.selects RX12 yX12_kindOf yX12_kindOf, Cond.code yX12_kindOf cX12_kindOf 2 (some .int), Cond.methodLink RX12 133 yX12_rooted, Cond.static yX12_rooted, Cond.code yX12_rooted cX12_rooted 3 (some .int)]
def wsX12_dearer : List Cond := .code yX12_dearer cX12_dearer 11 (some .int) :: ((wsX12_dearer_r1 ++ (wsX12_dearer_r2 ++ (wsX12_dearer_r3 ++ wsX12_dearer_r4))) ++ wsX120)
def wsX12_small_r1 : List Cond := [Cond.fieldLink RX12 34 "FigureTillModel" "row" "[I", Cond.fieldLink RX12 218 "FigureTillModel" "leastPaid" "I", Cond.fieldLink RX12 221 "FigureTillModel" "found" "I", Cond.fieldLink RX12 224 "FigureTillModel" "first" "I", Cond.methodLink RX12 146 yX12_many, Cond.static yX12_many, Cond.initialized RX12, Cond.code yX12_many cX12_many 3 (some .int), Cond.methodLink RX12 183 yX12_paid, Cond.instanceMethod yX12_paid, Cond.selects RX12 yX12_paid yX12_paid, Cond.code yX12_paid cX12_paid 3 (some .int), Cond.methodLink RX12 142 yX12_sumOf, Cond.instanceMethod yX12_sumOf, Cond.selects RX12 yX12_sumOf yX12_sumOf, Cond.code yX12_sumOf cX12_sumOf 4 (some .int), Cond.fieldLink RX12 7 "FigureTillModel" "s" "[I", Cond.methodLink RX12 149 yX12_asked, Cond.instanceMethod yX12_asked, Cond.selects RX12 yX12_asked yX12_asked, Cond.code yX12_asked cX12_asked 6 (some .int), Cond.fieldLink RX12 22 "FigureTillModel" "named" "[I", Cond.methodLink RX12 127 yX12_mOf, Cond.instanceMethod yX12_mOf]
def wsX12_small_r2 : List Cond := [Cond.selects RX12 yX12_mOf yX12_mOf, Cond.code yX12_mOf cX12_mOf 2 (some .int), Cond.methodLink RX12 123 yX12_added, Cond.static yX12_added, Cond.code yX12_added cX12_added 4 (some .int), Cond.methodLink RX12 130 yX12_kindOf, Cond.instanceMethod yX12_kindOf, Cond.selects RX12 yX12_kindOf yX12_kindOf, Cond.code yX12_kindOf cX12_kindOf 2 (some .int), Cond.methodLink RX12 133 yX12_rooted, Cond.static yX12_rooted, Cond.code yX12_rooted cX12_rooted 3 (some .int), Cond.methodLink RX12 116 yX12_hasText, Cond.instanceMethod yX12_hasText, Cond.selects RX12 yX12_hasText yX12_hasText, Cond.code yX12_hasText cX12_hasText 2 (some .boolean), Cond.methodLink RX12 136 yX12_worked, Cond.instanceMethod yX12_worked, Cond.selects RX12 yX12_worked yX12_worked, Cond.code yX12_worked cX12_worked 7 (some .int), Cond.fieldLink RX12 25 "FigureTillModel" "pile" "[I", Cond.methodLink RX12 119 yX12_joined, Cond.static yX12_joined, Cond.code yX12_joined cX12_joined 3 (some .int)]
def wsX12_small_r3 : List Cond := [Cond.methodLink RX12 139 yX12_held, Cond.static yX12_held, Cond.code yX12_held cX12_held 3 (some .int), Cond.methodLink RX12 227 yX12_small, Cond.instanceMethod yX12_small, Cond.selects RX12 yX12_small yX12_small]
def wsX12_small : List Cond := .code yX12_small cX12_small 8 none :: ((wsX12_small_r1 ++ (wsX12_small_r2 ++ wsX12_small_r3)) ++ wsX120)
def wsX12_allSmall_r1 : List Cond := [Cond.fieldLink RX12 221 "FigureTillModel" "found" "I", Cond.fieldLink RX12 224 "FigureTillModel" "first" "I", Cond.fieldLink RX12 218 "FigureTillModel" "leastPaid" "I", Cond.methodLink RX12 227 yX12_small, Cond.instanceMethod yX12_small, Cond.selects RX12 yX12_small yX12_small, Cond.initialized RX12, Cond.code yX12_small cX12_small 8 none, Cond.fieldLink RX12 34 "FigureTillModel" "row" "[I", Cond.methodLink RX12 146 yX12_many, Cond.static yX12_many, Cond.code yX12_many cX12_many 3 (some .int), Cond.methodLink RX12 183 yX12_paid, Cond.instanceMethod yX12_paid, Cond.selects RX12 yX12_paid yX12_paid, Cond.code yX12_paid cX12_paid 3 (some .int), Cond.methodLink RX12 142 yX12_sumOf, Cond.instanceMethod yX12_sumOf, Cond.selects RX12 yX12_sumOf yX12_sumOf, Cond.code yX12_sumOf cX12_sumOf 4 (some .int), Cond.fieldLink RX12 7 "FigureTillModel" "s" "[I", Cond.methodLink RX12 149 yX12_asked, Cond.instanceMethod yX12_asked, Cond.selects RX12 yX12_asked yX12_asked]
def wsX12_allSmall_r2 : List Cond := [Cond.code yX12_asked cX12_asked 6 (some .int), Cond.fieldLink RX12 22 "FigureTillModel" "named" "[I", Cond.methodLink RX12 127 yX12_mOf, Cond.instanceMethod yX12_mOf, Cond.selects RX12 yX12_mOf yX12_mOf, Cond.code yX12_mOf cX12_mOf 2 (some .int), Cond.methodLink RX12 123 yX12_added, Cond.static yX12_added, Cond.code yX12_added cX12_added 4 (some .int), Cond.methodLink RX12 130 yX12_kindOf, Cond.instanceMethod yX12_kindOf, Cond.selects RX12 yX12_kindOf yX12_kindOf, Cond.code yX12_kindOf cX12_kindOf 2 (some .int), Cond.methodLink RX12 133 yX12_rooted, Cond.static yX12_rooted, Cond.code yX12_rooted cX12_rooted 3 (some .int), Cond.methodLink RX12 116 yX12_hasText, Cond.instanceMethod yX12_hasText, Cond.selects RX12 yX12_hasText yX12_hasText, Cond.code yX12_hasText cX12_hasText 2 (some .boolean), Cond.methodLink RX12 136 yX12_worked, Cond.instanceMethod yX12_worked, Cond.selects RX12 yX12_worked yX12_worked, Cond.code yX12_worked cX12_worked 7 (some .int)]
def wsX12_allSmall_r3 : List Cond := [Cond.fieldLink RX12 25 "FigureTillModel" "pile" "[I", Cond.methodLink RX12 119 yX12_joined, Cond.static yX12_joined, Cond.code yX12_joined cX12_joined 3 (some .int), Cond.methodLink RX12 139 yX12_held, Cond.static yX12_held, Cond.code yX12_held cX12_held 3 (some .int)]
def wsX12_allSmall : List Cond := .code yX12_allSmall cX12_allSmall 3 none :: ((wsX12_allSmall_r1 ++ (wsX12_allSmall_r2 ++ wsX12_allSmall_r3)) ++ wsX120)
def wsX12_nines_r1 : List Cond := [Cond.fieldLink RX12 7 "FigureTillModel" "s" "[I", Cond.fieldLink RX12 218 "FigureTillModel" "leastPaid" "I", Cond.methodLink RX12 59 yX12_in, Cond.static yX12_in, Cond.initialized RX12, Cond.code yX12_in cX12_in 3 (some .boolean), Cond.methodLink RX12 63 yX12_error, Cond.instanceMethod yX12_error, Cond.selects RX12 yX12_error yX12_error, Cond.code yX12_error cX12_error 2 (some .int), Cond.fieldLink RX12 16 "FigureTillModel" "errors" "[I", Cond.constant RX12 58 (-1000000000), Cond.methodLink RX12 230 yX12_allSmall, Cond.instanceMethod yX12_allSmall, Cond.selects RX12 yX12_allSmall yX12_allSmall, Cond.code yX12_allSmall cX12_allSmall 3 none, Cond.fieldLink RX12 221 "FigureTillModel" "found" "I", Cond.fieldLink RX12 224 "FigureTillModel" "first" "I", Cond.methodLink RX12 227 yX12_small, Cond.instanceMethod yX12_small, Cond.selects RX12 yX12_small yX12_small, Cond.code yX12_small cX12_small 8 none, Cond.fieldLink RX12 34 "FigureTillModel" "row" "[I", Cond.methodLink RX12 146 yX12_many]
def wsX12_nines_r2 : List Cond := [Cond.static yX12_many, Cond.code yX12_many cX12_many 3 (some .int), Cond.methodLink RX12 183 yX12_paid, Cond.instanceMethod yX12_paid, Cond.selects RX12 yX12_paid yX12_paid, Cond.code yX12_paid cX12_paid 3 (some .int), Cond.methodLink RX12 142 yX12_sumOf, Cond.instanceMethod yX12_sumOf, Cond.selects RX12 yX12_sumOf yX12_sumOf, Cond.code yX12_sumOf cX12_sumOf 4 (some .int), Cond.methodLink RX12 149 yX12_asked, Cond.instanceMethod yX12_asked, Cond.selects RX12 yX12_asked yX12_asked, Cond.code yX12_asked cX12_asked 6 (some .int), Cond.fieldLink RX12 22 "FigureTillModel" "named" "[I", Cond.methodLink RX12 127 yX12_mOf, Cond.instanceMethod yX12_mOf, Cond.selects RX12 yX12_mOf yX12_mOf, Cond.code yX12_mOf cX12_mOf 2 (some .int), Cond.methodLink RX12 123 yX12_added, Cond.static yX12_added, Cond.code yX12_added cX12_added 4 (some .int), Cond.methodLink RX12 130 yX12_kindOf, Cond.instanceMethod yX12_kindOf]
def wsX12_nines_r3 : List Cond := [Cond.selects RX12 yX12_kindOf yX12_kindOf, Cond.code yX12_kindOf cX12_kindOf 2 (some .int), Cond.methodLink RX12 133 yX12_rooted, Cond.static yX12_rooted, Cond.code yX12_rooted cX12_rooted 3 (some .int), Cond.methodLink RX12 116 yX12_hasText, Cond.instanceMethod yX12_hasText, Cond.selects RX12 yX12_hasText yX12_hasText, Cond.code yX12_hasText cX12_hasText 2 (some .boolean), Cond.methodLink RX12 136 yX12_worked, Cond.instanceMethod yX12_worked, Cond.selects RX12 yX12_worked yX12_worked, Cond.code yX12_worked cX12_worked 7 (some .int), Cond.fieldLink RX12 25 "FigureTillModel" "pile" "[I", Cond.methodLink RX12 119 yX12_joined, Cond.static yX12_joined, Cond.code yX12_joined cX12_joined 3 (some .int), Cond.methodLink RX12 139 yX12_held, Cond.static yX12_held, Cond.code yX12_held cX12_held 3 (some .int)]
def wsX12_nines : List Cond := .code yX12_nines cX12_nines 4 (some .int) :: ((wsX12_nines_r1 ++ (wsX12_nines_r2 ++ wsX12_nines_r3)) ++ wsX120)
def wsX12_divisor : List Cond := .code yX12_divisor cX12_divisor 5 (some .int) :: ([])
def wsX12_erring_r1 : List Cond := [Cond.fieldLink RX12 28 "FigureTillModel" "told" "[I", Cond.methodLink RX12 59 yX12_in, Cond.static yX12_in, Cond.initialized RX12, Cond.code yX12_in cX12_in 3 (some .boolean), Cond.methodLink RX12 176 yX12_lacks, Cond.instanceMethod yX12_lacks, Cond.selects RX12 yX12_lacks yX12_lacks, Cond.code yX12_lacks cX12_lacks 5 (some .int), Cond.methodLink RX12 169 yX12_isSheet, Cond.static yX12_isSheet, Cond.code yX12_isSheet cX12_isSheet 1 (some .boolean), Cond.methodLink RX12 161 yX12_isTill, Cond.static yX12_isTill, Cond.code yX12_isTill cX12_isTill 1 (some .boolean), Cond.methodLink RX12 172 yX12_tells, Cond.instanceMethod yX12_tells, Cond.selects RX12 yX12_tells yX12_tells, Cond.code yX12_tells cX12_tells 5 (some .int), Cond.fieldLink RX12 46 "FigureTillModel" "bits" "[I", Cond.fieldLink RX12 49 "FigureTillModel" "sizes" "[I", Cond.fieldLink RX12 52 "FigureTillModel" "number" "[I", Cond.methodLink RX12 146 yX12_many, Cond.static yX12_many]
def wsX12_erring_r2 : List Cond := [Cond.code yX12_many cX12_many 3 (some .int), Cond.methodLink RX12 63 yX12_error, Cond.instanceMethod yX12_error, Cond.selects RX12 yX12_error yX12_error, Cond.code yX12_error cX12_error 2 (some .int), Cond.fieldLink RX12 16 "FigureTillModel" "errors" "[I", Cond.constant RX12 58 (-1000000000), Cond.methodLink RX12 183 yX12_paid, Cond.instanceMethod yX12_paid, Cond.selects RX12 yX12_paid yX12_paid, Cond.code yX12_paid cX12_paid 3 (some .int), Cond.methodLink RX12 142 yX12_sumOf, Cond.instanceMethod yX12_sumOf, Cond.selects RX12 yX12_sumOf yX12_sumOf, Cond.code yX12_sumOf cX12_sumOf 4 (some .int), Cond.fieldLink RX12 7 "FigureTillModel" "s" "[I", Cond.methodLink RX12 149 yX12_asked, Cond.instanceMethod yX12_asked, Cond.selects RX12 yX12_asked yX12_asked, Cond.code yX12_asked cX12_asked 6 (some .int), Cond.fieldLink RX12 22 "FigureTillModel" "named" "[I", Cond.methodLink RX12 127 yX12_mOf, Cond.instanceMethod yX12_mOf, Cond.selects RX12 yX12_mOf yX12_mOf]
def wsX12_erring_r3 : List Cond := [Cond.code yX12_mOf cX12_mOf 2 (some .int), Cond.methodLink RX12 123 yX12_added, Cond.static yX12_added, Cond.code yX12_added cX12_added 4 (some .int), Cond.methodLink RX12 130 yX12_kindOf, Cond.instanceMethod yX12_kindOf, Cond.selects RX12 yX12_kindOf yX12_kindOf, Cond.code yX12_kindOf cX12_kindOf 2 (some .int), Cond.methodLink RX12 133 yX12_rooted, Cond.static yX12_rooted, Cond.code yX12_rooted cX12_rooted 3 (some .int), Cond.methodLink RX12 116 yX12_hasText, Cond.instanceMethod yX12_hasText, Cond.selects RX12 yX12_hasText yX12_hasText, Cond.code yX12_hasText cX12_hasText 2 (some .boolean), Cond.methodLink RX12 136 yX12_worked, Cond.instanceMethod yX12_worked, Cond.selects RX12 yX12_worked yX12_worked, Cond.code yX12_worked cX12_worked 7 (some .int), Cond.fieldLink RX12 25 "FigureTillModel" "pile" "[I", Cond.methodLink RX12 119 yX12_joined, Cond.static yX12_joined, Cond.code yX12_joined cX12_joined 3 (some .int), Cond.methodLink RX12 139 yX12_held]
def wsX12_erring_r4 : List Cond := [Cond.static yX12_held, Cond.code yX12_held cX12_held 3 (some .int), Cond.methodLink RX12 233 yX12_divisor, Cond.static yX12_divisor, Cond.code yX12_divisor cX12_divisor 5 (some .int)]
def wsX12_erring : List Cond := .code yX12_erring cX12_erring 10 (some .long) :: ((wsX12_erring_r1 ++ (wsX12_erring_r2 ++ (wsX12_erring_r3 ++ wsX12_erring_r4))) ++ wsX120)
def wsX12_wasIn_r1 : List Cond := [Cond.fieldLink RX12 221 "FigureTillModel" "found" "I", Cond.fieldLink RX12 224 "FigureTillModel" "first" "I", Cond.methodLink RX12 161 yX12_isTill, Cond.static yX12_isTill, Cond.initialized RX12, Cond.code yX12_isTill cX12_isTill 1 (some .boolean), Cond.methodLink RX12 59 yX12_in, Cond.static yX12_in, Cond.code yX12_in cX12_in 3 (some .boolean), Cond.methodLink RX12 63 yX12_error, Cond.instanceMethod yX12_error, Cond.selects RX12 yX12_error yX12_error, Cond.code yX12_error cX12_error 2 (some .int), Cond.fieldLink RX12 16 "FigureTillModel" "errors" "[I", Cond.constant RX12 58 (-1000000000), Cond.methodLink RX12 230 yX12_allSmall, Cond.instanceMethod yX12_allSmall, Cond.selects RX12 yX12_allSmall yX12_allSmall, Cond.code yX12_allSmall cX12_allSmall 3 none, Cond.fieldLink RX12 218 "FigureTillModel" "leastPaid" "I", Cond.methodLink RX12 227 yX12_small, Cond.instanceMethod yX12_small, Cond.selects RX12 yX12_small yX12_small, Cond.code yX12_small cX12_small 8 none]
def wsX12_wasIn_r2 : List Cond := [Cond.fieldLink RX12 34 "FigureTillModel" "row" "[I", Cond.methodLink RX12 146 yX12_many, Cond.static yX12_many, Cond.code yX12_many cX12_many 3 (some .int), Cond.methodLink RX12 183 yX12_paid, Cond.instanceMethod yX12_paid, Cond.selects RX12 yX12_paid yX12_paid, Cond.code yX12_paid cX12_paid 3 (some .int), Cond.methodLink RX12 142 yX12_sumOf, Cond.instanceMethod yX12_sumOf, Cond.selects RX12 yX12_sumOf yX12_sumOf, Cond.code yX12_sumOf cX12_sumOf 4 (some .int), Cond.fieldLink RX12 7 "FigureTillModel" "s" "[I", Cond.methodLink RX12 149 yX12_asked, Cond.instanceMethod yX12_asked, Cond.selects RX12 yX12_asked yX12_asked, Cond.code yX12_asked cX12_asked 6 (some .int), Cond.fieldLink RX12 22 "FigureTillModel" "named" "[I", Cond.methodLink RX12 127 yX12_mOf, Cond.instanceMethod yX12_mOf, Cond.selects RX12 yX12_mOf yX12_mOf, Cond.code yX12_mOf cX12_mOf 2 (some .int), Cond.methodLink RX12 123 yX12_added, Cond.static yX12_added]
def wsX12_wasIn_r3 : List Cond := [Cond.code yX12_added cX12_added 4 (some .int), Cond.methodLink RX12 130 yX12_kindOf, Cond.instanceMethod yX12_kindOf, Cond.selects RX12 yX12_kindOf yX12_kindOf, Cond.code yX12_kindOf cX12_kindOf 2 (some .int), Cond.methodLink RX12 133 yX12_rooted, Cond.static yX12_rooted, Cond.code yX12_rooted cX12_rooted 3 (some .int), Cond.methodLink RX12 116 yX12_hasText, Cond.instanceMethod yX12_hasText, Cond.selects RX12 yX12_hasText yX12_hasText, Cond.code yX12_hasText cX12_hasText 2 (some .boolean), Cond.methodLink RX12 136 yX12_worked, Cond.instanceMethod yX12_worked, Cond.selects RX12 yX12_worked yX12_worked, Cond.code yX12_worked cX12_worked 7 (some .int), Cond.fieldLink RX12 25 "FigureTillModel" "pile" "[I", Cond.methodLink RX12 119 yX12_joined, Cond.static yX12_joined, Cond.code yX12_joined cX12_joined 3 (some .int), Cond.methodLink RX12 139 yX12_held, Cond.static yX12_held, Cond.code yX12_held cX12_held 3 (some .int)]
def wsX12_wasIn : List Cond := .code yX12_wasIn cX12_wasIn 4 (some .int) :: ((wsX12_wasIn_r1 ++ (wsX12_wasIn_r2 ++ wsX12_wasIn_r3)) ++ wsX120)
def wsX12_begins : List Cond := .code yX12_begins cX12_begins 2 none :: ([.fieldLink RX12 236 "FigureTillModel" "traced" "I", .fieldLink RX12 43 "FigureTillModel" "trace" "[I"] ++ wsX120)
def wsX12_above : List Cond := .code yX12_above cX12_above 1 (some .int) :: ([])
def wsX12_addsAs : List Cond := .code yX12_addsAs cX12_addsAs 3 (some .int) :: ([.fieldLink RX12 243 "FigureTillModel" "speaks" "I", .methodLink RX12 239 yX12_begins, .instanceMethod yX12_begins, .selects RX12 yX12_begins yX12_begins, .initialized RX12, .code yX12_begins cX12_begins 2 none, .fieldLink RX12 236 "FigureTillModel" "traced" "I", .fieldLink RX12 43 "FigureTillModel" "trace" "[I", .methodLink RX12 246 yX12_above, .static yX12_above, .code yX12_above cX12_above 1 (some .int), .methodLink RX12 249 yX12_addsAs, .instanceMethod yX12_addsAs, .selects RX12 yX12_addsAs yX12_addsAs] ++ wsX120)
def wsX12_comesAs_r1 : List Cond := [Cond.fieldLink RX12 243 "FigureTillModel" "speaks" "I", Cond.methodLink RX12 239 yX12_begins, Cond.instanceMethod yX12_begins, Cond.selects RX12 yX12_begins yX12_begins, Cond.initialized RX12, Cond.code yX12_begins cX12_begins 2 none, Cond.fieldLink RX12 236 "FigureTillModel" "traced" "I", Cond.fieldLink RX12 43 "FigureTillModel" "trace" "[I", Cond.methodLink RX12 130 yX12_kindOf, Cond.instanceMethod yX12_kindOf, Cond.selects RX12 yX12_kindOf yX12_kindOf, Cond.code yX12_kindOf cX12_kindOf 2 (some .int), Cond.fieldLink RX12 7 "FigureTillModel" "s" "[I", Cond.methodLink RX12 249 yX12_addsAs, Cond.instanceMethod yX12_addsAs, Cond.selects RX12 yX12_addsAs yX12_addsAs, Cond.code yX12_addsAs cX12_addsAs 3 (some .int), Cond.methodLink RX12 246 yX12_above, Cond.static yX12_above, Cond.code yX12_above cX12_above 1 (some .int), Cond.methodLink RX12 252 yX12_comesAs, Cond.instanceMethod yX12_comesAs, Cond.selects RX12 yX12_comesAs yX12_comesAs, Cond.methodLink RX12 127 yX12_mOf]
def wsX12_comesAs_r2 : List Cond := [Cond.instanceMethod yX12_mOf, Cond.selects RX12 yX12_mOf yX12_mOf, Cond.code yX12_mOf cX12_mOf 2 (some .int)]
def wsX12_comesAs : List Cond := .code yX12_comesAs cX12_comesAs 3 (some .int) :: ((wsX12_comesAs_r1 ++ wsX12_comesAs_r2) ++ wsX120)
def wsX12_givesAs_r1 : List Cond := [Cond.fieldLink RX12 243 "FigureTillModel" "speaks" "I", Cond.methodLink RX12 239 yX12_begins, Cond.instanceMethod yX12_begins, Cond.selects RX12 yX12_begins yX12_begins, Cond.initialized RX12, Cond.code yX12_begins cX12_begins 2 none, Cond.fieldLink RX12 236 "FigureTillModel" "traced" "I", Cond.fieldLink RX12 43 "FigureTillModel" "trace" "[I", Cond.methodLink RX12 130 yX12_kindOf, Cond.instanceMethod yX12_kindOf, Cond.selects RX12 yX12_kindOf yX12_kindOf, Cond.code yX12_kindOf cX12_kindOf 2 (some .int), Cond.fieldLink RX12 7 "FigureTillModel" "s" "[I", Cond.methodLink RX12 252 yX12_comesAs, Cond.instanceMethod yX12_comesAs, Cond.selects RX12 yX12_comesAs yX12_comesAs, Cond.code yX12_comesAs cX12_comesAs 3 (some .int), Cond.methodLink RX12 249 yX12_addsAs, Cond.instanceMethod yX12_addsAs, Cond.selects RX12 yX12_addsAs yX12_addsAs, Cond.code yX12_addsAs cX12_addsAs 3 (some .int), Cond.methodLink RX12 246 yX12_above, Cond.static yX12_above, Cond.code yX12_above cX12_above 1 (some .int)]
def wsX12_givesAs_r2 : List Cond := [Cond.methodLink RX12 127 yX12_mOf, Cond.instanceMethod yX12_mOf, Cond.selects RX12 yX12_mOf yX12_mOf, Cond.code yX12_mOf cX12_mOf 2 (some .int), Cond.methodLink RX12 255 yX12_givesAs, Cond.instanceMethod yX12_givesAs, Cond.selects RX12 yX12_givesAs yX12_givesAs]
def wsX12_givesAs : List Cond := .code yX12_givesAs cX12_givesAs 3 (some .int) :: ((wsX12_givesAs_r1 ++ wsX12_givesAs_r2) ++ wsX120)
def wsX12_partsAs_r1 : List Cond := [Cond.fieldLink RX12 243 "FigureTillModel" "speaks" "I", Cond.fieldLink RX12 258 "FigureTillModel" "isParted" "Z", Cond.methodLink RX12 239 yX12_begins, Cond.instanceMethod yX12_begins, Cond.selects RX12 yX12_begins yX12_begins, Cond.initialized RX12, Cond.code yX12_begins cX12_begins 2 none, Cond.fieldLink RX12 236 "FigureTillModel" "traced" "I", Cond.fieldLink RX12 43 "FigureTillModel" "trace" "[I", Cond.methodLink RX12 127 yX12_mOf, Cond.instanceMethod yX12_mOf, Cond.selects RX12 yX12_mOf yX12_mOf, Cond.code yX12_mOf cX12_mOf 2 (some .int), Cond.fieldLink RX12 7 "FigureTillModel" "s" "[I", Cond.methodLink RX12 246 yX12_above, Cond.static yX12_above, Cond.code yX12_above cX12_above 1 (some .int), Cond.methodLink RX12 262 yX12_partsAs, Cond.instanceMethod yX12_partsAs, Cond.selects RX12 yX12_partsAs yX12_partsAs, Cond.methodLink RX12 130 yX12_kindOf, Cond.instanceMethod yX12_kindOf, Cond.selects RX12 yX12_kindOf yX12_kindOf, Cond.code yX12_kindOf cX12_kindOf 2 (some .int)]
def wsX12_partsAs_r2 : List Cond := [Cond.methodLink RX12 252 yX12_comesAs, Cond.instanceMethod yX12_comesAs, Cond.selects RX12 yX12_comesAs yX12_comesAs, Cond.code yX12_comesAs cX12_comesAs 3 (some .int), Cond.methodLink RX12 249 yX12_addsAs, Cond.instanceMethod yX12_addsAs, Cond.selects RX12 yX12_addsAs yX12_addsAs, Cond.code yX12_addsAs cX12_addsAs 3 (some .int)]
def wsX12_partsAs : List Cond := .code yX12_partsAs cX12_partsAs 5 (some .int) :: ((wsX12_partsAs_r1 ++ wsX12_partsAs_r2) ++ wsX120)
def wsX12_voice_r1 : List Cond := [Cond.fieldLink RX12 236 "FigureTillModel" "traced" "I", Cond.fieldLink RX12 243 "FigureTillModel" "speaks" "I", Cond.fieldLink RX12 258 "FigureTillModel" "isParted" "Z", Cond.methodLink RX12 161 yX12_isTill, Cond.static yX12_isTill, Cond.initialized RX12, Cond.code yX12_isTill cX12_isTill 1 (some .boolean), Cond.methodLink RX12 59 yX12_in, Cond.static yX12_in, Cond.code yX12_in cX12_in 3 (some .boolean), Cond.methodLink RX12 63 yX12_error, Cond.instanceMethod yX12_error, Cond.selects RX12 yX12_error yX12_error, Cond.code yX12_error cX12_error 2 (some .int), Cond.fieldLink RX12 16 "FigureTillModel" "errors" "[I", Cond.constant RX12 58 (-1000000000), Cond.methodLink RX12 130 yX12_kindOf, Cond.instanceMethod yX12_kindOf, Cond.selects RX12 yX12_kindOf yX12_kindOf, Cond.code yX12_kindOf cX12_kindOf 2 (some .int), Cond.fieldLink RX12 7 "FigureTillModel" "s" "[I", Cond.methodLink RX12 249 yX12_addsAs, Cond.instanceMethod yX12_addsAs, Cond.selects RX12 yX12_addsAs yX12_addsAs]
def wsX12_voice_r2 : List Cond := [Cond.code yX12_addsAs cX12_addsAs 3 (some .int), Cond.methodLink RX12 239 yX12_begins, Cond.instanceMethod yX12_begins, Cond.selects RX12 yX12_begins yX12_begins, Cond.code yX12_begins cX12_begins 2 none, Cond.fieldLink RX12 43 "FigureTillModel" "trace" "[I", Cond.methodLink RX12 246 yX12_above, Cond.static yX12_above, Cond.code yX12_above cX12_above 1 (some .int), Cond.methodLink RX12 252 yX12_comesAs, Cond.instanceMethod yX12_comesAs, Cond.selects RX12 yX12_comesAs yX12_comesAs, Cond.code yX12_comesAs cX12_comesAs 3 (some .int), Cond.methodLink RX12 127 yX12_mOf, Cond.instanceMethod yX12_mOf, Cond.selects RX12 yX12_mOf yX12_mOf, Cond.code yX12_mOf cX12_mOf 2 (some .int), Cond.methodLink RX12 255 yX12_givesAs, Cond.instanceMethod yX12_givesAs, Cond.selects RX12 yX12_givesAs yX12_givesAs, Cond.code yX12_givesAs cX12_givesAs 3 (some .int), Cond.methodLink RX12 262 yX12_partsAs, Cond.instanceMethod yX12_partsAs, Cond.selects RX12 yX12_partsAs yX12_partsAs]
def wsX12_voice_r3 : List Cond := [Cond.code yX12_partsAs cX12_partsAs 5 (some .int)]
def wsX12_voice : List Cond := .code yX12_voice cX12_voice 6 (some .int) :: ((wsX12_voice_r1 ++ (wsX12_voice_r2 ++ wsX12_voice_r3)) ++ wsX120)
def wsX12_body : List Cond := .code yX12_body cX12_body 2 (some .int) :: ([.fieldLink RX12 236 "FigureTillModel" "traced" "I", .fieldLink RX12 43 "FigureTillModel" "trace" "[I", .methodLink RX12 59 yX12_in, .static yX12_in, .initialized RX12, .code yX12_in cX12_in 3 (some .boolean), .methodLink RX12 63 yX12_error, .instanceMethod yX12_error, .selects RX12 yX12_error yX12_error, .code yX12_error cX12_error 2 (some .int), .fieldLink RX12 16 "FigureTillModel" "errors" "[I", .constant RX12 58 (-1000000000)] ++ wsX120)
def wsX12_sheet : List Cond := .code yX12_sheet cX12_sheet 5 (some .int) :: ([.fieldLink RX12 46 "FigureTillModel" "bits" "[I", .fieldLink RX12 49 "FigureTillModel" "sizes" "[I", .fieldLink RX12 52 "FigureTillModel" "number" "[I", .methodLink RX12 169 yX12_isSheet, .static yX12_isSheet, .initialized RX12, .code yX12_isSheet cX12_isSheet 1 (some .boolean), .methodLink RX12 59 yX12_in, .static yX12_in, .code yX12_in cX12_in 3 (some .boolean), .methodLink RX12 63 yX12_error, .instanceMethod yX12_error, .selects RX12 yX12_error yX12_error, .code yX12_error cX12_error 2 (some .int), .fieldLink RX12 16 "FigureTillModel" "errors" "[I", .constant RX12 58 (-1000000000)] ++ wsX120)
def wsX12_put : List Cond := .code yX12_put cX12_put 5 (some .int) :: ([.fieldLink RX12 46 "FigureTillModel" "bits" "[I", .fieldLink RX12 49 "FigureTillModel" "sizes" "[I", .fieldLink RX12 52 "FigureTillModel" "number" "[I", .methodLink RX12 169 yX12_isSheet, .static yX12_isSheet, .initialized RX12, .code yX12_isSheet cX12_isSheet 1 (some .boolean), .methodLink RX12 59 yX12_in, .static yX12_in, .code yX12_in cX12_in 3 (some .boolean), .methodLink RX12 63 yX12_error, .instanceMethod yX12_error, .selects RX12 yX12_error yX12_error, .code yX12_error cX12_error 2 (some .int), .fieldLink RX12 16 "FigureTillModel" "errors" "[I", .constant RX12 58 (-1000000000)] ++ wsX120)
def wsX12_move : List Cond := .code yX12_move cX12_move 7 (some .int) :: ([.fieldLink RX12 46 "FigureTillModel" "bits" "[I", .fieldLink RX12 49 "FigureTillModel" "sizes" "[I", .fieldLink RX12 55 "FigureTillModel" "aside" "[I", .fieldLink RX12 52 "FigureTillModel" "number" "[I", .methodLink RX12 169 yX12_isSheet, .static yX12_isSheet, .initialized RX12, .code yX12_isSheet cX12_isSheet 1 (some .boolean), .methodLink RX12 59 yX12_in, .static yX12_in, .code yX12_in cX12_in 3 (some .boolean), .methodLink RX12 63 yX12_error, .instanceMethod yX12_error, .selects RX12 yX12_error yX12_error, .code yX12_error cX12_error 2 (some .int), .fieldLink RX12 16 "FigureTillModel" "errors" "[I", .constant RX12 58 (-1000000000)] ++ wsX120)
def wsX12_prices : List Cond := .code yX12_prices cX12_prices 3 (some .int) :: ([.fieldLink RX12 46 "FigureTillModel" "bits" "[I", .fieldLink RX12 49 "FigureTillModel" "sizes" "[I", .fieldLink RX12 52 "FigureTillModel" "number" "[I", .fieldLink RX12 7 "FigureTillModel" "s" "[I", .methodLink RX12 169 yX12_isSheet, .static yX12_isSheet, .initialized RX12, .code yX12_isSheet cX12_isSheet 1 (some .boolean), .methodLink RX12 59 yX12_in, .static yX12_in, .code yX12_in cX12_in 3 (some .boolean), .methodLink RX12 63 yX12_error, .instanceMethod yX12_error, .selects RX12 yX12_error yX12_error, .code yX12_error cX12_error 2 (some .int), .fieldLink RX12 16 "FigureTillModel" "errors" "[I", .constant RX12 58 (-1000000000)] ++ wsX120)
def wsX12_image : List Cond := .code yX12_image cX12_image 1 (some .int) :: ([.fieldLink RX12 7 "FigureTillModel" "s" "[I", .fieldLink RX12 13 "FigureTillModel" "kept" "[I", .fieldLink RX12 269 "FigureTillModel" "images" "I", .methodLink RX12 265 yX12_carry, .static yX12_carry, .initialized RX12, .code yX12_carry cX12_carry 3 none] ++ wsX120)
def wsX12_restore : List Cond := .code yX12_restore cX12_restore 1 (some .int) :: ([.fieldLink RX12 269 "FigureTillModel" "images" "I", .fieldLink RX12 13 "FigureTillModel" "kept" "[I", .fieldLink RX12 7 "FigureTillModel" "s" "[I", .methodLink RX12 63 yX12_error, .instanceMethod yX12_error, .selects RX12 yX12_error yX12_error, .initialized RX12, .code yX12_error cX12_error 2 (some .int), .fieldLink RX12 16 "FigureTillModel" "errors" "[I", .constant RX12 58 (-1000000000), .methodLink RX12 265 yX12_carry, .static yX12_carry, .code yX12_carry cX12_carry 3 none] ++ wsX120)
def wsX12_tell : List Cond := .code yX12_tell cX12_tell 2 (some .int) :: ([.fieldLink RX12 7 "FigureTillModel" "s" "[I", .methodLink RX12 63 yX12_error, .instanceMethod yX12_error, .selects RX12 yX12_error yX12_error, .initialized RX12, .code yX12_error cX12_error 2 (some .int), .fieldLink RX12 16 "FigureTillModel" "errors" "[I", .constant RX12 58 (-1000000000)] ++ wsX120)
def wsX12_check_r1 : List Cond := [Cond.fieldLink RX12 7 "FigureTillModel" "s" "[I", Cond.methodLink RX12 161 yX12_isTill, Cond.static yX12_isTill, Cond.initialized RX12, Cond.code yX12_isTill cX12_isTill 1 (some .boolean), Cond.methodLink RX12 59 yX12_in, Cond.static yX12_in, Cond.code yX12_in cX12_in 3 (some .boolean), Cond.methodLink RX12 63 yX12_error, Cond.instanceMethod yX12_error, Cond.selects RX12 yX12_error yX12_error, Cond.code yX12_error cX12_error 2 (some .int), Cond.fieldLink RX12 16 "FigureTillModel" "errors" "[I", Cond.constant RX12 58 (-1000000000), Cond.methodLink RX12 149 yX12_asked, Cond.instanceMethod yX12_asked, Cond.selects RX12 yX12_asked yX12_asked, Cond.code yX12_asked cX12_asked 6 (some .int), Cond.fieldLink RX12 22 "FigureTillModel" "named" "[I", Cond.methodLink RX12 127 yX12_mOf, Cond.instanceMethod yX12_mOf, Cond.selects RX12 yX12_mOf yX12_mOf, Cond.code yX12_mOf cX12_mOf 2 (some .int), Cond.methodLink RX12 123 yX12_added]
def wsX12_check_r2 : List Cond := [Cond.static yX12_added, Cond.code yX12_added cX12_added 4 (some .int), Cond.methodLink RX12 130 yX12_kindOf, Cond.instanceMethod yX12_kindOf, Cond.selects RX12 yX12_kindOf yX12_kindOf, Cond.code yX12_kindOf cX12_kindOf 2 (some .int), Cond.methodLink RX12 133 yX12_rooted, Cond.static yX12_rooted, Cond.code yX12_rooted cX12_rooted 3 (some .int), Cond.methodLink RX12 116 yX12_hasText, Cond.instanceMethod yX12_hasText, Cond.selects RX12 yX12_hasText yX12_hasText, Cond.code yX12_hasText cX12_hasText 2 (some .boolean), Cond.methodLink RX12 136 yX12_worked, Cond.instanceMethod yX12_worked, Cond.selects RX12 yX12_worked yX12_worked, Cond.code yX12_worked cX12_worked 7 (some .int), Cond.fieldLink RX12 25 "FigureTillModel" "pile" "[I", Cond.methodLink RX12 119 yX12_joined, Cond.static yX12_joined, Cond.code yX12_joined cX12_joined 3 (some .int), Cond.methodLink RX12 139 yX12_held, Cond.static yX12_held, Cond.code yX12_held cX12_held 3 (some .int)]
def wsX12_check : List Cond := .code yX12_check cX12_check 4 (some .int) :: ((wsX12_check_r1 ++ wsX12_check_r2) ++ wsX120)
def wsX12_count : List Cond := .code yX12_count cX12_count 4 (some .int) :: ([.fieldLink RX12 7 "FigureTillModel" "s" "[I", .fieldLink RX12 236 "FigureTillModel" "traced" "I", .methodLink RX12 63 yX12_error, .instanceMethod yX12_error, .selects RX12 yX12_error yX12_error, .initialized RX12, .code yX12_error cX12_error 2 (some .int), .fieldLink RX12 16 "FigureTillModel" "errors" "[I", .constant RX12 58 (-1000000000)] ++ wsX120)
def wsX12_told : List Cond := .code yX12_told cX12_told 2 (some .int) :: ([.fieldLink RX12 16 "FigureTillModel" "errors" "[I", .methodLink RX12 59 yX12_in, .static yX12_in, .initialized RX12, .code yX12_in cX12_in 3 (some .boolean), .methodLink RX12 63 yX12_error, .instanceMethod yX12_error, .selects RX12 yX12_error yX12_error, .code yX12_error cX12_error 2 (some .int), .constant RX12 58 (-1000000000)] ++ wsX120)
def wsJ9_max_7cf53 : List Cond := .code yJ9_max_7cf53 cJ9_max_7cf53 2 (some .int) :: ([])
def wsJ9_min_7cf53 : List Cond := .code yJ9_min_7cf53 cJ9_min_7cf53 2 (some .int) :: ([])
theorem inJ9 : ∀ w ∈ wsJ90, w ∈ lw_tbl := by decide +kernel
theorem inJ0 : ∀ w ∈ wsJ00, w ∈ lw_tbl := by decide +kernel
theorem inJ1 : ∀ w ∈ wsJ10, w ∈ lw_tbl := by decide +kernel
theorem inJ2 : ∀ w ∈ wsJ20, w ∈ lw_tbl := by decide +kernel
theorem inJ10 : ∀ w ∈ wsJ100, w ∈ lw_tbl := by decide +kernel
theorem inJ3 : ∀ w ∈ wsJ30, w ∈ lw_tbl := by decide +kernel
set_option maxRecDepth 20000 in
theorem ggX0_add_X0_sumBy : GoodIn wsX0_add wsX0_sumBy := goodIn_r _ [8, 2, 9, 10, 11] (by decide +kernel) (by decide +kernel)
set_option maxRecDepth 20000 in
theorem gX0_add_X0_sumBy : GoodIn wsX0_add (wsV RX0 28 RX0 yX0_sumBy wsX0_sumBy) := goodIn_app (goodIn_of _ (by decide +kernel)) ggX0_add_X0_sumBy
set_option maxRecDepth 20000 in
theorem ggX1_init_X8_init : GoodIn wsX1_init wsX8_init := goodIn_r _ [4, 5, 6, 7, 8, 9, 10, 11, 12, 13, 14, 15, 16, 17, 18, 19, 20, 21, 22, 23] (by decide +kernel) (by decide +kernel)
set_option maxRecDepth 20000 in
theorem gX1_init_X8_init : GoodIn wsX1_init (wsX8_init) := ggX1_init_X8_init
set_option maxRecDepth 20000 in
theorem ggX1_isOf_X8_isOf : GoodIn wsX1_isOf wsX8_isOf := goodIn_r _ [6] (by decide +kernel) (by decide +kernel)
set_option maxRecDepth 20000 in
theorem gX1_isOf_X8_isOf_s7 : GoodIn wsX1_isOf (va_wsSU RX1 7 yX8_isOf wsX8_isOf) := goodIn_app (goodIn_of _ (by decide +kernel)) ggX1_isOf_X8_isOf
set_option maxRecDepth 20000 in
theorem ggX1_due_X11_figureSum : GoodIn wsX1_due wsX11_figureSum := goodIn_r _ [5] (by decide +kernel) (by decide +kernel)
set_option maxRecDepth 20000 in
theorem gX1_due_X11_figureSum_n17 : GoodIn wsX1_due (wsX11_figureSum) := ggX1_due_X11_figureSum
set_option maxRecDepth 20000 in
theorem ggX1_gives_X10_began : GoodIn wsX1_gives wsX10_began := goodIn_r _ [4, 5, 6, 72, 73, 74] (by decide +kernel) (by decide +kernel)
set_option maxRecDepth 20000 in
theorem gX1_gives_X10_began_n23 : GoodIn wsX1_gives (wsX10_began) := ggX1_gives_X10_began
set_option maxRecDepth 20000 in
theorem ggX1_gives_X8_gives : GoodIn wsX1_gives wsX8_gives := goodIn_r _ [12, 13, 1, 2, 3, 4, 5, 6, 14, 15, 16, 17, 11, 18, 19, 20, 21, 22, 23, 24, 25, 26, 27, 28, 29, 30, 31, 32, 33, 34, 35, 36, 37, 38, 39, 40, 41, 42, 43, 44, 45, 46, 47, 48, 49, 50, 51, 52, 53, 54, 55, 56, 57, 58, 59, 60, 61, 62, 63, 64, 65, 66, 67, 68, 69, 70, 71, 75, 76, 77, 78, 79, 80, 81, 82, 83, 84, 85, 86, 87, 88, 72, 73, 74] (by decide +kernel) (by decide +kernel)
set_option maxRecDepth 20000 in
theorem gX1_gives_X8_gives_s29 : GoodIn wsX1_gives (va_wsSU RX1 29 yX8_gives wsX8_gives) := goodIn_app (goodIn_of _ (by decide +kernel)) ggX1_gives_X8_gives
set_option maxRecDepth 20000 in
theorem ggX2_init_X3_init : GoodIn wsX2_init wsX3_init := goodIn_r _ [4, 5, 6, 7, 8, 9, 10, 11, 12, 13, 14, 15, 16, 17, 18, 19, 20, 21, 22, 23, 24, 25, 26, 27] (by decide +kernel) (by decide +kernel)
set_option maxRecDepth 20000 in
theorem gX2_init_X3_init : GoodIn wsX2_init (wsX3_init) := ggX2_init_X3_init
set_option maxRecDepth 20000 in
theorem ggX2_isOf_X3_isOf : GoodIn wsX2_isOf wsX3_isOf := goodIn_r _ [6, 7, 8, 9, 10, 11, 12] (by decide +kernel) (by decide +kernel)
set_option maxRecDepth 20000 in
theorem gX2_isOf_X3_isOf_s7 : GoodIn wsX2_isOf (va_wsSU RX2 7 yX3_isOf wsX3_isOf) := goodIn_app (goodIn_of _ (by decide +kernel)) ggX2_isOf_X3_isOf
set_option maxRecDepth 20000 in
theorem ggX2_due_X3_due : GoodIn wsX2_due wsX3_due := goodIn_r _ [12] (by decide +kernel) (by decide +kernel)
set_option maxRecDepth 20000 in
theorem gX2_due_X3_due_s17 : GoodIn wsX2_due (va_wsSU RX2 17 yX3_due wsX3_due) := goodIn_app (goodIn_of _ (by decide +kernel)) ggX2_due_X3_due
set_option maxRecDepth 20000 in
theorem ggX2_adds_X10_began : GoodIn wsX2_adds wsX10_began := goodIn_r _ [4, 5, 6, 20, 21, 22] (by decide +kernel) (by decide +kernel)
set_option maxRecDepth 20000 in
theorem gX2_adds_X10_began_n27 : GoodIn wsX2_adds (wsX10_began) := ggX2_adds_X10_began
set_option maxRecDepth 20000 in
theorem ggX2_adds_X3_adds : GoodIn wsX2_adds wsX3_adds := goodIn_r _ [12, 1, 2, 3, 4, 5, 6, 13, 14, 15, 16, 17, 18, 19, 20, 21, 22, 23, 24, 25, 26, 27, 28, 29, 30, 31, 32, 33, 34, 35, 36] (by decide +kernel) (by decide +kernel)
set_option maxRecDepth 20000 in
theorem gX2_adds_X3_adds_s33 : GoodIn wsX2_adds (va_wsSU RX2 33 yX3_adds wsX3_adds) := goodIn_app (goodIn_of _ (by decide +kernel)) ggX2_adds_X3_adds
set_option maxRecDepth 20000 in
theorem ggX2_gives_X10_began : GoodIn wsX2_gives wsX10_began := goodIn_r _ [6, 7, 8, 23, 24, 25] (by decide +kernel) (by decide +kernel)
set_option maxRecDepth 20000 in
theorem gX2_gives_X10_began_n27 : GoodIn wsX2_gives (wsX10_began) := ggX2_gives_X10_began
set_option maxRecDepth 20000 in
theorem ggX3_init_X8_init : GoodIn wsX3_init wsX8_init := goodIn_r _ [4, 5, 6, 7, 8, 9, 10, 11, 12, 13, 14, 15, 16, 17, 18, 19, 20, 21, 22, 23] (by decide +kernel) (by decide +kernel)
set_option maxRecDepth 20000 in
theorem gX3_init_X8_init : GoodIn wsX3_init (wsX8_init) := ggX3_init_X8_init
set_option maxRecDepth 20000 in
theorem ggX3_isOf_X8_isOf : GoodIn wsX3_isOf wsX8_isOf := goodIn_r _ [6] (by decide +kernel) (by decide +kernel)
set_option maxRecDepth 20000 in
theorem gX3_isOf_X8_isOf_s7 : GoodIn wsX3_isOf (va_wsSU RX3 7 yX8_isOf wsX8_isOf) := goodIn_app (goodIn_of _ (by decide +kernel)) ggX3_isOf_X8_isOf
set_option maxRecDepth 20000 in
theorem ggX3_adds_X10_began : GoodIn wsX3_adds wsX10_began := goodIn_r _ [4, 5, 6, 14, 15, 16] (by decide +kernel) (by decide +kernel)
set_option maxRecDepth 20000 in
theorem gX3_adds_X10_began_n11 : GoodIn wsX3_adds (wsX10_began) := ggX3_adds_X10_began
set_option maxRecDepth 20000 in
theorem ggX3_adds_X8_adds : GoodIn wsX3_adds wsX8_adds := goodIn_r _ [12, 13, 1, 2, 3, 4, 5, 6, 17, 18, 19, 20, 21, 22, 23, 24, 25, 26, 27, 28, 29, 30, 14, 15, 16] (by decide +kernel) (by decide +kernel)
set_option maxRecDepth 20000 in
theorem gX3_adds_X8_adds_s17 : GoodIn wsX3_adds (va_wsSU RX3 17 yX8_adds wsX8_adds) := goodIn_app (goodIn_of _ (by decide +kernel)) ggX3_adds_X8_adds
set_option maxRecDepth 20000 in
theorem ggX3_parts_X10_began : GoodIn wsX3_parts wsX10_began := goodIn_r _ [4, 5, 6, 47, 48, 49] (by decide +kernel) (by decide +kernel)
set_option maxRecDepth 20000 in
theorem gX3_parts_X10_began_n11 : GoodIn wsX3_parts (wsX10_began) := ggX3_parts_X10_began
set_option maxRecDepth 20000 in
theorem ggX3_parts_X8_parts : GoodIn wsX3_parts wsX8_parts := goodIn_r _ [12, 13, 14, 1, 2, 3, 4, 5, 6, 50, 51, 52, 53, 54, 55, 56, 57, 58, 59, 60, 61, 62, 63, 47, 48, 49] (by decide +kernel) (by decide +kernel)
set_option maxRecDepth 20000 in
theorem gX3_parts_X8_parts_s21 : GoodIn wsX3_parts (va_wsSU RX3 21 yX8_parts wsX8_parts) := goodIn_app (goodIn_of _ (by decide +kernel)) ggX3_parts_X8_parts
set_option maxRecDepth 20000 in
theorem ggX3_parts_X8_comes : GoodIn wsX3_parts wsX8_comes := goodIn_r _ [19, 1, 2, 3, 4, 5, 6, 20, 21, 22, 23, 11, 24, 14, 25, 26, 27, 28, 29, 30, 31, 32, 33, 34, 35, 36, 9, 37, 38, 39, 40, 41, 42, 43, 44, 45, 47, 48, 49, 50, 51, 52, 53, 54, 55, 56, 57, 58, 59, 60, 61, 62, 63] (by decide +kernel) (by decide +kernel)
set_option maxRecDepth 20000 in
theorem gX3_parts_X8_comes_u28X2 : GoodIn wsX3_parts (va_wsU RX3 28 RX2 "FigureTill$Till" ⟨"FigureTill$LastTill", "comes", "(LFigureTill$Trace;I)I"⟩ yX8_comes wsX8_comes) := goodIn_app (goodIn_of _ (by decide +kernel)) ggX3_parts_X8_comes
set_option maxRecDepth 20000 in
theorem gX3_parts_X8_comes_u28X3 : GoodIn wsX3_parts (va_wsU RX3 28 RX3 "FigureTill$Till" ⟨"FigureTill$LastTill", "comes", "(LFigureTill$Trace;I)I"⟩ yX8_comes wsX8_comes) := goodIn_app (goodIn_of _ (by decide +kernel)) ggX3_parts_X8_comes
set_option maxRecDepth 20000 in
theorem ggX4_fault_X4_readEither : GoodIn wsX4_fault wsX4_readEither := goodIn_r _ [21, 11, 22, 23, 24, 20, 25, 26, 27, 28, 13, 5, 6, 29, 30, 31, 32, 12, 14, 33, 34, 35, 36, 37, 38, 39, 40, 41, 42, 43, 44, 45, 46, 47, 48, 49, 50, 51, 52, 53, 54, 55, 56, 57, 58, 59, 60, 61, 62, 63, 64, 65, 66, 67, 68, 69, 70, 71, 72, 73, 74, 75, 76, 77, 78, 79, 80, 81, 82, 83, 84, 85, 86, 87, 88, 89, 90, 91, 92, 93, 94, 95, 96, 97, 98, 99, 100, 101, 102, 103, 104, 105, 106, 107, 108, 109, 17, 18, 19, 110, 111, 112, 113, 114, 115, 116, 117, 118, 119, 120, 121, 122, 123, 124] (by decide +kernel) (by decide +kernel)
set_option maxRecDepth 20000 in
theorem gX4_fault_X4_readEither : GoodIn wsX4_fault (wsV RX4 57 RX4 yX4_readEither wsX4_readEither) := goodIn_app (goodIn_of _ (by decide +kernel)) ggX4_fault_X4_readEither
set_option maxRecDepth 20000 in
theorem ggX4_readEither_X4_readBoth : GoodIn wsX4_readEither wsX4_readBoth := goodIn_r _ [23, 1, 24, 25, 26, 5, 6, 7, 8, 9, 10, 11, 12, 13, 14, 15, 16, 17, 18, 19, 20, 21, 22, 27, 28, 29, 30, 0, 2, 3, 4, 31, 32, 33, 34, 35, 36, 37, 38, 39, 40, 41, 42, 43, 44, 45, 46, 47, 48, 49, 50, 51, 52, 53, 54, 55, 56, 57, 58, 59, 60, 61, 62, 63, 64, 65, 66, 67, 68, 69, 70, 71, 72, 73, 74, 75, 76, 77, 78, 79, 80, 81, 82, 83, 84, 85, 86, 87, 88, 89, 90, 91, 92, 93, 94, 95, 96, 97, 98, 99, 100, 101, 102, 103, 104, 105, 106, 107, 108, 109, 110, 111, 112, 113] (by decide +kernel) (by decide +kernel)
set_option maxRecDepth 20000 in
theorem gX4_readEither_X4_readBoth : GoodIn wsX4_readEither (wsV RX4 61 RX4 yX4_readBoth wsX4_readBoth) := goodIn_app (goodIn_of _ (by decide +kernel)) ggX4_readEither_X4_readBoth
set_option maxRecDepth 20000 in
theorem ggX4_readEither_X4_next : GoodIn wsX4_readEither wsX4_next := goodIn_r _ [9, 10, 1, 11, 12, 104, 105, 106, 107, 108, 109, 110, 111, 112, 113] (by decide +kernel) (by decide +kernel)
set_option maxRecDepth 20000 in
theorem gX4_readEither_X4_next : GoodIn wsX4_readEither (wsV RX4 64 RX4 yX4_next wsX4_next) := goodIn_app (goodIn_of _ (by decide +kernel)) ggX4_readEither_X4_next
set_option maxRecDepth 20000 in
theorem ggX4_readEither_X4_write : GoodIn wsX4_readEither wsX4_write := goodIn_r _ [16, 17, 18, 104, 105, 106, 107, 108, 109, 110, 111, 112, 113] (by decide +kernel) (by decide +kernel)
set_option maxRecDepth 20000 in
theorem gX4_readEither_X4_write : GoodIn wsX4_readEither (wsV RX4 68 RX4 yX4_write wsX4_write) := goodIn_app (goodIn_of _ (by decide +kernel)) ggX4_readEither_X4_write
set_option maxRecDepth 20000 in
theorem ggX4_readBoth_X4_readCompared : GoodIn wsX4_readBoth wsX4_readCompared := goodIn_r _ [23, 1, 24, 25, 26, 5, 6, 7, 8, 9, 10, 11, 12, 13, 14, 15, 16, 17, 18, 19, 20, 21, 22, 0, 2, 3, 4, 27, 28, 29, 30, 31, 32, 33, 34, 35, 36, 37, 38, 39, 40, 41, 42, 43, 44, 45, 46, 47, 48, 49, 50, 51, 52, 53, 54, 55, 56, 57, 58, 59, 60, 61, 62, 63, 64, 65, 66, 67, 68, 69, 70, 71, 72, 73, 74, 75, 76, 77, 78, 79, 80, 81, 82, 83, 84, 85, 86, 87, 88, 89, 90, 91, 92, 93, 94, 95, 96, 97, 98, 99, 100, 101, 102, 103, 104, 105, 106, 107, 108, 109, 110, 111, 112, 113] (by decide +kernel) (by decide +kernel)
set_option maxRecDepth 20000 in
theorem gX4_readBoth_X4_readCompared : GoodIn wsX4_readBoth (wsV RX4 71 RX4 yX4_readCompared wsX4_readCompared) := goodIn_app (goodIn_of _ (by decide +kernel)) ggX4_readBoth_X4_readCompared
set_option maxRecDepth 20000 in
theorem ggX4_readBoth_X4_next : GoodIn wsX4_readBoth wsX4_next := goodIn_r _ [9, 10, 1, 11, 12, 104, 105, 106, 107, 108, 109, 110, 111, 112, 113] (by decide +kernel) (by decide +kernel)
set_option maxRecDepth 20000 in
theorem gX4_readBoth_X4_next : GoodIn wsX4_readBoth (wsV RX4 64 RX4 yX4_next wsX4_next) := goodIn_app (goodIn_of _ (by decide +kernel)) ggX4_readBoth_X4_next
set_option maxRecDepth 20000 in
theorem ggX4_readBoth_X4_write : GoodIn wsX4_readBoth wsX4_write := goodIn_r _ [16, 17, 18, 104, 105, 106, 107, 108, 109, 110, 111, 112, 113] (by decide +kernel) (by decide +kernel)
set_option maxRecDepth 20000 in
theorem gX4_readBoth_X4_write : GoodIn wsX4_readBoth (wsV RX4 68 RX4 yX4_write wsX4_write) := goodIn_app (goodIn_of _ (by decide +kernel)) ggX4_readBoth_X4_write
set_option maxRecDepth 20000 in
theorem ggX4_readCompared_X4_readAdded : GoodIn wsX4_readCompared wsX4_readAdded := goodIn_r _ [19, 1, 20, 21, 22, 5, 6, 7, 8, 9, 10, 11, 12, 13, 14, 15, 16, 17, 18, 23, 24, 25, 26, 0, 2, 3, 4, 27, 28, 29, 30, 31, 32, 33, 34, 35, 36, 37, 38, 39, 40, 41, 42, 43, 44, 45, 46, 47, 48, 49, 50, 51, 52, 53, 54, 55, 56, 57, 58, 59, 60, 61, 62, 63, 64, 65, 66, 67, 68, 69, 70, 71, 72, 73, 74, 75, 76, 77, 78, 79, 80, 81, 82, 83, 84, 85, 86, 87, 88, 89, 90, 91, 92, 93, 94, 95, 96, 97, 98, 99, 100, 101, 102, 103, 104, 105, 106, 107, 108, 109, 110, 111, 112, 113] (by decide +kernel) (by decide +kernel)
set_option maxRecDepth 20000 in
theorem gX4_readCompared_X4_readAdded : GoodIn wsX4_readCompared (wsV RX4 74 RX4 yX4_readAdded wsX4_readAdded) := goodIn_app (goodIn_of _ (by decide +kernel)) ggX4_readCompared_X4_readAdded
set_option maxRecDepth 20000 in
theorem ggX4_readCompared_X4_next : GoodIn wsX4_readCompared wsX4_next := goodIn_r _ [9, 10, 1, 11, 12, 104, 105, 106, 107, 108, 109, 110, 111, 112, 113] (by decide +kernel) (by decide +kernel)
set_option maxRecDepth 20000 in
theorem gX4_readCompared_X4_next : GoodIn wsX4_readCompared (wsV RX4 64 RX4 yX4_next wsX4_next) := goodIn_app (goodIn_of _ (by decide +kernel)) ggX4_readCompared_X4_next
set_option maxRecDepth 20000 in
theorem ggX4_readCompared_X4_write : GoodIn wsX4_readCompared wsX4_write := goodIn_r _ [16, 17, 18, 104, 105, 106, 107, 108, 109, 110, 111, 112, 113] (by decide +kernel) (by decide +kernel)
set_option maxRecDepth 20000 in
theorem gX4_readCompared_X4_write : GoodIn wsX4_readCompared (wsV RX4 68 RX4 yX4_write wsX4_write) := goodIn_app (goodIn_of _ (by decide +kernel)) ggX4_readCompared_X4_write
set_option maxRecDepth 20000 in
theorem ggX4_readAdded_X4_readTimes : GoodIn wsX4_readAdded wsX4_readTimes := goodIn_r _ [103, 1, 93, 94, 95, 5, 6, 7, 8, 9, 10, 11, 12, 13, 14, 15, 16, 17, 18, 0, 2, 3, 4, 19, 20, 21, 22, 23, 24, 25, 26, 27, 28, 29, 30, 31, 32, 33, 34, 35, 36, 37, 38, 39, 40, 41, 42, 43, 44, 45, 46, 47, 48, 49, 50, 51, 52, 53, 54, 55, 56, 57, 58, 59, 60, 61, 62, 63, 64, 65, 66, 67, 68, 69, 70, 71, 72, 73, 74, 75, 76, 77, 78, 79, 80, 81, 82, 83, 84, 85, 86, 87, 88, 89, 90, 91, 92, 96, 97, 98, 99, 100, 101, 102, 104, 105, 106, 107, 108, 109, 110, 111, 112, 113] (by decide +kernel) (by decide +kernel)
set_option maxRecDepth 20000 in
theorem gX4_readAdded_X4_readTimes : GoodIn wsX4_readAdded (wsV RX4 77 RX4 yX4_readTimes wsX4_readTimes) := goodIn_app (goodIn_of _ (by decide +kernel)) ggX4_readAdded_X4_readTimes
set_option maxRecDepth 20000 in
theorem ggX4_readAdded_X4_next : GoodIn wsX4_readAdded wsX4_next := goodIn_r _ [9, 10, 1, 11, 12, 104, 105, 106, 107, 108, 109, 110, 111, 112, 113] (by decide +kernel) (by decide +kernel)
set_option maxRecDepth 20000 in
theorem gX4_readAdded_X4_next : GoodIn wsX4_readAdded (wsV RX4 64 RX4 yX4_next wsX4_next) := goodIn_app (goodIn_of _ (by decide +kernel)) ggX4_readAdded_X4_next
set_option maxRecDepth 20000 in
theorem ggX4_readAdded_X4_write : GoodIn wsX4_readAdded wsX4_write := goodIn_r _ [16, 17, 18, 104, 105, 106, 107, 108, 109, 110, 111, 112, 113] (by decide +kernel) (by decide +kernel)
set_option maxRecDepth 20000 in
theorem gX4_readAdded_X4_write : GoodIn wsX4_readAdded (wsV RX4 68 RX4 yX4_write wsX4_write) := goodIn_app (goodIn_of _ (by decide +kernel)) ggX4_readAdded_X4_write
set_option maxRecDepth 20000 in
theorem ggX4_readTimes_X4_readOne : GoodIn wsX4_readTimes wsX4_readOne := goodIn_r _ [35, 1, 10, 6, 7, 8, 5, 9, 11, 12, 36, 37, 38, 39, 40, 41, 42, 13, 14, 15, 16, 17, 18, 43, 44, 45, 46, 47, 48, 49, 50, 51, 52, 53, 54, 55, 56, 57, 58, 59, 60, 61, 62, 63, 64, 65, 66, 67, 68, 69, 70, 71, 72, 73, 74, 75, 76, 77, 78, 79, 80, 81, 82, 83, 84, 85, 86, 87, 88, 89, 90, 91, 92, 93, 94, 95, 96, 2, 3, 4, 97, 98, 99, 100, 101, 102, 103, 19, 20, 21, 22, 23, 24, 25, 26, 27, 28, 29, 30, 31, 32, 33, 34, 0, 104, 105, 106, 107, 108, 109, 110, 111, 112, 113] (by decide +kernel) (by decide +kernel)
set_option maxRecDepth 20000 in
theorem gX4_readTimes_X4_readOne : GoodIn wsX4_readTimes (wsV RX4 80 RX4 yX4_readOne wsX4_readOne) := goodIn_app (goodIn_of _ (by decide +kernel)) ggX4_readTimes_X4_readOne
set_option maxRecDepth 20000 in
theorem ggX4_readTimes_X4_next : GoodIn wsX4_readTimes wsX4_next := goodIn_r _ [9, 10, 1, 11, 12, 104, 105, 106, 107, 108, 109, 110, 111, 112, 113] (by decide +kernel) (by decide +kernel)
set_option maxRecDepth 20000 in
theorem gX4_readTimes_X4_next : GoodIn wsX4_readTimes (wsV RX4 64 RX4 yX4_next wsX4_next) := goodIn_app (goodIn_of _ (by decide +kernel)) ggX4_readTimes_X4_next
set_option maxRecDepth 20000 in
theorem ggX4_readTimes_X4_write : GoodIn wsX4_readTimes wsX4_write := goodIn_r _ [16, 17, 18, 104, 105, 106, 107, 108, 109, 110, 111, 112, 113] (by decide +kernel) (by decide +kernel)
set_option maxRecDepth 20000 in
theorem gX4_readTimes_X4_write : GoodIn wsX4_readTimes (wsV RX4 68 RX4 yX4_write wsX4_write) := goodIn_app (goodIn_of _ (by decide +kernel)) ggX4_readTimes_X4_write
set_option maxRecDepth 20000 in
theorem ggX4_readOne_X4_next : GoodIn wsX4_readOne wsX4_next := goodIn_r _ [7, 2, 1, 8, 9, 104, 105, 106, 107, 108, 109, 110, 111, 112, 113] (by decide +kernel) (by decide +kernel)
set_option maxRecDepth 20000 in
theorem gX4_readOne_X4_next : GoodIn wsX4_readOne (wsV RX4 64 RX4 yX4_next wsX4_next) := goodIn_app (goodIn_of _ (by decide +kernel)) ggX4_readOne_X4_next
set_option maxRecDepth 20000 in
theorem ggX4_readOne_X4_isDigit : GoodIn wsX4_readOne wsX4_isDigit := goodIn_r _ [12] (by decide +kernel) (by decide +kernel)
set_option maxRecDepth 20000 in
theorem gX4_readOne_X4_isDigit : GoodIn wsX4_readOne (va_wsS RX4 83 yX4_isDigit wsX4_isDigit) := goodIn_app (goodIn_of _ (by decide +kernel)) ggX4_readOne_X4_isDigit
set_option maxRecDepth 20000 in
theorem ggX4_readOne_X4_readNumber : GoodIn wsX4_readOne wsX4_readNumber := goodIn_r _ [16, 1, 3, 4, 5, 6, 7, 2, 8, 9, 10, 11, 12, 17, 18, 19, 20, 21, 22, 104, 105, 106, 107, 108, 109, 110, 111, 112, 113] (by decide +kernel) (by decide +kernel)
set_option maxRecDepth 20000 in
theorem gX4_readOne_X4_readNumber : GoodIn wsX4_readOne (wsV RX4 87 RX4 yX4_readNumber wsX4_readNumber) := goodIn_app (goodIn_of _ (by decide +kernel)) ggX4_readOne_X4_readNumber
set_option maxRecDepth 20000 in
theorem ggX4_readOne_X4_nameOf : GoodIn wsX4_readOne wsX4_nameOf := goodIn_r _ [26, 27, 28, 29, 30, 31, 32, 33, 34, 35, 36, 37, 38, 39, 40, 41, 42, 43, 44, 45, 46, 47, 48, 49, 50, 51, 52, 53, 54, 55, 56, 57, 58, 59, 60, 61, 62, 63, 64, 65, 66, 67, 68, 69, 70, 71, 72, 73, 74, 75, 76, 104, 105, 106, 107, 108, 109, 110, 111, 112, 113] (by decide +kernel) (by decide +kernel)
set_option maxRecDepth 20000 in
theorem gX4_readOne_X4_nameOf : GoodIn wsX4_readOne (wsV RX4 90 RX4 yX4_nameOf wsX4_nameOf) := goodIn_app (goodIn_of _ (by decide +kernel)) ggX4_readOne_X4_nameOf
set_option maxRecDepth 20000 in
theorem ggX4_readOne_X4_write : GoodIn wsX4_readOne wsX4_write := goodIn_r _ [20, 21, 22, 104, 105, 106, 107, 108, 109, 110, 111, 112, 113] (by decide +kernel) (by decide +kernel)
set_option maxRecDepth 20000 in
theorem gX4_readOne_X4_write : GoodIn wsX4_readOne (wsV RX4 68 RX4 yX4_write wsX4_write) := goodIn_app (goodIn_of _ (by decide +kernel)) ggX4_readOne_X4_write
set_option maxRecDepth 20000 in
theorem ggX4_readOne_X4_readOne : GoodIn wsX4_readOne wsX4_readOne := goodIn_r _ [0, 1, 2, 3, 4, 5, 6, 7, 8, 9, 10, 11, 12, 13, 14, 15, 16, 17, 18, 19, 20, 21, 22, 23, 24, 25, 26, 27, 28, 29, 30, 31, 32, 33, 34, 35, 36, 37, 38, 39, 40, 41, 42, 43, 44, 45, 46, 47, 48, 49, 50, 51, 52, 53, 54, 55, 56, 57, 58, 59, 60, 61, 62, 63, 64, 65, 66, 67, 68, 69, 70, 71, 72, 73, 74, 75, 76, 77, 78, 79, 80, 81, 82, 83, 84, 85, 86, 87, 88, 89, 90, 91, 92, 93, 94, 95, 96, 97, 98, 99, 100, 101, 102, 103, 104, 105, 106, 107, 108, 109, 110, 111, 112, 113] (by decide +kernel) (by decide +kernel)
set_option maxRecDepth 20000 in
theorem gX4_readOne_X4_readOne : GoodIn wsX4_readOne (wsV RX4 80 RX4 yX4_readOne wsX4_readOne) := goodIn_app (goodIn_of _ (by decide +kernel)) ggX4_readOne_X4_readOne
set_option maxRecDepth 20000 in
theorem ggX4_readOne_X4_readEither : GoodIn wsX4_readOne wsX4_readEither := goodIn_r _ [99, 1, 100, 101, 102, 6, 3, 4, 5, 7, 2, 8, 9, 17, 18, 19, 20, 21, 22, 87, 88, 89, 90, 91, 92, 93, 94, 95, 96, 97, 98, 0, 10, 11, 12, 13, 14, 15, 16, 23, 24, 25, 26, 27, 28, 29, 30, 31, 32, 33, 34, 35, 36, 37, 38, 39, 40, 41, 42, 43, 44, 45, 46, 47, 48, 49, 50, 51, 52, 53, 54, 55, 56, 57, 58, 59, 60, 61, 62, 63, 64, 65, 66, 67, 68, 69, 70, 71, 72, 73, 74, 75, 76, 77, 78, 79, 80, 81, 82, 83, 84, 85, 86, 103, 104, 105, 106, 107, 108, 109, 110, 111, 112, 113] (by decide +kernel) (by decide +kernel)
set_option maxRecDepth 20000 in
theorem gX4_readOne_X4_readEither : GoodIn wsX4_readOne (wsV RX4 57 RX4 yX4_readEither wsX4_readEither) := goodIn_app (goodIn_of _ (by decide +kernel)) ggX4_readOne_X4_readEither
set_option maxRecDepth 20000 in
theorem ggX4_readOne_X4_readClose : GoodIn wsX4_readOne wsX4_readClose := goodIn_r _ [86, 1, 2, 3, 4, 5, 6, 7, 8, 9, 104, 105, 106, 107, 108, 109, 110, 111, 112, 113] (by decide +kernel) (by decide +kernel)
set_option maxRecDepth 20000 in
theorem gX4_readOne_X4_readClose : GoodIn wsX4_readOne (wsV RX4 94 RX4 yX4_readClose wsX4_readClose) := goodIn_app (goodIn_of _ (by decide +kernel)) ggX4_readOne_X4_readClose
set_option maxRecDepth 20000 in
theorem ggX4_readClose_X4_next : GoodIn wsX4_readClose wsX4_next := goodIn_r _ [7, 2, 1, 8, 9, 10, 11, 12, 13, 14, 15, 16, 17, 18, 19] (by decide +kernel) (by decide +kernel)
set_option maxRecDepth 20000 in
theorem gX4_readClose_X4_next : GoodIn wsX4_readClose (wsV RX4 64 RX4 yX4_next wsX4_next) := goodIn_app (goodIn_of _ (by decide +kernel)) ggX4_readClose_X4_next
set_option maxRecDepth 20000 in
theorem ggX4_readNumber_X4_next : GoodIn wsX4_readNumber wsX4_next := goodIn_r _ [6, 7, 1, 8, 9, 19, 20, 21, 22, 23, 24, 25, 26, 27, 28] (by decide +kernel) (by decide +kernel)
set_option maxRecDepth 20000 in
theorem gX4_readNumber_X4_next : GoodIn wsX4_readNumber (wsV RX4 64 RX4 yX4_next wsX4_next) := goodIn_app (goodIn_of _ (by decide +kernel)) ggX4_readNumber_X4_next
set_option maxRecDepth 20000 in
theorem ggX4_readNumber_X4_isDigit : GoodIn wsX4_readNumber wsX4_isDigit := goodIn_r _ [12] (by decide +kernel) (by decide +kernel)
set_option maxRecDepth 20000 in
theorem gX4_readNumber_X4_isDigit : GoodIn wsX4_readNumber (va_wsS RX4 83 yX4_isDigit wsX4_isDigit) := goodIn_app (goodIn_of _ (by decide +kernel)) ggX4_readNumber_X4_isDigit
set_option maxRecDepth 20000 in
theorem ggX4_readNumber_X4_write : GoodIn wsX4_readNumber wsX4_write := goodIn_r _ [16, 17, 18, 19, 20, 21, 22, 23, 24, 25, 26, 27, 28] (by decide +kernel) (by decide +kernel)
set_option maxRecDepth 20000 in
theorem gX4_readNumber_X4_write : GoodIn wsX4_readNumber (wsV RX4 68 RX4 yX4_write wsX4_write) := goodIn_app (goodIn_of _ (by decide +kernel)) ggX4_readNumber_X4_write
set_option maxRecDepth 20000 in
theorem ggX4_nameOf_J0_length_8abf5 : GoodIn wsX4_nameOf wsJ0_length_8abf5 := goodIn_r _ [6, 7, 8, 9, 10, 5, 11, 12, 13] (by decide +kernel) (by decide +kernel)
set_option maxRecDepth 20000 in
theorem gX4_nameOf_J0_length_8abf5 : GoodIn wsX4_nameOf (wsV RX4 97 RJ0 yJ0_length_8abf5 wsJ0_length_8abf5) := goodIn_app (goodIn_of _ (by decide +kernel)) ggX4_nameOf_J0_length_8abf5
set_option maxRecDepth 20000 in
theorem ggX4_nameOf_J0_charAt_5068e : GoodIn wsX4_nameOf wsJ0_charAt_5068e := goodIn_r _ [17, 7, 18, 19, 20, 5, 21, 12, 13, 22, 23, 24, 25, 26, 27, 28, 29, 30, 31, 32, 33, 34, 35, 36, 37, 38, 39, 40, 41, 42, 43, 44, 45, 46, 47, 48, 49, 50] (by decide +kernel) (by decide +kernel)
set_option maxRecDepth 20000 in
theorem gX4_nameOf_J0_charAt_5068e : GoodIn wsX4_nameOf (wsV RX4 101 RJ0 yJ0_charAt_5068e wsJ0_charAt_5068e) := goodIn_app (goodIn_of _ (by decide +kernel)) ggX4_nameOf_J0_charAt_5068e
set_option maxRecDepth 20000 in
theorem ggX4_workedOut_X4_named : GoodIn wsX4_workedOut wsX4_named := goodIn_r _ [7] (by decide +kernel) (by decide +kernel)
set_option maxRecDepth 20000 in
theorem gX4_workedOut_X4_named : GoodIn wsX4_workedOut (va_wsS RX4 105 yX4_named wsX4_named) := goodIn_app (goodIn_of _ (by decide +kernel)) ggX4_workedOut_X4_named
set_option maxRecDepth 20000 in
theorem ggX4_workedOut_X4_joined : GoodIn wsX4_workedOut wsX4_joined := goodIn_r _ [10] (by decide +kernel) (by decide +kernel)
set_option maxRecDepth 20000 in
theorem gX4_workedOut_X4_joined : GoodIn wsX4_workedOut (va_wsS RX4 109 yX4_joined wsX4_joined) := goodIn_app (goodIn_of _ (by decide +kernel)) ggX4_workedOut_X4_joined
set_option maxRecDepth 20000 in
theorem ggX5_init_X6_init : GoodIn wsX5_init wsX6_init := goodIn_r _ [4, 5, 6, 7, 8, 9, 10, 11, 12, 13, 14, 15, 16, 17, 18, 19, 20, 21, 22, 23, 24, 25, 26, 27] (by decide +kernel) (by decide +kernel)
set_option maxRecDepth 20000 in
theorem gX5_init_X6_init : GoodIn wsX5_init (wsX6_init) := ggX5_init_X6_init
set_option maxRecDepth 20000 in
theorem ggX5_isOf_X6_isOf : GoodIn wsX5_isOf wsX6_isOf := goodIn_r _ [6, 7, 8, 9, 10, 11, 12] (by decide +kernel) (by decide +kernel)
set_option maxRecDepth 20000 in
theorem gX5_isOf_X6_isOf_s7 : GoodIn wsX5_isOf (va_wsSU RX5 7 yX6_isOf wsX6_isOf) := goodIn_app (goodIn_of _ (by decide +kernel)) ggX5_isOf_X6_isOf
set_option maxRecDepth 20000 in
theorem ggX5_due_X11_oneFigure : GoodIn wsX5_due wsX11_oneFigure := goodIn_r _ [5, 6, 7, 4, 8] (by decide +kernel) (by decide +kernel)
set_option maxRecDepth 20000 in
theorem gX5_due_X11_oneFigure_n17 : GoodIn wsX5_due (wsX11_oneFigure) := ggX5_due_X11_oneFigure
set_option maxRecDepth 20000 in
theorem ggX5_comes_X10_began : GoodIn wsX5_comes wsX10_began := goodIn_r _ [4, 5, 6, 47, 48, 49] (by decide +kernel) (by decide +kernel)
set_option maxRecDepth 20000 in
theorem gX5_comes_X10_began_n23 : GoodIn wsX5_comes (wsX10_began) := ggX5_comes_X10_began
set_option maxRecDepth 20000 in
theorem ggX5_comes_X6_comes : GoodIn wsX5_comes wsX6_comes := goodIn_r _ [12, 1, 2, 3, 4, 5, 6, 13, 14, 15, 16, 17, 18, 19, 20, 21, 22, 23, 24, 25, 26, 27, 28, 29, 30, 31, 32, 33, 34, 35, 36, 37, 38, 39, 40, 41, 42, 43, 44, 45, 46, 47, 48, 49, 50, 51, 52, 53, 54, 55, 56, 57, 58, 59, 60, 61, 62, 63] (by decide +kernel) (by decide +kernel)
set_option maxRecDepth 20000 in
theorem gX5_comes_X6_comes_s29 : GoodIn wsX5_comes (va_wsSU RX5 29 yX6_comes wsX6_comes) := goodIn_app (goodIn_of _ (by decide +kernel)) ggX5_comes_X6_comes
set_option maxRecDepth 20000 in
theorem ggX6_init_X8_init : GoodIn wsX6_init wsX8_init := goodIn_r _ [4, 5, 6, 7, 8, 9, 10, 11, 12, 13, 14, 15, 16, 17, 18, 19, 20, 21, 22, 23] (by decide +kernel) (by decide +kernel)
set_option maxRecDepth 20000 in
theorem gX6_init_X8_init : GoodIn wsX6_init (wsX8_init) := ggX6_init_X8_init
set_option maxRecDepth 20000 in
theorem ggX6_isOf_X8_isOf : GoodIn wsX6_isOf wsX8_isOf := goodIn_r _ [6] (by decide +kernel) (by decide +kernel)
set_option maxRecDepth 20000 in
theorem gX6_isOf_X8_isOf_s7 : GoodIn wsX6_isOf (va_wsSU RX6 7 yX8_isOf wsX8_isOf) := goodIn_app (goodIn_of _ (by decide +kernel)) ggX6_isOf_X8_isOf
set_option maxRecDepth 20000 in
theorem ggX6_due_X11_oneFigure : GoodIn wsX6_due wsX11_oneFigure := goodIn_r _ [3, 4, 5, 2, 6] (by decide +kernel) (by decide +kernel)
set_option maxRecDepth 20000 in
theorem gX6_due_X11_oneFigure_n11 : GoodIn wsX6_due (wsX11_oneFigure) := ggX6_due_X11_oneFigure
set_option maxRecDepth 20000 in
theorem ggX6_comes_X10_began : GoodIn wsX6_comes wsX10_began := goodIn_r _ [4, 5, 6, 41, 42, 43] (by decide +kernel) (by decide +kernel)
set_option maxRecDepth 20000 in
theorem gX6_comes_X10_began_n17 : GoodIn wsX6_comes (wsX10_began) := ggX6_comes_X10_began
set_option maxRecDepth 20000 in
theorem ggX6_comes_X8_comes : GoodIn wsX6_comes wsX8_comes := goodIn_r _ [12, 1, 2, 3, 4, 5, 6, 13, 14, 15, 16, 11, 17, 18, 19, 20, 21, 22, 23, 24, 25, 26, 27, 28, 29, 30, 31, 32, 33, 34, 35, 36, 37, 38, 39, 40, 41, 42, 43, 44, 45, 46, 47, 48, 49, 50, 51, 52, 53, 54, 55, 56, 57] (by decide +kernel) (by decide +kernel)
set_option maxRecDepth 20000 in
theorem gX6_comes_X8_comes_s23 : GoodIn wsX6_comes (va_wsSU RX6 23 yX8_comes wsX8_comes) := goodIn_app (goodIn_of _ (by decide +kernel)) ggX6_comes_X8_comes
set_option maxRecDepth 20000 in
theorem ggX7_init_X4_init : GoodIn wsX7_init wsX4_init := goodIn_r _ [23, 24, 2, 3, 5, 25, 26, 27, 28, 29, 30, 31, 32, 33, 34, 101, 102, 103, 104, 105, 106, 107, 108, 109, 110] (by decide +kernel) (by decide +kernel)
set_option maxRecDepth 20000 in
theorem gX7_init_X4_init_n46 : GoodIn wsX7_init (wsX4_init) := ggX7_init_X4_init
set_option maxRecDepth 20000 in
theorem ggX7_init_X11_tillOf : GoodIn wsX7_init wsX11_tillOf := goodIn_r _ [37, 38, 39, 40, 41, 42, 43, 44, 45, 46, 47, 48, 49, 50, 51, 52, 53, 54, 55, 56, 57, 58, 59, 60, 61, 62, 63, 64, 65, 2, 3, 66, 67, 68, 69, 70, 71, 72, 73, 74, 75, 76, 77, 78, 79, 80, 81, 82, 83, 84, 85, 86, 87, 88, 111, 112, 113, 114, 115, 116, 117, 118, 119, 120, 121, 122, 123, 124] (by decide +kernel) (by decide +kernel)
set_option maxRecDepth 20000 in
theorem gX7_init_X11_tillOf_n67 : GoodIn wsX7_init (wsX11_tillOf) := ggX7_init_X11_tillOf
set_option maxRecDepth 20000 in
theorem ggX7_become_X4_become : GoodIn wsX7_become wsX4_become := goodIn_r _ [20, 21, 22, 3, 4, 5, 23, 36, 37, 38, 39, 40, 41, 42, 43, 44, 45] (by decide +kernel) (by decide +kernel)
set_option maxRecDepth 20000 in
theorem gX7_become_X4_become_n77 : GoodIn wsX7_become (wsX4_become) := ggX7_become_X4_become
set_option maxRecDepth 20000 in
theorem ggX7_paid_X1_due : GoodIn wsX7_paid wsX1_due := goodIn_r _ [9, 10, 11, 12, 13, 14, 92, 93, 94, 95, 96, 97, 98, 99, 100, 101, 102, 103, 104, 105] (by decide +kernel) (by decide +kernel)
set_option maxRecDepth 20000 in
theorem gX7_paid_X1_due_u81X1 : GoodIn wsX7_paid (va_wsO RX7 81 RX1 "FigureTill$Till" ⟨"FigureTill$Till", "due", "(IILFigureTill$Law;)I"⟩ yX1_due wsX1_due) := goodIn_app (goodIn_of _ (by decide +kernel)) ggX7_paid_X1_due
set_option maxRecDepth 20000 in
theorem ggX7_paid_X2_due : GoodIn wsX7_paid wsX2_due := goodIn_r _ [19, 20, 21, 22, 23, 24, 25, 26, 27, 28, 29, 30, 31, 92, 93, 94, 95, 96, 97, 98, 99, 100, 101, 102, 103, 104, 105] (by decide +kernel) (by decide +kernel)
set_option maxRecDepth 20000 in
theorem gX7_paid_X2_due_u81X2 : GoodIn wsX7_paid (va_wsO RX7 81 RX2 "FigureTill$Till" ⟨"FigureTill$Till", "due", "(IILFigureTill$Law;)I"⟩ yX2_due wsX2_due) := goodIn_app (goodIn_of _ (by decide +kernel)) ggX7_paid_X2_due
set_option maxRecDepth 20000 in
theorem ggX7_paid_X3_due : GoodIn wsX7_paid wsX3_due := goodIn_r _ [31] (by decide +kernel) (by decide +kernel)
set_option maxRecDepth 20000 in
theorem gX7_paid_X3_due_u81X3 : GoodIn wsX7_paid (va_wsO RX7 81 RX3 "FigureTill$Till" ⟨"FigureTill$Till", "due", "(IILFigureTill$Law;)I"⟩ yX3_due wsX3_due) := goodIn_app (goodIn_of _ (by decide +kernel)) ggX7_paid_X3_due
set_option maxRecDepth 20000 in
theorem ggX7_paid_X5_due : GoodIn wsX7_paid wsX5_due := goodIn_r _ [36, 37, 38, 39, 13, 40, 41, 12, 14, 92, 93, 94, 95, 96, 97, 98, 99, 100, 101, 102, 103, 104, 105] (by decide +kernel) (by decide +kernel)
set_option maxRecDepth 20000 in
theorem gX7_paid_X5_due_u81X5 : GoodIn wsX7_paid (va_wsO RX7 81 RX5 "FigureTill$Till" ⟨"FigureTill$Till", "due", "(IILFigureTill$Law;)I"⟩ yX5_due wsX5_due) := goodIn_app (goodIn_of _ (by decide +kernel)) ggX7_paid_X5_due
set_option maxRecDepth 20000 in
theorem ggX7_paid_X6_due : GoodIn wsX7_paid wsX6_due := goodIn_r _ [45, 39, 13, 40, 41, 12, 14] (by decide +kernel) (by decide +kernel)
set_option maxRecDepth 20000 in
theorem gX7_paid_X6_due_u81X6 : GoodIn wsX7_paid (va_wsO RX7 81 RX6 "FigureTill$Till" ⟨"FigureTill$Till", "due", "(IILFigureTill$Law;)I"⟩ yX6_due wsX6_due) := goodIn_app (goodIn_of _ (by decide +kernel)) ggX7_paid_X6_due
set_option maxRecDepth 20000 in
theorem ggX7_paid_X8_due : GoodIn wsX7_paid wsX8_due := goodIn_r _ [15, 12, 13, 14] (by decide +kernel) (by decide +kernel)
set_option maxRecDepth 20000 in
theorem gX7_paid_X8_due : GoodIn wsX7_paid (wsV RX7 81 RX8 yX8_due wsX8_due) := goodIn_app (goodIn_of _ (by decide +kernel)) ggX7_paid_X8_due
set_option maxRecDepth 20000 in
theorem ggX7_paid_X9_due : GoodIn wsX7_paid wsX9_due := goodIn_r _ [53, 54, 55, 56, 57, 58, 59, 60, 61, 62, 63, 64, 65, 66, 67, 68, 69, 70, 71, 72, 4, 73, 47, 49, 15, 12, 13, 14, 92, 93, 94, 95, 96, 97, 98, 99, 100, 101, 102, 103, 104, 105, 106, 107, 108, 109, 110, 111, 112, 113, 114, 115] (by decide +kernel) (by decide +kernel)
set_option maxRecDepth 20000 in
theorem gX7_paid_X9_due_u81X9 : GoodIn wsX7_paid (va_wsO RX7 81 RX9 "FigureTill$Till" ⟨"FigureTill$Till", "due", "(IILFigureTill$Law;)I"⟩ yX9_due wsX9_due) := goodIn_app (goodIn_of _ (by decide +kernel)) ggX7_paid_X9_due
set_option maxRecDepth 20000 in
theorem ggX7_paid_X11_held : GoodIn wsX7_paid wsX11_held := goodIn_r _ [75, 76, 77, 24, 78, 79, 23, 25] (by decide +kernel) (by decide +kernel)
set_option maxRecDepth 20000 in
theorem gX7_paid_X11_held_n85 : GoodIn wsX7_paid (wsX11_held) := ggX7_paid_X11_held
set_option maxRecDepth 20000 in
theorem ggX7_valueOf_X4_isTold : GoodIn wsX7_valueOf wsX4_isTold := goodIn_r _ [6, 7, 41, 42, 43, 44, 45, 46, 47, 48, 49, 50] (by decide +kernel) (by decide +kernel)
set_option maxRecDepth 20000 in
theorem gX7_valueOf_X4_isTold_n89 : GoodIn wsX7_valueOf (wsX4_isTold) := ggX7_valueOf_X4_isTold
set_option maxRecDepth 20000 in
theorem ggX7_valueOf_X4_workedOut : GoodIn wsX7_valueOf wsX4_workedOut := goodIn_r _ [10, 7, 11, 12, 13, 14, 4, 15, 16, 17, 18, 41, 42, 43, 44, 45, 46, 47, 48, 49, 50] (by decide +kernel) (by decide +kernel)
set_option maxRecDepth 20000 in
theorem gX7_valueOf_X4_workedOut_n93 : GoodIn wsX7_valueOf (wsX4_workedOut) := ggX7_valueOf_X4_workedOut
set_option maxRecDepth 20000 in
theorem ggX7_valueOf_X11_held : GoodIn wsX7_valueOf wsX11_held := goodIn_r _ [21, 22, 23, 24, 25, 26, 27, 28] (by decide +kernel) (by decide +kernel)
set_option maxRecDepth 20000 in
theorem gX7_valueOf_X11_held_n85 : GoodIn wsX7_valueOf (wsX11_held) := ggX7_valueOf_X11_held
set_option maxRecDepth 20000 in
theorem ggX7_sold_X7_paid : GoodIn wsX7_sold wsX7_paid := goodIn_r _ [14, 15, 16, 17, 18, 19, 20, 21, 22, 23, 24, 25, 26, 27, 28, 29, 30, 31, 32, 33, 34, 35, 36, 37, 6, 38, 39, 40, 41, 42, 43, 44, 45, 46, 47, 48, 49, 50, 51, 52, 53, 54, 55, 56, 57, 58, 59, 60, 61, 62, 63, 64, 65, 66, 67, 68, 69, 70, 71, 72, 73, 74, 75, 76, 77, 78, 79, 80, 81, 82, 83, 84, 85, 86, 87, 88, 89, 5, 7, 90, 99, 100, 101, 102, 103, 104, 105, 106, 107, 108, 109, 110, 111, 112, 113, 114, 115, 116, 117, 118, 119, 120, 121, 122, 123, 124, 125, 126, 127, 128, 129, 130, 131, 132, 133, 134] (by decide +kernel) (by decide +kernel)
set_option maxRecDepth 20000 in
theorem gX7_sold_X7_paid : GoodIn wsX7_sold (wsV RX7 108 RX7 yX7_paid wsX7_paid) := goodIn_app (goodIn_of _ (by decide +kernel)) ggX7_sold_X7_paid
set_option maxRecDepth 20000 in
theorem ggX7_sold_X0_sumBy : GoodIn wsX7_sold wsX0_sumBy := goodIn_r _ [94, 95, 96, 97, 98] (by decide +kernel) (by decide +kernel)
set_option maxRecDepth 20000 in
theorem gX7_sold_X0_sumBy_n117 : GoodIn wsX7_sold (wsX0_sumBy) := ggX7_sold_X0_sumBy
set_option maxRecDepth 20000 in
theorem ggX8_due_X11_figureSum : GoodIn wsX8_due wsX11_figureSum := goodIn_r _ [3] (by decide +kernel) (by decide +kernel)
set_option maxRecDepth 20000 in
theorem gX8_due_X11_figureSum_n16 : GoodIn wsX8_due (wsX11_figureSum) := ggX8_due_X11_figureSum
set_option maxRecDepth 20000 in
theorem ggX8_adds_X10_began : GoodIn wsX8_adds wsX10_began := goodIn_r _ [5, 6, 7, 22, 23, 24] (by decide +kernel) (by decide +kernel)
set_option maxRecDepth 20000 in
theorem gX8_adds_X10_began_n22 : GoodIn wsX8_adds (wsX10_began) := ggX8_adds_X10_began
set_option maxRecDepth 20000 in
theorem ggX8_comes_X10_began : GoodIn wsX8_comes wsX10_began := goodIn_r _ [4, 5, 6, 36, 37, 38] (by decide +kernel) (by decide +kernel)
set_option maxRecDepth 20000 in
theorem gX8_comes_X10_began_n22 : GoodIn wsX8_comes (wsX10_began) := ggX8_comes_X10_began
set_option maxRecDepth 20000 in
theorem ggX8_comes_X8_adds : GoodIn wsX8_comes wsX8_adds := goodIn_r _ [12, 13, 1, 2, 3, 4, 5, 6, 39, 40, 41, 42, 43, 44, 45, 46, 47, 48, 49, 50, 51, 52, 36, 37, 38] (by decide +kernel) (by decide +kernel)
set_option maxRecDepth 20000 in
theorem gX8_comes_X8_adds_u28X1 : GoodIn wsX8_comes (va_wsU RX8 28 RX1 "FigureTill$Till" ⟨"FigureTill$Till", "adds", "(LFigureTill$Trace;I)I"⟩ yX8_adds wsX8_adds) := goodIn_app (goodIn_of _ (by decide +kernel)) ggX8_comes_X8_adds
set_option maxRecDepth 20000 in
theorem ggX8_comes_X2_adds : GoodIn wsX8_comes wsX2_adds := goodIn_r _ [18, 1, 2, 3, 4, 5, 6, 19, 20, 21, 22, 23, 24, 25, 8, 26, 10, 11, 12, 13, 36, 37, 38, 39, 40, 41, 42, 43, 44, 45, 46, 47, 48, 49, 50, 51, 52] (by decide +kernel) (by decide +kernel)
set_option maxRecDepth 20000 in
theorem gX8_comes_X2_adds_u28X2 : GoodIn wsX8_comes (va_wsO RX8 28 RX2 "FigureTill$Till" ⟨"FigureTill$Till", "adds", "(LFigureTill$Trace;I)I"⟩ yX2_adds wsX2_adds) := goodIn_app (goodIn_of _ (by decide +kernel)) ggX8_comes_X2_adds
set_option maxRecDepth 20000 in
theorem ggX8_comes_X3_adds : GoodIn wsX8_comes wsX3_adds := goodIn_r _ [24, 1, 2, 3, 4, 5, 6, 25, 8, 26, 10, 11, 12, 13, 36, 37, 38, 39, 40, 41, 42, 43, 44, 45, 46, 47, 48, 49, 50, 51, 52] (by decide +kernel) (by decide +kernel)
set_option maxRecDepth 20000 in
theorem gX8_comes_X3_adds_u28X3 : GoodIn wsX8_comes (va_wsO RX8 28 RX3 "FigureTill$Till" ⟨"FigureTill$Till", "adds", "(LFigureTill$Trace;I)I"⟩ yX3_adds wsX3_adds) := goodIn_app (goodIn_of _ (by decide +kernel)) ggX8_comes_X3_adds
set_option maxRecDepth 20000 in
theorem gX8_comes_X8_adds_u28X5 : GoodIn wsX8_comes (va_wsU RX8 28 RX5 "FigureTill$Till" ⟨"FigureTill$Till", "adds", "(LFigureTill$Trace;I)I"⟩ yX8_adds wsX8_adds) := goodIn_app (goodIn_of _ (by decide +kernel)) ggX8_comes_X8_adds
set_option maxRecDepth 20000 in
theorem gX8_comes_X8_adds_u28X6 : GoodIn wsX8_comes (va_wsU RX8 28 RX6 "FigureTill$Till" ⟨"FigureTill$Till", "adds", "(LFigureTill$Trace;I)I"⟩ yX8_adds wsX8_adds) := goodIn_app (goodIn_of _ (by decide +kernel)) ggX8_comes_X8_adds
set_option maxRecDepth 20000 in
theorem gX8_comes_X8_adds : GoodIn wsX8_comes (wsV RX8 28 RX8 yX8_adds wsX8_adds) := goodIn_app (goodIn_of _ (by decide +kernel)) ggX8_comes_X8_adds
set_option maxRecDepth 20000 in
theorem ggX8_comes_X9_adds : GoodIn wsX8_comes wsX9_adds := goodIn_r _ [35, 1, 2, 3, 4, 5, 6, 36, 37, 38] (by decide +kernel) (by decide +kernel)
set_option maxRecDepth 20000 in
theorem gX8_comes_X9_adds_u28X9 : GoodIn wsX8_comes (va_wsO RX8 28 RX9 "FigureTill$Till" ⟨"FigureTill$Till", "adds", "(LFigureTill$Trace;I)I"⟩ yX9_adds wsX9_adds) := goodIn_app (goodIn_of _ (by decide +kernel)) ggX8_comes_X9_adds
set_option maxRecDepth 20000 in
theorem ggX8_gives_X10_began : GoodIn wsX8_gives wsX10_began := goodIn_r _ [5, 6, 7, 81, 82, 83] (by decide +kernel) (by decide +kernel)
set_option maxRecDepth 20000 in
theorem gX8_gives_X10_began_n22 : GoodIn wsX8_gives (wsX10_began) := ggX8_gives_X10_began
set_option maxRecDepth 20000 in
theorem ggX8_gives_X8_comes : GoodIn wsX8_gives wsX8_comes := goodIn_r _ [13, 2, 3, 4, 5, 6, 7, 14, 15, 16, 17, 12, 18, 19, 20, 21, 22, 23, 24, 25, 26, 27, 28, 29, 30, 31, 32, 33, 34, 35, 36, 37, 38, 39, 40, 41, 81, 82, 83, 67, 68, 69, 70, 71, 72, 73, 74, 75, 76, 77, 78, 79, 80] (by decide +kernel) (by decide +kernel)
set_option maxRecDepth 20000 in
theorem gX8_gives_X8_comes_u32X1 : GoodIn wsX8_gives (va_wsU RX8 32 RX1 "FigureTill$Till" ⟨"FigureTill$Till", "comes", "(LFigureTill$Trace;I)I"⟩ yX8_comes wsX8_comes) := goodIn_app (goodIn_of _ (by decide +kernel)) ggX8_gives_X8_comes
set_option maxRecDepth 20000 in
theorem gX8_gives_X8_comes_u32X2 : GoodIn wsX8_gives (va_wsU RX8 32 RX2 "FigureTill$Till" ⟨"FigureTill$Till", "comes", "(LFigureTill$Trace;I)I"⟩ yX8_comes wsX8_comes) := goodIn_app (goodIn_of _ (by decide +kernel)) ggX8_gives_X8_comes
set_option maxRecDepth 20000 in
theorem gX8_gives_X8_comes_u32X3 : GoodIn wsX8_gives (va_wsU RX8 32 RX3 "FigureTill$Till" ⟨"FigureTill$Till", "comes", "(LFigureTill$Trace;I)I"⟩ yX8_comes wsX8_comes) := goodIn_app (goodIn_of _ (by decide +kernel)) ggX8_gives_X8_comes
set_option maxRecDepth 20000 in
theorem ggX8_gives_X5_comes : GoodIn wsX8_gives wsX5_comes := goodIn_r _ [48, 2, 3, 4, 5, 6, 7, 49, 50, 51, 52, 53, 54, 55, 9, 56, 11, 12, 13, 14, 15, 16, 17, 18, 19, 20, 21, 22, 23, 24, 25, 26, 27, 28, 29, 30, 31, 32, 33, 34, 35, 36, 37, 38, 39, 40, 41, 81, 82, 83, 67, 68, 69, 70, 71, 72, 73, 74, 75, 76, 77, 78, 79, 80] (by decide +kernel) (by decide +kernel)
set_option maxRecDepth 20000 in
theorem gX8_gives_X5_comes_u32X5 : GoodIn wsX8_gives (va_wsO RX8 32 RX5 "FigureTill$Till" ⟨"FigureTill$Till", "comes", "(LFigureTill$Trace;I)I"⟩ yX5_comes wsX5_comes) := goodIn_app (goodIn_of _ (by decide +kernel)) ggX8_gives_X5_comes
set_option maxRecDepth 20000 in
theorem ggX8_gives_X6_comes : GoodIn wsX8_gives wsX6_comes := goodIn_r _ [54, 2, 3, 4, 5, 6, 7, 55, 9, 56, 11, 12, 13, 14, 15, 16, 17, 18, 19, 20, 21, 22, 23, 24, 25, 26, 27, 28, 29, 30, 31, 32, 33, 34, 35, 36, 37, 38, 39, 40, 41, 81, 82, 83, 67, 68, 69, 70, 71, 72, 73, 74, 75, 76, 77, 78, 79, 80] (by decide +kernel) (by decide +kernel)
set_option maxRecDepth 20000 in
theorem gX8_gives_X6_comes_u32X6 : GoodIn wsX8_gives (va_wsO RX8 32 RX6 "FigureTill$Till" ⟨"FigureTill$Till", "comes", "(LFigureTill$Trace;I)I"⟩ yX6_comes wsX6_comes) := goodIn_app (goodIn_of _ (by decide +kernel)) ggX8_gives_X6_comes
set_option maxRecDepth 20000 in
theorem gX8_gives_X8_comes : GoodIn wsX8_gives (wsV RX8 32 RX8 yX8_comes wsX8_comes) := goodIn_app (goodIn_of _ (by decide +kernel)) ggX8_gives_X8_comes
set_option maxRecDepth 20000 in
theorem ggX8_gives_X9_comes : GoodIn wsX8_gives wsX9_comes := goodIn_r _ [62, 63, 64, 2, 3, 4, 5, 6, 7, 65, 9, 66, 11, 12, 13, 14, 15, 16, 17, 18, 19, 20, 21, 22, 23, 24, 25, 26, 27, 28, 29, 30, 31, 32, 33, 34, 35, 36, 37, 38, 39, 40, 41, 67, 68, 69, 70, 71, 72, 73, 74, 75, 76, 77, 78, 79, 80, 81, 82, 83] (by decide +kernel) (by decide +kernel)
set_option maxRecDepth 20000 in
theorem gX8_gives_X9_comes_u32X9 : GoodIn wsX8_gives (va_wsO RX8 32 RX9 "FigureTill$Till" ⟨"FigureTill$Till", "comes", "(LFigureTill$Trace;I)I"⟩ yX9_comes wsX9_comes) := goodIn_app (goodIn_of _ (by decide +kernel)) ggX8_gives_X9_comes
set_option maxRecDepth 20000 in
theorem ggX8_parts_X10_began : GoodIn wsX8_parts wsX10_began := goodIn_r _ [6, 7, 8, 23, 24, 25] (by decide +kernel) (by decide +kernel)
set_option maxRecDepth 20000 in
theorem gX8_parts_X10_began_n22 : GoodIn wsX8_parts (wsX10_began) := ggX8_parts_X10_began
set_option maxRecDepth 20000 in
theorem ggX9_init_X8_init : GoodIn wsX9_init wsX8_init := goodIn_r _ [4, 5, 6, 7, 8, 9, 10, 11, 12, 13, 14, 15, 16, 17, 18, 19, 20, 21, 22, 23] (by decide +kernel) (by decide +kernel)
set_option maxRecDepth 20000 in
theorem gX9_init_X8_init : GoodIn wsX9_init (wsX8_init) := ggX9_init_X8_init
set_option maxRecDepth 20000 in
theorem ggX9_isOf_X8_isOf : GoodIn wsX9_isOf wsX8_isOf := goodIn_r _ [6] (by decide +kernel) (by decide +kernel)
set_option maxRecDepth 20000 in
theorem gX9_isOf_X8_isOf_s7 : GoodIn wsX9_isOf (va_wsSU RX9 7 yX8_isOf wsX8_isOf) := goodIn_app (goodIn_of _ (by decide +kernel)) ggX9_isOf_X8_isOf
set_option maxRecDepth 20000 in
theorem ggX9_due_X4_isTold : GoodIn wsX9_due wsX4_isTold := goodIn_r _ [6, 7, 42, 43, 44, 45, 46, 47, 48, 49, 50, 51] (by decide +kernel) (by decide +kernel)
set_option maxRecDepth 20000 in
theorem gX9_due_X4_isTold_n11 : GoodIn wsX9_due (wsX4_isTold) := ggX9_due_X4_isTold
set_option maxRecDepth 20000 in
theorem ggX9_due_X4_workedOut : GoodIn wsX9_due wsX4_workedOut := goodIn_r _ [10, 7, 11, 12, 13, 14, 4, 15, 16, 17, 18, 42, 43, 44, 45, 46, 47, 48, 49, 50, 51] (by decide +kernel) (by decide +kernel)
set_option maxRecDepth 20000 in
theorem gX9_due_X4_workedOut_n23 : GoodIn wsX9_due (wsX4_workedOut) := ggX9_due_X4_workedOut
set_option maxRecDepth 20000 in
theorem ggX9_due_X8_due : GoodIn wsX9_due wsX8_due := goodIn_r _ [24, 25, 26, 27] (by decide +kernel) (by decide +kernel)
set_option maxRecDepth 20000 in
theorem gX9_due_X8_due_s27 : GoodIn wsX9_due (va_wsSU RX9 27 yX8_due wsX8_due) := goodIn_app (goodIn_of _ (by decide +kernel)) ggX9_due_X8_due
set_option maxRecDepth 20000 in
theorem ggX9_adds_X10_began : GoodIn wsX9_adds wsX10_began := goodIn_r _ [4, 5, 6, 7, 8, 9] (by decide +kernel) (by decide +kernel)
set_option maxRecDepth 20000 in
theorem gX9_adds_X10_began_n31 : GoodIn wsX9_adds (wsX10_began) := ggX9_adds_X10_began
set_option maxRecDepth 20000 in
theorem ggX9_comes_X10_began : GoodIn wsX9_comes wsX10_began := goodIn_r _ [6, 7, 8, 57, 58, 59] (by decide +kernel) (by decide +kernel)
set_option maxRecDepth 20000 in
theorem gX9_comes_X10_began_n31 : GoodIn wsX9_comes (wsX10_began) := ggX9_comes_X10_began
set_option maxRecDepth 20000 in
theorem ggX9_comes_X8_comes : GoodIn wsX9_comes wsX8_comes := goodIn_r _ [14, 3, 4, 5, 6, 7, 8, 15, 16, 17, 18, 13, 19, 20, 21, 22, 23, 24, 25, 26, 27, 28, 29, 30, 31, 32, 33, 34, 35, 36, 37, 38, 39, 40, 41, 42, 57, 58, 59, 43, 44, 45, 46, 47, 48, 49, 50, 51, 52, 53, 54, 55, 56] (by decide +kernel) (by decide +kernel)
set_option maxRecDepth 20000 in
theorem gX9_comes_X8_comes_s37 : GoodIn wsX9_comes (va_wsSU RX9 37 yX8_comes wsX8_comes) := goodIn_app (goodIn_of _ (by decide +kernel)) ggX9_comes_X8_comes
set_option maxRecDepth 20000 in
theorem ggX11_init_X7_init : GoodIn wsX11_init wsX7_init := goodIn_r _ [33, 34, 2, 3, 35, 11, 36, 37, 38, 39, 40, 41, 42, 43, 44, 45, 46, 47, 48, 49, 50, 51, 52, 53, 54, 55, 56, 57, 58, 59, 60, 61, 62, 63, 64, 65, 66, 67, 68, 69, 70, 71, 72, 73, 74, 75, 76, 77, 78, 79, 80, 81, 82, 83, 84, 85, 86, 87, 88, 89, 90, 91, 92, 93, 94, 95, 96, 97, 98, 99, 100, 101, 102, 103, 104, 105, 106, 107, 108, 109, 110, 111, 112, 113, 114, 115, 116, 117, 118, 131, 132, 133, 134, 135, 136, 137, 138, 139, 140, 141, 142, 166, 167, 168, 169, 170, 171, 172, 173, 174, 175, 176, 177, 178, 179, 180, 181, 182, 183, 184, 185, 186, 187, 188, 189] (by decide +kernel) (by decide +kernel)
set_option maxRecDepth 20000 in
theorem gX11_init_X7_init_n9 : GoodIn wsX11_init (wsX7_init) := ggX11_init_X7_init
set_option maxRecDepth 20000 in
theorem ggX11_init_X10_init : GoodIn wsX11_init wsX10_init := goodIn_r _ [120, 121, 2, 3, 11, 122, 123, 124, 160, 161, 162] (by decide +kernel) (by decide +kernel)
set_option maxRecDepth 20000 in
theorem gX11_init_X10_init_n41 : GoodIn wsX11_init (wsX10_init) := ggX11_init_X10_init
set_option maxRecDepth 20000 in
theorem ggX11_init_X0_init : GoodIn wsX11_init wsX0_init := goodIn_r _ [126, 127, 2, 3, 11, 128, 129, 130, 163, 164, 165] (by decide +kernel) (by decide +kernel)
set_option maxRecDepth 20000 in
theorem gX11_init_X0_init_n51 : GoodIn wsX11_init (wsX0_init) := ggX11_init_X0_init
set_option maxRecDepth 20000 in
theorem ggX11_thing_X11_isThing : GoodIn wsX11_thing wsX11_isThing := goodIn_r _ [5, 6, 7, 4, 8] (by decide +kernel) (by decide +kernel)
set_option maxRecDepth 20000 in
theorem gX11_thing_X11_isThing : GoodIn wsX11_thing (va_wsS RX11 77 yX11_isThing wsX11_isThing) := goodIn_app (goodIn_of _ (by decide +kernel)) ggX11_thing_X11_isThing
set_option maxRecDepth 20000 in
theorem ggX11_thing_X11_within : GoodIn wsX11_thing wsX11_within := goodIn_r _ [8] (by decide +kernel) (by decide +kernel)
set_option maxRecDepth 20000 in
theorem gX11_thing_X11_within : GoodIn wsX11_thing (va_wsS RX11 81 yX11_within wsX11_within) := goodIn_app (goodIn_of _ (by decide +kernel)) ggX11_thing_X11_within
set_option maxRecDepth 20000 in
theorem ggX11_thing_X11_isGood : GoodIn wsX11_thing wsX11_isGood := goodIn_r _ [11, 12, 13, 6, 7, 4, 8] (by decide +kernel) (by decide +kernel)
set_option maxRecDepth 20000 in
theorem gX11_thing_X11_isGood : GoodIn wsX11_thing (va_wsS RX11 85 yX11_isGood wsX11_isGood) := goodIn_app (goodIn_of _ (by decide +kernel)) ggX11_thing_X11_isGood
set_option maxRecDepth 20000 in
theorem ggX11_thing_X11_error : GoodIn wsX11_thing wsX11_error := goodIn_r _ [17, 18, 19, 6, 7, 4, 8, 20, 21, 22, 23, 24, 25, 26, 27, 28, 29, 30, 31, 32, 33, 34, 35, 36] (by decide +kernel) (by decide +kernel)
set_option maxRecDepth 20000 in
theorem gX11_thing_X11_error : GoodIn wsX11_thing (wsV RX11 89 RX11 yX11_error wsX11_error) := goodIn_app (goodIn_of _ (by decide +kernel)) ggX11_thing_X11_error
set_option maxRecDepth 20000 in
theorem ggX11_thingIs_X11_isThing : GoodIn wsX11_thingIs wsX11_isThing := goodIn_r _ [5, 6, 7, 4, 8] (by decide +kernel) (by decide +kernel)
set_option maxRecDepth 20000 in
theorem gX11_thingIs_X11_isThing : GoodIn wsX11_thingIs (va_wsS RX11 77 yX11_isThing wsX11_isThing) := goodIn_app (goodIn_of _ (by decide +kernel)) ggX11_thingIs_X11_isThing
set_option maxRecDepth 20000 in
theorem ggX11_thingIs_X11_within : GoodIn wsX11_thingIs wsX11_within := goodIn_r _ [8] (by decide +kernel) (by decide +kernel)
set_option maxRecDepth 20000 in
theorem gX11_thingIs_X11_within : GoodIn wsX11_thingIs (va_wsS RX11 81 yX11_within wsX11_within) := goodIn_app (goodIn_of _ (by decide +kernel)) ggX11_thingIs_X11_within
set_option maxRecDepth 20000 in
theorem ggX11_thingIs_X11_error : GoodIn wsX11_thingIs wsX11_error := goodIn_r _ [12, 13, 14, 6, 7, 4, 8, 46, 47, 48, 49, 50, 51, 52, 53, 54, 55, 56, 57, 58, 59, 60, 61, 62] (by decide +kernel) (by decide +kernel)
set_option maxRecDepth 20000 in
theorem gX11_thingIs_X11_error : GoodIn wsX11_thingIs (wsV RX11 89 RX11 yX11_error wsX11_error) := goodIn_app (goodIn_of _ (by decide +kernel)) ggX11_thingIs_X11_error
set_option maxRecDepth 20000 in
theorem ggX11_thingIs_X7_valueOf : GoodIn wsX11_thingIs wsX7_valueOf := goodIn_r _ [18, 19, 20, 21, 22, 23, 24, 25, 26, 27, 28, 29, 30, 31, 32, 33, 34, 35, 36, 37, 4, 38, 39, 40, 41, 42, 43, 44, 45, 63, 64, 65, 66, 67, 68, 69, 70, 71, 72, 73, 74, 75, 76, 77, 78, 79, 80, 81, 82, 83, 84] (by decide +kernel) (by decide +kernel)
set_option maxRecDepth 20000 in
theorem gX11_thingIs_X7_valueOf_n96 : GoodIn wsX11_thingIs (wsX7_valueOf) := ggX11_thingIs_X7_valueOf
set_option maxRecDepth 20000 in
theorem ggX11_till_X11_isTill : GoodIn wsX11_till wsX11_isTill := goodIn_r _ [6, 7, 8, 5, 9] (by decide +kernel) (by decide +kernel)
set_option maxRecDepth 20000 in
theorem gX11_till_X11_isTill : GoodIn wsX11_till (va_wsS RX11 99 yX11_isTill wsX11_isTill) := goodIn_app (goodIn_of _ (by decide +kernel)) ggX11_till_X11_isTill
set_option maxRecDepth 20000 in
theorem ggX11_till_X11_within : GoodIn wsX11_till wsX11_within := goodIn_r _ [9] (by decide +kernel) (by decide +kernel)
set_option maxRecDepth 20000 in
theorem gX11_till_X11_within : GoodIn wsX11_till (va_wsS RX11 81 yX11_within wsX11_within) := goodIn_app (goodIn_of _ (by decide +kernel)) ggX11_till_X11_within
set_option maxRecDepth 20000 in
theorem ggX11_till_X11_error : GoodIn wsX11_till wsX11_error := goodIn_r _ [13, 14, 15, 7, 8, 5, 9, 97, 98, 99, 100, 101, 102, 103, 104, 105, 106, 107, 108, 109, 110, 111, 112, 113] (by decide +kernel) (by decide +kernel)
set_option maxRecDepth 20000 in
theorem gX11_till_X11_error : GoodIn wsX11_till (wsV RX11 89 RX11 yX11_error wsX11_error) := goodIn_app (goodIn_of _ (by decide +kernel)) ggX11_till_X11_error
set_option maxRecDepth 20000 in
theorem ggX11_till_X11_tillOf : GoodIn wsX11_till wsX11_tillOf := goodIn_r _ [18, 19, 20, 21, 22, 23, 24, 25, 26, 27, 28, 29, 30, 31, 32, 33, 34, 35, 36, 37, 38, 39, 40, 41, 42, 43, 44, 45, 46, 47, 48, 49, 50, 51, 52, 53, 54, 55, 56, 57, 58, 59, 60, 61, 62, 63, 64, 65, 66, 67, 68, 69, 70, 71, 130, 131, 134, 135, 126, 127, 132, 133, 128, 129, 138, 139, 136, 137] (by decide +kernel) (by decide +kernel)
set_option maxRecDepth 20000 in
theorem gX11_till_X11_tillOf : GoodIn wsX11_till (va_wsS RX11 106 yX11_tillOf wsX11_tillOf) := goodIn_app (goodIn_of _ (by decide +kernel)) ggX11_till_X11_tillOf
set_option maxRecDepth 20000 in
theorem ggX11_till_X1_kind : GoodIn wsX11_till wsX1_kind := goodIn_r _ [77] (by decide +kernel) (by decide +kernel)
set_option maxRecDepth 20000 in
theorem gX11_till_X1_kind_u110X1 : GoodIn wsX11_till (va_wsO RX11 110 RX1 "FigureTill$Till" ⟨"FigureTill$Till", "kind", "()I"⟩ yX1_kind wsX1_kind) := goodIn_app (goodIn_of _ (by decide +kernel)) ggX11_till_X1_kind
set_option maxRecDepth 20000 in
theorem ggX11_till_X2_kind : GoodIn wsX11_till wsX2_kind := goodIn_r _ [81] (by decide +kernel) (by decide +kernel)
set_option maxRecDepth 20000 in
theorem gX11_till_X2_kind_u110X2 : GoodIn wsX11_till (va_wsO RX11 110 RX2 "FigureTill$Till" ⟨"FigureTill$Till", "kind", "()I"⟩ yX2_kind wsX2_kind) := goodIn_app (goodIn_of _ (by decide +kernel)) ggX11_till_X2_kind
set_option maxRecDepth 20000 in
theorem ggX11_till_X3_kind : GoodIn wsX11_till wsX3_kind := goodIn_r _ [84] (by decide +kernel) (by decide +kernel)
set_option maxRecDepth 20000 in
theorem gX11_till_X3_kind_u110X3 : GoodIn wsX11_till (va_wsO RX11 110 RX3 "FigureTill$Till" ⟨"FigureTill$Till", "kind", "()I"⟩ yX3_kind wsX3_kind) := goodIn_app (goodIn_of _ (by decide +kernel)) ggX11_till_X3_kind
set_option maxRecDepth 20000 in
theorem ggX11_till_X5_kind : GoodIn wsX11_till wsX5_kind := goodIn_r _ [87] (by decide +kernel) (by decide +kernel)
set_option maxRecDepth 20000 in
theorem gX11_till_X5_kind_u110X5 : GoodIn wsX11_till (va_wsO RX11 110 RX5 "FigureTill$Till" ⟨"FigureTill$Till", "kind", "()I"⟩ yX5_kind wsX5_kind) := goodIn_app (goodIn_of _ (by decide +kernel)) ggX11_till_X5_kind
set_option maxRecDepth 20000 in
theorem ggX11_till_X6_kind : GoodIn wsX11_till wsX6_kind := goodIn_r _ [90] (by decide +kernel) (by decide +kernel)
set_option maxRecDepth 20000 in
theorem gX11_till_X6_kind_u110X6 : GoodIn wsX11_till (va_wsO RX11 110 RX6 "FigureTill$Till" ⟨"FigureTill$Till", "kind", "()I"⟩ yX6_kind wsX6_kind) := goodIn_app (goodIn_of _ (by decide +kernel)) ggX11_till_X6_kind
set_option maxRecDepth 20000 in
theorem ggX11_till_X8_kind : GoodIn wsX11_till wsX8_kind := goodIn_r _ [78] (by decide +kernel) (by decide +kernel)
set_option maxRecDepth 20000 in
theorem gX11_till_X8_kind : GoodIn wsX11_till (wsV RX11 110 RX8 yX8_kind wsX8_kind) := goodIn_app (goodIn_of _ (by decide +kernel)) ggX11_till_X8_kind
set_option maxRecDepth 20000 in
theorem ggX11_till_X9_kind : GoodIn wsX11_till wsX9_kind := goodIn_r _ [96] (by decide +kernel) (by decide +kernel)
set_option maxRecDepth 20000 in
theorem gX11_till_X9_kind_u110X9 : GoodIn wsX11_till (va_wsO RX11 110 RX9 "FigureTill$Till" ⟨"FigureTill$Till", "kind", "()I"⟩ yX9_kind wsX9_kind) := goodIn_app (goodIn_of _ (by decide +kernel)) ggX11_till_X9_kind
set_option maxRecDepth 20000 in
theorem ggX11_tillIs_X11_isTill : GoodIn wsX11_tillIs wsX11_isTill := goodIn_r _ [6, 7, 8, 5, 9] (by decide +kernel) (by decide +kernel)
set_option maxRecDepth 20000 in
theorem gX11_tillIs_X11_isTill : GoodIn wsX11_tillIs (va_wsS RX11 99 yX11_isTill wsX11_isTill) := goodIn_app (goodIn_of _ (by decide +kernel)) ggX11_tillIs_X11_isTill
set_option maxRecDepth 20000 in
theorem ggX11_tillIs_X11_within : GoodIn wsX11_tillIs wsX11_within := goodIn_r _ [9] (by decide +kernel) (by decide +kernel)
set_option maxRecDepth 20000 in
theorem gX11_tillIs_X11_within : GoodIn wsX11_tillIs (va_wsS RX11 81 yX11_within wsX11_within) := goodIn_app (goodIn_of _ (by decide +kernel)) ggX11_tillIs_X11_within
set_option maxRecDepth 20000 in
theorem ggX11_tillIs_X11_error : GoodIn wsX11_tillIs wsX11_error := goodIn_r _ [13, 14, 15, 7, 8, 5, 9, 48, 49, 50, 51, 52, 53, 54, 55, 56, 57, 58, 59, 60, 61, 62, 63, 64] (by decide +kernel) (by decide +kernel)
set_option maxRecDepth 20000 in
theorem gX11_tillIs_X11_error : GoodIn wsX11_tillIs (wsV RX11 89 RX11 yX11_error wsX11_error) := goodIn_app (goodIn_of _ (by decide +kernel)) ggX11_tillIs_X11_error
set_option maxRecDepth 20000 in
theorem ggX11_tillIs_X1_kind : GoodIn wsX11_tillIs wsX1_kind := goodIn_r _ [22] (by decide +kernel) (by decide +kernel)
set_option maxRecDepth 20000 in
theorem gX11_tillIs_X1_kind_u110X1 : GoodIn wsX11_tillIs (va_wsO RX11 110 RX1 "FigureTill$Till" ⟨"FigureTill$Till", "kind", "()I"⟩ yX1_kind wsX1_kind) := goodIn_app (goodIn_of _ (by decide +kernel)) ggX11_tillIs_X1_kind
set_option maxRecDepth 20000 in
theorem ggX11_tillIs_X2_kind : GoodIn wsX11_tillIs wsX2_kind := goodIn_r _ [27] (by decide +kernel) (by decide +kernel)
set_option maxRecDepth 20000 in
theorem gX11_tillIs_X2_kind_u110X2 : GoodIn wsX11_tillIs (va_wsO RX11 110 RX2 "FigureTill$Till" ⟨"FigureTill$Till", "kind", "()I"⟩ yX2_kind wsX2_kind) := goodIn_app (goodIn_of _ (by decide +kernel)) ggX11_tillIs_X2_kind
set_option maxRecDepth 20000 in
theorem ggX11_tillIs_X3_kind : GoodIn wsX11_tillIs wsX3_kind := goodIn_r _ [31] (by decide +kernel) (by decide +kernel)
set_option maxRecDepth 20000 in
theorem gX11_tillIs_X3_kind_u110X3 : GoodIn wsX11_tillIs (va_wsO RX11 110 RX3 "FigureTill$Till" ⟨"FigureTill$Till", "kind", "()I"⟩ yX3_kind wsX3_kind) := goodIn_app (goodIn_of _ (by decide +kernel)) ggX11_tillIs_X3_kind
set_option maxRecDepth 20000 in
theorem ggX11_tillIs_X5_kind : GoodIn wsX11_tillIs wsX5_kind := goodIn_r _ [35] (by decide +kernel) (by decide +kernel)
set_option maxRecDepth 20000 in
theorem gX11_tillIs_X5_kind_u110X5 : GoodIn wsX11_tillIs (va_wsO RX11 110 RX5 "FigureTill$Till" ⟨"FigureTill$Till", "kind", "()I"⟩ yX5_kind wsX5_kind) := goodIn_app (goodIn_of _ (by decide +kernel)) ggX11_tillIs_X5_kind
set_option maxRecDepth 20000 in
theorem ggX11_tillIs_X6_kind : GoodIn wsX11_tillIs wsX6_kind := goodIn_r _ [39] (by decide +kernel) (by decide +kernel)
set_option maxRecDepth 20000 in
theorem gX11_tillIs_X6_kind_u110X6 : GoodIn wsX11_tillIs (va_wsO RX11 110 RX6 "FigureTill$Till" ⟨"FigureTill$Till", "kind", "()I"⟩ yX6_kind wsX6_kind) := goodIn_app (goodIn_of _ (by decide +kernel)) ggX11_tillIs_X6_kind
set_option maxRecDepth 20000 in
theorem ggX11_tillIs_X8_kind : GoodIn wsX11_tillIs wsX8_kind := goodIn_r _ [23] (by decide +kernel) (by decide +kernel)
set_option maxRecDepth 20000 in
theorem gX11_tillIs_X8_kind : GoodIn wsX11_tillIs (wsV RX11 110 RX8 yX8_kind wsX8_kind) := goodIn_app (goodIn_of _ (by decide +kernel)) ggX11_tillIs_X8_kind
set_option maxRecDepth 20000 in
theorem ggX11_tillIs_X9_kind : GoodIn wsX11_tillIs wsX9_kind := goodIn_r _ [47] (by decide +kernel) (by decide +kernel)
set_option maxRecDepth 20000 in
theorem gX11_tillIs_X9_kind_u110X9 : GoodIn wsX11_tillIs (va_wsO RX11 110 RX9 "FigureTill$Till" ⟨"FigureTill$Till", "kind", "()I"⟩ yX9_kind wsX9_kind) := goodIn_app (goodIn_of _ (by decide +kernel)) ggX11_tillIs_X9_kind
set_option maxRecDepth 20000 in
theorem ggX11_as_X11_isTill : GoodIn wsX11_as wsX11_isTill := goodIn_r _ [6, 7, 8, 5, 9] (by decide +kernel) (by decide +kernel)
set_option maxRecDepth 20000 in
theorem gX11_as_X11_isTill : GoodIn wsX11_as (va_wsS RX11 99 yX11_isTill wsX11_isTill) := goodIn_app (goodIn_of _ (by decide +kernel)) ggX11_as_X11_isTill
set_option maxRecDepth 20000 in
theorem ggX11_as_X11_within : GoodIn wsX11_as wsX11_within := goodIn_r _ [9] (by decide +kernel) (by decide +kernel)
set_option maxRecDepth 20000 in
theorem gX11_as_X11_within : GoodIn wsX11_as (va_wsS RX11 81 yX11_within wsX11_within) := goodIn_app (goodIn_of _ (by decide +kernel)) ggX11_as_X11_within
set_option maxRecDepth 20000 in
theorem ggX11_as_X11_error : GoodIn wsX11_as wsX11_error := goodIn_r _ [13, 14, 15, 7, 8, 5, 9, 62, 63, 64, 65, 66, 67, 68, 69, 70, 71, 72, 73, 74, 75, 76, 77, 78] (by decide +kernel) (by decide +kernel)
set_option maxRecDepth 20000 in
theorem gX11_as_X11_error : GoodIn wsX11_as (wsV RX11 89 RX11 yX11_error wsX11_error) := goodIn_app (goodIn_of _ (by decide +kernel)) ggX11_as_X11_error
set_option maxRecDepth 20000 in
theorem ggX11_as_X1_isOf : GoodIn wsX11_as wsX1_isOf := goodIn_r _ [22, 23, 17, 24, 25, 26, 27] (by decide +kernel) (by decide +kernel)
set_option maxRecDepth 20000 in
theorem gX11_as_X1_isOf_u119X1 : GoodIn wsX11_as (va_wsO RX11 119 RX1 "FigureTill$Till" ⟨"FigureTill$Till", "isOf", "(I)Z"⟩ yX1_isOf wsX1_isOf) := goodIn_app (goodIn_of _ (by decide +kernel)) ggX11_as_X1_isOf
set_option maxRecDepth 20000 in
theorem ggX11_as_X2_isOf : GoodIn wsX11_as wsX2_isOf := goodIn_r _ [31, 32, 33, 34, 35, 36, 37, 38, 17, 39, 25, 26, 27] (by decide +kernel) (by decide +kernel)
set_option maxRecDepth 20000 in
theorem gX11_as_X2_isOf_u119X2 : GoodIn wsX11_as (va_wsO RX11 119 RX2 "FigureTill$Till" ⟨"FigureTill$Till", "isOf", "(I)Z"⟩ yX2_isOf wsX2_isOf) := goodIn_app (goodIn_of _ (by decide +kernel)) ggX11_as_X2_isOf
set_option maxRecDepth 20000 in
theorem ggX11_as_X3_isOf : GoodIn wsX11_as wsX3_isOf := goodIn_r _ [37, 38, 17, 39, 25, 26, 27] (by decide +kernel) (by decide +kernel)
set_option maxRecDepth 20000 in
theorem gX11_as_X3_isOf_u119X3 : GoodIn wsX11_as (va_wsO RX11 119 RX3 "FigureTill$Till" ⟨"FigureTill$Till", "isOf", "(I)Z"⟩ yX3_isOf wsX3_isOf) := goodIn_app (goodIn_of _ (by decide +kernel)) ggX11_as_X3_isOf
set_option maxRecDepth 20000 in
theorem ggX11_as_X5_isOf : GoodIn wsX11_as wsX5_isOf := goodIn_r _ [44, 45, 46, 47, 48, 49, 50, 51, 17, 52, 25, 26, 27] (by decide +kernel) (by decide +kernel)
set_option maxRecDepth 20000 in
theorem gX11_as_X5_isOf_u119X5 : GoodIn wsX11_as (va_wsO RX11 119 RX5 "FigureTill$Till" ⟨"FigureTill$Till", "isOf", "(I)Z"⟩ yX5_isOf wsX5_isOf) := goodIn_app (goodIn_of _ (by decide +kernel)) ggX11_as_X5_isOf
set_option maxRecDepth 20000 in
theorem ggX11_as_X6_isOf : GoodIn wsX11_as wsX6_isOf := goodIn_r _ [50, 51, 17, 52, 25, 26, 27] (by decide +kernel) (by decide +kernel)
set_option maxRecDepth 20000 in
theorem gX11_as_X6_isOf_u119X6 : GoodIn wsX11_as (va_wsO RX11 119 RX6 "FigureTill$Till" ⟨"FigureTill$Till", "isOf", "(I)Z"⟩ yX6_isOf wsX6_isOf) := goodIn_app (goodIn_of _ (by decide +kernel)) ggX11_as_X6_isOf
set_option maxRecDepth 20000 in
theorem ggX11_as_X8_isOf : GoodIn wsX11_as wsX8_isOf := goodIn_r _ [27] (by decide +kernel) (by decide +kernel)
set_option maxRecDepth 20000 in
theorem gX11_as_X8_isOf : GoodIn wsX11_as (wsV RX11 119 RX8 yX8_isOf wsX8_isOf) := goodIn_app (goodIn_of _ (by decide +kernel)) ggX11_as_X8_isOf
set_option maxRecDepth 20000 in
theorem ggX11_as_X9_isOf : GoodIn wsX11_as wsX9_isOf := goodIn_r _ [59, 60, 17, 61, 25, 26, 27] (by decide +kernel) (by decide +kernel)
set_option maxRecDepth 20000 in
theorem gX11_as_X9_isOf_u119X9 : GoodIn wsX11_as (va_wsO RX11 119 RX9 "FigureTill$Till" ⟨"FigureTill$Till", "isOf", "(I)Z"⟩ yX9_isOf wsX9_isOf) := goodIn_app (goodIn_of _ (by decide +kernel)) ggX11_as_X9_isOf
set_option maxRecDepth 20000 in
theorem ggX11_figures_X11_within : GoodIn wsX11_figures wsX11_within := goodIn_r _ [4] (by decide +kernel) (by decide +kernel)
set_option maxRecDepth 20000 in
theorem gX11_figures_X11_within : GoodIn wsX11_figures (va_wsS RX11 81 yX11_within wsX11_within) := goodIn_app (goodIn_of _ (by decide +kernel)) ggX11_figures_X11_within
set_option maxRecDepth 20000 in
theorem ggX11_figures_X11_error : GoodIn wsX11_figures wsX11_error := goodIn_r _ [8, 9, 10, 1, 2, 3, 4, 14, 15, 16, 17, 18, 19, 20, 21, 22, 23, 24, 25, 26, 27, 28, 29, 30] (by decide +kernel) (by decide +kernel)
set_option maxRecDepth 20000 in
theorem gX11_figures_X11_error : GoodIn wsX11_figures (wsV RX11 89 RX11 yX11_error wsX11_error) := goodIn_app (goodIn_of _ (by decide +kernel)) ggX11_figures_X11_error
set_option maxRecDepth 20000 in
theorem ggX11_figures_X11_figureSum : GoodIn wsX11_figures wsX11_figureSum := goodIn_r _ [13] (by decide +kernel) (by decide +kernel)
set_option maxRecDepth 20000 in
theorem gX11_figures_X11_figureSum : GoodIn wsX11_figures (va_wsS RX11 122 yX11_figureSum wsX11_figureSum) := goodIn_app (goodIn_of _ (by decide +kernel)) ggX11_figures_X11_figureSum
set_option maxRecDepth 20000 in
theorem ggX11_asks_X11_isTill : GoodIn wsX11_asks wsX11_isTill := goodIn_r _ [6, 7, 8, 5, 9] (by decide +kernel) (by decide +kernel)
set_option maxRecDepth 20000 in
theorem gX11_asks_X11_isTill : GoodIn wsX11_asks (va_wsS RX11 99 yX11_isTill wsX11_isTill) := goodIn_app (goodIn_of _ (by decide +kernel)) ggX11_asks_X11_isTill
set_option maxRecDepth 20000 in
theorem ggX11_asks_X11_within : GoodIn wsX11_asks wsX11_within := goodIn_r _ [9] (by decide +kernel) (by decide +kernel)
set_option maxRecDepth 20000 in
theorem gX11_asks_X11_within : GoodIn wsX11_asks (va_wsS RX11 81 yX11_within wsX11_within) := goodIn_app (goodIn_of _ (by decide +kernel)) ggX11_asks_X11_within
set_option maxRecDepth 20000 in
theorem ggX11_asks_X11_error : GoodIn wsX11_asks wsX11_error := goodIn_r _ [13, 14, 15, 7, 8, 5, 9, 98, 99, 100, 101, 102, 103, 104, 105, 106, 107, 108, 109, 110, 111, 112, 113, 114] (by decide +kernel) (by decide +kernel)
set_option maxRecDepth 20000 in
theorem gX11_asks_X11_error : GoodIn wsX11_asks (wsV RX11 89 RX11 yX11_error wsX11_error) := goodIn_app (goodIn_of _ (by decide +kernel)) ggX11_asks_X11_error
set_option maxRecDepth 20000 in
theorem ggX11_asks_X7_paid : GoodIn wsX11_asks wsX7_paid := goodIn_r _ [19, 20, 21, 22, 23, 24, 25, 26, 27, 28, 29, 30, 31, 5, 32, 33, 34, 35, 36, 37, 38, 39, 40, 41, 42, 43, 44, 45, 46, 47, 48, 49, 50, 51, 52, 53, 54, 55, 56, 57, 58, 59, 60, 61, 62, 63, 64, 65, 66, 67, 68, 69, 70, 71, 72, 73, 74, 75, 76, 77, 78, 79, 80, 81, 82, 83, 84, 85, 86, 87, 88, 89, 90, 91, 92, 93, 94, 95, 96, 97, 115, 116, 117, 118, 119, 120, 121, 122, 123, 124, 125, 126, 127, 128, 129, 130, 131, 132, 133, 134, 135, 136, 137, 138, 139, 140, 141, 142, 143, 144, 145, 146, 147, 148, 149, 150] (by decide +kernel) (by decide +kernel)
set_option maxRecDepth 20000 in
theorem gX11_asks_X7_paid_n127 : GoodIn wsX11_asks (wsX7_paid) := ggX11_asks_X7_paid
set_option maxRecDepth 20000 in
theorem ggX11_feed_X11_within : GoodIn wsX11_feed wsX11_within := goodIn_r _ [5] (by decide +kernel) (by decide +kernel)
set_option maxRecDepth 20000 in
theorem gX11_feed_X11_within : GoodIn wsX11_feed (va_wsS RX11 81 yX11_within wsX11_within) := goodIn_app (goodIn_of _ (by decide +kernel)) ggX11_feed_X11_within
set_option maxRecDepth 20000 in
theorem ggX11_feed_X11_error : GoodIn wsX11_feed wsX11_error := goodIn_r _ [9, 10, 11, 2, 3, 4, 5, 12, 13, 14, 15, 16, 17, 18, 19, 20, 21, 22, 23, 24, 25, 26, 27, 28] (by decide +kernel) (by decide +kernel)
set_option maxRecDepth 20000 in
theorem gX11_feed_X11_error : GoodIn wsX11_feed (wsV RX11 89 RX11 yX11_error wsX11_error) := goodIn_app (goodIn_of _ (by decide +kernel)) ggX11_feed_X11_error
set_option maxRecDepth 20000 in
theorem ggX11_text_X11_within : GoodIn wsX11_text wsX11_within := goodIn_r _ [5] (by decide +kernel) (by decide +kernel)
set_option maxRecDepth 20000 in
theorem gX11_text_X11_within : GoodIn wsX11_text (va_wsS RX11 81 yX11_within wsX11_within) := goodIn_app (goodIn_of _ (by decide +kernel)) ggX11_text_X11_within
set_option maxRecDepth 20000 in
theorem ggX11_text_X11_error : GoodIn wsX11_text wsX11_error := goodIn_r _ [9, 10, 11, 2, 3, 4, 5, 135, 136, 137, 138, 139, 140, 141, 142, 143, 144, 145, 146, 147, 148, 149, 150, 151] (by decide +kernel) (by decide +kernel)
set_option maxRecDepth 20000 in
theorem gX11_text_X11_error : GoodIn wsX11_text (wsV RX11 89 RX11 yX11_error wsX11_error) := goodIn_app (goodIn_of _ (by decide +kernel)) ggX11_text_X11_error
set_option maxRecDepth 20000 in
theorem ggX11_text_X7_law : GoodIn wsX11_text wsX7_law := goodIn_r _ [15, 16, 17, 152, 153, 154, 155, 156, 157, 158, 159, 160, 161, 162, 163] (by decide +kernel) (by decide +kernel)
set_option maxRecDepth 20000 in
theorem gX11_text_X7_law_n137 : GoodIn wsX11_text (wsX7_law) := ggX11_text_X7_law
set_option maxRecDepth 20000 in
theorem ggX11_text_X4_fault : GoodIn wsX11_text wsX4_fault := goodIn_r _ [21, 22, 23, 24, 25, 26, 27, 28, 29, 30, 31, 32, 33, 34, 35, 36, 37, 38, 39, 40, 19, 41, 42, 43, 44, 45, 46, 47, 48, 49, 50, 51, 52, 53, 54, 55, 56, 57, 58, 59, 60, 61, 62, 63, 64, 65, 66, 67, 68, 69, 70, 71, 72, 73, 74, 75, 76, 77, 78, 79, 80, 81, 82, 83, 84, 85, 86, 87, 88, 89, 90, 91, 92, 93, 94, 95, 96, 97, 98, 99, 100, 101, 102, 103, 104, 105, 106, 107, 108, 109, 110, 111, 112, 113, 114, 115, 116, 117, 118, 119, 120, 121, 122, 123, 124, 125, 126, 127, 128, 129, 130, 131, 132, 133, 134, 164, 165, 166, 167, 168, 169, 170, 171, 172, 173] (by decide +kernel) (by decide +kernel)
set_option maxRecDepth 20000 in
theorem gX11_text_X4_fault_n141 : GoodIn wsX11_text (wsX4_fault) := ggX11_text_X4_fault
set_option maxRecDepth 20000 in
theorem ggX11_untell_X11_within : GoodIn wsX11_untell wsX11_within := goodIn_r _ [5] (by decide +kernel) (by decide +kernel)
set_option maxRecDepth 20000 in
theorem gX11_untell_X11_within : GoodIn wsX11_untell (va_wsS RX11 81 yX11_within wsX11_within) := goodIn_app (goodIn_of _ (by decide +kernel)) ggX11_untell_X11_within
set_option maxRecDepth 20000 in
theorem ggX11_untell_X11_error : GoodIn wsX11_untell wsX11_error := goodIn_r _ [9, 10, 11, 2, 3, 4, 5, 23, 24, 25, 26, 27, 28, 29, 30, 31, 32, 33, 34, 35, 36, 37, 38, 39] (by decide +kernel) (by decide +kernel)
set_option maxRecDepth 20000 in
theorem gX11_untell_X11_error : GoodIn wsX11_untell (wsV RX11 89 RX11 yX11_error wsX11_error) := goodIn_app (goodIn_of _ (by decide +kernel)) ggX11_untell_X11_error
set_option maxRecDepth 20000 in
theorem ggX11_untell_X7_law : GoodIn wsX11_untell wsX7_law := goodIn_r _ [15, 16, 17, 50, 51, 52, 53, 54, 55, 56, 57, 58, 59, 60, 61] (by decide +kernel) (by decide +kernel)
set_option maxRecDepth 20000 in
theorem gX11_untell_X7_law_n137 : GoodIn wsX11_untell (wsX7_law) := ggX11_untell_X7_law
set_option maxRecDepth 20000 in
theorem ggX11_untell_X4_isTold : GoodIn wsX11_untell wsX4_isTold := goodIn_r _ [21, 22, 40, 41, 42, 43, 44, 45, 46, 47, 48, 49] (by decide +kernel) (by decide +kernel)
set_option maxRecDepth 20000 in
theorem gX11_untell_X4_isTold_n147 : GoodIn wsX11_untell (wsX4_isTold) := ggX11_untell_X4_isTold
set_option maxRecDepth 20000 in
theorem ggX11_basket_X11_isSheet : GoodIn wsX11_basket wsX11_isSheet := goodIn_r _ [6, 7, 8, 5, 9] (by decide +kernel) (by decide +kernel)
set_option maxRecDepth 20000 in
theorem gX11_basket_X11_isSheet : GoodIn wsX11_basket (va_wsS RX11 154 yX11_isSheet wsX11_isSheet) := goodIn_app (goodIn_of _ (by decide +kernel)) ggX11_basket_X11_isSheet
set_option maxRecDepth 20000 in
theorem ggX11_basket_X11_within : GoodIn wsX11_basket wsX11_within := goodIn_r _ [9] (by decide +kernel) (by decide +kernel)
set_option maxRecDepth 20000 in
theorem gX11_basket_X11_within : GoodIn wsX11_basket (va_wsS RX11 81 yX11_within wsX11_within) := goodIn_app (goodIn_of _ (by decide +kernel)) ggX11_basket_X11_within
set_option maxRecDepth 20000 in
theorem ggX11_basket_X11_error : GoodIn wsX11_basket wsX11_error := goodIn_r _ [13, 14, 15, 7, 8, 5, 9, 45, 46, 47, 48, 49, 50, 51, 52, 53, 54, 55, 56, 57, 58, 59, 60, 61] (by decide +kernel) (by decide +kernel)
set_option maxRecDepth 20000 in
theorem gX11_basket_X11_error : GoodIn wsX11_basket (wsV RX11 89 RX11 yX11_error wsX11_error) := goodIn_app (goodIn_of _ (by decide +kernel)) ggX11_basket_X11_error
set_option maxRecDepth 20000 in
theorem ggX11_basket_X11_refusal_ : GoodIn wsX11_basket wsX11_refusal_ := goodIn_r _ [19, 1, 20, 21, 22, 5, 23, 24, 25, 26, 27, 28, 29, 30, 2, 31, 32, 33, 34, 35, 36, 37, 7, 8, 9, 38, 39, 40, 41, 42, 43, 44, 45, 46, 47, 48, 49, 50, 51, 52, 53, 54, 55, 56, 57, 58, 59, 60, 61, 62, 63, 64, 65, 66, 67, 68, 69, 70, 71, 72, 73, 74, 75, 76] (by decide +kernel) (by decide +kernel)
set_option maxRecDepth 20000 in
theorem gX11_basket_X11_refusal_ : GoodIn wsX11_basket (wsV RX11 157 RX11 yX11_refusal_ wsX11_refusal_) := goodIn_app (goodIn_of _ (by decide +kernel)) ggX11_basket_X11_refusal_
set_option maxRecDepth 20000 in
theorem ggX11_basket_X0_sumBy : GoodIn wsX11_basket wsX0_sumBy := goodIn_r _ [44, 35, 62, 63, 64] (by decide +kernel) (by decide +kernel)
set_option maxRecDepth 20000 in
theorem gX11_basket_X0_sumBy_n166 : GoodIn wsX11_basket (wsX0_sumBy) := ggX11_basket_X0_sumBy
set_option maxRecDepth 20000 in
theorem ggX11_pays_X11_refusal : GoodIn wsX11_pays wsX11_refusal := goodIn_r _ [7, 8, 9, 6, 10, 11, 12, 13, 14, 15, 16, 17, 18, 19, 20, 2, 21, 22, 23, 24, 25, 26, 27, 28, 29, 30, 31, 1, 32, 33, 34, 35, 36, 37, 38, 39, 40, 41, 42, 43, 44, 45, 134, 135, 136, 137, 138, 139, 140, 141, 142, 143, 144, 145, 146, 147, 148, 149, 150, 151, 152, 153, 154, 155, 156, 157, 158, 159, 160, 161, 162, 163, 164, 165] (by decide +kernel) (by decide +kernel)
set_option maxRecDepth 20000 in
theorem gX11_pays_X11_refusal : GoodIn wsX11_pays (wsV RX11 170 RX11 yX11_refusal wsX11_refusal) := goodIn_app (goodIn_of _ (by decide +kernel)) ggX11_pays_X11_refusal
set_option maxRecDepth 20000 in
theorem ggX11_pays_X11_error : GoodIn wsX11_pays wsX11_error := goodIn_r _ [49, 50, 51, 11, 12, 6, 13, 134, 135, 136, 137, 138, 139, 140, 141, 142, 143, 144, 145, 146, 147, 148, 149, 150] (by decide +kernel) (by decide +kernel)
set_option maxRecDepth 20000 in
theorem gX11_pays_X11_error : GoodIn wsX11_pays (wsV RX11 89 RX11 yX11_error wsX11_error) := goodIn_app (goodIn_of _ (by decide +kernel)) ggX11_pays_X11_error
set_option maxRecDepth 20000 in
theorem ggX11_pays_X7_paid : GoodIn wsX11_pays wsX7_paid := goodIn_r _ [55, 56, 57, 58, 59, 60, 61, 62, 63, 64, 65, 66, 67, 6, 68, 69, 70, 71, 72, 73, 74, 75, 76, 77, 78, 79, 80, 81, 82, 83, 84, 85, 86, 87, 88, 89, 90, 91, 92, 93, 94, 95, 96, 97, 98, 99, 100, 101, 102, 103, 104, 105, 106, 107, 108, 109, 110, 111, 112, 113, 114, 115, 116, 117, 118, 119, 120, 121, 122, 123, 124, 125, 126, 127, 128, 129, 130, 131, 132, 133, 154, 155, 156, 157, 158, 159, 160, 161, 162, 163, 164, 165, 166, 167, 168, 169, 170, 171, 172, 173, 174, 175, 176, 177, 178, 179, 180, 181, 182, 183, 184, 185, 186, 187, 188, 189] (by decide +kernel) (by decide +kernel)
set_option maxRecDepth 20000 in
theorem gX11_pays_X7_paid_n127 : GoodIn wsX11_pays (wsX7_paid) := ggX11_pays_X7_paid
set_option maxRecDepth 20000 in
theorem ggX11_go_X11_refusal : GoodIn wsX11_go wsX11_refusal := goodIn_r _ [7, 8, 9, 6, 10, 11, 12, 13, 14, 15, 16, 17, 18, 19, 20, 2, 21, 22, 23, 24, 25, 26, 27, 28, 29, 30, 31, 1, 32, 33, 34, 35, 36, 37, 38, 39, 40, 41, 42, 43, 44, 45, 147, 148, 149, 150, 151, 152, 153, 154, 155, 156, 157, 158, 159, 160, 161, 162, 163, 164, 165, 166, 167, 168, 169, 170, 171, 172, 173, 174, 175, 176, 177, 178] (by decide +kernel) (by decide +kernel)
set_option maxRecDepth 20000 in
theorem gX11_go_X11_refusal : GoodIn wsX11_go (wsV RX11 170 RX11 yX11_refusal wsX11_refusal) := goodIn_app (goodIn_of _ (by decide +kernel)) ggX11_go_X11_refusal
set_option maxRecDepth 20000 in
theorem ggX11_go_X11_error : GoodIn wsX11_go wsX11_error := goodIn_r _ [49, 50, 51, 11, 12, 6, 13, 147, 148, 149, 150, 151, 152, 153, 154, 155, 156, 157, 158, 159, 160, 161, 162, 163] (by decide +kernel) (by decide +kernel)
set_option maxRecDepth 20000 in
theorem gX11_go_X11_error : GoodIn wsX11_go (wsV RX11 89 RX11 yX11_error wsX11_error) := goodIn_app (goodIn_of _ (by decide +kernel)) ggX11_go_X11_error
set_option maxRecDepth 20000 in
theorem ggX11_go_X7_hasStock : GoodIn wsX11_go wsX7_hasStock := goodIn_r _ [55, 56, 167, 168, 169, 170, 171, 172, 173, 174, 175, 176, 177, 178, 164, 165, 166] (by decide +kernel) (by decide +kernel)
set_option maxRecDepth 20000 in
theorem gX11_go_X7_hasStock_n172 : GoodIn wsX11_go (wsX7_hasStock) := ggX11_go_X7_hasStock
set_option maxRecDepth 20000 in
theorem ggX11_go_X7_sold : GoodIn wsX11_go wsX7_sold := goodIn_r _ [59, 56, 60, 61, 62, 63, 64, 65, 66, 67, 68, 69, 70, 53, 71, 72, 73, 74, 75, 76, 77, 78, 79, 80, 81, 82, 83, 6, 84, 85, 86, 87, 88, 89, 90, 91, 92, 93, 94, 95, 96, 97, 98, 99, 100, 101, 102, 103, 104, 105, 106, 107, 108, 109, 110, 111, 112, 113, 114, 115, 116, 117, 118, 119, 120, 121, 122, 123, 124, 125, 126, 127, 128, 129, 130, 131, 132, 133, 134, 135, 136, 137, 138, 139, 140, 141, 142, 143, 144, 145, 146, 43, 33, 44, 45, 36, 164, 165, 166, 167, 168, 169, 170, 171, 172, 173, 174, 175, 176, 177, 178, 179, 180, 181, 182, 183, 184, 185, 186, 187, 188, 189, 190, 191, 192, 193, 194, 195, 196, 197, 198, 199, 200, 201, 202] (by decide +kernel) (by decide +kernel)
set_option maxRecDepth 20000 in
theorem gX11_go_X7_sold_n176 : GoodIn wsX11_go (wsX7_sold) := ggX11_go_X7_sold
set_option maxRecDepth 20000 in
theorem ggX11_draws_X11_within : GoodIn wsX11_draws wsX11_within := goodIn_r _ [6] (by decide +kernel) (by decide +kernel)
set_option maxRecDepth 20000 in
theorem gX11_draws_X11_within : GoodIn wsX11_draws (va_wsS RX11 81 yX11_within wsX11_within) := goodIn_app (goodIn_of _ (by decide +kernel)) ggX11_draws_X11_within
set_option maxRecDepth 20000 in
theorem ggX11_draws_X11_error : GoodIn wsX11_draws wsX11_error := goodIn_r _ [10, 11, 12, 3, 4, 5, 6, 127, 128, 129, 130, 131, 132, 133, 134, 135, 136, 137, 138, 139, 140, 141, 142, 143] (by decide +kernel) (by decide +kernel)
set_option maxRecDepth 20000 in
theorem gX11_draws_X11_error : GoodIn wsX11_draws (wsV RX11 89 RX11 yX11_error wsX11_error) := goodIn_app (goodIn_of _ (by decide +kernel)) ggX11_draws_X11_error
set_option maxRecDepth 20000 in
theorem ggX11_draws_X7_drawn : GoodIn wsX11_draws wsX7_drawn := goodIn_r _ [16, 17, 18, 147, 148, 149, 150, 151, 152, 153, 154, 155, 156, 157, 158] (by decide +kernel) (by decide +kernel)
set_option maxRecDepth 20000 in
theorem gX11_draws_X7_drawn_n180 : GoodIn wsX11_draws (wsX7_drawn) := ggX11_draws_X7_drawn
set_option maxRecDepth 20000 in
theorem ggX11_draws_X0_clear : GoodIn wsX11_draws wsX0_clear := goodIn_r _ [22, 23, 24, 25, 144, 145, 146] (by decide +kernel) (by decide +kernel)
set_option maxRecDepth 20000 in
theorem gX11_draws_X0_clear_n183 : GoodIn wsX11_draws (wsX0_clear) := ggX11_draws_X0_clear
set_option maxRecDepth 20000 in
theorem ggX11_draws_X0_add : GoodIn wsX11_draws wsX0_add := goodIn_r _ [28, 24, 23, 25, 29, 30, 31, 20, 32, 144, 145, 146] (by decide +kernel) (by decide +kernel)
set_option maxRecDepth 20000 in
theorem gX11_draws_X0_add_n189 : GoodIn wsX11_draws (wsX0_add) := ggX11_draws_X0_add
set_option maxRecDepth 20000 in
theorem ggX11_draws_X7_hasStock : GoodIn wsX11_draws wsX7_hasStock := goodIn_r _ [35, 36, 147, 148, 149, 150, 151, 152, 153, 154, 155, 156, 157, 158, 144, 145, 146] (by decide +kernel) (by decide +kernel)
set_option maxRecDepth 20000 in
theorem gX11_draws_X7_hasStock_n172 : GoodIn wsX11_draws (wsX7_hasStock) := ggX11_draws_X7_hasStock
set_option maxRecDepth 20000 in
theorem ggX11_draws_X7_sold : GoodIn wsX11_draws wsX7_sold := goodIn_r _ [39, 36, 40, 41, 42, 43, 44, 45, 46, 47, 48, 49, 50, 14, 51, 52, 53, 54, 55, 56, 57, 58, 59, 60, 61, 62, 63, 5, 64, 65, 66, 67, 68, 69, 70, 71, 72, 73, 74, 75, 76, 77, 78, 79, 80, 81, 82, 83, 84, 85, 86, 87, 88, 89, 90, 91, 92, 93, 94, 95, 96, 97, 98, 99, 100, 101, 102, 103, 104, 105, 106, 107, 108, 109, 110, 111, 112, 113, 114, 115, 116, 117, 118, 119, 120, 121, 122, 123, 124, 125, 126, 30, 20, 31, 32, 23, 144, 145, 146, 147, 148, 149, 150, 151, 152, 153, 154, 155, 156, 157, 158, 159, 160, 161, 162, 163, 164, 165, 166, 167, 168, 169, 170, 171, 172, 173, 174, 175, 176, 177, 178, 179, 180, 181, 182] (by decide +kernel) (by decide +kernel)
set_option maxRecDepth 20000 in
theorem gX11_draws_X7_sold_n176 : GoodIn wsX11_draws (wsX7_sold) := ggX11_draws_X7_sold
set_option maxRecDepth 20000 in
theorem ggX11_more_X11_within : GoodIn wsX11_more wsX11_within := goodIn_r _ [7] (by decide +kernel) (by decide +kernel)
set_option maxRecDepth 20000 in
theorem gX11_more_X11_within : GoodIn wsX11_more (va_wsS RX11 81 yX11_within wsX11_within) := goodIn_app (goodIn_of _ (by decide +kernel)) ggX11_more_X11_within
set_option maxRecDepth 20000 in
theorem ggX11_more_X11_error : GoodIn wsX11_more wsX11_error := goodIn_r _ [11, 12, 13, 4, 5, 6, 7, 160, 161, 162, 163, 164, 165, 166, 167, 168, 169, 170, 171, 172, 173, 174, 175, 176] (by decide +kernel) (by decide +kernel)
set_option maxRecDepth 20000 in
theorem gX11_more_X11_error : GoodIn wsX11_more (wsV RX11 89 RX11 yX11_error wsX11_error) := goodIn_app (goodIn_of _ (by decide +kernel)) ggX11_more_X11_error
set_option maxRecDepth 20000 in
theorem ggX11_more_X11_refusal : GoodIn wsX11_more wsX11_refusal := goodIn_r _ [17, 18, 19, 6, 20, 4, 5, 7, 21, 22, 23, 24, 25, 26, 27, 28, 29, 30, 31, 32, 33, 34, 35, 36, 37, 38, 39, 40, 41, 42, 43, 44, 45, 46, 47, 48, 49, 50, 51, 52, 53, 54, 160, 161, 162, 163, 164, 165, 166, 167, 168, 169, 170, 171, 172, 173, 174, 175, 176, 177, 178, 179, 180, 181, 182, 183, 184, 185, 186, 187, 188, 189, 190, 191] (by decide +kernel) (by decide +kernel)
set_option maxRecDepth 20000 in
theorem gX11_more_X11_refusal : GoodIn wsX11_more (wsV RX11 170 RX11 yX11_refusal wsX11_refusal) := goodIn_app (goodIn_of _ (by decide +kernel)) ggX11_more_X11_refusal
set_option maxRecDepth 20000 in
theorem ggX11_more_X11_findCheapest : GoodIn wsX11_more wsX11_findCheapest := goodIn_r _ [58, 59, 28, 60, 40, 61, 62, 63, 64, 65, 1, 2, 3, 66, 67, 68, 69, 70, 71, 72, 73, 74, 75, 76, 77, 78, 79, 80, 81, 82, 83, 84, 85, 86, 87, 88, 89, 6, 90, 91, 92, 93, 41, 42, 43, 44, 45, 46, 47, 94, 95, 96, 97, 98, 99, 100, 101, 102, 103, 104, 105, 106, 107, 108, 109, 110, 111, 112, 113, 114, 115, 116, 117, 118, 119, 120, 121, 122, 123, 124, 125, 126, 127, 128, 129, 130, 131, 132, 133, 134, 135, 136, 137, 138, 139, 140, 141, 142, 143, 144, 145, 146, 147, 148, 149, 150, 151, 152, 153, 154, 155, 156, 157, 158, 159, 52, 53, 54, 160, 161, 162, 163, 164, 165, 166, 167, 168, 169, 170, 171, 172, 173, 174, 175, 176, 177, 178, 179, 180, 181, 182, 183, 184, 185, 186, 187, 188, 189, 190, 191, 192, 193, 194, 195, 196, 197, 198, 199, 200, 201, 202, 203, 204, 205, 206, 207, 208, 209, 210, 211, 212, 213, 214, 215] (by decide +kernel) (by decide +kernel)
set_option maxRecDepth 20000 in
theorem gX11_more_X11_findCheapest : GoodIn wsX11_more (wsV RX11 196 RX11 yX11_findCheapest wsX11_findCheapest) := goodIn_app (goodIn_of _ (by decide +kernel)) ggX11_more_X11_findCheapest
set_option maxRecDepth 20000 in
theorem ggX11_inTwo_X11_refusal : GoodIn wsX11_inTwo wsX11_refusal := goodIn_r _ [13, 14, 15, 12, 16, 17, 18, 19, 20, 21, 22, 23, 24, 25, 26, 3, 27, 28, 29, 30, 31, 32, 33, 34, 35, 36, 37, 2, 38, 39, 40, 41, 42, 43, 44, 45, 46, 47, 48, 49, 50, 51, 139, 140, 141, 142, 143, 144, 145, 146, 147, 148, 149, 150, 151, 152, 153, 154, 155, 156, 157, 158, 159, 160, 161, 162, 163, 164, 165, 166, 167, 168, 169, 170] (by decide +kernel) (by decide +kernel)
set_option maxRecDepth 20000 in
theorem gX11_inTwo_X11_refusal : GoodIn wsX11_inTwo (wsV RX11 170 RX11 yX11_refusal wsX11_refusal) := goodIn_app (goodIn_of _ (by decide +kernel)) ggX11_inTwo_X11_refusal
set_option maxRecDepth 20000 in
theorem ggX11_inTwo_X11_error : GoodIn wsX11_inTwo wsX11_error := goodIn_r _ [55, 56, 57, 17, 18, 12, 19, 139, 140, 141, 142, 143, 144, 145, 146, 147, 148, 149, 150, 151, 152, 153, 154, 155] (by decide +kernel) (by decide +kernel)
set_option maxRecDepth 20000 in
theorem gX11_inTwo_X11_error : GoodIn wsX11_inTwo (wsV RX11 89 RX11 yX11_error wsX11_error) := goodIn_app (goodIn_of _ (by decide +kernel)) ggX11_inTwo_X11_error
set_option maxRecDepth 20000 in
theorem ggX11_inTwo_X0_clear : GoodIn wsX11_inTwo wsX0_clear := goodIn_r _ [41, 42, 43, 44, 156, 157, 158] (by decide +kernel) (by decide +kernel)
set_option maxRecDepth 20000 in
theorem gX11_inTwo_X0_clear_n183 : GoodIn wsX11_inTwo (wsX0_clear) := ggX11_inTwo_X0_clear
set_option maxRecDepth 20000 in
theorem ggX11_inTwo_X7_paid : GoodIn wsX11_inTwo wsX7_paid := goodIn_r _ [61, 62, 63, 64, 65, 66, 67, 68, 69, 70, 71, 72, 73, 12, 74, 75, 76, 77, 78, 79, 80, 81, 82, 83, 7, 84, 85, 86, 87, 88, 89, 90, 91, 92, 93, 94, 95, 96, 97, 98, 99, 100, 101, 102, 103, 104, 105, 106, 107, 108, 109, 110, 111, 112, 113, 114, 115, 116, 117, 118, 119, 120, 121, 122, 123, 124, 125, 126, 127, 128, 129, 130, 131, 132, 133, 134, 5, 6, 8, 135, 159, 160, 161, 162, 163, 164, 165, 166, 167, 168, 169, 170, 171, 172, 173, 174, 175, 176, 177, 178, 179, 180, 181, 182, 183, 184, 185, 186, 187, 188, 189, 190, 191, 192, 193, 194] (by decide +kernel) (by decide +kernel)
set_option maxRecDepth 20000 in
theorem gX11_inTwo_X7_paid_n127 : GoodIn wsX11_inTwo (wsX7_paid) := ggX11_inTwo_X7_paid
set_option maxRecDepth 20000 in
theorem ggX11_inTwo_X0_step : GoodIn wsX11_inTwo wsX0_step := goodIn_r _ [138, 42, 43, 44, 156, 157, 158] (by decide +kernel) (by decide +kernel)
set_option maxRecDepth 20000 in
theorem gX11_inTwo_X0_step_n201 : GoodIn wsX11_inTwo (wsX0_step) := ggX11_inTwo_X0_step
set_option maxRecDepth 20000 in
theorem ggX11_together_X11_isSheet : GoodIn wsX11_together wsX11_isSheet := goodIn_r _ [7, 8, 9, 6, 10] (by decide +kernel) (by decide +kernel)
set_option maxRecDepth 20000 in
theorem gX11_together_X11_isSheet : GoodIn wsX11_together (va_wsS RX11 154 yX11_isSheet wsX11_isSheet) := goodIn_app (goodIn_of _ (by decide +kernel)) ggX11_together_X11_isSheet
set_option maxRecDepth 20000 in
theorem ggX11_together_X11_isTill : GoodIn wsX11_together wsX11_isTill := goodIn_r _ [13, 8, 9, 6, 10] (by decide +kernel) (by decide +kernel)
set_option maxRecDepth 20000 in
theorem gX11_together_X11_isTill : GoodIn wsX11_together (va_wsS RX11 99 yX11_isTill wsX11_isTill) := goodIn_app (goodIn_of _ (by decide +kernel)) ggX11_together_X11_isTill
set_option maxRecDepth 20000 in
theorem ggX11_together_X11_error : GoodIn wsX11_together wsX11_error := goodIn_r _ [17, 18, 19, 8, 9, 6, 10, 127, 128, 129, 130, 131, 132, 133, 134, 135, 136, 137, 138, 139, 140, 141, 142, 143] (by decide +kernel) (by decide +kernel)
set_option maxRecDepth 20000 in
theorem gX11_together_X11_error : GoodIn wsX11_together (wsV RX11 89 RX11 yX11_error wsX11_error) := goodIn_app (goodIn_of _ (by decide +kernel)) ggX11_together_X11_error
set_option maxRecDepth 20000 in
theorem ggX11_together_X11_isMissing : GoodIn wsX11_together wsX11_isMissing := goodIn_r _ [23, 24, 127, 128, 129, 130, 131, 132, 133, 134, 135, 136, 137, 138, 139, 140, 141, 142, 143] (by decide +kernel) (by decide +kernel)
set_option maxRecDepth 20000 in
theorem gX11_together_X11_isMissing : GoodIn wsX11_together (wsV RX11 210 RX11 yX11_isMissing wsX11_isMissing) := goodIn_app (goodIn_of _ (by decide +kernel)) ggX11_together_X11_isMissing
set_option maxRecDepth 20000 in
theorem ggX11_together_X11_reads : GoodIn wsX11_together wsX11_reads := goodIn_r _ [28, 29, 30, 3, 31, 32, 33, 34, 35, 36, 37, 8, 9, 6, 10, 38, 39, 40, 41, 42, 43, 44, 127, 128, 129, 130, 131, 132, 133, 134, 135, 136, 137, 138, 139, 140, 141, 142, 143, 144, 145, 146, 147, 148, 149, 150, 151, 152, 153, 154, 155, 156, 157, 158] (by decide +kernel) (by decide +kernel)
set_option maxRecDepth 20000 in
theorem gX11_together_X11_reads : GoodIn wsX11_together (wsV RX11 213 RX11 yX11_reads wsX11_reads) := goodIn_app (goodIn_of _ (by decide +kernel)) ggX11_together_X11_reads
set_option maxRecDepth 20000 in
theorem ggX11_together_X7_paid : GoodIn wsX11_together wsX7_paid := goodIn_r _ [48, 49, 50, 51, 52, 53, 54, 55, 56, 57, 58, 59, 60, 6, 61, 62, 63, 64, 65, 66, 67, 68, 69, 70, 71, 72, 73, 74, 75, 76, 77, 78, 79, 80, 81, 82, 83, 84, 85, 86, 87, 88, 89, 90, 91, 92, 93, 94, 95, 96, 97, 98, 99, 100, 101, 102, 103, 104, 105, 106, 107, 108, 109, 110, 111, 112, 113, 114, 115, 116, 117, 118, 119, 120, 121, 122, 123, 124, 125, 126, 147, 148, 149, 150, 151, 152, 153, 154, 155, 156, 157, 158, 159, 160, 161, 162, 163, 164, 165, 166, 167, 168, 169, 170, 171, 172, 173, 174, 175, 176, 177, 178, 179, 180, 181, 182] (by decide +kernel) (by decide +kernel)
set_option maxRecDepth 20000 in
theorem gX11_together_X7_paid_n127 : GoodIn wsX11_together (wsX7_paid) := ggX11_together_X7_paid
set_option maxRecDepth 20000 in
theorem ggX11_worth_X11_isThing : GoodIn wsX11_worth wsX11_isThing := goodIn_r _ [6, 7, 8, 5, 9] (by decide +kernel) (by decide +kernel)
set_option maxRecDepth 20000 in
theorem gX11_worth_X11_isThing : GoodIn wsX11_worth (va_wsS RX11 77 yX11_isThing wsX11_isThing) := goodIn_app (goodIn_of _ (by decide +kernel)) ggX11_worth_X11_isThing
set_option maxRecDepth 20000 in
theorem ggX11_worth_X11_error : GoodIn wsX11_worth wsX11_error := goodIn_r _ [13, 14, 15, 7, 8, 5, 9, 137, 138, 139, 140, 141, 142, 143, 144, 145, 146, 147, 148, 149, 150, 151, 152, 153] (by decide +kernel) (by decide +kernel)
set_option maxRecDepth 20000 in
theorem gX11_worth_X11_error : GoodIn wsX11_worth (wsV RX11 89 RX11 yX11_error wsX11_error) := goodIn_app (goodIn_of _ (by decide +kernel)) ggX11_worth_X11_error
set_option maxRecDepth 20000 in
theorem ggX11_worth_X11_refusal : GoodIn wsX11_worth wsX11_refusal := goodIn_r _ [19, 20, 21, 5, 22, 7, 8, 9, 23, 24, 25, 26, 27, 28, 29, 2, 30, 31, 32, 33, 34, 35, 36, 37, 38, 39, 40, 1, 41, 42, 43, 44, 45, 46, 47, 48, 49, 50, 51, 52, 53, 54, 137, 138, 139, 140, 141, 142, 143, 144, 145, 146, 147, 148, 149, 150, 151, 152, 153, 154, 155, 156, 157, 158, 159, 160, 161, 162, 163, 164, 165, 166, 167, 168] (by decide +kernel) (by decide +kernel)
set_option maxRecDepth 20000 in
theorem gX11_worth_X11_refusal : GoodIn wsX11_worth (wsV RX11 170 RX11 yX11_refusal wsX11_refusal) := goodIn_app (goodIn_of _ (by decide +kernel)) ggX11_worth_X11_refusal
set_option maxRecDepth 20000 in
theorem ggX11_worth_X7_paid : GoodIn wsX11_worth wsX7_paid := goodIn_r _ [58, 59, 60, 61, 62, 63, 64, 65, 66, 67, 68, 69, 70, 5, 71, 72, 73, 74, 75, 76, 77, 78, 79, 80, 81, 82, 83, 84, 85, 86, 87, 88, 89, 90, 91, 92, 93, 94, 95, 96, 97, 98, 99, 100, 101, 102, 103, 104, 105, 106, 107, 108, 109, 110, 111, 112, 113, 114, 115, 116, 117, 118, 119, 120, 121, 122, 123, 124, 125, 126, 127, 128, 129, 130, 131, 132, 133, 134, 135, 136, 157, 158, 159, 160, 161, 162, 163, 164, 165, 166, 167, 168, 169, 170, 171, 172, 173, 174, 175, 176, 177, 178, 179, 180, 181, 182, 183, 184, 185, 186, 187, 188, 189, 190, 191, 192] (by decide +kernel) (by decide +kernel)
set_option maxRecDepth 20000 in
theorem gX11_worth_X7_paid_n127 : GoodIn wsX11_worth (wsX7_paid) := ggX11_worth_X7_paid
set_option maxRecDepth 20000 in
theorem ggX11_dearer_X11_within : GoodIn wsX11_dearer wsX11_within := goodIn_r _ [5] (by decide +kernel) (by decide +kernel)
set_option maxRecDepth 20000 in
theorem gX11_dearer_X11_within : GoodIn wsX11_dearer (va_wsS RX11 81 yX11_within wsX11_within) := goodIn_app (goodIn_of _ (by decide +kernel)) ggX11_dearer_X11_within
set_option maxRecDepth 20000 in
theorem ggX11_dearer_X11_error : GoodIn wsX11_dearer wsX11_error := goodIn_r _ [9, 10, 11, 2, 3, 4, 5, 169, 170, 171, 172, 173, 174, 175, 176, 177, 178, 179, 180, 181, 182, 183, 184, 185] (by decide +kernel) (by decide +kernel)
set_option maxRecDepth 20000 in
theorem gX11_dearer_X11_error : GoodIn wsX11_dearer (wsV RX11 89 RX11 yX11_error wsX11_error) := goodIn_app (goodIn_of _ (by decide +kernel)) ggX11_dearer_X11_error
set_option maxRecDepth 20000 in
theorem ggX11_dearer_X11_refusal : GoodIn wsX11_dearer wsX11_refusal := goodIn_r _ [15, 16, 17, 4, 18, 2, 3, 5, 19, 20, 21, 22, 23, 24, 25, 26, 27, 28, 29, 30, 31, 32, 33, 34, 35, 36, 37, 38, 39, 40, 41, 42, 43, 44, 45, 46, 47, 48, 49, 50, 51, 52, 169, 170, 171, 172, 173, 174, 175, 176, 177, 178, 179, 180, 181, 182, 183, 184, 185, 186, 187, 188, 189, 190, 191, 192, 193, 194, 195, 196, 197, 198, 199, 200] (by decide +kernel) (by decide +kernel)
set_option maxRecDepth 20000 in
theorem gX11_dearer_X11_refusal : GoodIn wsX11_dearer (wsV RX11 170 RX11 yX11_refusal wsX11_refusal) := goodIn_app (goodIn_of _ (by decide +kernel)) ggX11_dearer_X11_refusal
set_option maxRecDepth 20000 in
theorem ggX11_dearer_X11_findCheapest : GoodIn wsX11_dearer wsX11_findCheapest := goodIn_r _ [56, 57, 26, 58, 38, 59, 60, 61, 62, 63, 64, 1, 65, 66, 67, 68, 69, 70, 71, 72, 73, 74, 75, 76, 77, 78, 79, 80, 81, 82, 83, 84, 85, 86, 87, 88, 89, 4, 90, 91, 92, 93, 39, 40, 41, 42, 43, 44, 45, 94, 95, 96, 97, 98, 99, 100, 101, 102, 103, 104, 105, 106, 107, 108, 109, 110, 111, 112, 113, 114, 115, 116, 117, 118, 119, 120, 121, 122, 123, 124, 125, 126, 127, 128, 129, 130, 131, 132, 133, 134, 135, 136, 137, 138, 139, 140, 141, 142, 143, 144, 145, 146, 147, 148, 149, 150, 151, 152, 153, 154, 155, 156, 157, 158, 159, 50, 51, 52, 169, 170, 171, 172, 173, 174, 175, 176, 177, 178, 179, 180, 181, 182, 183, 184, 185, 186, 187, 188, 189, 190, 191, 192, 193, 194, 195, 196, 197, 198, 199, 200, 201, 202, 203, 204, 205, 206, 207, 208, 209, 210, 211, 212, 213, 214, 215, 216, 217, 218, 219, 220, 221, 222, 223, 224] (by decide +kernel) (by decide +kernel)
set_option maxRecDepth 20000 in
theorem gX11_dearer_X11_findCheapest : GoodIn wsX11_dearer (wsV RX11 196 RX11 yX11_findCheapest wsX11_findCheapest) := goodIn_app (goodIn_of _ (by decide +kernel)) ggX11_dearer_X11_findCheapest
set_option maxRecDepth 20000 in
theorem ggX11_dearer_X11_paidIfDearer : GoodIn wsX11_dearer wsX11_paidIfDearer := goodIn_r _ [163, 38, 26, 1, 164, 165, 4, 166, 167, 168, 2, 3, 5, 46, 40, 47, 48, 44, 43, 45, 49, 50, 51, 52, 53, 54, 55, 56, 57, 58, 59, 60, 61, 62, 63, 64, 65, 66, 67, 68, 69, 70, 71, 72, 73, 74, 75, 76, 77, 78, 79, 80, 81, 82, 83, 84, 85, 86, 87, 88, 89, 90, 91, 92, 93, 39, 41, 42, 94, 95, 96, 97, 98, 99, 100, 101, 102, 103, 104, 105, 106, 107, 108, 109, 110, 111, 112, 113, 114, 115, 116, 117, 118, 119, 120, 121, 122, 123, 124, 125, 126, 127, 128, 129, 130, 131, 132, 133, 134, 135, 136, 137, 138, 139, 140, 141, 142, 143, 144, 145, 146, 147, 148, 149, 150, 151, 152, 153, 154, 155, 156, 157, 158, 159, 169, 170, 171, 172, 173, 174, 175, 176, 177, 178, 179, 180, 181, 182, 183, 184, 185, 189, 190, 191, 192, 193, 194, 195, 196, 197, 198, 199, 200, 186, 187, 188, 201, 202, 203, 204, 205, 206, 207, 208, 209, 210, 211, 212, 213, 214, 215, 216, 217, 218, 219, 220, 221, 222, 223, 224] (by decide +kernel) (by decide +kernel)
set_option maxRecDepth 20000 in
theorem gX11_dearer_X11_paidIfDearer : GoodIn wsX11_dearer (wsV RX11 217 RX11 yX11_paidIfDearer wsX11_paidIfDearer) := goodIn_app (goodIn_of _ (by decide +kernel)) ggX11_dearer_X11_paidIfDearer
set_option maxRecDepth 20000 in
theorem ggX11_nines_X11_within : GoodIn wsX11_nines wsX11_within := goodIn_r _ [4] (by decide +kernel) (by decide +kernel)
set_option maxRecDepth 20000 in
theorem gX11_nines_X11_within : GoodIn wsX11_nines (va_wsS RX11 81 yX11_within wsX11_within) := goodIn_app (goodIn_of _ (by decide +kernel)) ggX11_nines_X11_within
set_option maxRecDepth 20000 in
theorem ggX11_nines_X11_error : GoodIn wsX11_nines wsX11_error := goodIn_r _ [8, 9, 10, 1, 2, 3, 4, 119, 120, 121, 122, 123, 124, 125, 126, 127, 128, 129, 130, 131, 132, 133, 134, 135] (by decide +kernel) (by decide +kernel)
set_option maxRecDepth 20000 in
theorem gX11_nines_X11_error : GoodIn wsX11_nines (wsV RX11 89 RX11 yX11_error wsX11_error) := goodIn_app (goodIn_of _ (by decide +kernel)) ggX11_nines_X11_error
set_option maxRecDepth 20000 in
theorem ggX11_nines_X11_allByNine : GoodIn wsX11_nines wsX11_allByNine := goodIn_r _ [14, 15, 119, 120, 121, 122, 123, 124, 125, 126, 127, 128, 129, 130, 131, 132, 133, 134, 135, 136, 137, 138, 139, 140, 141, 142, 143, 144, 145, 146, 147] (by decide +kernel) (by decide +kernel)
set_option maxRecDepth 20000 in
theorem gX11_nines_X11_allByNine : GoodIn wsX11_nines (wsV RX11 221 RX11 yX11_allByNine wsX11_allByNine) := goodIn_app (goodIn_of _ (by decide +kernel)) ggX11_nines_X11_allByNine
set_option maxRecDepth 20000 in
theorem ggX11_nines_X11_leastOfFew : GoodIn wsX11_nines wsX11_leastOfFew := goodIn_r _ [19, 20, 21, 22, 15, 23, 24, 25, 26, 27, 28, 29, 3, 30, 31, 32, 33, 34, 35, 36, 37, 38, 39, 40, 41, 42, 43, 44, 45, 46, 47, 48, 49, 50, 51, 52, 53, 54, 55, 56, 57, 58, 59, 60, 61, 62, 63, 64, 65, 66, 67, 68, 69, 70, 71, 72, 73, 74, 75, 76, 77, 78, 79, 80, 81, 82, 83, 84, 85, 86, 87, 88, 89, 90, 91, 92, 93, 94, 95, 96, 97, 98, 99, 100, 101, 102, 103, 104, 105, 106, 107, 108, 109, 110, 111, 112, 113, 114, 115, 116, 117, 118, 119, 120, 121, 122, 123, 124, 125, 126, 127, 128, 129, 130, 131, 132, 133, 134, 135, 136, 137, 138, 139, 140, 141, 142, 143, 144, 145, 146, 147, 148, 149, 150, 151, 152, 153, 154, 155, 156, 157, 158, 159, 160, 161, 162, 163, 164, 165, 166, 167, 168, 169, 170, 171, 172, 173, 174] (by decide +kernel) (by decide +kernel)
set_option maxRecDepth 20000 in
theorem gX11_nines_X11_leastOfFew : GoodIn wsX11_nines (wsV RX11 224 RX11 yX11_leastOfFew wsX11_leastOfFew) := goodIn_app (goodIn_of _ (by decide +kernel)) ggX11_nines_X11_leastOfFew
set_option maxRecDepth 20000 in
theorem ggX11_erring_X11_within : GoodIn wsX11_erring wsX11_within := goodIn_r _ [4] (by decide +kernel) (by decide +kernel)
set_option maxRecDepth 20000 in
theorem gX11_erring_X11_within : GoodIn wsX11_erring (va_wsS RX11 81 yX11_within wsX11_within) := goodIn_app (goodIn_of _ (by decide +kernel)) ggX11_erring_X11_within
set_option maxRecDepth 20000 in
theorem ggX11_erring_X11_error : GoodIn wsX11_erring wsX11_error := goodIn_r _ [8, 9, 10, 1, 2, 3, 4, 142, 143, 144, 145, 146, 147, 148, 149, 150, 151, 152, 153, 154, 155, 156, 157, 158] (by decide +kernel) (by decide +kernel)
set_option maxRecDepth 20000 in
theorem gX11_erring_X11_error : GoodIn wsX11_erring (wsV RX11 89 RX11 yX11_error wsX11_error) := goodIn_app (goodIn_of _ (by decide +kernel)) ggX11_erring_X11_error
set_option maxRecDepth 20000 in
theorem ggX11_erring_X11_refusal : GoodIn wsX11_erring wsX11_refusal := goodIn_r _ [14, 15, 16, 3, 17, 1, 2, 4, 18, 19, 20, 21, 22, 23, 24, 25, 26, 27, 28, 29, 30, 31, 32, 33, 34, 35, 36, 37, 38, 39, 40, 41, 42, 43, 44, 45, 46, 47, 48, 49, 50, 51, 142, 143, 144, 145, 146, 147, 148, 149, 150, 151, 152, 153, 154, 155, 156, 157, 158, 159, 160, 161, 162, 163, 164, 165, 166, 167, 168, 169, 170, 171, 172, 173] (by decide +kernel) (by decide +kernel)
set_option maxRecDepth 20000 in
theorem gX11_erring_X11_refusal : GoodIn wsX11_erring (wsV RX11 170 RX11 yX11_refusal wsX11_refusal) := goodIn_app (goodIn_of _ (by decide +kernel)) ggX11_erring_X11_refusal
set_option maxRecDepth 20000 in
theorem ggX11_erring_X11_takenInCases : GoodIn wsX11_erring wsX11_takenInCases := goodIn_r _ [55, 25, 37, 56, 57, 58, 59, 60, 61, 62, 63, 64, 65, 66, 67, 68, 69, 70, 71, 3, 72, 73, 74, 75, 76, 77, 78, 79, 80, 81, 82, 83, 84, 85, 86, 87, 88, 89, 90, 91, 92, 93, 94, 95, 96, 97, 98, 99, 100, 101, 102, 103, 104, 105, 106, 107, 108, 109, 110, 111, 112, 113, 114, 115, 116, 117, 118, 119, 120, 121, 122, 123, 124, 125, 126, 127, 128, 129, 130, 131, 132, 133, 134, 135, 136, 137, 142, 143, 144, 145, 146, 147, 148, 149, 150, 151, 152, 153, 154, 155, 156, 157, 158, 159, 160, 161, 162, 163, 164, 165, 166, 167, 168, 169, 170, 171, 172, 173, 174, 175, 176, 177, 178, 179, 180, 181, 182, 183, 184, 185, 186, 187, 188, 189, 190, 191, 192, 193, 194, 195, 196, 197] (by decide +kernel) (by decide +kernel)
set_option maxRecDepth 20000 in
theorem gX11_erring_X11_takenInCases : GoodIn wsX11_erring (wsV RX11 227 RX11 yX11_takenInCases wsX11_takenInCases) := goodIn_app (goodIn_of _ (by decide +kernel)) ggX11_erring_X11_takenInCases
set_option maxRecDepth 20000 in
theorem ggX11_erring_X11_commonDivisor : GoodIn wsX11_erring wsX11_commonDivisor := goodIn_r _ [140, 141, 137, 81, 82, 83] (by decide +kernel) (by decide +kernel)
set_option maxRecDepth 20000 in
theorem gX11_erring_X11_commonDivisor : GoodIn wsX11_erring (va_wsS RX11 230 yX11_commonDivisor wsX11_commonDivisor) := goodIn_app (goodIn_of _ (by decide +kernel)) ggX11_erring_X11_commonDivisor
set_option maxRecDepth 20000 in
theorem ggX11_wasIn_X11_isTill : GoodIn wsX11_wasIn wsX11_isTill := goodIn_r _ [8, 9, 10, 7, 11] (by decide +kernel) (by decide +kernel)
set_option maxRecDepth 20000 in
theorem gX11_wasIn_X11_isTill : GoodIn wsX11_wasIn (va_wsS RX11 99 yX11_isTill wsX11_isTill) := goodIn_app (goodIn_of _ (by decide +kernel)) ggX11_wasIn_X11_isTill
set_option maxRecDepth 20000 in
theorem ggX11_wasIn_X11_within : GoodIn wsX11_wasIn wsX11_within := goodIn_r _ [11] (by decide +kernel) (by decide +kernel)
set_option maxRecDepth 20000 in
theorem gX11_wasIn_X11_within : GoodIn wsX11_wasIn (va_wsS RX11 81 yX11_within wsX11_within) := goodIn_app (goodIn_of _ (by decide +kernel)) ggX11_wasIn_X11_within
set_option maxRecDepth 20000 in
theorem ggX11_wasIn_X11_error : GoodIn wsX11_wasIn wsX11_error := goodIn_r _ [15, 16, 17, 9, 10, 7, 11, 117, 118, 119, 120, 121, 122, 123, 124, 125, 126, 127, 128, 129, 130, 131, 132, 133] (by decide +kernel) (by decide +kernel)
set_option maxRecDepth 20000 in
theorem gX11_wasIn_X11_error : GoodIn wsX11_wasIn (wsV RX11 89 RX11 yX11_error wsX11_error) := goodIn_app (goodIn_of _ (by decide +kernel)) ggX11_wasIn_X11_error
set_option maxRecDepth 20000 in
theorem ggX11_wasIn_X11_startFew : GoodIn wsX11_wasIn wsX11_startFew := goodIn_r _ [21, 2, 3, 22, 23, 24, 25, 26, 27, 28, 117, 118, 119, 120, 121, 122, 123, 124, 125, 126, 127, 128, 129, 130, 131, 132, 133, 146, 147, 148] (by decide +kernel) (by decide +kernel)
set_option maxRecDepth 20000 in
theorem gX11_wasIn_X11_startFew : GoodIn wsX11_wasIn (wsV RX11 233 RX11 yX11_startFew wsX11_startFew) := goodIn_app (goodIn_of _ (by decide +kernel)) ggX11_wasIn_X11_startFew
set_option maxRecDepth 20000 in
theorem ggX11_wasIn_X0_step : GoodIn wsX11_wasIn wsX0_step := goodIn_r _ [31, 26, 27, 28, 146, 147, 148] (by decide +kernel) (by decide +kernel)
set_option maxRecDepth 20000 in
theorem gX11_wasIn_X0_step_n201 : GoodIn wsX11_wasIn (wsX0_step) := ggX11_wasIn_X0_step
set_option maxRecDepth 20000 in
theorem ggX11_wasIn_X7_paid : GoodIn wsX11_wasIn wsX7_paid := goodIn_r _ [35, 36, 37, 38, 39, 40, 41, 42, 43, 44, 45, 46, 47, 7, 48, 49, 50, 51, 52, 53, 54, 55, 56, 57, 58, 59, 60, 61, 62, 63, 64, 65, 66, 67, 68, 69, 70, 71, 72, 73, 74, 75, 76, 77, 78, 79, 80, 81, 82, 83, 84, 85, 86, 87, 88, 89, 90, 91, 92, 93, 94, 95, 96, 97, 98, 99, 100, 101, 102, 103, 104, 105, 106, 107, 108, 109, 110, 111, 112, 113, 134, 135, 136, 137, 138, 139, 140, 141, 142, 143, 144, 145, 149, 150, 151, 152, 153, 154, 155, 156, 157, 158, 159, 160, 161, 162, 163, 164, 165, 166, 167, 168, 169, 170, 171, 172] (by decide +kernel) (by decide +kernel)
set_option maxRecDepth 20000 in
theorem gX11_wasIn_X7_paid_n127 : GoodIn wsX11_wasIn (wsX7_paid) := ggX11_wasIn_X7_paid
set_option maxRecDepth 20000 in
theorem ggX11_wasIn_X0_rowAsNumber : GoodIn wsX11_wasIn wsX0_rowAsNumber := goodIn_r _ [116, 26, 146, 147, 148] (by decide +kernel) (by decide +kernel)
set_option maxRecDepth 20000 in
theorem gX11_wasIn_X0_rowAsNumber_n236 : GoodIn wsX11_wasIn (wsX0_rowAsNumber) := ggX11_wasIn_X0_rowAsNumber
set_option maxRecDepth 20000 in
theorem ggX11_voice_X11_isTill : GoodIn wsX11_voice wsX11_isTill := goodIn_r _ [6, 7, 8, 5, 9] (by decide +kernel) (by decide +kernel)
set_option maxRecDepth 20000 in
theorem gX11_voice_X11_isTill : GoodIn wsX11_voice (va_wsS RX11 99 yX11_isTill wsX11_isTill) := goodIn_app (goodIn_of _ (by decide +kernel)) ggX11_voice_X11_isTill
set_option maxRecDepth 20000 in
theorem ggX11_voice_X11_within : GoodIn wsX11_voice wsX11_within := goodIn_r _ [9] (by decide +kernel) (by decide +kernel)
set_option maxRecDepth 20000 in
theorem gX11_voice_X11_within : GoodIn wsX11_voice (va_wsS RX11 81 yX11_within wsX11_within) := goodIn_app (goodIn_of _ (by decide +kernel)) ggX11_voice_X11_within
set_option maxRecDepth 20000 in
theorem ggX11_voice_X11_error : GoodIn wsX11_voice wsX11_error := goodIn_r _ [13, 14, 15, 7, 8, 5, 9, 132, 133, 134, 135, 136, 137, 138, 139, 140, 141, 142, 143, 144, 145, 146, 147, 148] (by decide +kernel) (by decide +kernel)
set_option maxRecDepth 20000 in
theorem gX11_voice_X11_error : GoodIn wsX11_voice (wsV RX11 89 RX11 yX11_error wsX11_error) := goodIn_app (goodIn_of _ (by decide +kernel)) ggX11_voice_X11_error
set_option maxRecDepth 20000 in
theorem ggX11_voice_X10_start : GoodIn wsX11_voice wsX10_start := goodIn_r _ [19, 20, 21, 161, 162, 163] (by decide +kernel) (by decide +kernel)
set_option maxRecDepth 20000 in
theorem gX11_voice_X10_start_n239 : GoodIn wsX11_voice (wsX10_start) := ggX11_voice_X10_start
set_option maxRecDepth 20000 in
theorem ggX11_voice_X8_adds : GoodIn wsX11_voice wsX8_adds := goodIn_r _ [27, 28, 29, 17, 30, 31, 20, 32, 164, 165, 166, 167, 168, 169, 170, 171, 172, 173, 174, 175, 176, 177, 161, 162, 163] (by decide +kernel) (by decide +kernel)
set_option maxRecDepth 20000 in
theorem gX11_voice_X8_adds_u242X1 : GoodIn wsX11_voice (va_wsU RX11 242 RX1 "FigureTill$Till" ⟨"FigureTill$Till", "adds", "(LFigureTill$Trace;I)I"⟩ yX8_adds wsX8_adds) := goodIn_app (goodIn_of _ (by decide +kernel)) ggX11_voice_X8_adds
set_option maxRecDepth 20000 in
theorem ggX11_voice_X2_adds : GoodIn wsX11_voice wsX2_adds := goodIn_r _ [37, 29, 17, 30, 31, 20, 32, 38, 39, 40, 41, 42, 43, 44, 23, 45, 25, 26, 27, 28, 161, 162, 163, 164, 165, 166, 167, 168, 169, 170, 171, 172, 173, 174, 175, 176, 177] (by decide +kernel) (by decide +kernel)
set_option maxRecDepth 20000 in
theorem gX11_voice_X2_adds_u242X2 : GoodIn wsX11_voice (va_wsO RX11 242 RX2 "FigureTill$Till" ⟨"FigureTill$Till", "adds", "(LFigureTill$Trace;I)I"⟩ yX2_adds wsX2_adds) := goodIn_app (goodIn_of _ (by decide +kernel)) ggX11_voice_X2_adds
set_option maxRecDepth 20000 in
theorem ggX11_voice_X3_adds : GoodIn wsX11_voice wsX3_adds := goodIn_r _ [43, 29, 17, 30, 31, 20, 32, 44, 23, 45, 25, 26, 27, 28, 161, 162, 163, 164, 165, 166, 167, 168, 169, 170, 171, 172, 173, 174, 175, 176, 177] (by decide +kernel) (by decide +kernel)
set_option maxRecDepth 20000 in
theorem gX11_voice_X3_adds_u242X3 : GoodIn wsX11_voice (va_wsO RX11 242 RX3 "FigureTill$Till" ⟨"FigureTill$Till", "adds", "(LFigureTill$Trace;I)I"⟩ yX3_adds wsX3_adds) := goodIn_app (goodIn_of _ (by decide +kernel)) ggX11_voice_X3_adds
set_option maxRecDepth 20000 in
theorem gX11_voice_X8_adds_u242X5 : GoodIn wsX11_voice (va_wsU RX11 242 RX5 "FigureTill$Till" ⟨"FigureTill$Till", "adds", "(LFigureTill$Trace;I)I"⟩ yX8_adds wsX8_adds) := goodIn_app (goodIn_of _ (by decide +kernel)) ggX11_voice_X8_adds
set_option maxRecDepth 20000 in
theorem gX11_voice_X8_adds_u242X6 : GoodIn wsX11_voice (va_wsU RX11 242 RX6 "FigureTill$Till" ⟨"FigureTill$Till", "adds", "(LFigureTill$Trace;I)I"⟩ yX8_adds wsX8_adds) := goodIn_app (goodIn_of _ (by decide +kernel)) ggX11_voice_X8_adds
set_option maxRecDepth 20000 in
theorem gX11_voice_X8_adds : GoodIn wsX11_voice (wsV RX11 242 RX8 yX8_adds wsX8_adds) := goodIn_app (goodIn_of _ (by decide +kernel)) ggX11_voice_X8_adds
set_option maxRecDepth 20000 in
theorem ggX11_voice_X9_adds : GoodIn wsX11_voice wsX9_adds := goodIn_r _ [54, 29, 17, 30, 31, 20, 32, 161, 162, 163] (by decide +kernel) (by decide +kernel)
set_option maxRecDepth 20000 in
theorem gX11_voice_X9_adds_u242X9 : GoodIn wsX11_voice (va_wsO RX11 242 RX9 "FigureTill$Till" ⟨"FigureTill$Till", "adds", "(LFigureTill$Trace;I)I"⟩ yX9_adds wsX9_adds) := goodIn_app (goodIn_of _ (by decide +kernel)) ggX11_voice_X9_adds
set_option maxRecDepth 20000 in
theorem ggX11_voice_X8_comes : GoodIn wsX11_voice wsX8_comes := goodIn_r _ [59, 29, 17, 30, 31, 20, 32, 60, 23, 24, 25, 26, 27, 28, 33, 34, 35, 36, 37, 38, 39, 40, 41, 42, 43, 44, 45, 46, 47, 48, 61, 50, 51, 52, 53, 54, 161, 162, 163, 164, 165, 166, 167, 168, 169, 170, 171, 172, 173, 174, 175, 176, 177] (by decide +kernel) (by decide +kernel)
set_option maxRecDepth 20000 in
theorem gX11_voice_X8_comes_u246X1 : GoodIn wsX11_voice (va_wsU RX11 246 RX1 "FigureTill$Till" ⟨"FigureTill$Till", "comes", "(LFigureTill$Trace;I)I"⟩ yX8_comes wsX8_comes) := goodIn_app (goodIn_of _ (by decide +kernel)) ggX11_voice_X8_comes
set_option maxRecDepth 20000 in
theorem gX11_voice_X8_comes_u246X2 : GoodIn wsX11_voice (va_wsU RX11 246 RX2 "FigureTill$Till" ⟨"FigureTill$Till", "comes", "(LFigureTill$Trace;I)I"⟩ yX8_comes wsX8_comes) := goodIn_app (goodIn_of _ (by decide +kernel)) ggX11_voice_X8_comes
set_option maxRecDepth 20000 in
theorem gX11_voice_X8_comes_u246X3 : GoodIn wsX11_voice (va_wsU RX11 246 RX3 "FigureTill$Till" ⟨"FigureTill$Till", "comes", "(LFigureTill$Trace;I)I"⟩ yX8_comes wsX8_comes) := goodIn_app (goodIn_of _ (by decide +kernel)) ggX11_voice_X8_comes
set_option maxRecDepth 20000 in
theorem ggX11_voice_X5_comes : GoodIn wsX11_voice wsX5_comes := goodIn_r _ [68, 29, 17, 30, 31, 20, 32, 69, 70, 71, 72, 73, 74, 75, 56, 76, 58, 26, 59, 60, 23, 24, 25, 27, 28, 33, 34, 35, 36, 37, 38, 39, 40, 41, 42, 43, 44, 45, 46, 47, 48, 61, 50, 51, 52, 53, 54, 161, 162, 163, 164, 165, 166, 167, 168, 169, 170, 171, 172, 173, 174, 175, 176, 177] (by decide +kernel) (by decide +kernel)
set_option maxRecDepth 20000 in
theorem gX11_voice_X5_comes_u246X5 : GoodIn wsX11_voice (va_wsO RX11 246 RX5 "FigureTill$Till" ⟨"FigureTill$Till", "comes", "(LFigureTill$Trace;I)I"⟩ yX5_comes wsX5_comes) := goodIn_app (goodIn_of _ (by decide +kernel)) ggX11_voice_X5_comes
set_option maxRecDepth 20000 in
theorem ggX11_voice_X6_comes : GoodIn wsX11_voice wsX6_comes := goodIn_r _ [74, 29, 17, 30, 31, 20, 32, 75, 56, 76, 58, 26, 59, 60, 23, 24, 25, 27, 28, 33, 34, 35, 36, 37, 38, 39, 40, 41, 42, 43, 44, 45, 46, 47, 48, 61, 50, 51, 52, 53, 54, 161, 162, 163, 164, 165, 166, 167, 168, 169, 170, 171, 172, 173, 174, 175, 176, 177] (by decide +kernel) (by decide +kernel)
set_option maxRecDepth 20000 in
theorem gX11_voice_X6_comes_u246X6 : GoodIn wsX11_voice (va_wsO RX11 246 RX6 "FigureTill$Till" ⟨"FigureTill$Till", "comes", "(LFigureTill$Trace;I)I"⟩ yX6_comes wsX6_comes) := goodIn_app (goodIn_of _ (by decide +kernel)) ggX11_voice_X6_comes
set_option maxRecDepth 20000 in
theorem gX11_voice_X8_comes : GoodIn wsX11_voice (wsV RX11 246 RX8 yX8_comes wsX8_comes) := goodIn_app (goodIn_of _ (by decide +kernel)) ggX11_voice_X8_comes
set_option maxRecDepth 20000 in
theorem ggX11_voice_X9_comes : GoodIn wsX11_voice wsX9_comes := goodIn_r _ [82, 83, 84, 29, 17, 30, 31, 20, 32, 85, 56, 86, 58, 26, 59, 60, 23, 24, 25, 27, 28, 33, 34, 35, 36, 37, 38, 39, 40, 41, 42, 43, 44, 45, 46, 47, 48, 61, 50, 51, 52, 53, 54, 164, 165, 166, 167, 168, 169, 170, 171, 172, 173, 174, 175, 176, 177, 161, 162, 163] (by decide +kernel) (by decide +kernel)
set_option maxRecDepth 20000 in
theorem gX11_voice_X9_comes_u246X9 : GoodIn wsX11_voice (va_wsO RX11 246 RX9 "FigureTill$Till" ⟨"FigureTill$Till", "comes", "(LFigureTill$Trace;I)I"⟩ yX9_comes wsX9_comes) := goodIn_app (goodIn_of _ (by decide +kernel)) ggX11_voice_X9_comes
set_option maxRecDepth 20000 in
theorem ggX11_voice_X1_gives : GoodIn wsX11_voice wsX1_gives := goodIn_r _ [93, 29, 17, 30, 31, 20, 32, 94, 88, 95, 96, 26, 97, 98, 99, 56, 57, 58, 59, 60, 23, 24, 25, 27, 28, 33, 34, 35, 36, 37, 38, 39, 40, 41, 42, 43, 44, 45, 46, 47, 48, 61, 50, 51, 52, 53, 54, 62, 63, 64, 65, 66, 67, 68, 69, 70, 71, 72, 73, 74, 75, 76, 77, 100, 79, 80, 81, 82, 83, 84, 85, 86, 161, 162, 163, 164, 165, 166, 167, 168, 169, 170, 171, 172, 173, 174, 175, 176, 177] (by decide +kernel) (by decide +kernel)
set_option maxRecDepth 20000 in
theorem gX11_voice_X1_gives_u249X1 : GoodIn wsX11_voice (va_wsO RX11 249 RX1 "FigureTill$Till" ⟨"FigureTill$Till", "gives", "(LFigureTill$Trace;I)I"⟩ yX1_gives wsX1_gives) := goodIn_app (goodIn_of _ (by decide +kernel)) ggX11_voice_X1_gives
set_option maxRecDepth 20000 in
theorem ggX11_voice_X2_gives : GoodIn wsX11_voice wsX2_gives := goodIn_r _ [103, 104, 105, 29, 17, 30, 31, 20, 32, 164, 165, 166, 167, 168, 169, 170, 171, 172, 173, 174, 175, 176, 177, 161, 162, 163] (by decide +kernel) (by decide +kernel)
set_option maxRecDepth 20000 in
theorem gX11_voice_X2_gives_u249X2 : GoodIn wsX11_voice (va_wsO RX11 249 RX2 "FigureTill$Till" ⟨"FigureTill$Till", "gives", "(LFigureTill$Trace;I)I"⟩ yX2_gives wsX2_gives) := goodIn_app (goodIn_of _ (by decide +kernel)) ggX11_voice_X2_gives
set_option maxRecDepth 20000 in
theorem ggX11_voice_X8_gives : GoodIn wsX11_voice wsX8_gives := goodIn_r _ [97, 98, 29, 17, 30, 31, 20, 32, 99, 56, 57, 58, 26, 59, 60, 23, 24, 25, 27, 28, 33, 34, 35, 36, 37, 38, 39, 40, 41, 42, 43, 44, 45, 46, 47, 48, 61, 50, 51, 52, 53, 54, 62, 63, 64, 65, 66, 67, 68, 69, 70, 71, 72, 73, 74, 75, 76, 77, 100, 79, 80, 81, 82, 83, 84, 85, 86, 164, 165, 166, 167, 168, 169, 170, 171, 172, 173, 174, 175, 176, 177, 161, 162, 163] (by decide +kernel) (by decide +kernel)
set_option maxRecDepth 20000 in
theorem gX11_voice_X8_gives_u249X3 : GoodIn wsX11_voice (va_wsU RX11 249 RX3 "FigureTill$Till" ⟨"FigureTill$Till", "gives", "(LFigureTill$Trace;I)I"⟩ yX8_gives wsX8_gives) := goodIn_app (goodIn_of _ (by decide +kernel)) ggX11_voice_X8_gives
set_option maxRecDepth 20000 in
theorem gX11_voice_X8_gives_u249X5 : GoodIn wsX11_voice (va_wsU RX11 249 RX5 "FigureTill$Till" ⟨"FigureTill$Till", "gives", "(LFigureTill$Trace;I)I"⟩ yX8_gives wsX8_gives) := goodIn_app (goodIn_of _ (by decide +kernel)) ggX11_voice_X8_gives
set_option maxRecDepth 20000 in
theorem gX11_voice_X8_gives_u249X6 : GoodIn wsX11_voice (va_wsU RX11 249 RX6 "FigureTill$Till" ⟨"FigureTill$Till", "gives", "(LFigureTill$Trace;I)I"⟩ yX8_gives wsX8_gives) := goodIn_app (goodIn_of _ (by decide +kernel)) ggX11_voice_X8_gives
set_option maxRecDepth 20000 in
theorem gX11_voice_X8_gives : GoodIn wsX11_voice (wsV RX11 249 RX8 yX8_gives wsX8_gives) := goodIn_app (goodIn_of _ (by decide +kernel)) ggX11_voice_X8_gives
set_option maxRecDepth 20000 in
theorem gX11_voice_X8_gives_u249X9 : GoodIn wsX11_voice (va_wsU RX11 249 RX9 "FigureTill$Till" ⟨"FigureTill$Till", "gives", "(LFigureTill$Trace;I)I"⟩ yX8_gives wsX8_gives) := goodIn_app (goodIn_of _ (by decide +kernel)) ggX11_voice_X8_gives
set_option maxRecDepth 20000 in
theorem ggX11_voice_X8_parts : GoodIn wsX11_voice wsX8_parts := goodIn_r _ [116, 98, 28, 29, 17, 30, 31, 20, 32, 164, 165, 166, 167, 168, 169, 170, 171, 172, 173, 174, 175, 176, 177, 161, 162, 163] (by decide +kernel) (by decide +kernel)
set_option maxRecDepth 20000 in
theorem gX11_voice_X8_parts_u252X1 : GoodIn wsX11_voice (va_wsU RX11 252 RX1 "FigureTill$Till" ⟨"FigureTill$Till", "parts", "(LFigureTill$Trace;I)I"⟩ yX8_parts wsX8_parts) := goodIn_app (goodIn_of _ (by decide +kernel)) ggX11_voice_X8_parts
set_option maxRecDepth 20000 in
theorem ggX11_voice_X3_parts : GoodIn wsX11_voice wsX3_parts := goodIn_r _ [120, 29, 17, 30, 31, 20, 32, 121, 113, 45, 115, 26, 116, 98, 28, 122, 123, 124, 58, 59, 60, 23, 24, 25, 27, 33, 34, 35, 36, 37, 38, 39, 40, 41, 42, 43, 44, 46, 47, 48, 61, 50, 51, 52, 53, 54, 125, 161, 162, 163, 164, 165, 166, 167, 168, 169, 170, 171, 172, 173, 174, 175, 176, 177] (by decide +kernel) (by decide +kernel)
set_option maxRecDepth 20000 in
theorem gX11_voice_X3_parts_u252X2 : GoodIn wsX11_voice (va_wsO RX11 252 RX2 "FigureTill$Till" ⟨"FigureTill$Till", "parts", "(LFigureTill$Trace;I)I"⟩ yX3_parts wsX3_parts) := goodIn_app (goodIn_of _ (by decide +kernel)) ggX11_voice_X3_parts
set_option maxRecDepth 20000 in
theorem gX11_voice_X3_parts_u252X3 : GoodIn wsX11_voice (va_wsO RX11 252 RX3 "FigureTill$Till" ⟨"FigureTill$Till", "parts", "(LFigureTill$Trace;I)I"⟩ yX3_parts wsX3_parts) := goodIn_app (goodIn_of _ (by decide +kernel)) ggX11_voice_X3_parts
set_option maxRecDepth 20000 in
theorem gX11_voice_X8_parts_u252X5 : GoodIn wsX11_voice (va_wsU RX11 252 RX5 "FigureTill$Till" ⟨"FigureTill$Till", "parts", "(LFigureTill$Trace;I)I"⟩ yX8_parts wsX8_parts) := goodIn_app (goodIn_of _ (by decide +kernel)) ggX11_voice_X8_parts
set_option maxRecDepth 20000 in
theorem gX11_voice_X8_parts_u252X6 : GoodIn wsX11_voice (va_wsU RX11 252 RX6 "FigureTill$Till" ⟨"FigureTill$Till", "parts", "(LFigureTill$Trace;I)I"⟩ yX8_parts wsX8_parts) := goodIn_app (goodIn_of _ (by decide +kernel)) ggX11_voice_X8_parts
set_option maxRecDepth 20000 in
theorem gX11_voice_X8_parts : GoodIn wsX11_voice (wsV RX11 252 RX8 yX8_parts wsX8_parts) := goodIn_app (goodIn_of _ (by decide +kernel)) ggX11_voice_X8_parts
set_option maxRecDepth 20000 in
theorem gX11_voice_X8_parts_u252X9 : GoodIn wsX11_voice (va_wsU RX11 252 RX9 "FigureTill$Till" ⟨"FigureTill$Till", "parts", "(LFigureTill$Trace;I)I"⟩ yX8_parts wsX8_parts) := goodIn_app (goodIn_of _ (by decide +kernel)) ggX11_voice_X8_parts
set_option maxRecDepth 20000 in
theorem ggX11_body_X11_within : GoodIn wsX11_body wsX11_within := goodIn_r _ [5] (by decide +kernel) (by decide +kernel)
set_option maxRecDepth 20000 in
theorem gX11_body_X11_within : GoodIn wsX11_body (va_wsS RX11 81 yX11_within wsX11_within) := goodIn_app (goodIn_of _ (by decide +kernel)) ggX11_body_X11_within
set_option maxRecDepth 20000 in
theorem ggX11_body_X11_error : GoodIn wsX11_body wsX11_error := goodIn_r _ [9, 10, 11, 2, 3, 4, 5, 12, 13, 14, 15, 16, 17, 18, 19, 20, 21, 22, 23, 24, 25, 26, 27, 28] (by decide +kernel) (by decide +kernel)
set_option maxRecDepth 20000 in
theorem gX11_body_X11_error : GoodIn wsX11_body (wsV RX11 89 RX11 yX11_error wsX11_error) := goodIn_app (goodIn_of _ (by decide +kernel)) ggX11_body_X11_error
set_option maxRecDepth 20000 in
theorem ggX11_sheet_X11_isSheet : GoodIn wsX11_sheet wsX11_isSheet := goodIn_r _ [7, 8, 9, 6, 10] (by decide +kernel) (by decide +kernel)
set_option maxRecDepth 20000 in
theorem gX11_sheet_X11_isSheet : GoodIn wsX11_sheet (va_wsS RX11 154 yX11_isSheet wsX11_isSheet) := goodIn_app (goodIn_of _ (by decide +kernel)) ggX11_sheet_X11_isSheet
set_option maxRecDepth 20000 in
theorem ggX11_sheet_X11_error : GoodIn wsX11_sheet wsX11_error := goodIn_r _ [14, 15, 16, 8, 9, 6, 10, 17, 18, 19, 20, 21, 22, 23, 24, 25, 26, 27, 28, 29, 30, 31, 32, 33] (by decide +kernel) (by decide +kernel)
set_option maxRecDepth 20000 in
theorem gX11_sheet_X11_error : GoodIn wsX11_sheet (wsV RX11 89 RX11 yX11_error wsX11_error) := goodIn_app (goodIn_of _ (by decide +kernel)) ggX11_sheet_X11_error
set_option maxRecDepth 20000 in
theorem ggX11_put_X11_isSheet : GoodIn wsX11_put wsX11_isSheet := goodIn_r _ [7, 8, 9, 6, 10] (by decide +kernel) (by decide +kernel)
set_option maxRecDepth 20000 in
theorem gX11_put_X11_isSheet : GoodIn wsX11_put (va_wsS RX11 154 yX11_isSheet wsX11_isSheet) := goodIn_app (goodIn_of _ (by decide +kernel)) ggX11_put_X11_isSheet
set_option maxRecDepth 20000 in
theorem ggX11_put_X11_error : GoodIn wsX11_put wsX11_error := goodIn_r _ [14, 15, 16, 8, 9, 6, 10, 24, 25, 26, 27, 28, 29, 30, 31, 32, 33, 34, 35, 36, 37, 38, 39, 40] (by decide +kernel) (by decide +kernel)
set_option maxRecDepth 20000 in
theorem gX11_put_X11_error : GoodIn wsX11_put (wsV RX11 89 RX11 yX11_error wsX11_error) := goodIn_app (goodIn_of _ (by decide +kernel)) ggX11_put_X11_error
set_option maxRecDepth 20000 in
theorem ggX11_put_X11_isMissing : GoodIn wsX11_put wsX11_isMissing := goodIn_r _ [20, 3, 24, 25, 26, 27, 28, 29, 30, 31, 32, 33, 34, 35, 36, 37, 38, 39, 40] (by decide +kernel) (by decide +kernel)
set_option maxRecDepth 20000 in
theorem gX11_put_X11_isMissing : GoodIn wsX11_put (wsV RX11 210 RX11 yX11_isMissing wsX11_isMissing) := goodIn_app (goodIn_of _ (by decide +kernel)) ggX11_put_X11_isMissing
set_option maxRecDepth 20000 in
theorem ggX11_put_X11_within : GoodIn wsX11_put wsX11_within := goodIn_r _ [10] (by decide +kernel) (by decide +kernel)
set_option maxRecDepth 20000 in
theorem gX11_put_X11_within : GoodIn wsX11_put (va_wsS RX11 81 yX11_within wsX11_within) := goodIn_app (goodIn_of _ (by decide +kernel)) ggX11_put_X11_within
set_option maxRecDepth 20000 in
theorem ggX11_put_X11_lowest : GoodIn wsX11_put wsX11_lowest := goodIn_r _ [23] (by decide +kernel) (by decide +kernel)
set_option maxRecDepth 20000 in
theorem gX11_put_X11_lowest : GoodIn wsX11_put (va_wsS RX11 262 yX11_lowest wsX11_lowest) := goodIn_app (goodIn_of _ (by decide +kernel)) ggX11_put_X11_lowest
set_option maxRecDepth 20000 in
theorem ggX11_move_X11_isSheet : GoodIn wsX11_move wsX11_isSheet := goodIn_r _ [10, 11, 12, 9, 13] (by decide +kernel) (by decide +kernel)
set_option maxRecDepth 20000 in
theorem gX11_move_X11_isSheet : GoodIn wsX11_move (va_wsS RX11 154 yX11_isSheet wsX11_isSheet) := goodIn_app (goodIn_of _ (by decide +kernel)) ggX11_move_X11_isSheet
set_option maxRecDepth 20000 in
theorem ggX11_move_X11_error : GoodIn wsX11_move wsX11_error := goodIn_r _ [17, 18, 19, 11, 12, 9, 13, 29, 30, 31, 32, 33, 34, 35, 36, 37, 38, 39, 40, 41, 42, 43, 44, 45] (by decide +kernel) (by decide +kernel)
set_option maxRecDepth 20000 in
theorem gX11_move_X11_error : GoodIn wsX11_move (wsV RX11 89 RX11 yX11_error wsX11_error) := goodIn_app (goodIn_of _ (by decide +kernel)) ggX11_move_X11_error
set_option maxRecDepth 20000 in
theorem ggX11_move_X11_isMissing : GoodIn wsX11_move wsX11_isMissing := goodIn_r _ [23, 1, 29, 30, 31, 32, 33, 34, 35, 36, 37, 38, 39, 40, 41, 42, 43, 44, 45] (by decide +kernel) (by decide +kernel)
set_option maxRecDepth 20000 in
theorem gX11_move_X11_isMissing : GoodIn wsX11_move (wsV RX11 210 RX11 yX11_isMissing wsX11_isMissing) := goodIn_app (goodIn_of _ (by decide +kernel)) ggX11_move_X11_isMissing
set_option maxRecDepth 20000 in
theorem ggX11_move_X11_stand : GoodIn wsX11_move wsX11_stand := goodIn_r _ [27, 28, 29, 30, 31, 32, 33, 34, 35, 36, 37, 38, 39, 40, 41, 42, 43, 44, 45] (by decide +kernel) (by decide +kernel)
set_option maxRecDepth 20000 in
theorem gX11_move_X11_stand : GoodIn wsX11_move (wsV RX11 265 RX11 yX11_stand wsX11_stand) := goodIn_app (goodIn_of _ (by decide +kernel)) ggX11_move_X11_stand
set_option maxRecDepth 20000 in
theorem ggX11_prices_X11_isSheet : GoodIn wsX11_prices wsX11_isSheet := goodIn_r _ [11, 12, 13, 10, 14] (by decide +kernel) (by decide +kernel)
set_option maxRecDepth 20000 in
theorem gX11_prices_X11_isSheet : GoodIn wsX11_prices (va_wsS RX11 154 yX11_isSheet wsX11_isSheet) := goodIn_app (goodIn_of _ (by decide +kernel)) ggX11_prices_X11_isSheet
set_option maxRecDepth 20000 in
theorem ggX11_prices_X11_error : GoodIn wsX11_prices wsX11_error := goodIn_r _ [18, 19, 20, 12, 13, 10, 14, 31, 32, 33, 34, 35, 36, 37, 38, 39, 40, 41, 42, 43, 44, 45, 46, 47] (by decide +kernel) (by decide +kernel)
set_option maxRecDepth 20000 in
theorem gX11_prices_X11_error : GoodIn wsX11_prices (wsV RX11 89 RX11 yX11_error wsX11_error) := goodIn_app (goodIn_of _ (by decide +kernel)) ggX11_prices_X11_error
set_option maxRecDepth 20000 in
theorem ggX11_prices_X11_isMissing : GoodIn wsX11_prices wsX11_isMissing := goodIn_r _ [24, 25, 31, 32, 33, 34, 35, 36, 37, 38, 39, 40, 41, 42, 43, 44, 45, 46, 47] (by decide +kernel) (by decide +kernel)
set_option maxRecDepth 20000 in
theorem gX11_prices_X11_isMissing : GoodIn wsX11_prices (wsV RX11 210 RX11 yX11_isMissing wsX11_isMissing) := goodIn_app (goodIn_of _ (by decide +kernel)) ggX11_prices_X11_isMissing
set_option maxRecDepth 20000 in
theorem ggX11_prices_X11_isGood : GoodIn wsX11_prices wsX11_isGood := goodIn_r _ [28, 29, 30, 12, 13, 10, 14] (by decide +kernel) (by decide +kernel)
set_option maxRecDepth 20000 in
theorem gX11_prices_X11_isGood : GoodIn wsX11_prices (va_wsS RX11 85 yX11_isGood wsX11_isGood) := goodIn_app (goodIn_of _ (by decide +kernel)) ggX11_prices_X11_isGood
set_option maxRecDepth 20000 in
theorem ggX11_image_X7_become : GoodIn wsX11_image wsX7_become := goodIn_r _ [8, 9, 10, 11, 12, 13, 14, 15, 16, 17, 18, 19, 20, 21, 22, 23, 24, 25, 26, 27, 28, 29, 30, 31, 49, 50, 51, 52, 53, 54, 55, 56, 57, 58, 59, 60, 61, 62, 63, 64, 65, 66, 67, 68, 69, 70] (by decide +kernel) (by decide +kernel)
set_option maxRecDepth 20000 in
theorem gX11_image_X7_become_n274 : GoodIn wsX11_image (wsX7_become) := ggX11_image_X7_become
set_option maxRecDepth 20000 in
theorem ggX11_restore_X11_error : GoodIn wsX11_restore wsX11_error := goodIn_r _ [8, 9, 10, 11, 12, 7, 13, 41, 42, 43, 44, 45, 46, 47, 48, 49, 50, 51, 52, 53, 54, 55, 56, 57] (by decide +kernel) (by decide +kernel)
set_option maxRecDepth 20000 in
theorem gX11_restore_X11_error : GoodIn wsX11_restore (wsV RX11 89 RX11 yX11_error wsX11_error) := goodIn_app (goodIn_of _ (by decide +kernel)) ggX11_restore_X11_error
set_option maxRecDepth 20000 in
theorem ggX11_restore_X7_become : GoodIn wsX11_restore wsX7_become := goodIn_r _ [17, 18, 19, 20, 21, 22, 23, 24, 25, 26, 27, 28, 29, 30, 31, 32, 33, 34, 35, 36, 37, 38, 39, 40, 58, 59, 60, 61, 62, 63, 64, 65, 66, 67, 68, 69, 70, 71, 72, 73, 74, 75, 76, 77, 78, 79] (by decide +kernel) (by decide +kernel)
set_option maxRecDepth 20000 in
theorem gX11_restore_X7_become_n274 : GoodIn wsX11_restore (wsX7_become) := ggX11_restore_X7_become
set_option maxRecDepth 20000 in
theorem ggX11_tell_X11_error : GoodIn wsX11_tell wsX11_error := goodIn_r _ [6, 7, 8, 9, 10, 5, 11, 12, 13, 14, 15, 16, 17, 18, 19, 20, 21, 22, 23, 24, 25, 26, 27, 28] (by decide +kernel) (by decide +kernel)
set_option maxRecDepth 20000 in
theorem gX11_tell_X11_error : GoodIn wsX11_tell (wsV RX11 89 RX11 yX11_error wsX11_error) := goodIn_app (goodIn_of _ (by decide +kernel)) ggX11_tell_X11_error
set_option maxRecDepth 20000 in
theorem ggX11_check_X11_isTill : GoodIn wsX11_check wsX11_isTill := goodIn_r _ [5, 6, 7, 4, 8] (by decide +kernel) (by decide +kernel)
set_option maxRecDepth 20000 in
theorem gX11_check_X11_isTill : GoodIn wsX11_check (va_wsS RX11 99 yX11_isTill wsX11_isTill) := goodIn_app (goodIn_of _ (by decide +kernel)) ggX11_check_X11_isTill
set_option maxRecDepth 20000 in
theorem ggX11_check_X11_error : GoodIn wsX11_check wsX11_error := goodIn_r _ [12, 13, 14, 6, 7, 4, 8, 97, 98, 99, 100, 101, 102, 103, 104, 105, 106, 107, 108, 109, 110, 111, 112, 113] (by decide +kernel) (by decide +kernel)
set_option maxRecDepth 20000 in
theorem gX11_check_X11_error : GoodIn wsX11_check (wsV RX11 89 RX11 yX11_error wsX11_error) := goodIn_app (goodIn_of _ (by decide +kernel)) ggX11_check_X11_error
set_option maxRecDepth 20000 in
theorem ggX11_check_X7_paid : GoodIn wsX11_check wsX7_paid := goodIn_r _ [18, 19, 20, 21, 22, 23, 24, 25, 26, 27, 28, 29, 30, 4, 31, 32, 33, 34, 35, 36, 37, 38, 39, 40, 41, 42, 43, 44, 45, 46, 47, 48, 49, 50, 51, 52, 53, 54, 55, 56, 57, 58, 59, 60, 61, 62, 63, 64, 65, 66, 67, 68, 69, 70, 71, 72, 73, 74, 75, 76, 77, 78, 79, 80, 81, 82, 83, 84, 85, 86, 87, 88, 89, 90, 91, 92, 93, 94, 95, 96, 114, 115, 116, 117, 118, 119, 120, 121, 122, 123, 124, 125, 126, 127, 128, 129, 130, 131, 132, 133, 134, 135, 136, 137, 138, 139, 140, 141, 142, 143, 144, 145, 146, 147, 148, 149] (by decide +kernel) (by decide +kernel)
set_option maxRecDepth 20000 in
theorem gX11_check_X7_paid_n127 : GoodIn wsX11_check (wsX7_paid) := ggX11_check_X7_paid
set_option maxRecDepth 20000 in
theorem ggX11_count_X7_stockOfAll : GoodIn wsX11_count wsX7_stockOfAll := goodIn_r _ [6, 7, 35, 36, 37, 38, 39, 40, 41, 42, 43, 44, 45, 46] (by decide +kernel) (by decide +kernel)
set_option maxRecDepth 20000 in
theorem gX11_count_X7_stockOfAll_n293 : GoodIn wsX11_count (wsX7_stockOfAll) := ggX11_count_X7_stockOfAll
set_option maxRecDepth 20000 in
theorem ggX11_count_X11_error : GoodIn wsX11_count wsX11_error := goodIn_r _ [12, 13, 14, 15, 16, 11, 17, 18, 19, 20, 21, 22, 23, 24, 25, 26, 27, 28, 29, 30, 31, 32, 33, 34] (by decide +kernel) (by decide +kernel)
set_option maxRecDepth 20000 in
theorem gX11_count_X11_error : GoodIn wsX11_count (wsV RX11 89 RX11 yX11_error wsX11_error) := goodIn_app (goodIn_of _ (by decide +kernel)) ggX11_count_X11_error
set_option maxRecDepth 20000 in
theorem ggX11_told_X11_within : GoodIn wsX11_told wsX11_within := goodIn_r _ [5] (by decide +kernel) (by decide +kernel)
set_option maxRecDepth 20000 in
theorem gX11_told_X11_within : GoodIn wsX11_told (va_wsS RX11 81 yX11_within wsX11_within) := goodIn_app (goodIn_of _ (by decide +kernel)) ggX11_told_X11_within
set_option maxRecDepth 20000 in
theorem ggX11_told_X11_error : GoodIn wsX11_told wsX11_error := goodIn_r _ [9, 1, 10, 2, 3, 4, 5, 11, 12, 13, 14, 15, 16, 17, 18, 19, 20, 21, 22, 23, 24, 25, 26, 27] (by decide +kernel) (by decide +kernel)
set_option maxRecDepth 20000 in
theorem gX11_told_X11_error : GoodIn wsX11_told (wsV RX11 89 RX11 yX11_error wsX11_error) := goodIn_app (goodIn_of _ (by decide +kernel)) ggX11_told_X11_error
set_option maxRecDepth 20000 in
theorem ggX11_error_X11_within : GoodIn wsX11_error wsX11_within := goodIn_r _ [6] (by decide +kernel) (by decide +kernel)
set_option maxRecDepth 20000 in
theorem gX11_error_X11_within : GoodIn wsX11_error (va_wsS RX11 81 yX11_within wsX11_within) := goodIn_app (goodIn_of _ (by decide +kernel)) ggX11_error_X11_within
set_option maxRecDepth 20000 in
theorem ggX11_isThing_X11_within : GoodIn wsX11_isThing wsX11_within := goodIn_r _ [4] (by decide +kernel) (by decide +kernel)
set_option maxRecDepth 20000 in
theorem gX11_isThing_X11_within : GoodIn wsX11_isThing (va_wsS RX11 81 yX11_within wsX11_within) := goodIn_app (goodIn_of _ (by decide +kernel)) ggX11_isThing_X11_within
set_option maxRecDepth 20000 in
theorem ggX11_isTill_X11_within : GoodIn wsX11_isTill wsX11_within := goodIn_r _ [4] (by decide +kernel) (by decide +kernel)
set_option maxRecDepth 20000 in
theorem gX11_isTill_X11_within : GoodIn wsX11_isTill (va_wsS RX11 81 yX11_within wsX11_within) := goodIn_app (goodIn_of _ (by decide +kernel)) ggX11_isTill_X11_within
set_option maxRecDepth 20000 in
theorem ggX11_isSheet_X11_within : GoodIn wsX11_isSheet wsX11_within := goodIn_r _ [4] (by decide +kernel) (by decide +kernel)
set_option maxRecDepth 20000 in
theorem gX11_isSheet_X11_within : GoodIn wsX11_isSheet (va_wsS RX11 81 yX11_within wsX11_within) := goodIn_app (goodIn_of _ (by decide +kernel)) ggX11_isSheet_X11_within
set_option maxRecDepth 20000 in
theorem ggX11_isGood_X11_within : GoodIn wsX11_isGood wsX11_within := goodIn_r _ [6] (by decide +kernel) (by decide +kernel)
set_option maxRecDepth 20000 in
theorem gX11_isGood_X11_within : GoodIn wsX11_isGood (va_wsS RX11 81 yX11_within wsX11_within) := goodIn_app (goodIn_of _ (by decide +kernel)) ggX11_isGood_X11_within
set_option maxRecDepth 20000 in
theorem ggX11_refusal_X11_isSheet : GoodIn wsX11_refusal wsX11_isSheet := goodIn_r _ [4, 5, 6, 3, 7] (by decide +kernel) (by decide +kernel)
set_option maxRecDepth 20000 in
theorem gX11_refusal_X11_isSheet : GoodIn wsX11_refusal (va_wsS RX11 154 yX11_isSheet wsX11_isSheet) := goodIn_app (goodIn_of _ (by decide +kernel)) ggX11_refusal_X11_isSheet
set_option maxRecDepth 20000 in
theorem ggX11_refusal_X11_isTill : GoodIn wsX11_refusal wsX11_isTill := goodIn_r _ [10, 5, 6, 3, 7] (by decide +kernel) (by decide +kernel)
set_option maxRecDepth 20000 in
theorem gX11_refusal_X11_isTill : GoodIn wsX11_refusal (va_wsS RX11 99 yX11_isTill wsX11_isTill) := goodIn_app (goodIn_of _ (by decide +kernel)) ggX11_refusal_X11_isTill
set_option maxRecDepth 20000 in
theorem ggX11_refusal_X11_refusal_ : GoodIn wsX11_refusal wsX11_refusal_ := goodIn_r _ [14, 15, 16, 17, 18, 3, 19, 20, 21, 22, 23, 24, 25, 26, 27, 28, 29, 30, 31, 32, 33, 34, 5, 6, 7, 35, 36, 37, 38, 39, 40, 41, 42, 43, 44, 45, 46, 47, 48, 49, 50, 51, 52, 53, 54, 55, 56, 57, 58, 59, 60, 61, 62, 63, 64, 65, 66, 67, 68, 69, 70, 71, 72, 73] (by decide +kernel) (by decide +kernel)
set_option maxRecDepth 20000 in
theorem gX11_refusal_X11_refusal_ : GoodIn wsX11_refusal (wsV RX11 157 RX11 yX11_refusal_ wsX11_refusal_) := goodIn_app (goodIn_of _ (by decide +kernel)) ggX11_refusal_X11_refusal_
set_option maxRecDepth 20000 in
theorem ggX11_refusal__X11_isMissing : GoodIn wsX11_refusal_ wsX11_isMissing := goodIn_r _ [6, 7, 32, 33, 34, 35, 36, 37, 38, 39, 40, 41, 42, 43, 44, 45, 46, 47, 48] (by decide +kernel) (by decide +kernel)
set_option maxRecDepth 20000 in
theorem gX11_refusal__X11_isMissing : GoodIn wsX11_refusal_ (wsV RX11 210 RX11 yX11_isMissing wsX11_isMissing) := goodIn_app (goodIn_of _ (by decide +kernel)) ggX11_refusal__X11_isMissing
set_option maxRecDepth 20000 in
theorem ggX11_refusal__X11_reads : GoodIn wsX11_refusal_ wsX11_reads := goodIn_r _ [11, 12, 13, 14, 15, 16, 17, 18, 19, 20, 21, 22, 23, 5, 24, 25, 26, 27, 28, 29, 30, 31, 32, 33, 34, 35, 36, 37, 38, 39, 40, 41, 42, 43, 44, 45, 46, 47, 48, 49, 50, 51, 52, 53, 54, 55, 56, 57, 58, 59, 60, 61, 62, 63] (by decide +kernel) (by decide +kernel)
set_option maxRecDepth 20000 in
theorem gX11_refusal__X11_reads : GoodIn wsX11_refusal_ (wsV RX11 213 RX11 yX11_reads wsX11_reads) := goodIn_app (goodIn_of _ (by decide +kernel)) ggX11_refusal__X11_reads
set_option maxRecDepth 20000 in
theorem ggX11_reads_X0_clear : GoodIn wsX11_reads wsX0_clear := goodIn_r _ [7, 8, 9, 10, 39, 40, 41] (by decide +kernel) (by decide +kernel)
set_option maxRecDepth 20000 in
theorem gX11_reads_X0_clear_n183 : GoodIn wsX11_reads (wsX0_clear) := ggX11_reads_X0_clear
set_option maxRecDepth 20000 in
theorem ggX11_reads_X11_within : GoodIn wsX11_reads wsX11_within := goodIn_r _ [14] (by decide +kernel) (by decide +kernel)
set_option maxRecDepth 20000 in
theorem gX11_reads_X11_within : GoodIn wsX11_reads (va_wsS RX11 81 yX11_within wsX11_within) := goodIn_app (goodIn_of _ (by decide +kernel)) ggX11_reads_X11_within
set_option maxRecDepth 20000 in
theorem ggX11_reads_X0_add : GoodIn wsX11_reads wsX0_add := goodIn_r _ [17, 9, 8, 10, 18, 19, 20, 5, 21, 39, 40, 41] (by decide +kernel) (by decide +kernel)
set_option maxRecDepth 20000 in
theorem gX11_reads_X0_add_n189 : GoodIn wsX11_reads (wsX0_add) := ggX11_reads_X0_add
set_option maxRecDepth 20000 in
theorem ggX11_oneFigure_X11_figureSum : GoodIn wsX11_oneFigure wsX11_figureSum := goodIn_r _ [4] (by decide +kernel) (by decide +kernel)
set_option maxRecDepth 20000 in
theorem gX11_oneFigure_X11_figureSum : GoodIn wsX11_oneFigure (va_wsS RX11 122 yX11_figureSum wsX11_figureSum) := goodIn_app (goodIn_of _ (by decide +kernel)) ggX11_oneFigure_X11_figureSum
set_option maxRecDepth 20000 in
theorem ggX11_takenInCases_X7_paid : GoodIn wsX11_takenInCases wsX7_paid := goodIn_r _ [6, 7, 8, 9, 10, 11, 12, 13, 14, 15, 16, 17, 18, 19, 20, 21, 22, 23, 24, 25, 26, 27, 28, 29, 30, 31, 32, 33, 34, 35, 36, 37, 38, 39, 40, 41, 42, 43, 44, 45, 46, 47, 48, 49, 50, 51, 52, 53, 54, 55, 56, 57, 58, 59, 60, 61, 62, 63, 64, 65, 66, 67, 68, 69, 70, 71, 72, 73, 74, 75, 76, 77, 78, 79, 80, 81, 82, 83, 84, 85, 106, 107, 108, 109, 110, 111, 112, 113, 114, 115, 116, 117, 118, 119, 120, 121, 122, 123, 124, 125, 126, 127, 128, 129, 130, 131, 132, 133, 134, 135, 136, 137, 138, 139, 140, 141] (by decide +kernel) (by decide +kernel)
set_option maxRecDepth 20000 in
theorem gX11_takenInCases_X7_paid_n127 : GoodIn wsX11_takenInCases (wsX7_paid) := ggX11_takenInCases_X7_paid
set_option maxRecDepth 20000 in
theorem ggX11_findCheapest_X7_valueOf : GoodIn wsX11_findCheapest wsX7_valueOf := goodIn_r _ [17, 18, 19, 20, 21, 22, 23, 24, 25, 26, 27, 28, 29, 30, 31, 32, 33, 34, 35, 36, 37, 38, 5, 6, 7, 8, 39, 40, 41, 138, 139, 140, 141, 142, 143, 144, 145, 146, 147, 148, 149, 150, 151, 152, 153, 154, 155, 156, 157, 158, 159] (by decide +kernel) (by decide +kernel)
set_option maxRecDepth 20000 in
theorem gX11_findCheapest_X7_valueOf_n96 : GoodIn wsX11_findCheapest (wsX7_valueOf) := ggX11_findCheapest_X7_valueOf
set_option maxRecDepth 20000 in
theorem ggX11_findCheapest_X0_clear : GoodIn wsX11_findCheapest wsX0_clear := goodIn_r _ [45, 46, 47, 48, 135, 136, 137] (by decide +kernel) (by decide +kernel)
set_option maxRecDepth 20000 in
theorem gX11_findCheapest_X0_clear_n183 : GoodIn wsX11_findCheapest (wsX0_clear) := ggX11_findCheapest_X0_clear
set_option maxRecDepth 20000 in
theorem ggX11_findCheapest_X0_copy : GoodIn wsX11_findCheapest wsX0_copy := goodIn_r _ [51, 46, 52, 53, 54, 55, 47, 48, 135, 136, 137] (by decide +kernel) (by decide +kernel)
set_option maxRecDepth 20000 in
theorem gX11_findCheapest_X0_copy_n306 : GoodIn wsX11_findCheapest (wsX0_copy) := ggX11_findCheapest_X0_copy
set_option maxRecDepth 20000 in
theorem ggX11_findCheapest_X7_paid : GoodIn wsX11_findCheapest wsX7_paid := goodIn_r _ [58, 59, 60, 61, 62, 63, 64, 65, 66, 67, 68, 69, 70, 37, 71, 72, 73, 74, 75, 76, 77, 78, 79, 40, 7, 41, 80, 81, 82, 83, 84, 85, 86, 87, 88, 89, 90, 91, 92, 93, 94, 95, 96, 97, 98, 99, 100, 101, 102, 103, 104, 105, 106, 107, 108, 109, 20, 21, 22, 23, 24, 25, 26, 27, 28, 29, 30, 31, 32, 33, 34, 35, 110, 111, 36, 38, 5, 6, 8, 39, 138, 139, 140, 141, 142, 143, 144, 145, 146, 147, 148, 149, 160, 161, 162, 163, 164, 165, 166, 167, 168, 169, 170, 171, 172, 173, 150, 151, 152, 153, 154, 155, 156, 157, 158, 159] (by decide +kernel) (by decide +kernel)
set_option maxRecDepth 20000 in
theorem gX11_findCheapest_X7_paid_n127 : GoodIn wsX11_findCheapest (wsX7_paid) := ggX11_findCheapest_X7_paid
set_option maxRecDepth 20000 in
theorem ggX11_findCheapest_X0_step : GoodIn wsX11_findCheapest wsX0_step := goodIn_r _ [114, 46, 47, 48, 135, 136, 137] (by decide +kernel) (by decide +kernel)
set_option maxRecDepth 20000 in
theorem gX11_findCheapest_X0_step_n201 : GoodIn wsX11_findCheapest (wsX0_step) := ggX11_findCheapest_X0_step
set_option maxRecDepth 20000 in
theorem ggX11_findCheapest_X0_sumBy : GoodIn wsX11_findCheapest wsX0_sumBy := goodIn_r _ [117, 46, 135, 136, 137] (by decide +kernel) (by decide +kernel)
set_option maxRecDepth 20000 in
theorem gX11_findCheapest_X0_sumBy_n166 : GoodIn wsX11_findCheapest (wsX0_sumBy) := ggX11_findCheapest_X0_sumBy
set_option maxRecDepth 20000 in
theorem ggX11_paidIfDearer_X11_isGood : GoodIn wsX11_paidIfDearer wsX11_isGood := goodIn_r _ [7, 8, 9, 10, 11, 6, 12] (by decide +kernel) (by decide +kernel)
set_option maxRecDepth 20000 in
theorem gX11_paidIfDearer_X11_isGood : GoodIn wsX11_paidIfDearer (va_wsS RX11 85 yX11_isGood wsX11_isGood) := goodIn_app (goodIn_of _ (by decide +kernel)) ggX11_paidIfDearer_X11_isGood
set_option maxRecDepth 20000 in
theorem ggX11_paidIfDearer_X0_add : GoodIn wsX11_paidIfDearer wsX0_add := goodIn_r _ [16, 17, 18, 19, 20, 21, 22, 14, 23, 163, 164, 165] (by decide +kernel) (by decide +kernel)
set_option maxRecDepth 20000 in
theorem gX11_paidIfDearer_X0_add_n189 : GoodIn wsX11_paidIfDearer (wsX0_add) := ggX11_paidIfDearer_X0_add
set_option maxRecDepth 20000 in
theorem ggX11_paidIfDearer_X11_findCheapest : GoodIn wsX11_paidIfDearer wsX11_findCheapest := goodIn_r _ [27, 28, 2, 29, 1, 30, 31, 32, 33, 34, 35, 3, 36, 37, 38, 39, 40, 41, 42, 43, 44, 45, 46, 47, 48, 49, 50, 51, 52, 53, 54, 55, 56, 57, 58, 59, 60, 6, 61, 62, 63, 64, 65, 14, 66, 67, 18, 17, 19, 68, 69, 70, 71, 72, 73, 74, 75, 76, 77, 78, 79, 80, 81, 82, 83, 84, 85, 86, 87, 88, 89, 90, 91, 92, 93, 94, 95, 96, 97, 98, 99, 100, 101, 102, 103, 104, 105, 106, 107, 108, 109, 110, 111, 112, 113, 114, 115, 116, 117, 118, 119, 120, 121, 122, 123, 124, 125, 126, 127, 128, 129, 130, 131, 132, 133, 21, 22, 23, 134, 135, 136, 137, 138, 139, 140, 141, 142, 143, 144, 145, 146, 147, 148, 149, 150, 163, 164, 165, 151, 152, 153, 154, 155, 156, 157, 158, 159, 160, 161, 162, 166, 167, 168, 169, 170, 171, 172, 173, 174, 175, 176, 177, 178, 179, 180, 181, 182, 183, 184, 185, 186, 187, 188, 189] (by decide +kernel) (by decide +kernel)
set_option maxRecDepth 20000 in
theorem gX11_paidIfDearer_X11_findCheapest : GoodIn wsX11_paidIfDearer (wsV RX11 196 RX11 yX11_findCheapest wsX11_findCheapest) := goodIn_app (goodIn_of _ (by decide +kernel)) ggX11_paidIfDearer_X11_findCheapest
set_option maxRecDepth 20000 in
theorem ggX11_startFew_X0_clear : GoodIn wsX11_startFew wsX0_clear := goodIn_r _ [6, 7, 8, 9, 27, 28, 29] (by decide +kernel) (by decide +kernel)
set_option maxRecDepth 20000 in
theorem gX11_startFew_X0_clear_n183 : GoodIn wsX11_startFew (wsX0_clear) := ggX11_startFew_X0_clear
set_option maxRecDepth 20000 in
theorem ggX11_leastOfFew_X11_startFew : GoodIn wsX11_leastOfFew wsX11_startFew := goodIn_r _ [13, 2, 3, 14, 15, 16, 17, 18, 19, 20, 102, 103, 104, 105, 106, 107, 108, 109, 110, 111, 112, 113, 114, 115, 116, 117, 118, 131, 132, 133] (by decide +kernel) (by decide +kernel)
set_option maxRecDepth 20000 in
theorem gX11_leastOfFew_X11_startFew : GoodIn wsX11_leastOfFew (wsV RX11 233 RX11 yX11_startFew wsX11_startFew) := goodIn_app (goodIn_of _ (by decide +kernel)) ggX11_leastOfFew_X11_startFew
set_option maxRecDepth 20000 in
theorem ggX11_leastOfFew_X0_step : GoodIn wsX11_leastOfFew wsX0_step := goodIn_r _ [23, 18, 19, 20, 131, 132, 133] (by decide +kernel) (by decide +kernel)
set_option maxRecDepth 20000 in
theorem gX11_leastOfFew_X0_step_n201 : GoodIn wsX11_leastOfFew (wsX0_step) := ggX11_leastOfFew_X0_step
set_option maxRecDepth 20000 in
theorem ggX11_leastOfFew_X7_paid : GoodIn wsX11_leastOfFew wsX7_paid := goodIn_r _ [27, 28, 29, 30, 31, 32, 33, 34, 35, 36, 37, 38, 39, 12, 40, 41, 42, 43, 44, 45, 46, 47, 48, 49, 7, 50, 51, 52, 53, 54, 55, 56, 57, 58, 59, 60, 61, 62, 63, 64, 65, 66, 67, 68, 69, 70, 71, 72, 73, 74, 75, 76, 77, 78, 79, 80, 81, 82, 83, 84, 85, 86, 87, 88, 89, 90, 91, 92, 93, 94, 95, 96, 97, 98, 99, 100, 5, 6, 8, 101, 119, 120, 121, 122, 123, 124, 125, 126, 127, 128, 129, 130, 134, 135, 136, 137, 138, 139, 140, 141, 142, 143, 144, 145, 146, 147, 148, 149, 150, 151, 152, 153, 154, 155, 156, 157] (by decide +kernel) (by decide +kernel)
set_option maxRecDepth 20000 in
theorem gX11_leastOfFew_X7_paid_n127 : GoodIn wsX11_leastOfFew (wsX7_paid) := ggX11_leastOfFew_X7_paid
set_option maxRecDepth 20000 in
theorem ggX11_tillOf_X3_init : GoodIn wsX11_tillOf wsX3_init := goodIn_r _ [24, 25, 26, 21, 27, 28, 29, 30, 31, 32, 58, 59, 62, 63, 54, 55, 60, 61, 56, 57, 66, 67, 64, 65] (by decide +kernel) (by decide +kernel)
set_option maxRecDepth 20000 in
theorem gX11_tillOf_X3_init : GoodIn wsX11_tillOf (wsX3_init) := ggX11_tillOf_X3_init
set_option maxRecDepth 20000 in
theorem ggX11_tillOf_X6_init : GoodIn wsX11_tillOf wsX6_init := goodIn_r _ [35, 36, 26, 21, 27, 28, 29, 30, 31, 32, 58, 59, 62, 63, 54, 55, 60, 61, 56, 57, 66, 67, 64, 65] (by decide +kernel) (by decide +kernel)
set_option maxRecDepth 20000 in
theorem gX11_tillOf_X6_init : GoodIn wsX11_tillOf (wsX6_init) := ggX11_tillOf_X6_init
set_option maxRecDepth 20000 in
theorem ggX11_tillOf_X1_init : GoodIn wsX11_tillOf wsX1_init := goodIn_r _ [39, 40, 26, 21, 27, 28, 29, 30, 31, 32, 58, 59, 62, 63, 54, 55, 60, 61, 56, 57, 66, 67, 64, 65] (by decide +kernel) (by decide +kernel)
set_option maxRecDepth 20000 in
theorem gX11_tillOf_X1_init : GoodIn wsX11_tillOf (wsX1_init) := ggX11_tillOf_X1_init
set_option maxRecDepth 20000 in
theorem ggX11_tillOf_X5_init : GoodIn wsX11_tillOf wsX5_init := goodIn_r _ [43, 44, 34, 6, 35, 36, 26, 21, 27, 28, 29, 30, 31, 32, 58, 59, 62, 63, 54, 55, 60, 61, 56, 57, 66, 67, 64, 65] (by decide +kernel) (by decide +kernel)
set_option maxRecDepth 20000 in
theorem gX11_tillOf_X5_init : GoodIn wsX11_tillOf (wsX5_init) := ggX11_tillOf_X5_init
set_option maxRecDepth 20000 in
theorem ggX11_tillOf_X2_init : GoodIn wsX11_tillOf wsX2_init := goodIn_r _ [47, 48, 23, 3, 24, 25, 26, 21, 27, 28, 29, 30, 31, 32, 58, 59, 62, 63, 54, 55, 60, 61, 56, 57, 66, 67, 64, 65] (by decide +kernel) (by decide +kernel)
set_option maxRecDepth 20000 in
theorem gX11_tillOf_X2_init : GoodIn wsX11_tillOf (wsX2_init) := ggX11_tillOf_X2_init
set_option maxRecDepth 20000 in
theorem ggX11_tillOf_X9_init : GoodIn wsX11_tillOf wsX9_init := goodIn_r _ [51, 52, 26, 21, 27, 28, 29, 30, 31, 32, 58, 59, 62, 63, 54, 55, 60, 61, 56, 57, 66, 67, 64, 65] (by decide +kernel) (by decide +kernel)
set_option maxRecDepth 20000 in
theorem gX11_tillOf_X9_init : GoodIn wsX11_tillOf (wsX9_init) := ggX11_tillOf_X9_init
set_option maxRecDepth 20000 in
theorem ggX11_tillOf_X8_init : GoodIn wsX11_tillOf wsX8_init := goodIn_r _ [27, 28, 29, 30, 31, 32, 58, 59, 62, 63, 54, 55, 60, 61, 56, 57, 66, 67, 64, 65] (by decide +kernel) (by decide +kernel)
set_option maxRecDepth 20000 in
theorem gX11_tillOf_X8_init : GoodIn wsX11_tillOf (wsX8_init) := ggX11_tillOf_X8_init
set_option maxRecDepth 20000 in
theorem ggX12_isThing_X12_in : GoodIn wsX12_isThing wsX12_in := goodIn_r _ [4] (by decide +kernel) (by decide +kernel)
set_option maxRecDepth 20000 in
theorem gX12_isThing_X12_in : GoodIn wsX12_isThing (va_wsS RX12 59 yX12_in wsX12_in) := goodIn_app (goodIn_of _ (by decide +kernel)) ggX12_isThing_X12_in
set_option maxRecDepth 20000 in
theorem ggX12_isTill_X12_in : GoodIn wsX12_isTill wsX12_in := goodIn_r _ [4] (by decide +kernel) (by decide +kernel)
set_option maxRecDepth 20000 in
theorem gX12_isTill_X12_in : GoodIn wsX12_isTill (va_wsS RX12 59 yX12_in wsX12_in) := goodIn_app (goodIn_of _ (by decide +kernel)) ggX12_isTill_X12_in
set_option maxRecDepth 20000 in
theorem ggX12_feed_X12_in : GoodIn wsX12_feed wsX12_in := goodIn_r _ [6] (by decide +kernel) (by decide +kernel)
set_option maxRecDepth 20000 in
theorem gX12_feed_X12_in : GoodIn wsX12_feed (va_wsS RX12 59 yX12_in wsX12_in) := goodIn_app (goodIn_of _ (by decide +kernel)) ggX12_feed_X12_in
set_option maxRecDepth 20000 in
theorem ggX12_feed_X12_error : GoodIn wsX12_feed wsX12_error := goodIn_r _ [10, 11, 12, 13, 14, 15, 16, 17, 18, 19, 20, 21, 22, 23, 24, 25, 26, 27, 28, 29, 30, 31, 32, 33, 34, 35, 36, 37, 38, 39, 40, 41, 42] (by decide +kernel) (by decide +kernel)
set_option maxRecDepth 20000 in
theorem gX12_feed_X12_error : GoodIn wsX12_feed (wsV RX12 63 RX12 yX12_error wsX12_error) := goodIn_app (goodIn_of _ (by decide +kernel)) ggX12_feed_X12_error
set_option maxRecDepth 20000 in
theorem ggX12_whole_X12_both : GoodIn wsX12_whole wsX12_both := goodIn_r _ [17, 1, 18, 19, 20, 5, 6, 7, 8, 9, 10, 11, 12, 13, 14, 15, 16, 21, 22, 23, 24, 25, 26, 27, 28, 29, 30, 31, 32, 33, 34, 35, 36, 37, 38, 39, 40, 41, 42, 43, 44, 45, 46, 47, 48, 49, 0, 2, 3, 4, 50, 51, 52, 53, 54, 55, 56, 57, 58, 59, 60, 61, 62, 63, 64, 65, 66, 67, 68, 69, 70, 71, 72, 73, 74, 75, 76, 77, 78, 79] (by decide +kernel) (by decide +kernel)
set_option maxRecDepth 20000 in
theorem gX12_whole_X12_both : GoodIn wsX12_whole (wsV RX12 79 RX12 yX12_both wsX12_both) := goodIn_app (goodIn_of _ (by decide +kernel)) ggX12_whole_X12_both
set_option maxRecDepth 20000 in
theorem ggX12_whole_X12_look : GoodIn wsX12_whole wsX12_look := goodIn_r _ [9, 1, 10, 50, 51, 52, 53, 54, 55, 56, 57, 58, 59, 60, 61, 62, 63, 64, 65, 66, 67, 68, 69, 70, 71, 72, 73, 74, 75, 76, 77, 78, 79] (by decide +kernel) (by decide +kernel)
set_option maxRecDepth 20000 in
theorem gX12_whole_X12_look : GoodIn wsX12_whole (wsV RX12 83 RX12 yX12_look wsX12_look) := goodIn_app (goodIn_of _ (by decide +kernel)) ggX12_whole_X12_look
set_option maxRecDepth 20000 in
theorem ggX12_whole_X12_step1 : GoodIn wsX12_whole wsX12_step1 := goodIn_r _ [14, 15, 16, 50, 51, 52, 53, 54, 55, 56, 57, 58, 59, 60, 61, 62, 63, 64, 65, 66, 67, 68, 69, 70, 71, 72, 73, 74, 75, 76, 77, 78, 79] (by decide +kernel) (by decide +kernel)
set_option maxRecDepth 20000 in
theorem gX12_whole_X12_step1 : GoodIn wsX12_whole (wsV RX12 87 RX12 yX12_step1 wsX12_step1) := goodIn_app (goodIn_of _ (by decide +kernel)) ggX12_whole_X12_step1
set_option maxRecDepth 20000 in
theorem ggX12_both_X12_compared : GoodIn wsX12_both wsX12_compared := goodIn_r _ [17, 1, 18, 19, 20, 5, 6, 7, 8, 9, 10, 11, 12, 13, 14, 15, 16, 0, 2, 3, 4, 21, 22, 23, 24, 25, 26, 27, 28, 29, 30, 31, 32, 33, 34, 35, 36, 37, 38, 39, 40, 41, 42, 43, 44, 45, 46, 47, 48, 49, 50, 51, 52, 53, 54, 55, 56, 57, 58, 59, 60, 61, 62, 63, 64, 65, 66, 67, 68, 69, 70, 71, 72, 73, 74, 75, 76, 77, 78, 79] (by decide +kernel) (by decide +kernel)
set_option maxRecDepth 20000 in
theorem gX12_both_X12_compared : GoodIn wsX12_both (wsV RX12 91 RX12 yX12_compared wsX12_compared) := goodIn_app (goodIn_of _ (by decide +kernel)) ggX12_both_X12_compared
set_option maxRecDepth 20000 in
theorem ggX12_both_X12_look : GoodIn wsX12_both wsX12_look := goodIn_r _ [9, 1, 10, 50, 51, 52, 53, 54, 55, 56, 57, 58, 59, 60, 61, 62, 63, 64, 65, 66, 67, 68, 69, 70, 71, 72, 73, 74, 75, 76, 77, 78, 79] (by decide +kernel) (by decide +kernel)
set_option maxRecDepth 20000 in
theorem gX12_both_X12_look : GoodIn wsX12_both (wsV RX12 83 RX12 yX12_look wsX12_look) := goodIn_app (goodIn_of _ (by decide +kernel)) ggX12_both_X12_look
set_option maxRecDepth 20000 in
theorem ggX12_both_X12_step1 : GoodIn wsX12_both wsX12_step1 := goodIn_r _ [14, 15, 16, 50, 51, 52, 53, 54, 55, 56, 57, 58, 59, 60, 61, 62, 63, 64, 65, 66, 67, 68, 69, 70, 71, 72, 73, 74, 75, 76, 77, 78, 79] (by decide +kernel) (by decide +kernel)
set_option maxRecDepth 20000 in
theorem gX12_both_X12_step1 : GoodIn wsX12_both (wsV RX12 87 RX12 yX12_step1 wsX12_step1) := goodIn_app (goodIn_of _ (by decide +kernel)) ggX12_both_X12_step1
set_option maxRecDepth 20000 in
theorem ggX12_compared_X12_sum : GoodIn wsX12_compared wsX12_sum := goodIn_r _ [42, 1, 43, 44, 45, 5, 6, 7, 8, 9, 10, 11, 12, 13, 14, 15, 16, 17, 18, 19, 20, 0, 2, 3, 4, 21, 22, 23, 24, 25, 26, 27, 28, 29, 30, 31, 32, 33, 34, 35, 36, 37, 38, 39, 40, 41, 46, 47, 48, 49, 50, 51, 52, 53, 54, 55, 56, 57, 58, 59, 60, 61, 62, 63, 64, 65, 66, 67, 68, 69, 70, 71, 72, 73, 74, 75, 76, 77, 78, 79] (by decide +kernel) (by decide +kernel)
set_option maxRecDepth 20000 in
theorem gX12_compared_X12_sum : GoodIn wsX12_compared (wsV RX12 94 RX12 yX12_sum wsX12_sum) := goodIn_app (goodIn_of _ (by decide +kernel)) ggX12_compared_X12_sum
set_option maxRecDepth 20000 in
theorem ggX12_compared_X12_look : GoodIn wsX12_compared wsX12_look := goodIn_r _ [9, 1, 10, 50, 51, 52, 53, 54, 55, 56, 57, 58, 59, 60, 61, 62, 63, 64, 65, 66, 67, 68, 69, 70, 71, 72, 73, 74, 75, 76, 77, 78, 79] (by decide +kernel) (by decide +kernel)
set_option maxRecDepth 20000 in
theorem gX12_compared_X12_look : GoodIn wsX12_compared (wsV RX12 83 RX12 yX12_look wsX12_look) := goodIn_app (goodIn_of _ (by decide +kernel)) ggX12_compared_X12_look
set_option maxRecDepth 20000 in
theorem ggX12_compared_X12_step1 : GoodIn wsX12_compared wsX12_step1 := goodIn_r _ [14, 15, 16, 50, 51, 52, 53, 54, 55, 56, 57, 58, 59, 60, 61, 62, 63, 64, 65, 66, 67, 68, 69, 70, 71, 72, 73, 74, 75, 76, 77, 78, 79] (by decide +kernel) (by decide +kernel)
set_option maxRecDepth 20000 in
theorem gX12_compared_X12_step1 : GoodIn wsX12_compared (wsV RX12 87 RX12 yX12_step1 wsX12_step1) := goodIn_app (goodIn_of _ (by decide +kernel)) ggX12_compared_X12_step1
set_option maxRecDepth 20000 in
theorem ggX12_sum_X12_product : GoodIn wsX12_sum wsX12_product := goodIn_r _ [45, 1, 39, 40, 41, 5, 6, 7, 8, 9, 10, 11, 12, 13, 14, 15, 16, 17, 18, 19, 20, 21, 22, 23, 24, 25, 26, 27, 28, 29, 30, 31, 32, 33, 34, 35, 36, 37, 38, 42, 43, 44, 0, 2, 3, 4, 46, 47, 48, 49, 50, 51, 52, 53, 54, 55, 56, 57, 58, 59, 60, 61, 62, 63, 64, 65, 66, 67, 68, 69, 70, 71, 72, 73, 74, 75, 76, 77, 78, 79] (by decide +kernel) (by decide +kernel)
set_option maxRecDepth 20000 in
theorem gX12_sum_X12_product : GoodIn wsX12_sum (wsV RX12 97 RX12 yX12_product wsX12_product) := goodIn_app (goodIn_of _ (by decide +kernel)) ggX12_sum_X12_product
set_option maxRecDepth 20000 in
theorem ggX12_sum_X12_look : GoodIn wsX12_sum wsX12_look := goodIn_r _ [9, 1, 10, 50, 51, 52, 53, 54, 55, 56, 57, 58, 59, 60, 61, 62, 63, 64, 65, 66, 67, 68, 69, 70, 71, 72, 73, 74, 75, 76, 77, 78, 79] (by decide +kernel) (by decide +kernel)
set_option maxRecDepth 20000 in
theorem gX12_sum_X12_look : GoodIn wsX12_sum (wsV RX12 83 RX12 yX12_look wsX12_look) := goodIn_app (goodIn_of _ (by decide +kernel)) ggX12_sum_X12_look
set_option maxRecDepth 20000 in
theorem ggX12_sum_X12_step1 : GoodIn wsX12_sum wsX12_step1 := goodIn_r _ [14, 15, 16, 50, 51, 52, 53, 54, 55, 56, 57, 58, 59, 60, 61, 62, 63, 64, 65, 66, 67, 68, 69, 70, 71, 72, 73, 74, 75, 76, 77, 78, 79] (by decide +kernel) (by decide +kernel)
set_option maxRecDepth 20000 in
theorem gX12_sum_X12_step1 : GoodIn wsX12_sum (wsV RX12 87 RX12 yX12_step1 wsX12_step1) := goodIn_app (goodIn_of _ (by decide +kernel)) ggX12_sum_X12_step1
set_option maxRecDepth 20000 in
theorem ggX12_product_X12_one : GoodIn wsX12_product wsX12_one := goodIn_r _ [25, 1, 26, 6, 7, 8, 5, 9, 10, 27, 28, 29, 30, 31, 11, 12, 13, 14, 15, 16, 32, 33, 34, 35, 36, 37, 38, 2, 3, 4, 39, 40, 41, 17, 18, 19, 20, 21, 22, 23, 24, 0, 42, 43, 44, 45, 46, 47, 48, 49, 50, 51, 52, 53, 54, 55, 56, 57, 58, 59, 60, 61, 62, 63, 64, 65, 66, 67, 68, 69, 70, 71, 72, 73, 74, 75, 76, 77, 78, 79] (by decide +kernel) (by decide +kernel)
set_option maxRecDepth 20000 in
theorem gX12_product_X12_one : GoodIn wsX12_product (wsV RX12 100 RX12 yX12_one wsX12_one) := goodIn_app (goodIn_of _ (by decide +kernel)) ggX12_product_X12_one
set_option maxRecDepth 20000 in
theorem ggX12_product_X12_look : GoodIn wsX12_product wsX12_look := goodIn_r _ [9, 1, 10, 50, 51, 52, 53, 54, 55, 56, 57, 58, 59, 60, 61, 62, 63, 64, 65, 66, 67, 68, 69, 70, 71, 72, 73, 74, 75, 76, 77, 78, 79] (by decide +kernel) (by decide +kernel)
set_option maxRecDepth 20000 in
theorem gX12_product_X12_look : GoodIn wsX12_product (wsV RX12 83 RX12 yX12_look wsX12_look) := goodIn_app (goodIn_of _ (by decide +kernel)) ggX12_product_X12_look
set_option maxRecDepth 20000 in
theorem ggX12_product_X12_step1 : GoodIn wsX12_product wsX12_step1 := goodIn_r _ [14, 15, 16, 50, 51, 52, 53, 54, 55, 56, 57, 58, 59, 60, 61, 62, 63, 64, 65, 66, 67, 68, 69, 70, 71, 72, 73, 74, 75, 76, 77, 78, 79] (by decide +kernel) (by decide +kernel)
set_option maxRecDepth 20000 in
theorem gX12_product_X12_step1 : GoodIn wsX12_product (wsV RX12 87 RX12 yX12_step1 wsX12_step1) := goodIn_app (goodIn_of _ (by decide +kernel)) ggX12_product_X12_step1
set_option maxRecDepth 20000 in
theorem ggX12_one_X12_look : GoodIn wsX12_one wsX12_look := goodIn_r _ [7, 1, 8, 50, 51, 52, 53, 54, 55, 56, 57, 58, 59, 60, 61, 62, 63, 64, 65, 66, 67, 68, 69, 70, 71, 72, 73, 74, 75, 76, 77, 78, 79] (by decide +kernel) (by decide +kernel)
set_option maxRecDepth 20000 in
theorem gX12_one_X12_look : GoodIn wsX12_one (wsV RX12 83 RX12 yX12_look wsX12_look) := goodIn_app (goodIn_of _ (by decide +kernel)) ggX12_one_X12_look
set_option maxRecDepth 20000 in
theorem ggX12_one_X12_isName : GoodIn wsX12_one wsX12_isName := goodIn_r _ [12, 13, 50, 51, 52, 53, 54, 55, 56, 57, 58, 59, 60, 61, 62, 63, 64, 65, 66, 67, 68, 69, 70, 71, 72, 73, 74, 75, 76, 77, 78, 79] (by decide +kernel) (by decide +kernel)
set_option maxRecDepth 20000 in
theorem gX12_one_X12_isName : GoodIn wsX12_one (wsV RX12 106 RX12 yX12_isName wsX12_isName) := goodIn_app (goodIn_of _ (by decide +kernel)) ggX12_one_X12_isName
set_option maxRecDepth 20000 in
theorem ggX12_one_X12_step1 : GoodIn wsX12_one wsX12_step1 := goodIn_r _ [17, 18, 19, 50, 51, 52, 53, 54, 55, 56, 57, 58, 59, 60, 61, 62, 63, 64, 65, 66, 67, 68, 69, 70, 71, 72, 73, 74, 75, 76, 77, 78, 79] (by decide +kernel) (by decide +kernel)
set_option maxRecDepth 20000 in
theorem gX12_one_X12_step1 : GoodIn wsX12_one (wsV RX12 87 RX12 yX12_step1 wsX12_step1) := goodIn_app (goodIn_of _ (by decide +kernel)) ggX12_one_X12_step1
set_option maxRecDepth 20000 in
theorem ggX12_one_X12_in : GoodIn wsX12_one wsX12_in := goodIn_r _ [22] (by decide +kernel) (by decide +kernel)
set_option maxRecDepth 20000 in
theorem gX12_one_X12_in : GoodIn wsX12_one (va_wsS RX12 59 yX12_in wsX12_in) := goodIn_app (goodIn_of _ (by decide +kernel)) ggX12_one_X12_in
set_option maxRecDepth 20000 in
theorem ggX12_one_X12_opens : GoodIn wsX12_one wsX12_opens := goodIn_r _ [26, 2, 1, 50, 51, 52, 53, 54, 55, 56, 57, 58, 59, 60, 61, 62, 63, 64, 65, 66, 67, 68, 69, 70, 71, 72, 73, 74, 75, 76, 77, 78, 79] (by decide +kernel) (by decide +kernel)
set_option maxRecDepth 20000 in
theorem gX12_one_X12_opens : GoodIn wsX12_one (wsV RX12 110 RX12 yX12_opens wsX12_opens) := goodIn_app (goodIn_of _ (by decide +kernel)) ggX12_one_X12_opens
set_option maxRecDepth 20000 in
theorem ggX12_one_X12_one : GoodIn wsX12_one wsX12_one := goodIn_r _ [0, 1, 2, 3, 4, 5, 6, 7, 8, 9, 10, 11, 12, 13, 14, 15, 16, 17, 18, 19, 20, 21, 22, 23, 24, 25, 26, 27, 28, 29, 30, 31, 32, 33, 34, 35, 36, 37, 38, 39, 40, 41, 42, 43, 44, 45, 46, 47, 48, 49, 50, 51, 52, 53, 54, 55, 56, 57, 58, 59, 60, 61, 62, 63, 64, 65, 66, 67, 68, 69, 70, 71, 72, 73, 74, 75, 76, 77, 78, 79] (by decide +kernel) (by decide +kernel)
set_option maxRecDepth 20000 in
theorem gX12_one_X12_one : GoodIn wsX12_one (wsV RX12 100 RX12 yX12_one wsX12_one) := goodIn_app (goodIn_of _ (by decide +kernel)) ggX12_one_X12_one
set_option maxRecDepth 20000 in
theorem ggX12_one_X12_whole : GoodIn wsX12_one wsX12_whole := goodIn_r _ [46, 1, 47, 48, 49, 6, 3, 4, 5, 7, 8, 14, 15, 16, 17, 18, 19, 33, 34, 35, 36, 37, 38, 39, 40, 0, 2, 9, 10, 11, 12, 13, 20, 21, 22, 23, 24, 25, 26, 27, 28, 29, 30, 31, 32, 41, 42, 43, 44, 45, 50, 51, 52, 53, 54, 55, 56, 57, 58, 59, 60, 61, 62, 63, 64, 65, 66, 67, 68, 69, 70, 71, 72, 73, 74, 75, 76, 77, 78, 79] (by decide +kernel) (by decide +kernel)
set_option maxRecDepth 20000 in
theorem gX12_one_X12_whole : GoodIn wsX12_one (wsV RX12 113 RX12 yX12_whole wsX12_whole) := goodIn_app (goodIn_of _ (by decide +kernel)) ggX12_one_X12_whole
set_option maxRecDepth 20000 in
theorem ggX12_text_X12_in : GoodIn wsX12_text wsX12_in := goodIn_r _ [10] (by decide +kernel) (by decide +kernel)
set_option maxRecDepth 20000 in
theorem gX12_text_X12_in : GoodIn wsX12_text (va_wsS RX12 59 yX12_in wsX12_in) := goodIn_app (goodIn_of _ (by decide +kernel)) ggX12_text_X12_in
set_option maxRecDepth 20000 in
theorem ggX12_text_X12_error : GoodIn wsX12_text wsX12_error := goodIn_r _ [14, 15, 16, 57, 58, 59, 60, 61, 62, 63, 64, 65, 66, 67, 68, 69, 70, 71, 72, 73, 74, 75, 76, 77, 78, 79, 80, 81, 82, 83, 84, 85, 86] (by decide +kernel) (by decide +kernel)
set_option maxRecDepth 20000 in
theorem gX12_text_X12_error : GoodIn wsX12_text (wsV RX12 63 RX12 yX12_error wsX12_error) := goodIn_app (goodIn_of _ (by decide +kernel)) ggX12_text_X12_error
set_option maxRecDepth 20000 in
theorem ggX12_text_X12_whole : GoodIn wsX12_text wsX12_whole := goodIn_r _ [20, 2, 21, 22, 23, 9, 24, 25, 26, 27, 5, 28, 29, 30, 31, 6, 4, 32, 33, 34, 35, 36, 37, 38, 39, 40, 3, 41, 42, 43, 44, 1, 7, 8, 10, 45, 46, 47, 48, 49, 50, 51, 17, 18, 19, 52, 53, 54, 55, 56, 57, 58, 59, 60, 61, 62, 63, 64, 65, 66, 67, 68, 69, 70, 71, 72, 73, 74, 75, 76, 77, 78, 79, 80, 81, 82, 83, 84, 85, 86] (by decide +kernel) (by decide +kernel)
set_option maxRecDepth 20000 in
theorem gX12_text_X12_whole : GoodIn wsX12_text (wsV RX12 113 RX12 yX12_whole wsX12_whole) := goodIn_app (goodIn_of _ (by decide +kernel)) ggX12_text_X12_whole
set_option maxRecDepth 20000 in
theorem ggX12_untell_X12_in : GoodIn wsX12_untell wsX12_in := goodIn_r _ [5] (by decide +kernel) (by decide +kernel)
set_option maxRecDepth 20000 in
theorem gX12_untell_X12_in : GoodIn wsX12_untell (va_wsS RX12 59 yX12_in wsX12_in) := goodIn_app (goodIn_of _ (by decide +kernel)) ggX12_untell_X12_in
set_option maxRecDepth 20000 in
theorem ggX12_untell_X12_error : GoodIn wsX12_untell wsX12_error := goodIn_r _ [9, 10, 11, 16, 17, 18, 19, 20, 21, 22, 23, 24, 25, 26, 27, 28, 29, 30, 31, 32, 33, 34, 35, 36, 37, 38, 39, 40, 41, 42, 43, 44, 45] (by decide +kernel) (by decide +kernel)
set_option maxRecDepth 20000 in
theorem gX12_untell_X12_error : GoodIn wsX12_untell (wsV RX12 63 RX12 yX12_error wsX12_error) := goodIn_app (goodIn_of _ (by decide +kernel)) ggX12_untell_X12_error
set_option maxRecDepth 20000 in
theorem ggX12_untell_X12_hasText : GoodIn wsX12_untell wsX12_hasText := goodIn_r _ [15, 1, 16, 17, 18, 19, 20, 21, 22, 23, 24, 25, 26, 27, 28, 29, 30, 31, 32, 33, 34, 35, 36, 37, 38, 39, 40, 41, 42, 43, 44, 45] (by decide +kernel) (by decide +kernel)
set_option maxRecDepth 20000 in
theorem gX12_untell_X12_hasText : GoodIn wsX12_untell (wsV RX12 116 RX12 yX12_hasText wsX12_hasText) := goodIn_app (goodIn_of _ (by decide +kernel)) ggX12_untell_X12_hasText
set_option maxRecDepth 20000 in
theorem ggX12_worked_X12_joined : GoodIn wsX12_worked wsX12_joined := goodIn_r _ [7] (by decide +kernel) (by decide +kernel)
set_option maxRecDepth 20000 in
theorem gX12_worked_X12_joined : GoodIn wsX12_worked (va_wsS RX12 119 yX12_joined wsX12_joined) := goodIn_app (goodIn_of _ (by decide +kernel)) ggX12_worked_X12_joined
set_option maxRecDepth 20000 in
theorem ggX12_rooted_X12_added : GoodIn wsX12_rooted wsX12_added := goodIn_r _ [4] (by decide +kernel) (by decide +kernel)
set_option maxRecDepth 20000 in
theorem gX12_rooted_X12_added : GoodIn wsX12_rooted (va_wsS RX12 123 yX12_added wsX12_added) := goodIn_app (goodIn_of _ (by decide +kernel)) ggX12_rooted_X12_added
set_option maxRecDepth 20000 in
theorem ggX12_asked_X12_mOf : GoodIn wsX12_asked wsX12_mOf := goodIn_r _ [6, 7, 33, 34, 35, 36, 37, 38, 39, 40, 41, 42, 43, 44, 45, 46, 47, 48, 49, 50, 51, 52, 53, 54, 55, 56, 57, 58, 59, 60, 61, 62] (by decide +kernel) (by decide +kernel)
set_option maxRecDepth 20000 in
theorem gX12_asked_X12_mOf : GoodIn wsX12_asked (wsV RX12 127 RX12 yX12_mOf wsX12_mOf) := goodIn_app (goodIn_of _ (by decide +kernel)) ggX12_asked_X12_mOf
set_option maxRecDepth 20000 in
theorem ggX12_asked_X12_added : GoodIn wsX12_asked wsX12_added := goodIn_r _ [10] (by decide +kernel) (by decide +kernel)
set_option maxRecDepth 20000 in
theorem gX12_asked_X12_added : GoodIn wsX12_asked (va_wsS RX12 123 yX12_added wsX12_added) := goodIn_app (goodIn_of _ (by decide +kernel)) ggX12_asked_X12_added
set_option maxRecDepth 20000 in
theorem ggX12_asked_X12_kindOf : GoodIn wsX12_asked wsX12_kindOf := goodIn_r _ [14, 7, 33, 34, 35, 36, 37, 38, 39, 40, 41, 42, 43, 44, 45, 46, 47, 48, 49, 50, 51, 52, 53, 54, 55, 56, 57, 58, 59, 60, 61, 62] (by decide +kernel) (by decide +kernel)
set_option maxRecDepth 20000 in
theorem gX12_asked_X12_kindOf : GoodIn wsX12_asked (wsV RX12 130 RX12 yX12_kindOf wsX12_kindOf) := goodIn_app (goodIn_of _ (by decide +kernel)) ggX12_asked_X12_kindOf
set_option maxRecDepth 20000 in
theorem ggX12_asked_X12_rooted : GoodIn wsX12_asked wsX12_rooted := goodIn_r _ [17, 8, 9, 5, 10] (by decide +kernel) (by decide +kernel)
set_option maxRecDepth 20000 in
theorem gX12_asked_X12_rooted : GoodIn wsX12_asked (va_wsS RX12 133 yX12_rooted wsX12_rooted) := goodIn_app (goodIn_of _ (by decide +kernel)) ggX12_asked_X12_rooted
set_option maxRecDepth 20000 in
theorem ggX12_asked_X12_hasText : GoodIn wsX12_asked wsX12_hasText := goodIn_r _ [21, 7, 33, 34, 35, 36, 37, 38, 39, 40, 41, 42, 43, 44, 45, 46, 47, 48, 49, 50, 51, 52, 53, 54, 55, 56, 57, 58, 59, 60, 61, 62] (by decide +kernel) (by decide +kernel)
set_option maxRecDepth 20000 in
theorem gX12_asked_X12_hasText : GoodIn wsX12_asked (wsV RX12 116 RX12 yX12_hasText wsX12_hasText) := goodIn_app (goodIn_of _ (by decide +kernel)) ggX12_asked_X12_hasText
set_option maxRecDepth 20000 in
theorem ggX12_asked_X12_worked : GoodIn wsX12_asked wsX12_worked := goodIn_r _ [25, 7, 26, 1, 27, 28, 5, 29, 33, 34, 35, 36, 37, 38, 39, 40, 41, 42, 43, 44, 45, 46, 47, 48, 49, 50, 51, 52, 53, 54, 55, 56, 57, 58, 59, 60, 61, 62] (by decide +kernel) (by decide +kernel)
set_option maxRecDepth 20000 in
theorem gX12_asked_X12_worked : GoodIn wsX12_asked (wsV RX12 136 RX12 yX12_worked wsX12_worked) := goodIn_app (goodIn_of _ (by decide +kernel)) ggX12_asked_X12_worked
set_option maxRecDepth 20000 in
theorem ggX12_asked_X12_held : GoodIn wsX12_asked wsX12_held := goodIn_r _ [32] (by decide +kernel) (by decide +kernel)
set_option maxRecDepth 20000 in
theorem gX12_asked_X12_held : GoodIn wsX12_asked (va_wsS RX12 139 yX12_held wsX12_held) := goodIn_app (goodIn_of _ (by decide +kernel)) ggX12_asked_X12_held
set_option maxRecDepth 20000 in
theorem ggX12_values_X12_hasText : GoodIn wsX12_values wsX12_hasText := goodIn_r _ [7, 2, 19, 20, 21, 22, 23, 24, 25, 26, 27, 28, 29, 30, 31, 32, 33, 34, 35, 36, 37, 38, 39, 40, 41, 42, 43, 44, 45, 46, 47, 48] (by decide +kernel) (by decide +kernel)
set_option maxRecDepth 20000 in
theorem gX12_values_X12_hasText : GoodIn wsX12_values (wsV RX12 116 RX12 yX12_hasText wsX12_hasText) := goodIn_app (goodIn_of _ (by decide +kernel)) ggX12_values_X12_hasText
set_option maxRecDepth 20000 in
theorem ggX12_values_X12_worked : GoodIn wsX12_values wsX12_worked := goodIn_r _ [11, 2, 12, 1, 13, 14, 6, 15, 19, 20, 21, 22, 23, 24, 25, 26, 27, 28, 29, 30, 31, 32, 33, 34, 35, 36, 37, 38, 39, 40, 41, 42, 43, 44, 45, 46, 47, 48] (by decide +kernel) (by decide +kernel)
set_option maxRecDepth 20000 in
theorem gX12_values_X12_worked : GoodIn wsX12_values (wsV RX12 136 RX12 yX12_worked wsX12_worked) := goodIn_app (goodIn_of _ (by decide +kernel)) ggX12_values_X12_worked
set_option maxRecDepth 20000 in
theorem ggX12_values_X12_held : GoodIn wsX12_values wsX12_held := goodIn_r _ [18] (by decide +kernel) (by decide +kernel)
set_option maxRecDepth 20000 in
theorem gX12_values_X12_held : GoodIn wsX12_values (va_wsS RX12 139 yX12_held wsX12_held) := goodIn_app (goodIn_of _ (by decide +kernel)) ggX12_values_X12_held
set_option maxRecDepth 20000 in
theorem ggX12_paid_X12_sumOf : GoodIn wsX12_paid wsX12_sumOf := goodIn_r _ [5, 6, 44, 45, 46, 47, 48, 49, 50, 51, 52, 53, 54, 55, 56, 57, 58, 59, 60, 61, 62, 63, 64, 65, 66, 67, 68, 69, 70, 71, 72, 73] (by decide +kernel) (by decide +kernel)
set_option maxRecDepth 20000 in
theorem gX12_paid_X12_sumOf : GoodIn wsX12_paid (wsV RX12 142 RX12 yX12_sumOf wsX12_sumOf) := goodIn_app (goodIn_of _ (by decide +kernel)) ggX12_paid_X12_sumOf
set_option maxRecDepth 20000 in
theorem ggX12_paid_X12_many : GoodIn wsX12_paid wsX12_many := goodIn_r _ [9] (by decide +kernel) (by decide +kernel)
set_option maxRecDepth 20000 in
theorem gX12_paid_X12_many : GoodIn wsX12_paid (va_wsS RX12 146 yX12_many wsX12_many) := goodIn_app (goodIn_of _ (by decide +kernel)) ggX12_paid_X12_many
set_option maxRecDepth 20000 in
theorem ggX12_paid_X12_asked : GoodIn wsX12_paid wsX12_asked := goodIn_r _ [13, 14, 15, 16, 17, 4, 18, 6, 19, 20, 21, 22, 23, 24, 25, 26, 27, 28, 29, 30, 31, 32, 33, 34, 35, 36, 37, 38, 39, 40, 41, 42, 43, 44, 45, 46, 47, 48, 49, 50, 51, 52, 53, 54, 55, 56, 57, 58, 59, 60, 61, 62, 63, 64, 65, 66, 67, 68, 69, 70, 71, 72, 73] (by decide +kernel) (by decide +kernel)
set_option maxRecDepth 20000 in
theorem gX12_paid_X12_asked : GoodIn wsX12_paid (wsV RX12 149 RX12 yX12_asked wsX12_asked) := goodIn_app (goodIn_of _ (by decide +kernel)) ggX12_paid_X12_asked
set_option maxRecDepth 20000 in
theorem ggX12_thing_X12_isThing : GoodIn wsX12_thing wsX12_isThing := goodIn_r _ [4, 5, 6, 3, 7] (by decide +kernel) (by decide +kernel)
set_option maxRecDepth 20000 in
theorem gX12_thing_X12_isThing : GoodIn wsX12_thing (va_wsS RX12 152 yX12_isThing wsX12_isThing) := goodIn_app (goodIn_of _ (by decide +kernel)) ggX12_thing_X12_isThing
set_option maxRecDepth 20000 in
theorem ggX12_thing_X12_in : GoodIn wsX12_thing wsX12_in := goodIn_r _ [7] (by decide +kernel) (by decide +kernel)
set_option maxRecDepth 20000 in
theorem gX12_thing_X12_in : GoodIn wsX12_thing (va_wsS RX12 59 yX12_in wsX12_in) := goodIn_app (goodIn_of _ (by decide +kernel)) ggX12_thing_X12_in
set_option maxRecDepth 20000 in
theorem ggX12_thing_X12_error : GoodIn wsX12_thing wsX12_error := goodIn_r _ [11, 12, 13, 19, 20, 21, 22, 23, 24, 25, 26, 27, 28, 29, 30, 31, 32, 33, 34, 35, 36, 37, 38, 39, 40, 41, 42, 43, 44, 45, 46, 47, 48] (by decide +kernel) (by decide +kernel)
set_option maxRecDepth 20000 in
theorem gX12_thing_X12_error : GoodIn wsX12_thing (wsV RX12 63 RX12 yX12_error wsX12_error) := goodIn_app (goodIn_of _ (by decide +kernel)) ggX12_thing_X12_error
set_option maxRecDepth 20000 in
theorem ggX12_thing_X12_change1 : GoodIn wsX12_thing wsX12_change1 := goodIn_r _ [17, 18, 19, 20, 21, 22, 23, 24, 25, 26, 27, 28, 29, 30, 31, 32, 33, 34, 35, 36, 37, 38, 39, 40, 41, 42, 43, 44, 45, 46, 47, 48] (by decide +kernel) (by decide +kernel)
set_option maxRecDepth 20000 in
theorem gX12_thing_X12_change1 : GoodIn wsX12_thing (wsV RX12 155 RX12 yX12_change1 wsX12_change1) := goodIn_app (goodIn_of _ (by decide +kernel)) ggX12_thing_X12_change1
set_option maxRecDepth 20000 in
theorem ggX12_thingIs_X12_isThing : GoodIn wsX12_thingIs wsX12_isThing := goodIn_r _ [5, 6, 7, 4, 8] (by decide +kernel) (by decide +kernel)
set_option maxRecDepth 20000 in
theorem gX12_thingIs_X12_isThing : GoodIn wsX12_thingIs (va_wsS RX12 152 yX12_isThing wsX12_isThing) := goodIn_app (goodIn_of _ (by decide +kernel)) ggX12_thingIs_X12_isThing
set_option maxRecDepth 20000 in
theorem ggX12_thingIs_X12_in : GoodIn wsX12_thingIs wsX12_in := goodIn_r _ [8] (by decide +kernel) (by decide +kernel)
set_option maxRecDepth 20000 in
theorem gX12_thingIs_X12_in : GoodIn wsX12_thingIs (va_wsS RX12 59 yX12_in wsX12_in) := goodIn_app (goodIn_of _ (by decide +kernel)) ggX12_thingIs_X12_in
set_option maxRecDepth 20000 in
theorem ggX12_thingIs_X12_error : GoodIn wsX12_thingIs wsX12_error := goodIn_r _ [12, 13, 14, 35, 36, 37, 38, 39, 40, 41, 42, 43, 44, 45, 46, 47, 48, 49, 50, 51, 52, 53, 54, 55, 56, 57, 58, 59, 60, 61, 62, 63, 64] (by decide +kernel) (by decide +kernel)
set_option maxRecDepth 20000 in
theorem gX12_thingIs_X12_error : GoodIn wsX12_thingIs (wsV RX12 63 RX12 yX12_error wsX12_error) := goodIn_app (goodIn_of _ (by decide +kernel)) ggX12_thingIs_X12_error
set_option maxRecDepth 20000 in
theorem ggX12_thingIs_X12_values : GoodIn wsX12_thingIs wsX12_values := goodIn_r _ [18, 19, 1, 20, 21, 22, 4, 23, 24, 25, 26, 27, 28, 29, 30, 31, 32, 33, 34, 35, 36, 37, 38, 39, 40, 41, 42, 43, 44, 45, 46, 47, 48, 49, 50, 51, 52, 53, 54, 55, 56, 57, 58, 59, 60, 61, 62, 63, 64] (by decide +kernel) (by decide +kernel)
set_option maxRecDepth 20000 in
theorem gX12_thingIs_X12_values : GoodIn wsX12_thingIs (wsV RX12 158 RX12 yX12_values wsX12_values) := goodIn_app (goodIn_of _ (by decide +kernel)) ggX12_thingIs_X12_values
set_option maxRecDepth 20000 in
theorem ggX12_till_X12_isTill : GoodIn wsX12_till wsX12_isTill := goodIn_r _ [5, 6, 7, 4, 8] (by decide +kernel) (by decide +kernel)
set_option maxRecDepth 20000 in
theorem gX12_till_X12_isTill : GoodIn wsX12_till (va_wsS RX12 161 yX12_isTill wsX12_isTill) := goodIn_app (goodIn_of _ (by decide +kernel)) ggX12_till_X12_isTill
set_option maxRecDepth 20000 in
theorem ggX12_till_X12_in : GoodIn wsX12_till wsX12_in := goodIn_r _ [8] (by decide +kernel) (by decide +kernel)
set_option maxRecDepth 20000 in
theorem gX12_till_X12_in : GoodIn wsX12_till (va_wsS RX12 59 yX12_in wsX12_in) := goodIn_app (goodIn_of _ (by decide +kernel)) ggX12_till_X12_in
set_option maxRecDepth 20000 in
theorem ggX12_till_X12_error : GoodIn wsX12_till wsX12_error := goodIn_r _ [12, 13, 14, 23, 24, 25, 26, 27, 28, 29, 30, 31, 32, 33, 34, 35, 36, 37, 38, 39, 40, 41, 42, 43, 44, 45, 46, 47, 48, 49, 50, 51, 52] (by decide +kernel) (by decide +kernel)
set_option maxRecDepth 20000 in
theorem gX12_till_X12_error : GoodIn wsX12_till (wsV RX12 63 RX12 yX12_error wsX12_error) := goodIn_app (goodIn_of _ (by decide +kernel)) ggX12_till_X12_error
set_option maxRecDepth 20000 in
theorem ggX12_till_X12_kindOf : GoodIn wsX12_till wsX12_kindOf := goodIn_r _ [18, 1, 23, 24, 25, 26, 27, 28, 29, 30, 31, 32, 33, 34, 35, 36, 37, 38, 39, 40, 41, 42, 43, 44, 45, 46, 47, 48, 49, 50, 51, 52] (by decide +kernel) (by decide +kernel)
set_option maxRecDepth 20000 in
theorem gX12_till_X12_kindOf : GoodIn wsX12_till (wsV RX12 130 RX12 yX12_kindOf wsX12_kindOf) := goodIn_app (goodIn_of _ (by decide +kernel)) ggX12_till_X12_kindOf
set_option maxRecDepth 20000 in
theorem ggX12_till_X12_mOf : GoodIn wsX12_till wsX12_mOf := goodIn_r _ [22, 1, 23, 24, 25, 26, 27, 28, 29, 30, 31, 32, 33, 34, 35, 36, 37, 38, 39, 40, 41, 42, 43, 44, 45, 46, 47, 48, 49, 50, 51, 52] (by decide +kernel) (by decide +kernel)
set_option maxRecDepth 20000 in
theorem gX12_till_X12_mOf : GoodIn wsX12_till (wsV RX12 127 RX12 yX12_mOf wsX12_mOf) := goodIn_app (goodIn_of _ (by decide +kernel)) ggX12_till_X12_mOf
set_option maxRecDepth 20000 in
theorem ggX12_tillIs_X12_isTill : GoodIn wsX12_tillIs wsX12_isTill := goodIn_r _ [5, 6, 7, 4, 8] (by decide +kernel) (by decide +kernel)
set_option maxRecDepth 20000 in
theorem gX12_tillIs_X12_isTill : GoodIn wsX12_tillIs (va_wsS RX12 161 yX12_isTill wsX12_isTill) := goodIn_app (goodIn_of _ (by decide +kernel)) ggX12_tillIs_X12_isTill
set_option maxRecDepth 20000 in
theorem ggX12_tillIs_X12_in : GoodIn wsX12_tillIs wsX12_in := goodIn_r _ [8] (by decide +kernel) (by decide +kernel)
set_option maxRecDepth 20000 in
theorem gX12_tillIs_X12_in : GoodIn wsX12_tillIs (va_wsS RX12 59 yX12_in wsX12_in) := goodIn_app (goodIn_of _ (by decide +kernel)) ggX12_tillIs_X12_in
set_option maxRecDepth 20000 in
theorem ggX12_tillIs_X12_error : GoodIn wsX12_tillIs wsX12_error := goodIn_r _ [12, 13, 14, 15, 16, 17, 18, 19, 20, 21, 22, 23, 24, 25, 26, 27, 28, 29, 30, 31, 32, 33, 34, 35, 36, 37, 38, 39, 40, 41, 42, 43, 44] (by decide +kernel) (by decide +kernel)
set_option maxRecDepth 20000 in
theorem gX12_tillIs_X12_error : GoodIn wsX12_tillIs (wsV RX12 63 RX12 yX12_error wsX12_error) := goodIn_app (goodIn_of _ (by decide +kernel)) ggX12_tillIs_X12_error
set_option maxRecDepth 20000 in
theorem ggX12_as_X12_isTill : GoodIn wsX12_as wsX12_isTill := goodIn_r _ [4, 5, 6, 3, 7] (by decide +kernel) (by decide +kernel)
set_option maxRecDepth 20000 in
theorem gX12_as_X12_isTill : GoodIn wsX12_as (va_wsS RX12 161 yX12_isTill wsX12_isTill) := goodIn_app (goodIn_of _ (by decide +kernel)) ggX12_as_X12_isTill
set_option maxRecDepth 20000 in
theorem ggX12_as_X12_in : GoodIn wsX12_as wsX12_in := goodIn_r _ [7] (by decide +kernel) (by decide +kernel)
set_option maxRecDepth 20000 in
theorem gX12_as_X12_in : GoodIn wsX12_as (va_wsS RX12 59 yX12_in wsX12_in) := goodIn_app (goodIn_of _ (by decide +kernel)) ggX12_as_X12_in
set_option maxRecDepth 20000 in
theorem ggX12_as_X12_error : GoodIn wsX12_as wsX12_error := goodIn_r _ [11, 12, 13, 26, 27, 28, 29, 30, 31, 32, 33, 34, 35, 36, 37, 38, 39, 40, 41, 42, 43, 44, 45, 46, 47, 48, 49, 50, 51, 52, 53, 54, 55] (by decide +kernel) (by decide +kernel)
set_option maxRecDepth 20000 in
theorem gX12_as_X12_error : GoodIn wsX12_as (wsV RX12 63 RX12 yX12_error wsX12_error) := goodIn_app (goodIn_of _ (by decide +kernel)) ggX12_as_X12_error
set_option maxRecDepth 20000 in
theorem ggX12_as_X12_kindOf : GoodIn wsX12_as wsX12_kindOf := goodIn_r _ [17, 18, 26, 27, 28, 29, 30, 31, 32, 33, 34, 35, 36, 37, 38, 39, 40, 41, 42, 43, 44, 45, 46, 47, 48, 49, 50, 51, 52, 53, 54, 55] (by decide +kernel) (by decide +kernel)
set_option maxRecDepth 20000 in
theorem gX12_as_X12_kindOf : GoodIn wsX12_as (wsV RX12 130 RX12 yX12_kindOf wsX12_kindOf) := goodIn_app (goodIn_of _ (by decide +kernel)) ggX12_as_X12_kindOf
set_option maxRecDepth 20000 in
theorem ggX12_as_X12_isUnder : GoodIn wsX12_as wsX12_isUnder := goodIn_r _ [21] (by decide +kernel) (by decide +kernel)
set_option maxRecDepth 20000 in
theorem gX12_as_X12_isUnder : GoodIn wsX12_as (va_wsS RX12 164 yX12_isUnder wsX12_isUnder) := goodIn_app (goodIn_of _ (by decide +kernel)) ggX12_as_X12_isUnder
set_option maxRecDepth 20000 in
theorem ggX12_as_X12_mOf : GoodIn wsX12_as wsX12_mOf := goodIn_r _ [25, 18, 26, 27, 28, 29, 30, 31, 32, 33, 34, 35, 36, 37, 38, 39, 40, 41, 42, 43, 44, 45, 46, 47, 48, 49, 50, 51, 52, 53, 54, 55] (by decide +kernel) (by decide +kernel)
set_option maxRecDepth 20000 in
theorem gX12_as_X12_mOf : GoodIn wsX12_as (wsV RX12 127 RX12 yX12_mOf wsX12_mOf) := goodIn_app (goodIn_of _ (by decide +kernel)) ggX12_as_X12_mOf
set_option maxRecDepth 20000 in
theorem ggX12_figures_X12_in : GoodIn wsX12_figures wsX12_in := goodIn_r _ [4] (by decide +kernel) (by decide +kernel)
set_option maxRecDepth 20000 in
theorem gX12_figures_X12_in : GoodIn wsX12_figures (va_wsS RX12 59 yX12_in wsX12_in) := goodIn_app (goodIn_of _ (by decide +kernel)) ggX12_figures_X12_in
set_option maxRecDepth 20000 in
theorem ggX12_figures_X12_added : GoodIn wsX12_figures wsX12_added := goodIn_r _ [7] (by decide +kernel) (by decide +kernel)
set_option maxRecDepth 20000 in
theorem gX12_figures_X12_added : GoodIn wsX12_figures (va_wsS RX12 123 yX12_added wsX12_added) := goodIn_app (goodIn_of _ (by decide +kernel)) ggX12_figures_X12_added
set_option maxRecDepth 20000 in
theorem ggX12_figures_X12_error : GoodIn wsX12_figures wsX12_error := goodIn_r _ [11, 12, 13, 14, 15, 16, 17, 18, 19, 20, 21, 22, 23, 24, 25, 26, 27, 28, 29, 30, 31, 32, 33, 34, 35, 36, 37, 38, 39, 40, 41, 42, 43] (by decide +kernel) (by decide +kernel)
set_option maxRecDepth 20000 in
theorem gX12_figures_X12_error : GoodIn wsX12_figures (wsV RX12 63 RX12 yX12_error wsX12_error) := goodIn_app (goodIn_of _ (by decide +kernel)) ggX12_figures_X12_error
set_option maxRecDepth 20000 in
theorem ggX12_asks_X12_isTill : GoodIn wsX12_asks wsX12_isTill := goodIn_r _ [5, 6, 7, 4, 8] (by decide +kernel) (by decide +kernel)
set_option maxRecDepth 20000 in
theorem gX12_asks_X12_isTill : GoodIn wsX12_asks (va_wsS RX12 161 yX12_isTill wsX12_isTill) := goodIn_app (goodIn_of _ (by decide +kernel)) ggX12_asks_X12_isTill
set_option maxRecDepth 20000 in
theorem ggX12_asks_X12_in : GoodIn wsX12_asks wsX12_in := goodIn_r _ [8] (by decide +kernel) (by decide +kernel)
set_option maxRecDepth 20000 in
theorem gX12_asks_X12_in : GoodIn wsX12_asks (va_wsS RX12 59 yX12_in wsX12_in) := goodIn_app (goodIn_of _ (by decide +kernel)) ggX12_asks_X12_in
set_option maxRecDepth 20000 in
theorem ggX12_asks_X12_asked : GoodIn wsX12_asks wsX12_asked := goodIn_r _ [12, 13, 14, 15, 16, 4, 17, 18, 19, 20, 21, 22, 23, 24, 25, 26, 27, 28, 29, 30, 31, 32, 33, 34, 35, 36, 37, 38, 39, 40, 41, 42, 43, 50, 51, 52, 53, 54, 55, 56, 57, 58, 59, 60, 61, 62, 63, 64, 65, 66, 67, 68, 69, 70, 71, 72, 73, 74, 75, 76, 77, 78, 79] (by decide +kernel) (by decide +kernel)
set_option maxRecDepth 20000 in
theorem gX12_asks_X12_asked : GoodIn wsX12_asks (wsV RX12 149 RX12 yX12_asked wsX12_asked) := goodIn_app (goodIn_of _ (by decide +kernel)) ggX12_asks_X12_asked
set_option maxRecDepth 20000 in
theorem ggX12_asks_X12_error : GoodIn wsX12_asks wsX12_error := goodIn_r _ [47, 48, 49, 50, 51, 52, 53, 54, 55, 56, 57, 58, 59, 60, 61, 62, 63, 64, 65, 66, 67, 68, 69, 70, 71, 72, 73, 74, 75, 76, 77, 78, 79] (by decide +kernel) (by decide +kernel)
set_option maxRecDepth 20000 in
theorem gX12_asks_X12_error : GoodIn wsX12_asks (wsV RX12 63 RX12 yX12_error wsX12_error) := goodIn_app (goodIn_of _ (by decide +kernel)) ggX12_asks_X12_error
set_option maxRecDepth 20000 in
theorem ggX12_tells_X12_in : GoodIn wsX12_tells wsX12_in := goodIn_r _ [7] (by decide +kernel) (by decide +kernel)
set_option maxRecDepth 20000 in
theorem gX12_tells_X12_in : GoodIn wsX12_tells (va_wsS RX12 59 yX12_in wsX12_in) := goodIn_app (goodIn_of _ (by decide +kernel)) ggX12_tells_X12_in
set_option maxRecDepth 20000 in
theorem ggX12_tells_X12_many : GoodIn wsX12_tells wsX12_many := goodIn_r _ [10] (by decide +kernel) (by decide +kernel)
set_option maxRecDepth 20000 in
theorem gX12_tells_X12_many : GoodIn wsX12_tells (va_wsS RX12 146 yX12_many wsX12_many) := goodIn_app (goodIn_of _ (by decide +kernel)) ggX12_tells_X12_many
set_option maxRecDepth 20000 in
theorem ggX12_lacks_X12_isSheet : GoodIn wsX12_lacks wsX12_isSheet := goodIn_r _ [5, 6, 7, 4, 8] (by decide +kernel) (by decide +kernel)
set_option maxRecDepth 20000 in
theorem gX12_lacks_X12_isSheet : GoodIn wsX12_lacks (va_wsS RX12 169 yX12_isSheet wsX12_isSheet) := goodIn_app (goodIn_of _ (by decide +kernel)) ggX12_lacks_X12_isSheet
set_option maxRecDepth 20000 in
theorem ggX12_lacks_X12_isTill : GoodIn wsX12_lacks wsX12_isTill := goodIn_r _ [11, 6, 7, 4, 8] (by decide +kernel) (by decide +kernel)
set_option maxRecDepth 20000 in
theorem gX12_lacks_X12_isTill : GoodIn wsX12_lacks (va_wsS RX12 161 yX12_isTill wsX12_isTill) := goodIn_app (goodIn_of _ (by decide +kernel)) ggX12_lacks_X12_isTill
set_option maxRecDepth 20000 in
theorem ggX12_lacks_X12_tells : GoodIn wsX12_lacks wsX12_tells := goodIn_r _ [15, 16, 17, 18, 6, 7, 4, 8, 19, 20, 21, 22, 23, 24, 25, 26, 27, 28, 29, 30, 31, 32, 33, 34, 35, 36, 37, 38, 39, 40, 41, 42, 43, 44, 45, 46, 47, 48, 49, 50, 51] (by decide +kernel) (by decide +kernel)
set_option maxRecDepth 20000 in
theorem gX12_lacks_X12_tells : GoodIn wsX12_lacks (wsV RX12 172 RX12 yX12_tells wsX12_tells) := goodIn_app (goodIn_of _ (by decide +kernel)) ggX12_lacks_X12_tells
set_option maxRecDepth 20000 in
theorem ggX12_basket_X12_in : GoodIn wsX12_basket wsX12_in := goodIn_r _ [5] (by decide +kernel) (by decide +kernel)
set_option maxRecDepth 20000 in
theorem gX12_basket_X12_in : GoodIn wsX12_basket (va_wsS RX12 59 yX12_in wsX12_in) := goodIn_app (goodIn_of _ (by decide +kernel)) ggX12_basket_X12_in
set_option maxRecDepth 20000 in
theorem ggX12_basket_X12_lacks : GoodIn wsX12_basket wsX12_lacks := goodIn_r _ [9, 1, 10, 11, 4, 12, 2, 3, 5, 13, 14, 15, 16, 17, 18, 19, 20, 21, 22, 23, 24, 25, 41, 42, 43, 44, 45, 46, 47, 48, 49, 50, 51, 52, 53, 54, 55, 56, 57, 58, 59, 60, 61, 62, 63, 64, 65, 66, 67, 68, 69, 70] (by decide +kernel) (by decide +kernel)
set_option maxRecDepth 20000 in
theorem gX12_basket_X12_lacks : GoodIn wsX12_basket (wsV RX12 176 RX12 yX12_lacks wsX12_lacks) := goodIn_app (goodIn_of _ (by decide +kernel)) ggX12_basket_X12_lacks
set_option maxRecDepth 20000 in
theorem ggX12_basket_X12_error : GoodIn wsX12_basket wsX12_error := goodIn_r _ [29, 30, 31, 41, 42, 43, 44, 45, 46, 47, 48, 49, 50, 51, 52, 53, 54, 55, 56, 57, 58, 59, 60, 61, 62, 63, 64, 65, 66, 67, 68, 69, 70] (by decide +kernel) (by decide +kernel)
set_option maxRecDepth 20000 in
theorem gX12_basket_X12_error : GoodIn wsX12_basket (wsV RX12 63 RX12 yX12_error wsX12_error) := goodIn_app (goodIn_of _ (by decide +kernel)) ggX12_basket_X12_error
set_option maxRecDepth 20000 in
theorem ggX12_basket_X12_many : GoodIn wsX12_basket wsX12_many := goodIn_r _ [25] (by decide +kernel) (by decide +kernel)
set_option maxRecDepth 20000 in
theorem gX12_basket_X12_many : GoodIn wsX12_basket (va_wsS RX12 146 yX12_many wsX12_many) := goodIn_app (goodIn_of _ (by decide +kernel)) ggX12_basket_X12_many
set_option maxRecDepth 20000 in
theorem ggX12_basket_X12_sumOf : GoodIn wsX12_basket wsX12_sumOf := goodIn_r _ [35, 36, 41, 42, 43, 44, 45, 46, 47, 48, 49, 50, 51, 52, 53, 54, 55, 56, 57, 58, 59, 60, 61, 62, 63, 64, 65, 66, 67, 68, 69, 70] (by decide +kernel) (by decide +kernel)
set_option maxRecDepth 20000 in
theorem gX12_basket_X12_sumOf : GoodIn wsX12_basket (wsV RX12 142 RX12 yX12_sumOf wsX12_sumOf) := goodIn_app (goodIn_of _ (by decide +kernel)) ggX12_basket_X12_sumOf
set_option maxRecDepth 20000 in
theorem ggX12_basket_X12_costOf : GoodIn wsX12_basket wsX12_costOf := goodIn_r _ [40, 36, 41, 42, 43, 44, 45, 46, 47, 48, 49, 50, 51, 52, 53, 54, 55, 56, 57, 58, 59, 60, 61, 62, 63, 64, 65, 66, 67, 68, 69, 70] (by decide +kernel) (by decide +kernel)
set_option maxRecDepth 20000 in
theorem gX12_basket_X12_costOf : GoodIn wsX12_basket (wsV RX12 180 RX12 yX12_costOf wsX12_costOf) := goodIn_app (goodIn_of _ (by decide +kernel)) ggX12_basket_X12_costOf
set_option maxRecDepth 20000 in
theorem ggX12_pays_X12_lacks : GoodIn wsX12_pays wsX12_lacks := goodIn_r _ [6, 1, 7, 8, 5, 9, 10, 11, 12, 13, 14, 15, 16, 17, 18, 19, 20, 21, 22, 23, 24, 25, 75, 76, 77, 78, 79, 80, 81, 82, 83, 84, 85, 86, 87, 88, 89, 90, 91, 92, 93, 94, 95, 96, 97, 98, 99, 100, 101, 102, 103, 104] (by decide +kernel) (by decide +kernel)
set_option maxRecDepth 20000 in
theorem gX12_pays_X12_lacks : GoodIn wsX12_pays (wsV RX12 176 RX12 yX12_lacks wsX12_lacks) := goodIn_app (goodIn_of _ (by decide +kernel)) ggX12_pays_X12_lacks
set_option maxRecDepth 20000 in
theorem ggX12_pays_X12_error : GoodIn wsX12_pays wsX12_error := goodIn_r _ [29, 30, 31, 75, 76, 77, 78, 79, 80, 81, 82, 83, 84, 85, 86, 87, 88, 89, 90, 91, 92, 93, 94, 95, 96, 97, 98, 99, 100, 101, 102, 103, 104] (by decide +kernel) (by decide +kernel)
set_option maxRecDepth 20000 in
theorem gX12_pays_X12_error : GoodIn wsX12_pays (wsV RX12 63 RX12 yX12_error wsX12_error) := goodIn_app (goodIn_of _ (by decide +kernel)) ggX12_pays_X12_error
set_option maxRecDepth 20000 in
theorem ggX12_pays_X12_paid : GoodIn wsX12_pays wsX12_paid := goodIn_r _ [35, 36, 37, 38, 5, 39, 40, 23, 24, 25, 41, 42, 43, 44, 45, 46, 47, 48, 49, 50, 51, 52, 53, 54, 55, 56, 57, 58, 59, 60, 61, 62, 63, 64, 65, 66, 67, 68, 69, 70, 71, 72, 73, 74, 75, 76, 77, 78, 79, 80, 81, 82, 83, 84, 85, 86, 87, 88, 89, 90, 91, 92, 93, 94, 95, 96, 97, 98, 99, 100, 101, 102, 103, 104] (by decide +kernel) (by decide +kernel)
set_option maxRecDepth 20000 in
theorem gX12_pays_X12_paid : GoodIn wsX12_pays (wsV RX12 183 RX12 yX12_paid wsX12_paid) := goodIn_app (goodIn_of _ (by decide +kernel)) ggX12_pays_X12_paid
set_option maxRecDepth 20000 in
theorem ggX12_goes_X12_paid : GoodIn wsX12_goes wsX12_paid := goodIn_r _ [7, 8, 9, 10, 6, 11, 1, 12, 13, 14, 15, 16, 17, 18, 19, 20, 21, 22, 23, 24, 25, 26, 27, 28, 29, 30, 31, 32, 33, 34, 35, 36, 37, 38, 39, 40, 41, 42, 43, 44, 45, 46, 47, 48, 53, 54, 55, 56, 57, 58, 59, 60, 61, 62, 63, 64, 65, 66, 67, 68, 69, 70, 71, 72, 73, 74, 75, 76, 77, 78, 79, 80, 81, 82] (by decide +kernel) (by decide +kernel)
set_option maxRecDepth 20000 in
theorem gX12_goes_X12_paid : GoodIn wsX12_goes (wsV RX12 183 RX12 yX12_paid wsX12_paid) := goodIn_app (goodIn_of _ (by decide +kernel)) ggX12_goes_X12_paid
set_option maxRecDepth 20000 in
theorem ggX12_goes_X12_held : GoodIn wsX12_goes wsX12_held := goodIn_r _ [48] (by decide +kernel) (by decide +kernel)
set_option maxRecDepth 20000 in
theorem gX12_goes_X12_held : GoodIn wsX12_goes (va_wsS RX12 139 yX12_held wsX12_held) := goodIn_app (goodIn_of _ (by decide +kernel)) ggX12_goes_X12_held
set_option maxRecDepth 20000 in
theorem ggX12_goes_X12_costOf : GoodIn wsX12_goes wsX12_costOf := goodIn_r _ [52, 1, 53, 54, 55, 56, 57, 58, 59, 60, 61, 62, 63, 64, 65, 66, 67, 68, 69, 70, 71, 72, 73, 74, 75, 76, 77, 78, 79, 80, 81, 82] (by decide +kernel) (by decide +kernel)
set_option maxRecDepth 20000 in
theorem gX12_goes_X12_costOf : GoodIn wsX12_goes (wsV RX12 180 RX12 yX12_costOf wsX12_costOf) := goodIn_app (goodIn_of _ (by decide +kernel)) ggX12_goes_X12_costOf
set_option maxRecDepth 20000 in
theorem ggX12_go_X12_lacks : GoodIn wsX12_go wsX12_lacks := goodIn_r _ [6, 1, 7, 8, 5, 9, 10, 11, 12, 13, 14, 15, 16, 17, 18, 19, 20, 21, 22, 23, 24, 25, 88, 89, 90, 91, 92, 93, 94, 95, 96, 97, 98, 99, 100, 101, 102, 103, 104, 105, 106, 107, 108, 109, 110, 111, 112, 113, 114, 115, 116, 117] (by decide +kernel) (by decide +kernel)
set_option maxRecDepth 20000 in
theorem gX12_go_X12_lacks : GoodIn wsX12_go (wsV RX12 176 RX12 yX12_lacks wsX12_lacks) := goodIn_app (goodIn_of _ (by decide +kernel)) ggX12_go_X12_lacks
set_option maxRecDepth 20000 in
theorem ggX12_go_X12_isInStock : GoodIn wsX12_go wsX12_isInStock := goodIn_r _ [29, 30, 88, 89, 90, 91, 92, 93, 94, 95, 96, 97, 98, 99, 100, 101, 102, 103, 104, 105, 106, 107, 108, 109, 110, 111, 112, 113, 114, 115, 116, 117] (by decide +kernel) (by decide +kernel)
set_option maxRecDepth 20000 in
theorem gX12_go_X12_isInStock : GoodIn wsX12_go (wsV RX12 188 RX12 yX12_isInStock wsX12_isInStock) := goodIn_app (goodIn_of _ (by decide +kernel)) ggX12_go_X12_isInStock
set_option maxRecDepth 20000 in
theorem ggX12_go_X12_error : GoodIn wsX12_go wsX12_error := goodIn_r _ [34, 35, 36, 88, 89, 90, 91, 92, 93, 94, 95, 96, 97, 98, 99, 100, 101, 102, 103, 104, 105, 106, 107, 108, 109, 110, 111, 112, 113, 114, 115, 116, 117] (by decide +kernel) (by decide +kernel)
set_option maxRecDepth 20000 in
theorem gX12_go_X12_error : GoodIn wsX12_go (wsV RX12 63 RX12 yX12_error wsX12_error) := goodIn_app (goodIn_of _ (by decide +kernel)) ggX12_go_X12_error
set_option maxRecDepth 20000 in
theorem ggX12_go_X12_goes : GoodIn wsX12_go wsX12_goes := goodIn_r _ [40, 30, 41, 42, 43, 44, 5, 45, 46, 47, 48, 49, 23, 24, 25, 50, 51, 52, 53, 54, 55, 56, 57, 58, 59, 60, 61, 62, 63, 64, 65, 66, 67, 68, 69, 70, 71, 72, 73, 74, 75, 76, 77, 78, 79, 80, 81, 82, 83, 84, 85, 86, 87, 88, 89, 90, 91, 92, 93, 94, 95, 96, 97, 98, 99, 100, 101, 102, 103, 104, 105, 106, 107, 108, 109, 110, 111, 112, 113, 114, 115, 116, 117] (by decide +kernel) (by decide +kernel)
set_option maxRecDepth 20000 in
theorem gX12_go_X12_goes : GoodIn wsX12_go (wsV RX12 192 RX12 yX12_goes wsX12_goes) := goodIn_app (goodIn_of _ (by decide +kernel)) ggX12_go_X12_goes
set_option maxRecDepth 20000 in
theorem ggX12_draws_X12_in : GoodIn wsX12_draws wsX12_in := goodIn_r _ [5] (by decide +kernel) (by decide +kernel)
set_option maxRecDepth 20000 in
theorem gX12_draws_X12_in : GoodIn wsX12_draws (va_wsS RX12 59 yX12_in wsX12_in) := goodIn_app (goodIn_of _ (by decide +kernel)) ggX12_draws_X12_in
set_option maxRecDepth 20000 in
theorem ggX12_draws_X12_error : GoodIn wsX12_draws wsX12_error := goodIn_r _ [9, 10, 11, 76, 77, 78, 79, 80, 81, 82, 83, 84, 85, 86, 87, 88, 89, 90, 91, 92, 93, 94, 95, 96, 97, 98, 99, 100, 101, 102, 103, 104, 105] (by decide +kernel) (by decide +kernel)
set_option maxRecDepth 20000 in
theorem gX12_draws_X12_error : GoodIn wsX12_draws (wsV RX12 63 RX12 yX12_error wsX12_error) := goodIn_app (goodIn_of _ (by decide +kernel)) ggX12_draws_X12_error
set_option maxRecDepth 20000 in
theorem ggX12_draws_X12_draw : GoodIn wsX12_draws wsX12_draw := goodIn_r _ [15, 16, 17, 76, 77, 78, 79, 80, 81, 82, 83, 84, 85, 86, 87, 88, 89, 90, 91, 92, 93, 94, 95, 96, 97, 98, 99, 100, 101, 102, 103, 104, 105] (by decide +kernel) (by decide +kernel)
set_option maxRecDepth 20000 in
theorem gX12_draws_X12_draw : GoodIn wsX12_draws (wsV RX12 196 RX12 yX12_draw wsX12_draw) := goodIn_app (goodIn_of _ (by decide +kernel)) ggX12_draws_X12_draw
set_option maxRecDepth 20000 in
theorem ggX12_draws_X12_isInStock : GoodIn wsX12_draws wsX12_isInStock := goodIn_r _ [21, 16, 76, 77, 78, 79, 80, 81, 82, 83, 84, 85, 86, 87, 88, 89, 90, 91, 92, 93, 94, 95, 96, 97, 98, 99, 100, 101, 102, 103, 104, 105] (by decide +kernel) (by decide +kernel)
set_option maxRecDepth 20000 in
theorem gX12_draws_X12_isInStock : GoodIn wsX12_draws (wsV RX12 188 RX12 yX12_isInStock wsX12_isInStock) := goodIn_app (goodIn_of _ (by decide +kernel)) ggX12_draws_X12_isInStock
set_option maxRecDepth 20000 in
theorem ggX12_draws_X12_goes : GoodIn wsX12_draws wsX12_goes := goodIn_r _ [25, 16, 26, 27, 28, 29, 4, 30, 31, 32, 33, 34, 35, 36, 37, 38, 39, 40, 41, 42, 43, 44, 45, 46, 47, 48, 49, 50, 51, 52, 53, 54, 55, 56, 57, 58, 59, 60, 61, 62, 63, 64, 65, 66, 67, 68, 69, 70, 71, 72, 73, 74, 75, 76, 77, 78, 79, 80, 81, 82, 83, 84, 85, 86, 87, 88, 89, 90, 91, 92, 93, 94, 95, 96, 97, 98, 99, 100, 101, 102, 103, 104, 105] (by decide +kernel) (by decide +kernel)
set_option maxRecDepth 20000 in
theorem gX12_draws_X12_goes : GoodIn wsX12_draws (wsV RX12 192 RX12 yX12_goes wsX12_goes) := goodIn_app (goodIn_of _ (by decide +kernel)) ggX12_draws_X12_goes
set_option maxRecDepth 20000 in
theorem ggX12_seed_X12_change1 : GoodIn wsX12_seed wsX12_change1 := goodIn_r _ [5, 6, 7, 8, 9, 10, 11, 12, 13, 14, 15, 16, 17, 18, 19, 20, 21, 22, 23, 24, 25, 26, 27, 28, 29, 30, 31, 32, 33, 34, 35, 36] (by decide +kernel) (by decide +kernel)
set_option maxRecDepth 20000 in
theorem gX12_seed_X12_change1 : GoodIn wsX12_seed (wsV RX12 155 RX12 yX12_change1 wsX12_change1) := goodIn_app (goodIn_of _ (by decide +kernel)) ggX12_seed_X12_change1
set_option maxRecDepth 20000 in
theorem ggX12_tries_X12_paid : GoodIn wsX12_tries wsX12_paid := goodIn_r _ [11, 12, 13, 14, 10, 15, 16, 17, 18, 19, 20, 21, 22, 23, 24, 25, 26, 27, 28, 29, 30, 31, 32, 33, 34, 35, 36, 37, 38, 39, 40, 41, 42, 43, 44, 45, 46, 47, 48, 49, 50, 51, 52, 53, 57, 58, 59, 60, 61, 62, 63, 64, 65, 66, 67, 68, 69, 70, 71, 72, 73, 74, 75, 76, 77, 78, 79, 80, 81, 82, 83, 84, 85, 86] (by decide +kernel) (by decide +kernel)
set_option maxRecDepth 20000 in
theorem gX12_tries_X12_paid : GoodIn wsX12_tries (wsV RX12 183 RX12 yX12_paid wsX12_paid) := goodIn_app (goodIn_of _ (by decide +kernel)) ggX12_tries_X12_paid
set_option maxRecDepth 20000 in
theorem ggX12_tries_X12_tries : GoodIn wsX12_tries wsX12_tries := goodIn_r _ [0, 1, 2, 3, 4, 5, 6, 7, 8, 9, 10, 11, 12, 13, 14, 15, 16, 17, 18, 19, 20, 21, 22, 23, 24, 25, 26, 27, 28, 29, 30, 31, 32, 33, 34, 35, 36, 37, 38, 39, 40, 41, 42, 43, 44, 45, 46, 47, 48, 49, 50, 51, 52, 53, 54, 55, 56, 57, 58, 59, 60, 61, 62, 63, 64, 65, 66, 67, 68, 69, 70, 71, 72, 73, 74, 75, 76, 77, 78, 79, 80, 81, 82, 83, 84, 85, 86] (by decide +kernel) (by decide +kernel)
set_option maxRecDepth 20000 in
theorem gX12_tries_X12_tries : GoodIn wsX12_tries (wsV RX12 205 RX12 yX12_tries wsX12_tries) := goodIn_app (goodIn_of _ (by decide +kernel)) ggX12_tries_X12_tries
set_option maxRecDepth 20000 in
theorem ggX12_seeks_X12_many : GoodIn wsX12_seeks wsX12_many := goodIn_r _ [7] (by decide +kernel) (by decide +kernel)
set_option maxRecDepth 20000 in
theorem gX12_seeks_X12_many : GoodIn wsX12_seeks (va_wsS RX12 146 yX12_many wsX12_many) := goodIn_app (goodIn_of _ (by decide +kernel)) ggX12_seeks_X12_many
set_option maxRecDepth 20000 in
theorem ggX12_seeks_X12_values : GoodIn wsX12_seeks wsX12_values := goodIn_r _ [11, 12, 13, 14, 15, 16, 6, 17, 18, 19, 20, 21, 22, 23, 24, 25, 26, 27, 28, 62, 63, 64, 65, 66, 67, 68, 69, 70, 71, 72, 73, 74, 75, 76, 77, 78, 79, 80, 81, 82, 83, 84, 85, 86, 87, 88, 89, 90, 91] (by decide +kernel) (by decide +kernel)
set_option maxRecDepth 20000 in
theorem gX12_seeks_X12_values : GoodIn wsX12_seeks (wsV RX12 158 RX12 yX12_values wsX12_values) := goodIn_app (goodIn_of _ (by decide +kernel)) ggX12_seeks_X12_values
set_option maxRecDepth 20000 in
theorem ggX12_seeks_X12_tries : GoodIn wsX12_seeks wsX12_tries := goodIn_r _ [32, 33, 1, 2, 3, 34, 35, 36, 37, 38, 6, 39, 40, 41, 42, 43, 13, 4, 5, 7, 44, 45, 46, 47, 12, 48, 49, 50, 51, 52, 53, 54, 55, 56, 57, 58, 59, 60, 61, 14, 15, 16, 17, 18, 19, 20, 21, 22, 23, 24, 25, 26, 27, 28, 29, 30, 31, 62, 63, 64, 65, 66, 67, 68, 69, 70, 71, 72, 73, 74, 75, 76, 77, 78, 79, 80, 81, 82, 83, 84, 85, 86, 87, 88, 89, 90, 91] (by decide +kernel) (by decide +kernel)
set_option maxRecDepth 20000 in
theorem gX12_seeks_X12_tries : GoodIn wsX12_seeks (wsV RX12 205 RX12 yX12_tries wsX12_tries) := goodIn_app (goodIn_of _ (by decide +kernel)) ggX12_seeks_X12_tries
set_option maxRecDepth 20000 in
theorem ggX12_more_X12_in : GoodIn wsX12_more wsX12_in := goodIn_r _ [7] (by decide +kernel) (by decide +kernel)
set_option maxRecDepth 20000 in
theorem gX12_more_X12_in : GoodIn wsX12_more (va_wsS RX12 59 yX12_in wsX12_in) := goodIn_app (goodIn_of _ (by decide +kernel)) ggX12_more_X12_in
set_option maxRecDepth 20000 in
theorem ggX12_more_X12_lacks : GoodIn wsX12_more wsX12_lacks := goodIn_r _ [11, 3, 12, 13, 6, 14, 4, 5, 7, 15, 16, 17, 18, 19, 20, 21, 22, 23, 24, 25, 26, 27, 92, 93, 94, 95, 96, 97, 98, 99, 100, 101, 102, 103, 104, 105, 106, 107, 108, 109, 110, 111, 112, 113, 114, 115, 116, 117, 118, 119, 120, 121] (by decide +kernel) (by decide +kernel)
set_option maxRecDepth 20000 in
theorem gX12_more_X12_lacks : GoodIn wsX12_more (wsV RX12 176 RX12 yX12_lacks wsX12_lacks) := goodIn_app (goodIn_of _ (by decide +kernel)) ggX12_more_X12_lacks
set_option maxRecDepth 20000 in
theorem ggX12_more_X12_error : GoodIn wsX12_more wsX12_error := goodIn_r _ [31, 32, 33, 92, 93, 94, 95, 96, 97, 98, 99, 100, 101, 102, 103, 104, 105, 106, 107, 108, 109, 110, 111, 112, 113, 114, 115, 116, 117, 118, 119, 120, 121] (by decide +kernel) (by decide +kernel)
set_option maxRecDepth 20000 in
theorem gX12_more_X12_error : GoodIn wsX12_more (wsV RX12 63 RX12 yX12_error wsX12_error) := goodIn_app (goodIn_of _ (by decide +kernel)) ggX12_more_X12_error
set_option maxRecDepth 20000 in
theorem ggX12_more_X12_seeks : GoodIn wsX12_more wsX12_seeks := goodIn_r _ [37, 3, 38, 39, 25, 26, 6, 27, 40, 41, 42, 43, 44, 45, 46, 47, 48, 49, 50, 51, 52, 53, 54, 55, 56, 57, 58, 59, 60, 61, 62, 63, 64, 65, 1, 2, 66, 67, 68, 69, 70, 71, 72, 73, 74, 75, 76, 77, 78, 79, 80, 81, 82, 83, 84, 85, 86, 87, 88, 89, 90, 91, 92, 93, 94, 95, 96, 97, 98, 99, 100, 101, 102, 103, 104, 105, 106, 107, 108, 109, 110, 111, 112, 113, 114, 115, 116, 117, 118, 119, 120, 121] (by decide +kernel) (by decide +kernel)
set_option maxRecDepth 20000 in
theorem gX12_more_X12_seeks : GoodIn wsX12_more (wsV RX12 209 RX12 yX12_seeks wsX12_seeks) := goodIn_app (goodIn_of _ (by decide +kernel)) ggX12_more_X12_seeks
set_option maxRecDepth 20000 in
theorem ggX12_more_X12_paid : GoodIn wsX12_more wsX12_paid := goodIn_r _ [69, 70, 71, 72, 6, 73, 45, 25, 26, 27, 74, 75, 76, 77, 44, 78, 79, 80, 81, 82, 83, 84, 85, 86, 87, 88, 89, 90, 91, 46, 47, 48, 49, 50, 51, 52, 53, 54, 55, 56, 57, 58, 59, 60, 92, 93, 94, 95, 96, 97, 98, 99, 100, 101, 102, 103, 104, 105, 106, 107, 108, 109, 110, 111, 112, 113, 114, 115, 116, 117, 118, 119, 120, 121] (by decide +kernel) (by decide +kernel)
set_option maxRecDepth 20000 in
theorem gX12_more_X12_paid : GoodIn wsX12_more (wsV RX12 183 RX12 yX12_paid wsX12_paid) := goodIn_app (goodIn_of _ (by decide +kernel)) ggX12_more_X12_paid
set_option maxRecDepth 20000 in
theorem ggX12_parts_X12_paid : GoodIn wsX12_parts wsX12_paid := goodIn_r _ [9, 10, 11, 12, 8, 13, 14, 15, 16, 17, 18, 19, 20, 21, 22, 23, 24, 25, 26, 27, 28, 29, 30, 31, 32, 33, 34, 35, 36, 37, 38, 39, 40, 41, 42, 43, 44, 45, 46, 47, 48, 49, 50, 51, 55, 56, 57, 58, 59, 60, 61, 62, 63, 64, 65, 66, 67, 68, 69, 70, 71, 72, 73, 74, 75, 76, 77, 78, 79, 80, 81, 82, 83, 84] (by decide +kernel) (by decide +kernel)
set_option maxRecDepth 20000 in
theorem gX12_parts_X12_paid : GoodIn wsX12_parts (wsV RX12 183 RX12 yX12_paid wsX12_paid) := goodIn_app (goodIn_of _ (by decide +kernel)) ggX12_parts_X12_paid
set_option maxRecDepth 20000 in
theorem ggX12_parts_X12_parts : GoodIn wsX12_parts wsX12_parts := goodIn_r _ [0, 1, 2, 3, 4, 5, 6, 7, 8, 9, 10, 11, 12, 13, 14, 15, 16, 17, 18, 19, 20, 21, 22, 23, 24, 25, 26, 27, 28, 29, 30, 31, 32, 33, 34, 35, 36, 37, 38, 39, 40, 41, 42, 43, 44, 45, 46, 47, 48, 49, 50, 51, 52, 53, 54, 55, 56, 57, 58, 59, 60, 61, 62, 63, 64, 65, 66, 67, 68, 69, 70, 71, 72, 73, 74, 75, 76, 77, 78, 79, 80, 81, 82, 83, 84] (by decide +kernel) (by decide +kernel)
set_option maxRecDepth 20000 in
theorem gX12_parts_X12_parts : GoodIn wsX12_parts (wsV RX12 215 RX12 yX12_parts wsX12_parts) := goodIn_app (goodIn_of _ (by decide +kernel)) ggX12_parts_X12_parts
set_option maxRecDepth 20000 in
theorem ggX12_inTwo_X12_lacks : GoodIn wsX12_inTwo wsX12_lacks := goodIn_r _ [6, 7, 8, 9, 5, 10, 11, 12, 13, 14, 15, 16, 17, 18, 19, 20, 21, 22, 23, 24, 25, 26, 82, 83, 84, 85, 86, 87, 88, 89, 90, 91, 92, 93, 94, 95, 96, 97, 98, 99, 100, 101, 102, 103, 104, 105, 106, 107, 108, 109, 110, 111] (by decide +kernel) (by decide +kernel)
set_option maxRecDepth 20000 in
theorem gX12_inTwo_X12_lacks : GoodIn wsX12_inTwo (wsV RX12 176 RX12 yX12_lacks wsX12_lacks) := goodIn_app (goodIn_of _ (by decide +kernel)) ggX12_inTwo_X12_lacks
set_option maxRecDepth 20000 in
theorem ggX12_inTwo_X12_error : GoodIn wsX12_inTwo wsX12_error := goodIn_r _ [30, 31, 32, 82, 83, 84, 85, 86, 87, 88, 89, 90, 91, 92, 93, 94, 95, 96, 97, 98, 99, 100, 101, 102, 103, 104, 105, 106, 107, 108, 109, 110, 111] (by decide +kernel) (by decide +kernel)
set_option maxRecDepth 20000 in
theorem gX12_inTwo_X12_error : GoodIn wsX12_inTwo (wsV RX12 63 RX12 yX12_error wsX12_error) := goodIn_app (goodIn_of _ (by decide +kernel)) ggX12_inTwo_X12_error
set_option maxRecDepth 20000 in
theorem ggX12_inTwo_X12_parts : GoodIn wsX12_inTwo wsX12_parts := goodIn_r _ [36, 37, 38, 1, 7, 39, 40, 41, 5, 42, 43, 44, 45, 46, 47, 24, 25, 26, 48, 49, 50, 51, 52, 53, 54, 55, 56, 57, 58, 59, 60, 61, 62, 63, 64, 65, 66, 67, 68, 69, 70, 71, 72, 73, 74, 75, 76, 77, 78, 79, 80, 81, 33, 34, 35, 82, 83, 84, 85, 86, 87, 88, 89, 90, 91, 92, 93, 94, 95, 96, 97, 98, 99, 100, 101, 102, 103, 104, 105, 106, 107, 108, 109, 110, 111] (by decide +kernel) (by decide +kernel)
set_option maxRecDepth 20000 in
theorem gX12_inTwo_X12_parts : GoodIn wsX12_inTwo (wsV RX12 215 RX12 yX12_parts wsX12_parts) := goodIn_app (goodIn_of _ (by decide +kernel)) ggX12_inTwo_X12_parts
set_option maxRecDepth 20000 in
theorem ggX12_together_X12_isSheet : GoodIn wsX12_together wsX12_isSheet := goodIn_r _ [7, 8, 9, 6, 10] (by decide +kernel) (by decide +kernel)
set_option maxRecDepth 20000 in
theorem gX12_together_X12_isSheet : GoodIn wsX12_together (va_wsS RX12 169 yX12_isSheet wsX12_isSheet) := goodIn_app (goodIn_of _ (by decide +kernel)) ggX12_together_X12_isSheet
set_option maxRecDepth 20000 in
theorem ggX12_together_X12_lacks : GoodIn wsX12_together wsX12_lacks := goodIn_r _ [14, 2, 4, 5, 6, 7, 8, 9, 10, 15, 16, 17, 18, 19, 20, 21, 22, 23, 24, 25, 26, 27, 77, 78, 79, 80, 81, 82, 83, 84, 85, 86, 87, 88, 89, 90, 91, 92, 93, 94, 95, 96, 97, 98, 99, 100, 101, 102, 103, 104, 105, 106] (by decide +kernel) (by decide +kernel)
set_option maxRecDepth 20000 in
theorem gX12_together_X12_lacks : GoodIn wsX12_together (wsV RX12 176 RX12 yX12_lacks wsX12_lacks) := goodIn_app (goodIn_of _ (by decide +kernel)) ggX12_together_X12_lacks
set_option maxRecDepth 20000 in
theorem ggX12_together_X12_isTill : GoodIn wsX12_together wsX12_isTill := goodIn_r _ [17, 8, 9, 6, 10] (by decide +kernel) (by decide +kernel)
set_option maxRecDepth 20000 in
theorem gX12_together_X12_isTill : GoodIn wsX12_together (va_wsS RX12 161 yX12_isTill wsX12_isTill) := goodIn_app (goodIn_of _ (by decide +kernel)) ggX12_together_X12_isTill
set_option maxRecDepth 20000 in
theorem ggX12_together_X12_tells : GoodIn wsX12_together wsX12_tells := goodIn_r _ [21, 22, 23, 24, 8, 9, 6, 10, 25, 26, 27, 77, 78, 79, 80, 81, 82, 83, 84, 85, 86, 87, 88, 89, 90, 91, 92, 93, 94, 95, 96, 97, 98, 99, 100, 101, 102, 103, 104, 105, 106] (by decide +kernel) (by decide +kernel)
set_option maxRecDepth 20000 in
theorem gX12_together_X12_tells : GoodIn wsX12_together (wsV RX12 172 RX12 yX12_tells wsX12_tells) := goodIn_app (goodIn_of _ (by decide +kernel)) ggX12_together_X12_tells
set_option maxRecDepth 20000 in
theorem ggX12_together_X12_many : GoodIn wsX12_together wsX12_many := goodIn_r _ [27] (by decide +kernel) (by decide +kernel)
set_option maxRecDepth 20000 in
theorem gX12_together_X12_many : GoodIn wsX12_together (va_wsS RX12 146 yX12_many wsX12_many) := goodIn_app (goodIn_of _ (by decide +kernel)) ggX12_together_X12_many
set_option maxRecDepth 20000 in
theorem ggX12_together_X12_error : GoodIn wsX12_together wsX12_error := goodIn_r _ [31, 32, 33, 77, 78, 79, 80, 81, 82, 83, 84, 85, 86, 87, 88, 89, 90, 91, 92, 93, 94, 95, 96, 97, 98, 99, 100, 101, 102, 103, 104, 105, 106] (by decide +kernel) (by decide +kernel)
set_option maxRecDepth 20000 in
theorem gX12_together_X12_error : GoodIn wsX12_together (wsV RX12 63 RX12 yX12_error wsX12_error) := goodIn_app (goodIn_of _ (by decide +kernel)) ggX12_together_X12_error
set_option maxRecDepth 20000 in
theorem ggX12_together_X12_paid : GoodIn wsX12_together wsX12_paid := goodIn_r _ [37, 38, 39, 40, 6, 41, 42, 25, 26, 27, 43, 44, 45, 46, 47, 48, 49, 50, 51, 52, 53, 54, 55, 56, 57, 58, 59, 60, 61, 62, 63, 64, 65, 66, 67, 68, 69, 70, 71, 72, 73, 74, 75, 76, 77, 78, 79, 80, 81, 82, 83, 84, 85, 86, 87, 88, 89, 90, 91, 92, 93, 94, 95, 96, 97, 98, 99, 100, 101, 102, 103, 104, 105, 106] (by decide +kernel) (by decide +kernel)
set_option maxRecDepth 20000 in
theorem gX12_together_X12_paid : GoodIn wsX12_together (wsV RX12 183 RX12 yX12_paid wsX12_paid) := goodIn_app (goodIn_of _ (by decide +kernel)) ggX12_together_X12_paid
set_option maxRecDepth 20000 in
theorem ggX12_worth_X12_isThing : GoodIn wsX12_worth wsX12_isThing := goodIn_r _ [5, 6, 7, 4, 8] (by decide +kernel) (by decide +kernel)
set_option maxRecDepth 20000 in
theorem gX12_worth_X12_isThing : GoodIn wsX12_worth (va_wsS RX12 152 yX12_isThing wsX12_isThing) := goodIn_app (goodIn_of _ (by decide +kernel)) ggX12_worth_X12_isThing
set_option maxRecDepth 20000 in
theorem ggX12_worth_X12_lacks : GoodIn wsX12_worth wsX12_lacks := goodIn_r _ [12, 1, 13, 14, 4, 15, 6, 7, 8, 16, 17, 18, 19, 20, 21, 22, 23, 24, 25, 26, 27, 28, 78, 79, 80, 81, 82, 83, 84, 85, 86, 87, 88, 89, 90, 91, 92, 93, 94, 95, 96, 97, 98, 99, 100, 101, 102, 103, 104, 105, 106, 107] (by decide +kernel) (by decide +kernel)
set_option maxRecDepth 20000 in
theorem gX12_worth_X12_lacks : GoodIn wsX12_worth (wsV RX12 176 RX12 yX12_lacks wsX12_lacks) := goodIn_app (goodIn_of _ (by decide +kernel)) ggX12_worth_X12_lacks
set_option maxRecDepth 20000 in
theorem ggX12_worth_X12_error : GoodIn wsX12_worth wsX12_error := goodIn_r _ [32, 33, 34, 78, 79, 80, 81, 82, 83, 84, 85, 86, 87, 88, 89, 90, 91, 92, 93, 94, 95, 96, 97, 98, 99, 100, 101, 102, 103, 104, 105, 106, 107] (by decide +kernel) (by decide +kernel)
set_option maxRecDepth 20000 in
theorem gX12_worth_X12_error : GoodIn wsX12_worth (wsV RX12 63 RX12 yX12_error wsX12_error) := goodIn_app (goodIn_of _ (by decide +kernel)) ggX12_worth_X12_error
set_option maxRecDepth 20000 in
theorem ggX12_worth_X12_paid : GoodIn wsX12_worth wsX12_paid := goodIn_r _ [38, 39, 40, 41, 4, 42, 43, 26, 27, 28, 44, 45, 46, 47, 48, 49, 50, 51, 52, 53, 54, 55, 56, 57, 58, 59, 60, 61, 62, 63, 64, 65, 66, 67, 68, 69, 70, 71, 72, 73, 74, 75, 76, 77, 78, 79, 80, 81, 82, 83, 84, 85, 86, 87, 88, 89, 90, 91, 92, 93, 94, 95, 96, 97, 98, 99, 100, 101, 102, 103, 104, 105, 106, 107] (by decide +kernel) (by decide +kernel)
set_option maxRecDepth 20000 in
theorem gX12_worth_X12_paid : GoodIn wsX12_worth (wsV RX12 183 RX12 yX12_paid wsX12_paid) := goodIn_app (goodIn_of _ (by decide +kernel)) ggX12_worth_X12_paid
set_option maxRecDepth 20000 in
theorem ggX12_dearer_X12_in : GoodIn wsX12_dearer wsX12_in := goodIn_r _ [6] (by decide +kernel) (by decide +kernel)
set_option maxRecDepth 20000 in
theorem gX12_dearer_X12_in : GoodIn wsX12_dearer (va_wsS RX12 59 yX12_in wsX12_in) := goodIn_app (goodIn_of _ (by decide +kernel)) ggX12_dearer_X12_in
set_option maxRecDepth 20000 in
theorem ggX12_dearer_X12_lacks : GoodIn wsX12_dearer wsX12_lacks := goodIn_r _ [10, 11, 12, 13, 5, 14, 3, 4, 6, 15, 16, 17, 18, 19, 20, 21, 22, 23, 24, 25, 26, 27, 92, 93, 94, 95, 96, 97, 98, 99, 100, 101, 102, 103, 104, 105, 106, 107, 108, 109, 110, 111, 112, 113, 114, 115, 116, 117, 118, 119, 120, 121] (by decide +kernel) (by decide +kernel)
set_option maxRecDepth 20000 in
theorem gX12_dearer_X12_lacks : GoodIn wsX12_dearer (wsV RX12 176 RX12 yX12_lacks wsX12_lacks) := goodIn_app (goodIn_of _ (by decide +kernel)) ggX12_dearer_X12_lacks
set_option maxRecDepth 20000 in
theorem ggX12_dearer_X12_error : GoodIn wsX12_dearer wsX12_error := goodIn_r _ [31, 32, 33, 92, 93, 94, 95, 96, 97, 98, 99, 100, 101, 102, 103, 104, 105, 106, 107, 108, 109, 110, 111, 112, 113, 114, 115, 116, 117, 118, 119, 120, 121] (by decide +kernel) (by decide +kernel)
set_option maxRecDepth 20000 in
theorem gX12_dearer_X12_error : GoodIn wsX12_dearer (wsV RX12 63 RX12 yX12_error wsX12_error) := goodIn_app (goodIn_of _ (by decide +kernel)) ggX12_dearer_X12_error
set_option maxRecDepth 20000 in
theorem ggX12_dearer_X12_seeks : GoodIn wsX12_dearer wsX12_seeks := goodIn_r _ [37, 11, 38, 39, 25, 26, 5, 27, 40, 41, 42, 43, 44, 1, 45, 46, 47, 48, 49, 50, 51, 52, 53, 54, 55, 56, 57, 58, 59, 60, 61, 62, 63, 64, 65, 2, 66, 67, 68, 69, 70, 71, 72, 73, 74, 75, 76, 77, 78, 79, 80, 81, 82, 83, 84, 85, 86, 87, 88, 89, 90, 91, 92, 93, 94, 95, 96, 97, 98, 99, 100, 101, 102, 103, 104, 105, 106, 107, 108, 109, 110, 111, 112, 113, 114, 115, 116, 117, 118, 119, 120, 121] (by decide +kernel) (by decide +kernel)
set_option maxRecDepth 20000 in
theorem gX12_dearer_X12_seeks : GoodIn wsX12_dearer (wsV RX12 209 RX12 yX12_seeks wsX12_seeks) := goodIn_app (goodIn_of _ (by decide +kernel)) ggX12_dearer_X12_seeks
set_option maxRecDepth 20000 in
theorem ggX12_dearer_X12_paid : GoodIn wsX12_dearer wsX12_paid := goodIn_r _ [69, 70, 71, 72, 5, 73, 1, 25, 26, 27, 74, 75, 76, 77, 44, 78, 79, 80, 81, 82, 83, 84, 85, 86, 87, 88, 89, 90, 91, 45, 46, 47, 48, 49, 50, 51, 52, 53, 54, 55, 56, 57, 58, 59, 92, 93, 94, 95, 96, 97, 98, 99, 100, 101, 102, 103, 104, 105, 106, 107, 108, 109, 110, 111, 112, 113, 114, 115, 116, 117, 118, 119, 120, 121] (by decide +kernel) (by decide +kernel)
set_option maxRecDepth 20000 in
theorem gX12_dearer_X12_paid : GoodIn wsX12_dearer (wsV RX12 183 RX12 yX12_paid wsX12_paid) := goodIn_app (goodIn_of _ (by decide +kernel)) ggX12_dearer_X12_paid
set_option maxRecDepth 20000 in
theorem ggX12_small_X12_many : GoodIn wsX12_small wsX12_many := goodIn_r _ [8] (by decide +kernel) (by decide +kernel)
set_option maxRecDepth 20000 in
theorem gX12_small_X12_many : GoodIn wsX12_small (va_wsS RX12 146 yX12_many wsX12_many) := goodIn_app (goodIn_of _ (by decide +kernel)) ggX12_small_X12_many
set_option maxRecDepth 20000 in
theorem ggX12_small_X12_paid : GoodIn wsX12_small wsX12_paid := goodIn_r _ [12, 13, 14, 15, 7, 16, 17, 5, 6, 8, 18, 19, 20, 21, 22, 23, 24, 25, 26, 27, 28, 29, 30, 31, 32, 33, 34, 35, 36, 37, 38, 39, 40, 41, 42, 43, 44, 45, 46, 47, 48, 49, 50, 51, 55, 56, 57, 58, 59, 60, 61, 62, 63, 64, 65, 66, 67, 68, 69, 70, 71, 72, 73, 74, 75, 76, 77, 78, 79, 80, 81, 82, 83, 84] (by decide +kernel) (by decide +kernel)
set_option maxRecDepth 20000 in
theorem gX12_small_X12_paid : GoodIn wsX12_small (wsV RX12 183 RX12 yX12_paid wsX12_paid) := goodIn_app (goodIn_of _ (by decide +kernel)) ggX12_small_X12_paid
set_option maxRecDepth 20000 in
theorem ggX12_small_X12_small : GoodIn wsX12_small wsX12_small := goodIn_r _ [0, 1, 2, 3, 4, 5, 6, 7, 8, 9, 10, 11, 12, 13, 14, 15, 16, 17, 18, 19, 20, 21, 22, 23, 24, 25, 26, 27, 28, 29, 30, 31, 32, 33, 34, 35, 36, 37, 38, 39, 40, 41, 42, 43, 44, 45, 46, 47, 48, 49, 50, 51, 52, 53, 54, 55, 56, 57, 58, 59, 60, 61, 62, 63, 64, 65, 66, 67, 68, 69, 70, 71, 72, 73, 74, 75, 76, 77, 78, 79, 80, 81, 82, 83, 84] (by decide +kernel) (by decide +kernel)
set_option maxRecDepth 20000 in
theorem gX12_small_X12_small : GoodIn wsX12_small (wsV RX12 227 RX12 yX12_small wsX12_small) := goodIn_app (goodIn_of _ (by decide +kernel)) ggX12_small_X12_small
set_option maxRecDepth 20000 in
theorem ggX12_allSmall_X12_small : GoodIn wsX12_allSmall wsX12_small := goodIn_r _ [8, 9, 3, 1, 2, 10, 11, 7, 12, 13, 14, 15, 16, 17, 18, 19, 20, 21, 22, 23, 24, 25, 26, 27, 28, 29, 30, 31, 32, 33, 34, 35, 36, 37, 38, 39, 40, 41, 42, 43, 44, 45, 46, 47, 48, 49, 50, 51, 52, 53, 54, 55, 4, 5, 6, 56, 57, 58, 59, 60, 61, 62, 63, 64, 65, 66, 67, 68, 69, 70, 71, 72, 73, 74, 75, 76, 77, 78, 79, 80, 81, 82, 83, 84, 85] (by decide +kernel) (by decide +kernel)
set_option maxRecDepth 20000 in
theorem gX12_allSmall_X12_small : GoodIn wsX12_allSmall (wsV RX12 227 RX12 yX12_small wsX12_small) := goodIn_app (goodIn_of _ (by decide +kernel)) ggX12_allSmall_X12_small
set_option maxRecDepth 20000 in
theorem ggX12_nines_X12_in : GoodIn wsX12_nines wsX12_in := goodIn_r _ [6] (by decide +kernel) (by decide +kernel)
set_option maxRecDepth 20000 in
theorem gX12_nines_X12_in : GoodIn wsX12_nines (va_wsS RX12 59 yX12_in wsX12_in) := goodIn_app (goodIn_of _ (by decide +kernel)) ggX12_nines_X12_in
set_option maxRecDepth 20000 in
theorem ggX12_nines_X12_error : GoodIn wsX12_nines wsX12_error := goodIn_r _ [10, 11, 12, 69, 70, 71, 72, 73, 74, 75, 76, 77, 78, 79, 80, 81, 82, 83, 84, 85, 86, 87, 88, 89, 90, 91, 92, 93, 94, 95, 96, 97, 98] (by decide +kernel) (by decide +kernel)
set_option maxRecDepth 20000 in
theorem gX12_nines_X12_error : GoodIn wsX12_nines (wsV RX12 63 RX12 yX12_error wsX12_error) := goodIn_app (goodIn_of _ (by decide +kernel)) ggX12_nines_X12_error
set_option maxRecDepth 20000 in
theorem ggX12_nines_X12_allSmall : GoodIn wsX12_nines wsX12_allSmall := goodIn_r _ [16, 17, 18, 2, 19, 20, 21, 5, 22, 23, 24, 25, 26, 27, 28, 29, 30, 31, 32, 33, 34, 1, 35, 36, 37, 38, 39, 40, 41, 42, 43, 44, 45, 46, 47, 48, 49, 50, 51, 52, 53, 54, 55, 56, 57, 58, 59, 60, 61, 62, 63, 64, 65, 66, 67, 68, 69, 70, 71, 72, 73, 74, 75, 76, 77, 78, 79, 80, 81, 82, 83, 84, 85, 86, 87, 88, 89, 90, 91, 92, 93, 94, 95, 96, 97, 98] (by decide +kernel) (by decide +kernel)
set_option maxRecDepth 20000 in
theorem gX12_nines_X12_allSmall : GoodIn wsX12_nines (wsV RX12 230 RX12 yX12_allSmall wsX12_allSmall) := goodIn_app (goodIn_of _ (by decide +kernel)) ggX12_nines_X12_allSmall
set_option maxRecDepth 20000 in
theorem ggX12_erring_X12_in : GoodIn wsX12_erring wsX12_in := goodIn_r _ [5] (by decide +kernel) (by decide +kernel)
set_option maxRecDepth 20000 in
theorem gX12_erring_X12_in : GoodIn wsX12_erring (va_wsS RX12 59 yX12_in wsX12_in) := goodIn_app (goodIn_of _ (by decide +kernel)) ggX12_erring_X12_in
set_option maxRecDepth 20000 in
theorem ggX12_erring_X12_lacks : GoodIn wsX12_erring wsX12_lacks := goodIn_r _ [9, 1, 10, 11, 4, 12, 2, 3, 5, 13, 14, 15, 16, 17, 18, 19, 20, 21, 22, 23, 24, 25, 78, 79, 80, 81, 82, 83, 84, 85, 86, 87, 88, 89, 90, 91, 92, 93, 94, 95, 96, 97, 98, 99, 100, 101, 102, 103, 104, 105, 106, 107] (by decide +kernel) (by decide +kernel)
set_option maxRecDepth 20000 in
theorem gX12_erring_X12_lacks : GoodIn wsX12_erring (wsV RX12 176 RX12 yX12_lacks wsX12_lacks) := goodIn_app (goodIn_of _ (by decide +kernel)) ggX12_erring_X12_lacks
set_option maxRecDepth 20000 in
theorem ggX12_erring_X12_error : GoodIn wsX12_erring wsX12_error := goodIn_r _ [29, 30, 31, 78, 79, 80, 81, 82, 83, 84, 85, 86, 87, 88, 89, 90, 91, 92, 93, 94, 95, 96, 97, 98, 99, 100, 101, 102, 103, 104, 105, 106, 107] (by decide +kernel) (by decide +kernel)
set_option maxRecDepth 20000 in
theorem gX12_erring_X12_error : GoodIn wsX12_erring (wsV RX12 63 RX12 yX12_error wsX12_error) := goodIn_app (goodIn_of _ (by decide +kernel)) ggX12_erring_X12_error
set_option maxRecDepth 20000 in
theorem ggX12_erring_X12_paid : GoodIn wsX12_erring wsX12_paid := goodIn_r _ [35, 36, 37, 38, 4, 39, 40, 23, 24, 25, 41, 42, 43, 44, 45, 46, 47, 48, 49, 50, 51, 52, 53, 54, 55, 56, 57, 58, 59, 60, 61, 62, 63, 64, 65, 66, 67, 68, 69, 70, 71, 72, 73, 74, 78, 79, 80, 81, 82, 83, 84, 85, 86, 87, 88, 89, 90, 91, 92, 93, 94, 95, 96, 97, 98, 99, 100, 101, 102, 103, 104, 105, 106, 107] (by decide +kernel) (by decide +kernel)
set_option maxRecDepth 20000 in
theorem gX12_erring_X12_paid : GoodIn wsX12_erring (wsV RX12 183 RX12 yX12_paid wsX12_paid) := goodIn_app (goodIn_of _ (by decide +kernel)) ggX12_erring_X12_paid
set_option maxRecDepth 20000 in
theorem ggX12_erring_X12_many : GoodIn wsX12_erring wsX12_many := goodIn_r _ [25] (by decide +kernel) (by decide +kernel)
set_option maxRecDepth 20000 in
theorem gX12_erring_X12_many : GoodIn wsX12_erring (va_wsS RX12 146 yX12_many wsX12_many) := goodIn_app (goodIn_of _ (by decide +kernel)) ggX12_erring_X12_many
set_option maxRecDepth 20000 in
theorem ggX12_erring_X12_divisor : GoodIn wsX12_erring wsX12_divisor := goodIn_r _ [77] (by decide +kernel) (by decide +kernel)
set_option maxRecDepth 20000 in
theorem gX12_erring_X12_divisor : GoodIn wsX12_erring (va_wsS RX12 233 yX12_divisor wsX12_divisor) := goodIn_app (goodIn_of _ (by decide +kernel)) ggX12_erring_X12_divisor
set_option maxRecDepth 20000 in
theorem ggX12_wasIn_X12_isTill : GoodIn wsX12_wasIn wsX12_isTill := goodIn_r _ [6, 7, 8, 5, 9] (by decide +kernel) (by decide +kernel)
set_option maxRecDepth 20000 in
theorem gX12_wasIn_X12_isTill : GoodIn wsX12_wasIn (va_wsS RX12 161 yX12_isTill wsX12_isTill) := goodIn_app (goodIn_of _ (by decide +kernel)) ggX12_wasIn_X12_isTill
set_option maxRecDepth 20000 in
theorem ggX12_wasIn_X12_in : GoodIn wsX12_wasIn wsX12_in := goodIn_r _ [9] (by decide +kernel) (by decide +kernel)
set_option maxRecDepth 20000 in
theorem gX12_wasIn_X12_in : GoodIn wsX12_wasIn (va_wsS RX12 59 yX12_in wsX12_in) := goodIn_app (goodIn_of _ (by decide +kernel)) ggX12_wasIn_X12_in
set_option maxRecDepth 20000 in
theorem ggX12_wasIn_X12_error : GoodIn wsX12_wasIn wsX12_error := goodIn_r _ [13, 14, 15, 72, 73, 74, 75, 76, 77, 78, 79, 80, 81, 82, 83, 84, 85, 86, 87, 88, 89, 90, 91, 92, 93, 94, 95, 96, 97, 98, 99, 100, 101] (by decide +kernel) (by decide +kernel)
set_option maxRecDepth 20000 in
theorem gX12_wasIn_X12_error : GoodIn wsX12_wasIn (wsV RX12 63 RX12 yX12_error wsX12_error) := goodIn_app (goodIn_of _ (by decide +kernel)) ggX12_wasIn_X12_error
set_option maxRecDepth 20000 in
theorem ggX12_wasIn_X12_allSmall : GoodIn wsX12_wasIn wsX12_allSmall := goodIn_r _ [19, 1, 2, 20, 21, 22, 23, 5, 24, 25, 26, 27, 28, 29, 30, 31, 32, 33, 34, 35, 36, 37, 38, 39, 40, 41, 42, 43, 44, 45, 46, 47, 48, 49, 50, 51, 52, 53, 54, 55, 56, 57, 58, 59, 60, 61, 62, 63, 64, 65, 66, 67, 68, 69, 70, 71, 72, 73, 74, 75, 76, 77, 78, 79, 80, 81, 82, 83, 84, 85, 86, 87, 88, 89, 90, 91, 92, 93, 94, 95, 96, 97, 98, 99, 100, 101] (by decide +kernel) (by decide +kernel)
set_option maxRecDepth 20000 in
theorem gX12_wasIn_X12_allSmall : GoodIn wsX12_wasIn (wsV RX12 230 RX12 yX12_allSmall wsX12_allSmall) := goodIn_app (goodIn_of _ (by decide +kernel)) ggX12_wasIn_X12_allSmall
set_option maxRecDepth 20000 in
theorem ggX12_addsAs_X12_begins : GoodIn wsX12_addsAs wsX12_begins := goodIn_r _ [6, 7, 8, 15, 16, 17, 18, 19, 20, 21, 22, 23, 24, 25, 26, 27, 28, 29, 30, 31, 32, 33, 34, 35, 36, 37, 38, 39, 40, 41, 42, 43, 44] (by decide +kernel) (by decide +kernel)
set_option maxRecDepth 20000 in
theorem gX12_addsAs_X12_begins : GoodIn wsX12_addsAs (wsV RX12 239 RX12 yX12_begins wsX12_begins) := goodIn_app (goodIn_of _ (by decide +kernel)) ggX12_addsAs_X12_begins
set_option maxRecDepth 20000 in
theorem ggX12_addsAs_X12_above : GoodIn wsX12_addsAs wsX12_above := goodIn_r _ [11] (by decide +kernel) (by decide +kernel)
set_option maxRecDepth 20000 in
theorem gX12_addsAs_X12_above : GoodIn wsX12_addsAs (va_wsS RX12 246 yX12_above wsX12_above) := goodIn_app (goodIn_of _ (by decide +kernel)) ggX12_addsAs_X12_above
set_option maxRecDepth 20000 in
theorem ggX12_addsAs_X12_addsAs : GoodIn wsX12_addsAs wsX12_addsAs := goodIn_r _ [0, 1, 2, 3, 4, 5, 6, 7, 8, 9, 10, 11, 12, 13, 14, 15, 16, 17, 18, 19, 20, 21, 22, 23, 24, 25, 26, 27, 28, 29, 30, 31, 32, 33, 34, 35, 36, 37, 38, 39, 40, 41, 42, 43, 44] (by decide +kernel) (by decide +kernel)
set_option maxRecDepth 20000 in
theorem gX12_addsAs_X12_addsAs : GoodIn wsX12_addsAs (wsV RX12 249 RX12 yX12_addsAs wsX12_addsAs) := goodIn_app (goodIn_of _ (by decide +kernel)) ggX12_addsAs_X12_addsAs
set_option maxRecDepth 20000 in
theorem ggX12_comesAs_X12_begins : GoodIn wsX12_comesAs wsX12_begins := goodIn_r _ [6, 7, 8, 28, 29, 30, 31, 32, 33, 34, 35, 36, 37, 38, 39, 40, 41, 42, 43, 44, 45, 46, 47, 48, 49, 50, 51, 52, 53, 54, 55, 56, 57] (by decide +kernel) (by decide +kernel)
set_option maxRecDepth 20000 in
theorem gX12_comesAs_X12_begins : GoodIn wsX12_comesAs (wsV RX12 239 RX12 yX12_begins wsX12_begins) := goodIn_app (goodIn_of _ (by decide +kernel)) ggX12_comesAs_X12_begins
set_option maxRecDepth 20000 in
theorem ggX12_comesAs_X12_kindOf : GoodIn wsX12_comesAs wsX12_kindOf := goodIn_r _ [12, 13, 28, 29, 30, 31, 32, 33, 34, 35, 36, 37, 38, 39, 40, 41, 42, 43, 44, 45, 46, 47, 48, 49, 50, 51, 52, 53, 54, 55, 56, 57] (by decide +kernel) (by decide +kernel)
set_option maxRecDepth 20000 in
theorem gX12_comesAs_X12_kindOf : GoodIn wsX12_comesAs (wsV RX12 130 RX12 yX12_kindOf wsX12_kindOf) := goodIn_app (goodIn_of _ (by decide +kernel)) ggX12_comesAs_X12_kindOf
set_option maxRecDepth 20000 in
theorem ggX12_comesAs_X12_addsAs : GoodIn wsX12_comesAs wsX12_addsAs := goodIn_r _ [17, 1, 2, 3, 4, 5, 6, 7, 8, 18, 19, 20, 14, 15, 16, 28, 29, 30, 31, 32, 33, 34, 35, 36, 37, 38, 39, 40, 41, 42, 43, 44, 45, 46, 47, 48, 49, 50, 51, 52, 53, 54, 55, 56, 57] (by decide +kernel) (by decide +kernel)
set_option maxRecDepth 20000 in
theorem gX12_comesAs_X12_addsAs : GoodIn wsX12_comesAs (wsV RX12 249 RX12 yX12_addsAs wsX12_addsAs) := goodIn_app (goodIn_of _ (by decide +kernel)) ggX12_comesAs_X12_addsAs
set_option maxRecDepth 20000 in
theorem ggX12_comesAs_X12_above : GoodIn wsX12_comesAs wsX12_above := goodIn_r _ [20] (by decide +kernel) (by decide +kernel)
set_option maxRecDepth 20000 in
theorem gX12_comesAs_X12_above : GoodIn wsX12_comesAs (va_wsS RX12 246 yX12_above wsX12_above) := goodIn_app (goodIn_of _ (by decide +kernel)) ggX12_comesAs_X12_above
set_option maxRecDepth 20000 in
theorem ggX12_comesAs_X12_comesAs : GoodIn wsX12_comesAs wsX12_comesAs := goodIn_r _ [0, 1, 2, 3, 4, 5, 6, 7, 8, 9, 10, 11, 12, 13, 14, 15, 16, 17, 18, 19, 20, 21, 22, 23, 24, 25, 26, 27, 28, 29, 30, 31, 32, 33, 34, 35, 36, 37, 38, 39, 40, 41, 42, 43, 44, 45, 46, 47, 48, 49, 50, 51, 52, 53, 54, 55, 56, 57] (by decide +kernel) (by decide +kernel)
set_option maxRecDepth 20000 in
theorem gX12_comesAs_X12_comesAs : GoodIn wsX12_comesAs (wsV RX12 252 RX12 yX12_comesAs wsX12_comesAs) := goodIn_app (goodIn_of _ (by decide +kernel)) ggX12_comesAs_X12_comesAs
set_option maxRecDepth 20000 in
theorem ggX12_comesAs_X12_mOf : GoodIn wsX12_comesAs wsX12_mOf := goodIn_r _ [27, 13, 28, 29, 30, 31, 32, 33, 34, 35, 36, 37, 38, 39, 40, 41, 42, 43, 44, 45, 46, 47, 48, 49, 50, 51, 52, 53, 54, 55, 56, 57] (by decide +kernel) (by decide +kernel)
set_option maxRecDepth 20000 in
theorem gX12_comesAs_X12_mOf : GoodIn wsX12_comesAs (wsV RX12 127 RX12 yX12_mOf wsX12_mOf) := goodIn_app (goodIn_of _ (by decide +kernel)) ggX12_comesAs_X12_mOf
set_option maxRecDepth 20000 in
theorem ggX12_givesAs_X12_begins : GoodIn wsX12_givesAs wsX12_begins := goodIn_r _ [6, 7, 8, 32, 33, 34, 35, 36, 37, 38, 39, 40, 41, 42, 43, 44, 45, 46, 47, 48, 49, 50, 51, 52, 53, 54, 55, 56, 57, 58, 59, 60, 61] (by decide +kernel) (by decide +kernel)
set_option maxRecDepth 20000 in
theorem gX12_givesAs_X12_begins : GoodIn wsX12_givesAs (wsV RX12 239 RX12 yX12_begins wsX12_begins) := goodIn_app (goodIn_of _ (by decide +kernel)) ggX12_givesAs_X12_begins
set_option maxRecDepth 20000 in
theorem ggX12_givesAs_X12_kindOf : GoodIn wsX12_givesAs wsX12_kindOf := goodIn_r _ [12, 13, 32, 33, 34, 35, 36, 37, 38, 39, 40, 41, 42, 43, 44, 45, 46, 47, 48, 49, 50, 51, 52, 53, 54, 55, 56, 57, 58, 59, 60, 61] (by decide +kernel) (by decide +kernel)
set_option maxRecDepth 20000 in
theorem gX12_givesAs_X12_kindOf : GoodIn wsX12_givesAs (wsV RX12 130 RX12 yX12_kindOf wsX12_kindOf) := goodIn_app (goodIn_of _ (by decide +kernel)) ggX12_givesAs_X12_kindOf
set_option maxRecDepth 20000 in
theorem ggX12_givesAs_X12_comesAs : GoodIn wsX12_givesAs wsX12_comesAs := goodIn_r _ [17, 1, 2, 3, 4, 5, 6, 7, 8, 9, 10, 11, 12, 13, 18, 19, 20, 21, 22, 23, 24, 14, 15, 16, 25, 26, 27, 28, 32, 33, 34, 35, 36, 37, 38, 39, 40, 41, 42, 43, 44, 45, 46, 47, 48, 49, 50, 51, 52, 53, 54, 55, 56, 57, 58, 59, 60, 61] (by decide +kernel) (by decide +kernel)
set_option maxRecDepth 20000 in
theorem gX12_givesAs_X12_comesAs : GoodIn wsX12_givesAs (wsV RX12 252 RX12 yX12_comesAs wsX12_comesAs) := goodIn_app (goodIn_of _ (by decide +kernel)) ggX12_givesAs_X12_comesAs
set_option maxRecDepth 20000 in
theorem ggX12_givesAs_X12_mOf : GoodIn wsX12_givesAs wsX12_mOf := goodIn_r _ [28, 13, 32, 33, 34, 35, 36, 37, 38, 39, 40, 41, 42, 43, 44, 45, 46, 47, 48, 49, 50, 51, 52, 53, 54, 55, 56, 57, 58, 59, 60, 61] (by decide +kernel) (by decide +kernel)
set_option maxRecDepth 20000 in
theorem gX12_givesAs_X12_mOf : GoodIn wsX12_givesAs (wsV RX12 127 RX12 yX12_mOf wsX12_mOf) := goodIn_app (goodIn_of _ (by decide +kernel)) ggX12_givesAs_X12_mOf
set_option maxRecDepth 20000 in
theorem ggX12_givesAs_X12_above : GoodIn wsX12_givesAs wsX12_above := goodIn_r _ [24] (by decide +kernel) (by decide +kernel)
set_option maxRecDepth 20000 in
theorem gX12_givesAs_X12_above : GoodIn wsX12_givesAs (va_wsS RX12 246 yX12_above wsX12_above) := goodIn_app (goodIn_of _ (by decide +kernel)) ggX12_givesAs_X12_above
set_option maxRecDepth 20000 in
theorem ggX12_givesAs_X12_givesAs : GoodIn wsX12_givesAs wsX12_givesAs := goodIn_r _ [0, 1, 2, 3, 4, 5, 6, 7, 8, 9, 10, 11, 12, 13, 14, 15, 16, 17, 18, 19, 20, 21, 22, 23, 24, 25, 26, 27, 28, 29, 30, 31, 32, 33, 34, 35, 36, 37, 38, 39, 40, 41, 42, 43, 44, 45, 46, 47, 48, 49, 50, 51, 52, 53, 54, 55, 56, 57, 58, 59, 60, 61] (by decide +kernel) (by decide +kernel)
set_option maxRecDepth 20000 in
theorem gX12_givesAs_X12_givesAs : GoodIn wsX12_givesAs (wsV RX12 255 RX12 yX12_givesAs wsX12_givesAs) := goodIn_app (goodIn_of _ (by decide +kernel)) ggX12_givesAs_X12_givesAs
set_option maxRecDepth 20000 in
theorem ggX12_partsAs_X12_begins : GoodIn wsX12_partsAs wsX12_begins := goodIn_r _ [7, 8, 9, 33, 34, 35, 36, 37, 38, 39, 40, 41, 42, 43, 44, 45, 46, 47, 48, 49, 50, 51, 52, 53, 54, 55, 56, 57, 58, 59, 60, 61, 62] (by decide +kernel) (by decide +kernel)
set_option maxRecDepth 20000 in
theorem gX12_partsAs_X12_begins : GoodIn wsX12_partsAs (wsV RX12 239 RX12 yX12_begins wsX12_begins) := goodIn_app (goodIn_of _ (by decide +kernel)) ggX12_partsAs_X12_begins
set_option maxRecDepth 20000 in
theorem ggX12_partsAs_X12_mOf : GoodIn wsX12_partsAs wsX12_mOf := goodIn_r _ [13, 14, 33, 34, 35, 36, 37, 38, 39, 40, 41, 42, 43, 44, 45, 46, 47, 48, 49, 50, 51, 52, 53, 54, 55, 56, 57, 58, 59, 60, 61, 62] (by decide +kernel) (by decide +kernel)
set_option maxRecDepth 20000 in
theorem gX12_partsAs_X12_mOf : GoodIn wsX12_partsAs (wsV RX12 127 RX12 yX12_mOf wsX12_mOf) := goodIn_app (goodIn_of _ (by decide +kernel)) ggX12_partsAs_X12_mOf
set_option maxRecDepth 20000 in
theorem ggX12_partsAs_X12_above : GoodIn wsX12_partsAs wsX12_above := goodIn_r _ [17] (by decide +kernel) (by decide +kernel)
set_option maxRecDepth 20000 in
theorem gX12_partsAs_X12_above : GoodIn wsX12_partsAs (va_wsS RX12 246 yX12_above wsX12_above) := goodIn_app (goodIn_of _ (by decide +kernel)) ggX12_partsAs_X12_above
set_option maxRecDepth 20000 in
theorem ggX12_partsAs_X12_partsAs : GoodIn wsX12_partsAs wsX12_partsAs := goodIn_r _ [0, 1, 2, 3, 4, 5, 6, 7, 8, 9, 10, 11, 12, 13, 14, 15, 16, 17, 18, 19, 20, 21, 22, 23, 24, 25, 26, 27, 28, 29, 30, 31, 32, 33, 34, 35, 36, 37, 38, 39, 40, 41, 42, 43, 44, 45, 46, 47, 48, 49, 50, 51, 52, 53, 54, 55, 56, 57, 58, 59, 60, 61, 62] (by decide +kernel) (by decide +kernel)
set_option maxRecDepth 20000 in
theorem gX12_partsAs_X12_partsAs : GoodIn wsX12_partsAs (wsV RX12 262 RX12 yX12_partsAs wsX12_partsAs) := goodIn_app (goodIn_of _ (by decide +kernel)) ggX12_partsAs_X12_partsAs
set_option maxRecDepth 20000 in
theorem ggX12_partsAs_X12_kindOf : GoodIn wsX12_partsAs wsX12_kindOf := goodIn_r _ [24, 14, 33, 34, 35, 36, 37, 38, 39, 40, 41, 42, 43, 44, 45, 46, 47, 48, 49, 50, 51, 52, 53, 54, 55, 56, 57, 58, 59, 60, 61, 62] (by decide +kernel) (by decide +kernel)
set_option maxRecDepth 20000 in
theorem gX12_partsAs_X12_kindOf : GoodIn wsX12_partsAs (wsV RX12 130 RX12 yX12_kindOf wsX12_kindOf) := goodIn_app (goodIn_of _ (by decide +kernel)) ggX12_partsAs_X12_kindOf
set_option maxRecDepth 20000 in
theorem ggX12_partsAs_X12_comesAs : GoodIn wsX12_partsAs wsX12_comesAs := goodIn_r _ [28, 1, 3, 4, 5, 6, 7, 8, 9, 21, 22, 23, 24, 14, 29, 30, 31, 32, 15, 16, 17, 25, 26, 27, 10, 11, 12, 13, 33, 34, 35, 36, 37, 38, 39, 40, 41, 42, 43, 44, 45, 46, 47, 48, 49, 50, 51, 52, 53, 54, 55, 56, 57, 58, 59, 60, 61, 62] (by decide +kernel) (by decide +kernel)
set_option maxRecDepth 20000 in
theorem gX12_partsAs_X12_comesAs : GoodIn wsX12_partsAs (wsV RX12 252 RX12 yX12_comesAs wsX12_comesAs) := goodIn_app (goodIn_of _ (by decide +kernel)) ggX12_partsAs_X12_comesAs
set_option maxRecDepth 20000 in
theorem ggX12_voice_X12_isTill : GoodIn wsX12_voice wsX12_isTill := goodIn_r _ [7, 8, 9, 6, 10] (by decide +kernel) (by decide +kernel)
set_option maxRecDepth 20000 in
theorem gX12_voice_X12_isTill : GoodIn wsX12_voice (va_wsS RX12 161 yX12_isTill wsX12_isTill) := goodIn_app (goodIn_of _ (by decide +kernel)) ggX12_voice_X12_isTill
set_option maxRecDepth 20000 in
theorem ggX12_voice_X12_in : GoodIn wsX12_voice wsX12_in := goodIn_r _ [10] (by decide +kernel) (by decide +kernel)
set_option maxRecDepth 20000 in
theorem gX12_voice_X12_in : GoodIn wsX12_voice (va_wsS RX12 59 yX12_in wsX12_in) := goodIn_app (goodIn_of _ (by decide +kernel)) ggX12_voice_X12_in
set_option maxRecDepth 20000 in
theorem ggX12_voice_X12_error : GoodIn wsX12_voice wsX12_error := goodIn_r _ [14, 15, 16, 50, 51, 52, 53, 54, 55, 56, 57, 58, 59, 60, 61, 62, 63, 64, 65, 66, 67, 68, 69, 70, 71, 72, 73, 74, 75, 76, 77, 78, 79] (by decide +kernel) (by decide +kernel)
set_option maxRecDepth 20000 in
theorem gX12_voice_X12_error : GoodIn wsX12_voice (wsV RX12 63 RX12 yX12_error wsX12_error) := goodIn_app (goodIn_of _ (by decide +kernel)) ggX12_voice_X12_error
set_option maxRecDepth 20000 in
theorem ggX12_voice_X12_kindOf : GoodIn wsX12_voice wsX12_kindOf := goodIn_r _ [20, 21, 50, 51, 52, 53, 54, 55, 56, 57, 58, 59, 60, 61, 62, 63, 64, 65, 66, 67, 68, 69, 70, 71, 72, 73, 74, 75, 76, 77, 78, 79] (by decide +kernel) (by decide +kernel)
set_option maxRecDepth 20000 in
theorem gX12_voice_X12_kindOf : GoodIn wsX12_voice (wsV RX12 130 RX12 yX12_kindOf wsX12_kindOf) := goodIn_app (goodIn_of _ (by decide +kernel)) ggX12_voice_X12_kindOf
set_option maxRecDepth 20000 in
theorem ggX12_voice_X12_addsAs : GoodIn wsX12_voice wsX12_addsAs := goodIn_r _ [25, 2, 26, 27, 28, 6, 29, 1, 30, 31, 32, 33, 22, 23, 24, 50, 51, 52, 53, 54, 55, 56, 57, 58, 59, 60, 61, 62, 63, 64, 65, 66, 67, 68, 69, 70, 71, 72, 73, 74, 75, 76, 77, 78, 79] (by decide +kernel) (by decide +kernel)
set_option maxRecDepth 20000 in
theorem gX12_voice_X12_addsAs : GoodIn wsX12_voice (wsV RX12 249 RX12 yX12_addsAs wsX12_addsAs) := goodIn_app (goodIn_of _ (by decide +kernel)) ggX12_voice_X12_addsAs
set_option maxRecDepth 20000 in
theorem ggX12_voice_X12_comesAs : GoodIn wsX12_voice wsX12_comesAs := goodIn_r _ [37, 2, 26, 27, 28, 6, 29, 1, 30, 17, 18, 19, 20, 21, 22, 23, 24, 25, 31, 32, 33, 34, 35, 36, 38, 39, 40, 41, 50, 51, 52, 53, 54, 55, 56, 57, 58, 59, 60, 61, 62, 63, 64, 65, 66, 67, 68, 69, 70, 71, 72, 73, 74, 75, 76, 77, 78, 79] (by decide +kernel) (by decide +kernel)
set_option maxRecDepth 20000 in
theorem gX12_voice_X12_comesAs : GoodIn wsX12_voice (wsV RX12 252 RX12 yX12_comesAs wsX12_comesAs) := goodIn_app (goodIn_of _ (by decide +kernel)) ggX12_voice_X12_comesAs
set_option maxRecDepth 20000 in
theorem ggX12_voice_X12_givesAs : GoodIn wsX12_voice wsX12_givesAs := goodIn_r _ [45, 2, 26, 27, 28, 6, 29, 1, 30, 17, 18, 19, 20, 21, 34, 35, 36, 37, 22, 23, 24, 25, 31, 32, 33, 38, 39, 40, 41, 42, 43, 44, 50, 51, 52, 53, 54, 55, 56, 57, 58, 59, 60, 61, 62, 63, 64, 65, 66, 67, 68, 69, 70, 71, 72, 73, 74, 75, 76, 77, 78, 79] (by decide +kernel) (by decide +kernel)
set_option maxRecDepth 20000 in
theorem gX12_voice_X12_givesAs : GoodIn wsX12_voice (wsV RX12 255 RX12 yX12_givesAs wsX12_givesAs) := goodIn_app (goodIn_of _ (by decide +kernel)) ggX12_voice_X12_givesAs
set_option maxRecDepth 20000 in
theorem ggX12_voice_X12_partsAs : GoodIn wsX12_voice wsX12_partsAs := goodIn_r _ [49, 2, 3, 26, 27, 28, 6, 29, 1, 30, 38, 39, 40, 41, 21, 31, 32, 33, 46, 47, 48, 17, 18, 19, 20, 34, 35, 36, 37, 22, 23, 24, 25, 50, 51, 52, 53, 54, 55, 56, 57, 58, 59, 60, 61, 62, 63, 64, 65, 66, 67, 68, 69, 70, 71, 72, 73, 74, 75, 76, 77, 78, 79] (by decide +kernel) (by decide +kernel)
set_option maxRecDepth 20000 in
theorem gX12_voice_X12_partsAs : GoodIn wsX12_voice (wsV RX12 262 RX12 yX12_partsAs wsX12_partsAs) := goodIn_app (goodIn_of _ (by decide +kernel)) ggX12_voice_X12_partsAs
set_option maxRecDepth 20000 in
theorem ggX12_body_X12_in : GoodIn wsX12_body wsX12_in := goodIn_r _ [6] (by decide +kernel) (by decide +kernel)
set_option maxRecDepth 20000 in
theorem gX12_body_X12_in : GoodIn wsX12_body (va_wsS RX12 59 yX12_in wsX12_in) := goodIn_app (goodIn_of _ (by decide +kernel)) ggX12_body_X12_in
set_option maxRecDepth 20000 in
theorem ggX12_body_X12_error : GoodIn wsX12_body wsX12_error := goodIn_r _ [10, 11, 12, 13, 14, 15, 16, 17, 18, 19, 20, 21, 22, 23, 24, 25, 26, 27, 28, 29, 30, 31, 32, 33, 34, 35, 36, 37, 38, 39, 40, 41, 42] (by decide +kernel) (by decide +kernel)
set_option maxRecDepth 20000 in
theorem gX12_body_X12_error : GoodIn wsX12_body (wsV RX12 63 RX12 yX12_error wsX12_error) := goodIn_app (goodIn_of _ (by decide +kernel)) ggX12_body_X12_error
set_option maxRecDepth 20000 in
theorem ggX12_isSheet_X12_in : GoodIn wsX12_isSheet wsX12_in := goodIn_r _ [4] (by decide +kernel) (by decide +kernel)
set_option maxRecDepth 20000 in
theorem gX12_isSheet_X12_in : GoodIn wsX12_isSheet (va_wsS RX12 59 yX12_in wsX12_in) := goodIn_app (goodIn_of _ (by decide +kernel)) ggX12_isSheet_X12_in
set_option maxRecDepth 20000 in
theorem ggX12_sheet_X12_isSheet : GoodIn wsX12_sheet wsX12_isSheet := goodIn_r _ [7, 8, 9, 6, 10] (by decide +kernel) (by decide +kernel)
set_option maxRecDepth 20000 in
theorem gX12_sheet_X12_isSheet : GoodIn wsX12_sheet (va_wsS RX12 169 yX12_isSheet wsX12_isSheet) := goodIn_app (goodIn_of _ (by decide +kernel)) ggX12_sheet_X12_isSheet
set_option maxRecDepth 20000 in
theorem ggX12_sheet_X12_error : GoodIn wsX12_sheet wsX12_error := goodIn_r _ [14, 15, 16, 17, 18, 19, 20, 21, 22, 23, 24, 25, 26, 27, 28, 29, 30, 31, 32, 33, 34, 35, 36, 37, 38, 39, 40, 41, 42, 43, 44, 45, 46] (by decide +kernel) (by decide +kernel)
set_option maxRecDepth 20000 in
theorem gX12_sheet_X12_error : GoodIn wsX12_sheet (wsV RX12 63 RX12 yX12_error wsX12_error) := goodIn_app (goodIn_of _ (by decide +kernel)) ggX12_sheet_X12_error
set_option maxRecDepth 20000 in
theorem ggX12_put_X12_isSheet : GoodIn wsX12_put wsX12_isSheet := goodIn_r _ [7, 8, 9, 6, 10] (by decide +kernel) (by decide +kernel)
set_option maxRecDepth 20000 in
theorem gX12_put_X12_isSheet : GoodIn wsX12_put (va_wsS RX12 169 yX12_isSheet wsX12_isSheet) := goodIn_app (goodIn_of _ (by decide +kernel)) ggX12_put_X12_isSheet
set_option maxRecDepth 20000 in
theorem ggX12_put_X12_error : GoodIn wsX12_put wsX12_error := goodIn_r _ [14, 15, 16, 17, 18, 19, 20, 21, 22, 23, 24, 25, 26, 27, 28, 29, 30, 31, 32, 33, 34, 35, 36, 37, 38, 39, 40, 41, 42, 43, 44, 45, 46] (by decide +kernel) (by decide +kernel)
set_option maxRecDepth 20000 in
theorem gX12_put_X12_error : GoodIn wsX12_put (wsV RX12 63 RX12 yX12_error wsX12_error) := goodIn_app (goodIn_of _ (by decide +kernel)) ggX12_put_X12_error
set_option maxRecDepth 20000 in
theorem ggX12_put_X12_in : GoodIn wsX12_put wsX12_in := goodIn_r _ [10] (by decide +kernel) (by decide +kernel)
set_option maxRecDepth 20000 in
theorem gX12_put_X12_in : GoodIn wsX12_put (va_wsS RX12 59 yX12_in wsX12_in) := goodIn_app (goodIn_of _ (by decide +kernel)) ggX12_put_X12_in
set_option maxRecDepth 20000 in
theorem ggX12_move_X12_isSheet : GoodIn wsX12_move wsX12_isSheet := goodIn_r _ [8, 9, 10, 7, 11] (by decide +kernel) (by decide +kernel)
set_option maxRecDepth 20000 in
theorem gX12_move_X12_isSheet : GoodIn wsX12_move (va_wsS RX12 169 yX12_isSheet wsX12_isSheet) := goodIn_app (goodIn_of _ (by decide +kernel)) ggX12_move_X12_isSheet
set_option maxRecDepth 20000 in
theorem ggX12_move_X12_error : GoodIn wsX12_move wsX12_error := goodIn_r _ [15, 16, 17, 18, 19, 20, 21, 22, 23, 24, 25, 26, 27, 28, 29, 30, 31, 32, 33, 34, 35, 36, 37, 38, 39, 40, 41, 42, 43, 44, 45, 46, 47] (by decide +kernel) (by decide +kernel)
set_option maxRecDepth 20000 in
theorem gX12_move_X12_error : GoodIn wsX12_move (wsV RX12 63 RX12 yX12_error wsX12_error) := goodIn_app (goodIn_of _ (by decide +kernel)) ggX12_move_X12_error
set_option maxRecDepth 20000 in
theorem ggX12_prices_X12_isSheet : GoodIn wsX12_prices wsX12_isSheet := goodIn_r _ [8, 9, 10, 7, 11] (by decide +kernel) (by decide +kernel)
set_option maxRecDepth 20000 in
theorem gX12_prices_X12_isSheet : GoodIn wsX12_prices (va_wsS RX12 169 yX12_isSheet wsX12_isSheet) := goodIn_app (goodIn_of _ (by decide +kernel)) ggX12_prices_X12_isSheet
set_option maxRecDepth 20000 in
theorem ggX12_prices_X12_error : GoodIn wsX12_prices wsX12_error := goodIn_r _ [15, 16, 17, 18, 19, 20, 21, 22, 23, 24, 25, 26, 27, 28, 29, 30, 31, 32, 33, 34, 35, 36, 37, 38, 39, 40, 41, 42, 43, 44, 45, 46, 47] (by decide +kernel) (by decide +kernel)
set_option maxRecDepth 20000 in
theorem gX12_prices_X12_error : GoodIn wsX12_prices (wsV RX12 63 RX12 yX12_error wsX12_error) := goodIn_app (goodIn_of _ (by decide +kernel)) ggX12_prices_X12_error
set_option maxRecDepth 20000 in
theorem ggX12_prices_X12_in : GoodIn wsX12_prices wsX12_in := goodIn_r _ [11] (by decide +kernel) (by decide +kernel)
set_option maxRecDepth 20000 in
theorem gX12_prices_X12_in : GoodIn wsX12_prices (va_wsS RX12 59 yX12_in wsX12_in) := goodIn_app (goodIn_of _ (by decide +kernel)) ggX12_prices_X12_in
set_option maxRecDepth 20000 in
theorem ggX12_image_X12_carry : GoodIn wsX12_image wsX12_carry := goodIn_r _ [7] (by decide +kernel) (by decide +kernel)
set_option maxRecDepth 20000 in
theorem gX12_image_X12_carry : GoodIn wsX12_image (va_wsS RX12 265 yX12_carry wsX12_carry) := goodIn_app (goodIn_of _ (by decide +kernel)) ggX12_image_X12_carry
set_option maxRecDepth 20000 in
theorem ggX12_restore_X12_error : GoodIn wsX12_restore wsX12_error := goodIn_r _ [8, 9, 10, 14, 15, 16, 17, 18, 19, 20, 21, 22, 23, 24, 25, 26, 27, 28, 29, 30, 31, 32, 33, 34, 35, 36, 37, 38, 39, 40, 41, 42, 43] (by decide +kernel) (by decide +kernel)
set_option maxRecDepth 20000 in
theorem gX12_restore_X12_error : GoodIn wsX12_restore (wsV RX12 63 RX12 yX12_error wsX12_error) := goodIn_app (goodIn_of _ (by decide +kernel)) ggX12_restore_X12_error
set_option maxRecDepth 20000 in
theorem ggX12_restore_X12_carry : GoodIn wsX12_restore wsX12_carry := goodIn_r _ [13] (by decide +kernel) (by decide +kernel)
set_option maxRecDepth 20000 in
theorem gX12_restore_X12_carry : GoodIn wsX12_restore (va_wsS RX12 265 yX12_carry wsX12_carry) := goodIn_app (goodIn_of _ (by decide +kernel)) ggX12_restore_X12_carry
set_option maxRecDepth 20000 in
theorem ggX12_tell_X12_error : GoodIn wsX12_tell wsX12_error := goodIn_r _ [6, 7, 8, 9, 10, 11, 12, 13, 14, 15, 16, 17, 18, 19, 20, 21, 22, 23, 24, 25, 26, 27, 28, 29, 30, 31, 32, 33, 34, 35, 36, 37, 38] (by decide +kernel) (by decide +kernel)
set_option maxRecDepth 20000 in
theorem gX12_tell_X12_error : GoodIn wsX12_tell (wsV RX12 63 RX12 yX12_error wsX12_error) := goodIn_app (goodIn_of _ (by decide +kernel)) ggX12_tell_X12_error
set_option maxRecDepth 20000 in
theorem ggX12_check_X12_isTill : GoodIn wsX12_check wsX12_isTill := goodIn_r _ [5, 6, 7, 4, 8] (by decide +kernel) (by decide +kernel)
set_option maxRecDepth 20000 in
theorem gX12_check_X12_isTill : GoodIn wsX12_check (va_wsS RX12 161 yX12_isTill wsX12_isTill) := goodIn_app (goodIn_of _ (by decide +kernel)) ggX12_check_X12_isTill
set_option maxRecDepth 20000 in
theorem ggX12_check_X12_error : GoodIn wsX12_check wsX12_error := goodIn_r _ [12, 13, 14, 49, 50, 51, 52, 53, 54, 55, 56, 57, 58, 59, 60, 61, 62, 63, 64, 65, 66, 67, 68, 69, 70, 71, 72, 73, 74, 75, 76, 77, 78] (by decide +kernel) (by decide +kernel)
set_option maxRecDepth 20000 in
theorem gX12_check_X12_error : GoodIn wsX12_check (wsV RX12 63 RX12 yX12_error wsX12_error) := goodIn_app (goodIn_of _ (by decide +kernel)) ggX12_check_X12_error
set_option maxRecDepth 20000 in
theorem ggX12_check_X12_asked : GoodIn wsX12_check wsX12_asked := goodIn_r _ [18, 19, 20, 21, 22, 4, 23, 1, 24, 25, 26, 27, 28, 29, 30, 31, 32, 33, 34, 35, 36, 37, 38, 39, 40, 41, 42, 43, 44, 45, 46, 47, 48, 49, 50, 51, 52, 53, 54, 55, 56, 57, 58, 59, 60, 61, 62, 63, 64, 65, 66, 67, 68, 69, 70, 71, 72, 73, 74, 75, 76, 77, 78] (by decide +kernel) (by decide +kernel)
set_option maxRecDepth 20000 in
theorem gX12_check_X12_asked : GoodIn wsX12_check (wsV RX12 149 RX12 yX12_asked wsX12_asked) := goodIn_app (goodIn_of _ (by decide +kernel)) ggX12_check_X12_asked
set_option maxRecDepth 20000 in
theorem ggX12_count_X12_error : GoodIn wsX12_count wsX12_error := goodIn_r _ [7, 8, 9, 10, 11, 12, 13, 14, 15, 16, 17, 18, 19, 20, 21, 22, 23, 24, 25, 26, 27, 28, 29, 30, 31, 32, 33, 34, 35, 36, 37, 38, 39] (by decide +kernel) (by decide +kernel)
set_option maxRecDepth 20000 in
theorem gX12_count_X12_error : GoodIn wsX12_count (wsV RX12 63 RX12 yX12_error wsX12_error) := goodIn_app (goodIn_of _ (by decide +kernel)) ggX12_count_X12_error
set_option maxRecDepth 20000 in
theorem ggX12_told_X12_in : GoodIn wsX12_told wsX12_in := goodIn_r _ [5] (by decide +kernel) (by decide +kernel)
set_option maxRecDepth 20000 in
theorem gX12_told_X12_in : GoodIn wsX12_told (va_wsS RX12 59 yX12_in wsX12_in) := goodIn_app (goodIn_of _ (by decide +kernel)) ggX12_told_X12_in
set_option maxRecDepth 20000 in
theorem ggX12_told_X12_error : GoodIn wsX12_told wsX12_error := goodIn_r _ [9, 1, 10, 11, 12, 13, 14, 15, 16, 17, 18, 19, 20, 21, 22, 23, 24, 25, 26, 27, 28, 29, 30, 31, 32, 33, 34, 35, 36, 37, 38, 39, 40] (by decide +kernel) (by decide +kernel)
set_option maxRecDepth 20000 in
theorem gX12_told_X12_error : GoodIn wsX12_told (wsV RX12 63 RX12 yX12_error wsX12_error) := goodIn_app (goodIn_of _ (by decide +kernel)) ggX12_told_X12_error
set_option maxRecDepth 20000 in
theorem ggJ0_length_8abf5_J0_coder_7d493 : GoodIn wsJ0_length_8abf5 wsJ0_coder_7d493 := goodIn_r _ [6, 7, 8] (by decide +kernel) (by decide +kernel)
set_option maxRecDepth 20000 in
theorem gJ0_length_8abf5_J0_coder_7d493 : GoodIn wsJ0_length_8abf5 (wsV RJ0 335 RJ0 yJ0_coder_7d493 wsJ0_coder_7d493) := goodIn_app (goodIn_of _ (by decide +kernel)) ggJ0_length_8abf5_J0_coder_7d493
set_option maxRecDepth 20000 in
theorem ggJ0_charAt_5068e_J0_isLatin1_aae02 : GoodIn wsJ0_charAt_5068e wsJ0_isLatin1_aae02 := goodIn_r _ [6, 7, 8] (by decide +kernel) (by decide +kernel)
set_option maxRecDepth 20000 in
theorem gJ0_charAt_5068e_J0_isLatin1_aae02 : GoodIn wsJ0_charAt_5068e (wsV RJ0 492 RJ0 yJ0_isLatin1_aae02 wsJ0_isLatin1_aae02) := goodIn_app (goodIn_of _ (by decide +kernel)) ggJ0_charAt_5068e_J0_isLatin1_aae02
set_option maxRecDepth 20000 in
theorem ggJ0_charAt_5068e_J1_charAt_3b067 : GoodIn wsJ0_charAt_5068e wsJ1_charAt_3b067 := goodIn_r _ [12, 13, 14, 5, 15, 16, 17, 18, 19, 20] (by decide +kernel) (by decide +kernel)
set_option maxRecDepth 20000 in
theorem gJ0_charAt_5068e_J1_charAt_3b067 : GoodIn wsJ0_charAt_5068e (va_wsS RJ0 495 yJ1_charAt_3b067 wsJ1_charAt_3b067) := goodIn_app (goodIn_of _ (by decide +kernel)) ggJ0_charAt_5068e_J1_charAt_3b067
set_option maxRecDepth 20000 in
theorem ggJ0_charAt_5068e_J2_charAt_3b067 : GoodIn wsJ0_charAt_5068e wsJ2_charAt_3b067 := goodIn_r _ [24, 25, 26, 23, 27, 28, 29, 30, 31, 14, 5, 15, 16, 17, 18, 19, 20, 32, 33, 34, 35, 36, 37] (by decide +kernel) (by decide +kernel)
set_option maxRecDepth 20000 in
theorem gJ0_charAt_5068e_J2_charAt_3b067 : GoodIn wsJ0_charAt_5068e (va_wsS RJ0 498 yJ2_charAt_3b067 wsJ2_charAt_3b067) := goodIn_app (goodIn_of _ (by decide +kernel)) ggJ0_charAt_5068e_J2_charAt_3b067
set_option maxRecDepth 20000 in
theorem ggJ0_checkIndex_df160_J3_checkIndex_8e157 : GoodIn wsJ0_checkIndex_df160 wsJ3_checkIndex_8e157 := goodIn_r _ [5] (by decide +kernel) (by decide +kernel)
set_option maxRecDepth 20000 in
theorem gJ0_checkIndex_df160_J3_checkIndex_8e157 : GoodIn wsJ0_checkIndex_df160 (va_wsS RJ0 1059 yJ3_checkIndex_8e157 wsJ3_checkIndex_8e157) := goodIn_app (goodIn_of _ (by decide +kernel)) ggJ0_checkIndex_df160_J3_checkIndex_8e157
set_option maxRecDepth 20000 in
theorem ggJ1_charAt_3b067_J0_checkIndex_df160 : GoodIn wsJ1_charAt_3b067 wsJ0_checkIndex_df160 := goodIn_r _ [4, 5, 6, 7, 8, 9] (by decide +kernel) (by decide +kernel)
set_option maxRecDepth 20000 in
theorem gJ1_charAt_3b067_J0_checkIndex_df160 : GoodIn wsJ1_charAt_3b067 (va_wsS RJ1 9 yJ0_checkIndex_df160 wsJ0_checkIndex_df160) := goodIn_app (goodIn_of _ (by decide +kernel)) ggJ1_charAt_3b067_J0_checkIndex_df160
set_option maxRecDepth 20000 in
theorem ggJ2_getChar_3b067_J2_length_9d52b : GoodIn wsJ2_getChar_3b067 wsJ2_length_9d52b := goodIn_r _ [7] (by decide +kernel) (by decide +kernel)
set_option maxRecDepth 20000 in
theorem gJ2_getChar_3b067_J2_length_9d52b : GoodIn wsJ2_getChar_3b067 (va_wsS RJ2 48 yJ2_length_9d52b wsJ2_length_9d52b) := goodIn_app (goodIn_of _ (by decide +kernel)) ggJ2_getChar_3b067_J2_length_9d52b
set_option maxRecDepth 20000 in
theorem ggJ2_charAt_3b067_J2_checkIndex_2214a : GoodIn wsJ2_charAt_3b067 wsJ2_checkIndex_2214a := goodIn_r _ [4, 5, 6, 3, 7, 8, 9, 10, 11, 12, 13, 14, 15, 16] (by decide +kernel) (by decide +kernel)
set_option maxRecDepth 20000 in
theorem gJ2_charAt_3b067_J2_checkIndex_2214a : GoodIn wsJ2_charAt_3b067 (va_wsS RJ2 67 yJ2_checkIndex_2214a wsJ2_checkIndex_2214a) := goodIn_app (goodIn_of _ (by decide +kernel)) ggJ2_charAt_3b067_J2_checkIndex_2214a
set_option maxRecDepth 20000 in
theorem ggJ2_charAt_3b067_J2_getChar_3b067 : GoodIn wsJ2_charAt_3b067 wsJ2_getChar_3b067 := goodIn_r _ [19, 20, 21, 22, 5, 6, 3, 7] (by decide +kernel) (by decide +kernel)
set_option maxRecDepth 20000 in
theorem gJ2_charAt_3b067_J2_getChar_3b067 : GoodIn wsJ2_charAt_3b067 (va_wsS RJ2 71 yJ2_getChar_3b067 wsJ2_getChar_3b067) := goodIn_app (goodIn_of _ (by decide +kernel)) ggJ2_charAt_3b067_J2_getChar_3b067
set_option maxRecDepth 20000 in
theorem ggJ2_checkIndex_2214a_J2_length_9d52b : GoodIn wsJ2_checkIndex_2214a wsJ2_length_9d52b := goodIn_r _ [4] (by decide +kernel) (by decide +kernel)
set_option maxRecDepth 20000 in
theorem gJ2_checkIndex_2214a_J2_length_9d52b : GoodIn wsJ2_checkIndex_2214a (va_wsS RJ2 48 yJ2_length_9d52b wsJ2_length_9d52b) := goodIn_app (goodIn_of _ (by decide +kernel)) ggJ2_checkIndex_2214a_J2_length_9d52b
set_option maxRecDepth 20000 in
theorem ggJ2_checkIndex_2214a_J0_checkIndex_df160 : GoodIn wsJ2_checkIndex_2214a wsJ0_checkIndex_df160 := goodIn_r _ [8, 9, 10, 11, 12, 13] (by decide +kernel) (by decide +kernel)
set_option maxRecDepth 20000 in
theorem gJ2_checkIndex_2214a_J0_checkIndex_df160 : GoodIn wsJ2_checkIndex_2214a (va_wsS RJ2 414 yJ0_checkIndex_df160 wsJ0_checkIndex_df160) := goodIn_app (goodIn_of _ (by decide +kernel)) ggJ2_checkIndex_2214a_J0_checkIndex_df160
abbrev vwCl : List vw_C := [(RX0, TX0, 3), (RX1, TX1, 2), (RX2, TX2, 2), (RX3, TX3, 2), (RX4, TX4, 10), (RX5, TX5, 2), (RX6, TX6, 2), (RX7, TX7, 12), (RX8, TX8, 2), (RX9, TX9, 2), (RX10, TX10, 3), (RX11, TX11, 17), (RX12, TX12, 30)]
