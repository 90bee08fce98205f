/-! THE OWN LAYER: one uniform contract (KM) over the kit's rows; the world is a list of cells at fixed places; what a call gives back is laid at the callee's places. -/
theorem kt {c : Prop} [Decidable c] {α : Type} {a b : Option α} {o : α} (h : c) (hf : (if c then a else b) = some o) : a = some o := by rw [if_pos h] at hf; exact hf
theorem kf {c : Prop} [Decidable c] {α : Type} {a b : Option α} {o : α} (h : ¬ c) (hf : (if c then a else b) = some o) : b = some o := by rw [if_neg h] at hf; exact hf
theorem kg {c : Prop} [Decidable c] {α : Type} {a : Option α} {o : α} (hf : (if c then a else none) = some o) : c ∧ a = some o := by
  by_cases h : c
  · exact ⟨h, kt h hf⟩
  · exact absurd (kf h hf) (by simp)
theorem kb {α β : Type} {x : Option α} {g : α → Option β} {o : β} (hf : x.bind g = some o) : ∃ r, x = some r ∧ g r = some o := by
  cases x with
  | none => exact absurd hf (by simp)
  | some r => exact ⟨r, rfl, hf⟩
theorem ks {α : Type} {a o : α} (hf : some a = some o) : o = a := (Option.some.inj hf).symm
def jrem (x y : Int32) : Int32 := x - x / y * y
def jushr (x y : Int32) : Int32 := (x.toUInt32 >>> (y.toUInt32 &&& Int32.toUInt32 31)).toInt32
def jlushr (x : Int64) (y : Int32) : Int64 := (x.toUInt64 >>> (y.toInt64.toUInt64 &&& Int64.toUInt64 63)).toInt64
def gtbl : List Cond := lw_tbl.filter goodWord
theorem kmem {w : Cond} (i : Nat) (h : lw_tbl[i]? = some w) (hg : goodWord w = true) : w ∈ gtbl := List.mem_filter.mpr ⟨List.mem_of_getElem? h, hg⟩
theorem gIn {w : List Cond} (h : ∀ x ∈ w, x ∈ gtbl) : GoodIn gtbl w := fun x hx => ⟨h x hx, good_of_word (List.mem_filter.mp (h x hx)).2⟩
def kw (y : MethodName) (cc : ByteArray) (maxL : Nat) (ret : Option FieldType) : List Cond := Cond.code y cc maxL ret :: gtbl
theorem kwIn {y : MethodName} {cc : ByteArray} {maxL : Nat} {ret : Option FieldType} (h : Cond.code y cc maxL ret ∈ gtbl) : GoodIn gtbl (kw y cc maxL ret) := gIn (fun x hx => (List.mem_cons.mp hx).elim (fun e => e ▸ h) id)
def vin (i : Int32) (n : Nat) : Bool := decide (¬ (i < 0 ∨ n ≤ i.toNatClampNeg))
theorem vin_of {i : Int32} {n : Nat} (h : vin i n = true) : vp_in i n := by
  have h2 : ¬ (i < 0 ∨ n ≤ i.toNatClampNeg) := of_decide_eq_true h
  exact h2
theorem vin_lt {i : Int32} {n : Nat} (h : vin i n = true) : i.toNatClampNeg < n := Nat.not_le.mp fun q => vin_of h (Or.inr q)
/-! what does not move: the words of the nest, the statics, the literals -/
def isNest : Cond → Bool
  | .fieldLinkNest .. => true
  | .methodLinkNest .. => true
  | .castable .. => true
  | _ => false
def NW (U : State) : Prop := ∀ w ∈ tables_1, isNest w = true → va_Nw w U
theorem NW.warm {s U : State} (hW : s.WarmedH U.vm) (h : NW s) : NW U := by
  intro w hw hn
  have h1 := h w hw hn
  cases w <;> first | exact va_Nw.warmF hW h1 | exact va_Nw.warmM hW h1 | exact va_Nw.warmC hW h1 | (simp [isNest] at hn)
theorem NW.same {u U : State} (hv : u.vm = U.vm) (h : NW u) : NW U := by
  intro w hw hn
  have h1 := h w hw hn
  refine va_Nw.same ?_ hv h1
  cases w <;> first | rfl | (simp [isNest] at hn)
def va_AOA (ty : FieldType) (U : State) : Prop := (Cond.arrayOver (.array ty)).before #[] U = true
theorem va_AOA.use {ty : FieldType} {A : Array Value} {U : State} (h : va_AOA ty U) : (Cond.arrayOver (.array ty)).before A U = true := h
theorem va_AOA.moved {ty : FieldType} {u U : State} (hvm : u.vm.Alike U.vm) (h : va_AOA ty u) : va_AOA ty U := by
  obtain ⟨cm, ca, ka, h1, h2, h3, h4, h5⟩ := arrayOver_specB h
  obtain ⟨k2, hk2, he⟩ := hvm.2.2 _ _ h3
  have hi : (U.vm.classes.findIdx? fun (x : Class) => match x.kind with | .array component _ => component == cm | _ => false) = some ca := by
    have e1 := (va_idx_bare u.vm cm).trans h2
    have e2 : U.vm.bare = u.vm.bare := by first | exact hvm.bare_eq | exact hvm.bare_eq.symm
    exact (va_idx_bare U.vm cm).symm.trans ((congrArg (fun v : Vm => v.classes.findIdx? fun (x : Class) => match x.kind with | .array component _ => component == cm | _ => false) e2).trans e1)
  have hkind : k2.kind = .array cm (.array ty) := by rw [he]; exact h4
  have f1 : U.vm.findClass (FieldType.array ty).toString = some cm := by rw [hvm.findClass]; exact h1
  have f2 : U.vm.findClass ("[" ++ (FieldType.array ty).toString) = some ca := by rw [hvm.findClass]; exact h5
  unfold va_AOA Cond.before Cond.holds
  simp only [Cond.value]
  rw [f1, Option.bind_some]
  refine (congrArg (fun o : Option Nat => (o.bind (fun c => (U.vm.classes[c]?).map fun (k : Class) => match k.kind with | .array _ t => decide (t = FieldType.array ty) && decide (U.vm.findClass ("[" ++ (FieldType.array ty).toString) = some c) | _ => false) == some true)) hi).trans ?_
  simp [hk2, hkind, f2]
abbrev KG : Type := va_G × (ClassId × ClassId × ClassId) × (Nat × Nat × Nat) × (Nat → Nat) × (Nat → Nat)
abbrev gD (G : KG) : va_G := G.1
abbrev gI (G : KG) : ClassId := G.2.1.1
abbrev gII (G : KG) : ClassId := G.2.1.2.1
abbrev gT (G : KG) : ClassId := G.2.1.2.2
abbrev gTys (G : KG) : List (ClassId × FieldType) := [(gI G, .int), (gII G, .array .int), (gT G, .object "FigureTill$Till")]
def ZS (n : String) (t N : Nat) (xs : List Int32) (A : Nat → Prop) (U : State) (H : Heap) : Prop := va_Z "FigureTill" n "[I" (.ref t) A U H ∧ va_T .int t N (fun j => .int (xs.getD j 0)) A U H
abbrev xsPrices : List Int32 := [1, 9, 19, 20, 99, 100, 250, 999]
abbrev xsLeast : List Int32 := [1, 0, 0]
abbrev xsMost : List Int32 := [9999, 9999, 99]
abbrev strLens : List Nat := [3, 3]
abbrev strBytes : List (List Int32) := [[115, 107, 109], [116, 112, 99]]
def Amb (G : KG) (A : Nat → Prop) (U : State) (H : Heap) : Prop :=
  NW U ∧ ZS "FIRST_PRICES" G.2.2.1.1 8 xsPrices A U H ∧ ZS "LEAST" G.2.2.1.2.1 3 xsLeast A U H ∧ ZS "MOST" G.2.2.1.2.2 3 xsMost A U H ∧ vk_S 2 strLens strBytes G.2.2.2.1 G.2.2.2.2 A U H ∧ va_Z "java/lang/String" "COMPACT_STRINGS" "Z" (.int 1) A U H ∧ va_Zq "jdk/internal/util/Preconditions" "SIOOBE_FORMATTER" "Ljava/util/function/BiFunction;" A U H ∧ vk_R "FigureTill$Shop" 44 "skm" (G.2.2.2.1 0) U ∧ vk_R "FigureTill$Shop" 53 "tpc" (G.2.2.2.1 1) U ∧ va_AO "FigureTill$Till" U ∧ va_AOA .int U
theorem ZS.call {n : String} {t N : Nat} {xs : List Int32} {A A' : Nat → Prop} {s U : State} {H : Heap} {locs : List Loc} (h : ZS n t N xs A s s.heap) (hS : va_S A s.heap H locs) (hAA : ∀ q, A' q → A q) (hW : s.WarmedH U.vm) : ZS n t N xs A' U H :=
  ⟨((h.1.kept hS.2.1).moved hW.alike).narrow hAA, ((h.2.kept hS.2.1).moved hW.alike).narrow hAA⟩
theorem Amb.call {G : KG} {A A' : Nat → Prop} {s U : State} {H : Heap} {locs : List Loc} (h : Amb G A s s.heap) (hS : va_S A s.heap H locs) (hAA : ∀ q, A' q → A q) (hU : U.heap = H) (hW : s.WarmedH U.vm) : Amb G A' U U.heap := by
  subst hU
  exact ⟨NW.warm hW h.1, h.2.1.call hS hAA hW, h.2.2.1.call hS hAA hW, h.2.2.2.1.call hS hAA hW, ((h.2.2.2.2.1.kept hS.2.1).moved hW.alike).narrow hAA, ((h.2.2.2.2.2.1.kept hS.2.1).moved hW.alike).narrow hAA, ((h.2.2.2.2.2.2.1.kept hS.2.1).moved hW.alike).narrow hAA, vk_R.warm hW h.2.2.2.2.2.2.2.1, vk_R.warm hW h.2.2.2.2.2.2.2.2.1, h.2.2.2.2.2.2.2.2.2.1.moved hW.alike, h.2.2.2.2.2.2.2.2.2.2.moved hW.alike⟩
theorem Amb.blind {G : KG} {A : Nat → Prop} {U : State} {g : JFrame} {mk : MethodId} {a : Array Value} (h : Amb G A U U.heap) : Amb G A (U.calling g mk a) (U.calling g mk a).heap :=
  ⟨NW.same (u := U) (U := U.calling g mk a) rfl h.1, ⟨va_Z.moved (u := U) (U := U.calling g mk a) (Vm.Alike.refl U.vm) h.2.1.1, va_T.moved (u := U) (U := U.calling g mk a) (Vm.Alike.refl U.vm) h.2.1.2⟩,
   ⟨va_Z.moved (u := U) (U := U.calling g mk a) (Vm.Alike.refl U.vm) h.2.2.1.1, va_T.moved (u := U) (U := U.calling g mk a) (Vm.Alike.refl U.vm) h.2.2.1.2⟩,
   ⟨va_Z.moved (u := U) (U := U.calling g mk a) (Vm.Alike.refl U.vm) h.2.2.2.1.1, va_T.moved (u := U) (U := U.calling g mk a) (Vm.Alike.refl U.vm) h.2.2.2.1.2⟩,
   vk_S.moved (u := U) (U := U.calling g mk a) (Vm.Alike.refl U.vm) h.2.2.2.2.1, va_Z.moved (u := U) (U := U.calling g mk a) (Vm.Alike.refl U.vm) h.2.2.2.2.2.1, va_Zq.moved (u := U) (U := U.calling g mk a) (Vm.Alike.refl U.vm) h.2.2.2.2.2.2.1, vk_R.same (u := U) (U := U.calling g mk a) rfl h.2.2.2.2.2.2.2.1, vk_R.same (u := U) (U := U.calling g mk a) rfl h.2.2.2.2.2.2.2.2.1, va_AO.moved (u := U) (U := U.calling g mk a) (Vm.Alike.refl U.vm) h.2.2.2.2.2.2.2.2.2.1, va_AOA.moved (u := U) (U := U.calling g mk a) (Vm.Alike.refl U.vm) h.2.2.2.2.2.2.2.2.2.2⟩
/-! the uniform contract -/
def KPre (G : KG) (as : List Value) (ws : va_W) (sz : Nat) : Array Value → State → Prop := fun v U => v = as.toArray ∧ U.heap.size = sz ∧ va_P (gD G) vwCl ws U.heap ∧ va_K (gD G) vwCl (gTys G) U ∧ va_D (fun _ => True) ws ∧ Amb G (va_A ws sz) U U.heap
def KPost (G : KG) (A : Nat → Prop) (ws' : va_W) (rv : Option Value) : Array Value → State → Outcome → State → Prop := fun _ st oc t => (oc = .returned rv ∧ va_P (gD G) vwCl ws' t.heap ∧ va_D A ws') ∧ va_F A st t
abbrev kR (fr mc ms lo : Nat) : Room := { frames := fr, cells := mc, slots := ms, locals := lo }
def KM (l : Launch) (G : KG) (y : MethodName) (w : List Cond) (fr lo : Nat) (as : List Value) (ws ws' : va_W) (rv : Option Value) : Prop :=
  ∀ sz : Nat, Met l y w (kR fr 0 0 lo) (KPre G as ws sz) (KPost G (va_A ws sz) ws' rv) 0 0 (va_A ws sz)
theorem KPre.blind {G : KG} {as : List Value} {ws : va_W} {sz : Nat} : FrameBlind (KPre G as ws sz) := by
  intro a U g mk h
  obtain ⟨h1, h2, h3, h4, h5, h6⟩ := h
  exact ⟨h1, h2, h3, va_K.moved (u := U) (U := U.calling g mk a) (Vm.Alike.refl U.vm) h4, h5, h6.blind⟩
/-- what a method's body starts from -/
def Fx (p : Program) (s : State) (m : MethodId) (meth : Method) (c : Code) (args : Array Value) (y : MethodName) (cc : ByteArray) (maxL : Nat) (ret : Option FieldType) : Prop :=
  p.tables.exec = Jvm.exec ∧ c.code = cc ∧ meth.sig.returnType = ret ∧ c.maxLocals = maxL ∧ (∀ x ∈ gtbl, x.before args s = true) ∧ s.vm.findClass y.cls = some m.cls ∧ meth.locks = false ∧ meth.name = y.name
theorem KM.of {l : Launch} {G : KG} {y : MethodName} {fr lo : Nat} {as : List Value} {ws ws' : va_W} {rv : Option Value} {cc : ByteArray} {maxL : Nat} {ret : Option FieldType}
    (hy : plainName y.cls = true) (hlen : (lg_sl as).length ≤ maxL)
    (body : ∀ (p : Program) (e : Env) (s : State) (m : MethodId) (below : List Frame) (meth : Method) (c : Code) (A : Nat → Prop) (ls : Array Slot) (args : Array Value) (Q : State → Prop), Fx p s m meth c args y cc maxL ret → va_P (gD G) vwCl ws s.heap → va_K (gD G) vwCl (gTys G) s → va_D A ws → (∀ q, s.heap.size ≤ q → A q) → va_S A s.heap s.heap [] → Amb G A s s.heap → Q = MQ below (KPost G A ws' rv) args s 0 0 A → lv_has ls maxL (lv_args 0 as) →
      W p l e (kR fr 0 0 lo) s m args below meth c s.heap [] 0 0 Q (F0 m 0 ls [])) : KM l G y (kw y cc maxL ret) fr lo as ws ws' rv := by
  intro sz
  refine Met.ofW (cc := cc) (maxL := maxL) (ret := ret) hy rfl ?_
  intro p e s m args below meth c s₁ B hml hv
  obtain ⟨hargs, hsz, hP, hK, hD0, hAm⟩ := hv
  subst hsz
  have hl := lv_entry as (n := maxL) hlen
  have hts := atoms_spec (ws := kw y cc maxL ret) B.pre
  have hx := body p e s m below meth c (va_A ws s.heap.size) _ args _ ⟨B.exec, B.bytes, B.returns, hml, fun x hx => hts x (List.mem_cons_of_mem _ hx), findClass_of_methodNamed B.named, B.notSynchronized, (name_of_methodNamed B.named B.method).1⟩ hP hK hD0.self (fun q h => Or.inr h) va_S.rf hAm rfl hl
  rw [hargs, lg_entry_eq]
  rw [hargs] at hx
  exact hx
theorem kz_fm {α β : Type} (f : α → Option β) (l : List α) (w : List β) (h : l.map f = w.map some) : l.filterMap f = w := by
  induction l generalizing w with
  | nil =>
    cases w with
    | nil => rfl
    | cons b w => simp at h
  | cons a l ih =>
    cases w with
    | nil => simp at h
    | cons b w =>
      simp only [List.map_cons, List.cons.injEq] at h
      rw [List.filterMap_cons, h.1, ih w h.2]
/-- what a callee gave back, laid at its places -/
def kups (ws : va_W) : List Nat → va_W → va_W
  | i :: is, x :: xs => kups (ws.set i x) is xs
  | _, _ => ws
theorem kups_get : ∀ (is : List Nat) (w1 ws : va_W) (k : Nat) (q : Nat × va_E), (kups ws is w1)[k]? = some q → (∃ j : Nat, is[j]? = some k ∧ w1[j]? = some q) ∨ (ws[k]? = some q ∧ (is.length ≤ w1.length → k ∉ is))
  | [], w1, ws, k, q, h => Or.inr ⟨by unfold kups at h; exact h, fun _ => List.not_mem_nil⟩
  | i :: is, [], ws, k, q, h => Or.inr ⟨by unfold kups at h; exact h, fun z => by simp at z⟩
  | i :: is, x :: xs, ws, k, q, h => by
    unfold kups at h
    rcases kups_get is xs (ws.set i x) k q h with ⟨j, h1, h2⟩ | ⟨h1, h2⟩
    · exact Or.inl ⟨j + 1, by simpa using h1, by simpa using h2⟩
    · by_cases hk : k = i
      · subst hk
        have hlt : k < ws.length := by
          have := (List.getElem?_eq_some_iff.mp h1).1
          rwa [List.length_set] at this
        rw [List.getElem?_set_self hlt] at h1
        exact Or.inl ⟨0, by simp, by simpa using h1⟩
      · rw [List.getElem?_set_ne (Ne.symm hk)] at h1
        exact Or.inr ⟨h1, fun z hm => by
          rcases List.mem_cons.mp hm with e | e
          · exact hk e
          · exact h2 (by simpa using z) e⟩
theorem kz_at {α β : Type} {f : α → Option β} {l : List α} {w : List β} (h : l.map f = w.map some) {j : Nat} {x : α} (hj : l[j]? = some x) : ∃ b, w[j]? = some b ∧ f x = some b := by
  have h1 : (l.map f)[j]? = some (f x) := by rw [List.getElem?_map, hj]; rfl
  rw [h, List.getElem?_map] at h1
  cases hw : w[j]? with
  | none => rw [hw] at h1; simp at h1
  | some b => rw [hw] at h1; exact ⟨b, rfl, (Option.some.inj h1).symm⟩
theorem kz_at2 {α β : Type} {f : α → Option β} {l : List α} {w : List β} (h : l.map f = w.map some) {j : Nat} {b : β} (hj : w[j]? = some b) : ∃ x, l[j]? = some x ∧ f x = some b := by
  have h1 : (w.map some)[j]? = some (some b) := by rw [List.getElem?_map, hj]; rfl
  rw [← h, List.getElem?_map] at h1
  cases hw : l[j]? with
  | none => rw [hw] at h1; simp at h1
  | some x => rw [hw] at h1; exact ⟨x, rfl, Option.some.inj h1⟩
theorem kups_ok {D : va_G} {cl : List vw_C} {A : Nat → Prop} {ws wc w1 : va_W} {H H1 : Heap} (hP : va_P D cl ws H) (hD : va_D A ws) (is : List Nat) (hC : is.map (fun i => ws[i]?) = wc.map some) (hw1 : w1.map (fun q => q.1) = wc.map (fun q => q.1))
    (hk : ∀ q : Nat, q < H.size → ¬ va_A wc H.size q → H1[q]? = H[q]?) (hP1 : va_P D cl w1 H1) : va_P D cl (kups ws is w1) H1 ∧ va_D A (kups ws is w1) := by
  have hln : is.length = wc.length := by have := congrArg List.length hC; simpa using this
  have hl1 : w1.length = wc.length := by have := congrArg List.length hw1; simpa using this
  have addr : ∀ (k : Nat) (q : Nat × va_E), (kups ws is w1)[k]? = some q → ∃ q0, ws[k]? = some q0 ∧ q0.1 = q.1 := by
    intro k q h
    rcases kups_get is w1 ws k q h with ⟨j, h1, h2⟩ | ⟨h1, -⟩
    · obtain ⟨b, h3, h4⟩ := kz_at hC h1
      refine ⟨b, h4, ?_⟩
      have e1 : (w1.map (fun q => q.1))[j]? = some q.1 := by rw [List.getElem?_map, h2]; rfl
      rw [hw1, List.getElem?_map, h3] at e1
      exact Option.some.inj e1
    · exact ⟨q, h1, rfl⟩
  refine ⟨fun k q h => ?_, fun i j x y hi hj hxy => ?_, fun k q h => ?_⟩
  · rcases kups_get is w1 ws k q h with ⟨j, h1, h2⟩ | ⟨h1, h2⟩
    · exact hP1 j q h2
    · refine (hP k q h1).kept (hk q.1 (hP k q h1).lt ?_)
      intro hA
      rcases hA with ⟨k2, e, h3⟩ | h3
      · obtain ⟨i, h4, h5⟩ := kz_at2 hC h3
        have := hD.1 i k (q.1, e) q h5 h1 rfl
        subst this
        exact h2 (by omega) (List.mem_of_getElem? h4)
      · exact absurd (hP k q h1).lt (by omega)
  · obtain ⟨x0, h1, h2⟩ := addr i x hi
    obtain ⟨y0, h3, h4⟩ := addr j y hj
    exact hD.1 i j x0 y0 h1 h3 (h2.trans (hxy.trans h4.symm))
  · obtain ⟨q0, h1, h2⟩ := addr k q h
    rw [← h2]
    exact hD.2 k q0 h1
/-- the callee's cells that it wrote (places im of its list), laid at their places -/
def kupsM (ws : va_W) (is : List Nat) (w1 : va_W) : List Nat → va_W
  | [] => ws
  | j :: js => match is[j]?, w1[j]? with
    | some i, some x => kupsM (ws.set i x) is w1 js
    | _, _ => kupsM ws is w1 js
def kupsS (wc w1 : va_W) : List Nat → va_W
  | [] => wc
  | j :: js => match w1[j]? with
    | some x => kupsS (wc.set j x) w1 js
    | none => kupsS wc w1 js
theorem kupsS_out {w1 : va_W} : ∀ (im : List Nat) (wc : va_W) (j : Nat), j ∉ im → (kupsS wc w1 im)[j]? = wc[j]?
  | [], wc, j, _ => rfl
  | i :: im, wc, j, h => by
    unfold kupsS
    have h1 : j ≠ i := fun e => h (e ▸ List.mem_cons_self)
    have h2 : j ∉ im := fun e => h (List.mem_cons_of_mem _ e)
    cases hx : w1[i]? with
    | none => exact kupsS_out im wc j h2
    | some x =>
      show (kupsS (wc.set i x) w1 im)[j]? = _
      rw [kupsS_out im _ j h2, List.getElem?_set_ne (Ne.symm h1)]
theorem kupsM_get : ∀ (im : List Nat) (ws : va_W) (is : List Nat) (w1 : va_W) (k : Nat) (q : Nat × va_E), (kupsM ws is w1 im)[k]? = some q → (∃ j : Nat, is[j]? = some k ∧ w1[j]? = some q) ∨ (ws[k]? = some q ∧ ∀ j ∈ im, is[j]? = some k → w1[j]? = none)
  | [], ws, is, w1, k, q, h => Or.inr ⟨h, fun j hj => absurd hj List.not_mem_nil⟩
  | i :: im, ws, is, w1, k, q, h => by
    unfold kupsM at h
    cases hi : is[i]? with
    | none =>
      rw [hi] at h
      rcases kupsM_get im ws is w1 k q h with z | ⟨z1, z2⟩
      · exact Or.inl z
      · exact Or.inr ⟨z1, fun j hj hk => by
          rcases List.mem_cons.mp hj with e | e
          · rw [e, hi] at hk; cases hk
          · exact z2 j e hk⟩
    | some p =>
      cases hx : w1[i]? with
      | none =>
        rw [hi, hx] at h
        rcases kupsM_get im ws is w1 k q h with z | ⟨z1, z2⟩
        · exact Or.inl z
        · exact Or.inr ⟨z1, fun j hj hk => by
            rcases List.mem_cons.mp hj with e | e
            · rw [e]; exact hx
            · exact z2 j e hk⟩
      | some x =>
        rw [hi, hx] at h
        rcases kupsM_get im (ws.set p x) is w1 k q h with z | ⟨z1, z2⟩
        · exact Or.inl z
        · by_cases e : k = p
          · subst e
            have hlt : k < ws.length := by
              have := (List.getElem?_eq_some_iff.mp z1).1
              rwa [List.length_set] at this
            rw [List.getElem?_set_self hlt] at z1
            exact Or.inl ⟨i, hi, by rw [hx]; exact z1⟩
          · rw [List.getElem?_set_ne (Ne.symm e)] at z1
            exact Or.inr ⟨z1, fun j hj hk => by
              rcases List.mem_cons.mp hj with g | g
              · rw [g, hi] at hk
                exact absurd (Option.some.inj hk).symm e
              · exact z2 j g hk⟩
theorem kupsM_ok {D : va_G} {cl : List vw_C} {A : Nat → Prop} {ws wc w1 : va_W} {H H1 : Heap} (hP : va_P D cl ws H) (hD : va_D A ws) (is : List Nat) (hC : is.map (fun i => ws[i]?) = wc.map some) (hw1 : w1.map (fun q => q.1) = wc.map (fun q => q.1)) (im : List Nat) (hs : w1 = kupsS wc w1 im)
    (hk : ∀ q : Nat, q < H.size → ¬ va_A wc H.size q → H1[q]? = H[q]?) (hP1 : va_P D cl w1 H1) : va_P D cl (kupsM ws is w1 im) H1 ∧ va_D A (kupsM ws is w1 im) := by
  have hl1 : w1.length = wc.length := by have := congrArg List.length hw1; simpa using this
  have addr : ∀ (k : Nat) (q : Nat × va_E), (kupsM ws is w1 im)[k]? = some q → ∃ q0, ws[k]? = some q0 ∧ q0.1 = q.1 := by
    intro k q h
    rcases kupsM_get im ws is w1 k q h with ⟨j, h1, h2⟩ | ⟨h1, -⟩
    · obtain ⟨b, h3, h4⟩ := kz_at hC h1
      refine ⟨b, h4, ?_⟩
      have e1 : (w1.map (fun q => q.1))[j]? = some q.1 := by rw [List.getElem?_map, h2]; rfl
      rw [hw1, List.getElem?_map, h3] at e1
      exact Option.some.inj e1
    · exact ⟨q, h1, rfl⟩
  refine ⟨fun k q h => ?_, fun i j x y hi hj hxy => ?_, fun k q h => ?_⟩
  · rcases kupsM_get im ws is w1 k q h with ⟨j, h1, h2⟩ | ⟨h1, h2⟩
    · exact hP1 j q h2
    · by_cases hi : ∃ j : Nat, is[j]? = some k
      · obtain ⟨j, hj⟩ := hi
        obtain ⟨b, h3, h4⟩ := kz_at hC hj
        have hb : b = q := Option.some.inj (h4.symm.trans h1)
        subst hb
        have hj1 : j < w1.length := by rw [hl1]; exact (List.getElem?_eq_some_iff.mp h3).1
        have him : j ∉ im := fun z => by
          have := h2 j z hj
          rw [List.getElem?_eq_getElem hj1] at this
          cases this
        refine hP1 j b ?_
        rw [hs, kupsS_out im wc j him]
        exact h3
      · refine (hP k q h1).kept (hk q.1 (hP k q h1).lt ?_)
        intro hA
        rcases hA with ⟨k2, e, h3⟩ | h3
        · obtain ⟨i, h4, h5⟩ := kz_at2 hC h3
          have := hD.1 i k (q.1, e) q h5 h1 rfl
          subst this
          exact hi ⟨k2, h4⟩
        · exact absurd (hP k q h1).lt (by omega)
  · obtain ⟨x0, h1, h2⟩ := addr i x hi
    obtain ⟨y0, h3, h4⟩ := addr j y hj
    exact hD.1 i j x0 y0 h1 h3 (h2.trans (hxy.trans h4.symm))
  · obtain ⟨q0, h1, h2⟩ := addr k q h
    rw [← h2]
    exact hD.2 k q0 h1
section KCALL
variable {p : Program} {l : Launch} {e : Env} {R : Room} {s : State} {m : MethodId} {args : Array Value} {below : List Frame} {meth : Method} {c : Code} {H : Heap} {locs : List Loc} {cells slots : Nat} {Q : State → Prop}
variable {pc : Nat} {ls : Array Slot} {rest st0 : List Value} {a : Array Value} {A : Nat → Prop} {G : KG} {ws wc w1 : va_W} {rv : Option Value}
theorem kpre (as : List Value) (hK : va_K (gD G) vwCl (gTys G) s) (hP : va_P (gD G) vwCl ws H) (hD : va_D A ws) (hS : va_S A s.heap H locs) (hA : ∀ q, s.heap.size ≤ q → A q) (hAm : Amb G A s s.heap) (is : List Nat) (hC : is.map (fun i => ws[i]?) = wc.map some) (hnd : va_nd is = true) :
    ∀ U : State, U.heap = H → s.WarmedH U.vm → KPre G as wc H.size as.toArray U := by
  intro U hU hW
  refine ⟨rfl, by rw [hU], ?_, va_K.moved hW.alike hK, (hD.sub is hnd hC).weaken (fun _ _ _ _ => trivial), hAm.call hS (va_free hD hS hA is hC) hU hW⟩
  rw [hU]
  exact hP.sub is (kz_fm _ _ _ hC)
theorem kgo (hr : va_Run p l e R s m args below meth c H locs cells slots 0 0 (F0 m pc ls st0) rest (KPost G (va_A wc H.size) w1 rv a) (va_A wc H.size)) (hP : va_P (gD G) vwCl ws H) (hD : va_D A ws) (hS : va_S A s.heap H locs) (hA : ∀ q, s.heap.size ≤ q → A q) (is : List Nat) (hC : is.map (fun i => ws[i]?) = wc.map some) (hw1 : w1.map (fun q => q.1) = wc.map (fun q => q.1)) (im : List Nat) (hs : w1 = kupsS wc w1 im)
    (kk : ∀ (H1 : Heap) (locs1 : List Loc), va_P (gD G) vwCl (kupsM ws is w1 im) H1 → va_D A (kupsM ws is w1 im) → va_S A s.heap H1 locs1 → W p l e R s m args below meth c H1 locs1 cells slots Q (F0 m (pc + 3) ls (rv.toList ++ rest))) : W p l e R s m args below meth c H locs cells slots Q (F0 m pc ls st0) := by
  intro T hT X
  obtain ⟨v, st₀, t, T', L, h0, X', hL, e1, e2, ⟨⟨hv, hP1, hD1⟩, hz, hk⟩, st⟩ := hr T hT X
  cases hv
  rw [h0] at hz hk
  have hF := va_free hD hS hA is hC
  obtain ⟨hP2, hD2⟩ := kupsM_ok hP hD is hC hw1 im hs hk hP1
  obtain ⟨t2, a1, b1⟩ := kk t.heap (locs ++ L) hP2 hD2 ⟨Nat.le_trans hS.1 hz, fun q h1 h2 => by rw [hk q (Nat.lt_of_lt_of_le h1 hS.1) (fun z => h2 (hF q z))]; exact hS.2.1 q h1 h2, fun q hq => by
      rcases List.mem_append.mp hq with h | h
      · exact hS.2.2 q h
      · exact hF _ (hL q h)⟩ T' e1 X'
  exact ⟨t2, st t2 a1, b1⟩
variable {y : MethodName} {bytes cc : ByteArray} {maxL nL n index fr lo : Nat} {ret : Option FieldType} {w Ts : List Cond} {own C : String} {b : Addr} {As : List Value}
theorem kcB (n : Nat) (ht : ∀ x ∈ gtbl, x.before args s = true) (hcode : Cond.code y bytes maxL ret ∈ gtbl) (hini : Cond.initialized y.cls ∈ gtbl) (hl : Cond.methodLink own index y ∈ gtbl) (hd : y.cls ≠ "java/lang/invoke/MethodHandle" ∧ y.cls ≠ "java/lang/invoke/VarHandle" ∧ (parseMethodDescriptor y.desc).map (fun d => d.parameters.length) = some n) (hR : fr + 1 ≤ R.frames ∧ 8 + (maxL + 11) + lo ≤ R.locals) :
    CallB R s args own index y bytes maxL ret (kw y bytes maxL ret) (kR fr 0 0 lo) 0 0 n := callB_of n ht (kwIn hcode) rfl rfl rfl (ht _ hini) (ht _ hl) hd hR
theorem kcV (n : Nat) (ht : ∀ x ∈ gtbl, x.before args s = true) (hcode : Cond.code y bytes maxL ret ∈ gtbl) (hini : Cond.initialized y.cls ∈ gtbl) (hl : Cond.methodLink own index y ∈ gtbl) (him : Cond.instanceMethod y ∈ gtbl) (hse : Cond.selects C y y ∈ gtbl) (hd : y.cls ≠ "java/lang/invoke/MethodHandle" ∧ y.cls ≠ "java/lang/invoke/VarHandle" ∧ (parseMethodDescriptor y.desc).map (fun d => d.parameters.length) = some n) (hR : fr + 1 ≤ R.frames ∧ 8 + (maxL + 11) + lo ≤ R.locals) :
    CallW R s args own C index y bytes maxL ret (kw y bytes maxL ret) (kR fr 0 0 lo) 0 0 n := ⟨kcB n ht hcode hini hl hd hR, ht _ him, ht _ hse⟩
theorem kcS (n : Nat) (ht : ∀ x ∈ gtbl, x.before args s = true) (hcode : Cond.code y bytes maxL ret ∈ gtbl) (hini : Cond.initialized y.cls ∈ gtbl) (hl : Cond.methodLink own index y ∈ gtbl) (hst : Cond.static y ∈ gtbl) (hd : y.cls ≠ "java/lang/invoke/MethodHandle" ∧ y.cls ≠ "java/lang/invoke/VarHandle" ∧ (parseMethodDescriptor y.desc).map (fun d => d.parameters.length) = some n) (hR : fr + 1 ≤ R.frames ∧ 8 + (maxL + 11) + lo ≤ R.locals) :
    CallB R s args own index y bytes maxL ret (kw y bytes maxL ret) (kR fr 0 0 lo) 0 0 n ∧ (Cond.static y).before args s = true := ⟨kcB n ht hcode hini hl hd hR, ht _ hst⟩
theorem kcN {host : String} (n : Nat) (ht : ∀ x ∈ gtbl, x.before args s = true) (hAm : Amb G A s s.heap) (hnw : Cond.methodLinkNest own index y host ∈ tables_1) (hcode : Cond.code y bytes maxL ret ∈ gtbl) (hini : Cond.initialized y.cls ∈ gtbl) (hd : y.cls ≠ "java/lang/invoke/MethodHandle" ∧ y.cls ≠ "java/lang/invoke/VarHandle" ∧ (parseMethodDescriptor y.desc).map (fun d => d.parameters.length) = some n) (hR : fr + 1 ≤ R.frames ∧ 8 + (maxL + 11) + lo ≤ R.locals) :
    va_CN R s args own index y host bytes maxL ret (kw y bytes maxL ret) (kR fr 0 0 lo) 0 0 n := va_cnB n ht (kwIn hcode) rfl rfl rfl (hAm.1 _ hnw rfl) (ht _ hini) hd hR
theorem ka_aald (hx : p.tables.exec = Jvm.exec) (hb : c.code = cc) {a : Nat} (hK : va_K (gD G) vwCl (gTys G) s) (hP : va_P (gD G) vwCl ws H) (q0 : Nat) {n : Nat} {f : Nat → Option Nat} (ha : ws[q0]? = some (a, .inl (gII G, n, .inr (.inr (.inr (.inr f)))))) {i : Int32} (hin : vp_in i n) (hdg : decode cc pc = .ok (.aaload, 1))
    (kk : W p l e R s m args below meth c H locs cells slots Q (F0 m (pc + 1) ls (va_rf (f i.toNatClampNeg) :: rest))) : W p l e R s m args below meth c H locs cells slots Q (F0 m pc ls (.int i :: .ref a :: rest)) := by
  have hlt : i.toNatClampNeg < n := Nat.not_le.mp fun q => hin (Or.inr q)
  exact W.aald (v := va_rf (f i.toNatClampNeg)) (ty := .array .int) hx hb (hP q0 _ ha) ((hK.2 1 _ rfl).1 n (fun j => va_rf (f j))) rfl (fun q => by cases q) (by show ¬ (i < 0 ∨ (arrV _ _ _).slots.size ≤ _); rw [arrV_size]; exact hin) (by show (arrV _ _ _).slots[_]? = _; rw [arrV_read _ _ hlt]) rfl rfl hdg kk
/-- invokevirtual, the named method itself -/
theorem kV (S : CallFix p m c cc nL s args Ts own) (hM : KM l G y w fr lo (.ref b :: As) wc w1 rv) (cw : CallW R s args own C index y bytes maxL ret w (kR fr 0 0 lo) 0 0 n) (hdg : decode cc pc = .ok (.invokevirtual index, 3)) (hl : ls.size = nL)
    (hK : va_K (gD G) vwCl (gTys G) s) (hAm : Amb G A s s.heap) (hA : ∀ q, s.heap.size ≤ q → A q) (hP : va_P (gD G) vwCl ws H) (hD : va_D A ws) (hS : va_S A s.heap H locs)
    (q0 : Nat) {ci : Nat} {fs : List Value} {r : vw_C} (hc : vwCl[ci]? = some r) (hq : ws[q0]? = some (b, .inr (ci, fs))) (hrC : r.1 = C) (is : List Nat) (hC : is.map (fun i => ws[i]?) = wc.map some) (hnd : va_nd is = true) (hw1 : w1.map (fun q => q.1) = wc.map (fun q => q.1)) (im : List Nat) (hs : w1 = kupsS wc w1 im)
    (hn : As.length = n) (hstack : st0 = As.reverse ++ .ref b :: rest) (hroom : (rest.map fun v => v.category).sum ≤ 8)
    (hcap : cells + 0 ≤ R.cells ∧ slots + 0 ≤ R.slots)
    (kk : ∀ (H1 : Heap) (locs1 : List Loc), va_P (gD G) vwCl (kupsM ws is w1 im) H1 → va_D A (kupsM ws is w1 im) → va_S A s.heap H1 locs1 → W p l e R s m args below meth c H1 locs1 cells slots Q (F0 m (pc + 3) ls (rv.toList ++ rest))) : W p l e R s m args below meth c H locs cells slots Q (F0 m pc ls st0) := by
  subst hrC
  exact kgo (va_runV (g := F0 m pc ls st0) (As := As) (rest := rest) S (hM H.size) cw ⟨KPre.blind, va_recv hK hP hc hq, kpre (.ref b :: As) hK hP hD hS hA hAm is hC hnd⟩ rfl hn hl hstack (lv_room hroom) hdg hcap) hP hD hS hA is hC hw1 im hs kk
/-- invokestatic -/
theorem kS (S : CallFix p m c cc nL s args Ts own) (hM : KM l G y w fr lo As wc w1 rv) (cw : CallB R s args own index y bytes maxL ret w (kR fr 0 0 lo) 0 0 n ∧ (Cond.static y).before args s = true) (hdg : decode cc pc = .ok (.invokestatic index, 3)) (hl : ls.size = nL)
    (hK : va_K (gD G) vwCl (gTys G) s) (hAm : Amb G A s s.heap) (hA : ∀ q, s.heap.size ≤ q → A q) (hP : va_P (gD G) vwCl ws H) (hD : va_D A ws) (hS : va_S A s.heap H locs)
    (is : List Nat) (hC : is.map (fun i => ws[i]?) = wc.map some) (hnd : va_nd is = true) (hw1 : w1.map (fun q => q.1) = wc.map (fun q => q.1)) (im : List Nat) (hs : w1 = kupsS wc w1 im)
    (hn : As.length = n) (hstack : st0 = As.reverse ++ rest) (hroom : (rest.map fun v => v.category).sum ≤ 8)
    (hcap : cells + 0 ≤ R.cells ∧ slots + 0 ≤ R.slots)
    (kk : ∀ (H1 : Heap) (locs1 : List Loc), va_P (gD G) vwCl (kupsM ws is w1 im) H1 → va_D A (kupsM ws is w1 im) → va_S A s.heap H1 locs1 → W p l e R s m args below meth c H1 locs1 cells slots Q (F0 m (pc + 3) ls (rv.toList ++ rest))) : W p l e R s m args below meth c H locs cells slots Q (F0 m pc ls st0) :=
  kgo (va_runS (g := F0 m pc ls st0) (As := As) (rest := rest) S (hM H.size) cw ⟨KPre.blind, kpre As hK hP hD hS hA hAm is hC hnd⟩ rfl hn hl hstack (lv_room hroom) hdg hcap) hP hD hS hA is hC hw1 im hs kk
/-- invokevirtual of a private method of a nest mate -/
theorem kVN {host : String} (S : CallFix p m c cc nL s args Ts own) (hM : KM l G y w fr lo (.ref b :: As) wc w1 rv) (cw : va_CN R s args own index y host bytes maxL ret w (kR fr 0 0 lo) 0 0 n ∧ (Cond.instanceMethod y).before args s = true ∧ (Cond.selects C y y).before args s = true) (hdg : decode cc pc = .ok (.invokevirtual index, 3)) (hl : ls.size = nL)
    (hK : va_K (gD G) vwCl (gTys G) s) (hAm : Amb G A s s.heap) (hA : ∀ q, s.heap.size ≤ q → A q) (hP : va_P (gD G) vwCl ws H) (hD : va_D A ws) (hS : va_S A s.heap H locs)
    (q0 : Nat) {ci : Nat} {fs : List Value} {r : vw_C} (hc : vwCl[ci]? = some r) (hq : ws[q0]? = some (b, .inr (ci, fs))) (hrC : r.1 = C) (is : List Nat) (hC : is.map (fun i => ws[i]?) = wc.map some) (hnd : va_nd is = true) (hw1 : w1.map (fun q => q.1) = wc.map (fun q => q.1)) (im : List Nat) (hs : w1 = kupsS wc w1 im)
    (hn : As.length = n) (hstack : st0 = As.reverse ++ .ref b :: rest) (hroom : (rest.map fun v => v.category).sum ≤ 8)
    (hcap : cells + 0 ≤ R.cells ∧ slots + 0 ≤ R.slots)
    (kk : ∀ (H1 : Heap) (locs1 : List Loc), va_P (gD G) vwCl (kupsM ws is w1 im) H1 → va_D A (kupsM ws is w1 im) → va_S A s.heap H1 locs1 → W p l e R s m args below meth c H1 locs1 cells slots Q (F0 m (pc + 3) ls (rv.toList ++ rest))) : W p l e R s m args below meth c H locs cells slots Q (F0 m pc ls st0) := by
  subst hrC
  exact kgo (va_runVN (g := F0 m pc ls st0) (As := As) (rest := rest) S (hM H.size) cw ⟨KPre.blind, va_recv hK hP hc hq, kpre (.ref b :: As) hK hP hD hS hA hAm is hC hnd⟩ rfl hn hl hstack (lv_room hroom) hdg hcap) hP hD hS hA is hC hw1 im hs kk
/-- invokestatic of a private method of a nest mate -/
theorem kSN {host : String} (S : CallFix p m c cc nL s args Ts own) (hM : KM l G y w fr lo As wc w1 rv) (cw : va_CN R s args own index y host bytes maxL ret w (kR fr 0 0 lo) 0 0 n ∧ (Cond.static y).before args s = true ∧ True) (hdg : decode cc pc = .ok (.invokestatic index, 3)) (hl : ls.size = nL)
    (hK : va_K (gD G) vwCl (gTys G) s) (hAm : Amb G A s s.heap) (hA : ∀ q, s.heap.size ≤ q → A q) (hP : va_P (gD G) vwCl ws H) (hD : va_D A ws) (hS : va_S A s.heap H locs)
    (is : List Nat) (hC : is.map (fun i => ws[i]?) = wc.map some) (hnd : va_nd is = true) (hw1 : w1.map (fun q => q.1) = wc.map (fun q => q.1)) (im : List Nat) (hs : w1 = kupsS wc w1 im)
    (hn : As.length = n) (hstack : st0 = As.reverse ++ rest) (hroom : (rest.map fun v => v.category).sum ≤ 8)
    (hcap : cells + 0 ≤ R.cells ∧ slots + 0 ≤ R.slots)
    (kk : ∀ (H1 : Heap) (locs1 : List Loc), va_P (gD G) vwCl (kupsM ws is w1 im) H1 → va_D A (kupsM ws is w1 im) → va_S A s.heap H1 locs1 → W p l e R s m args below meth c H1 locs1 cells slots Q (F0 m (pc + 3) ls (rv.toList ++ rest))) : W p l e R s m args below meth c H locs cells slots Q (F0 m pc ls st0) :=
  kgo (va_runSN (g := F0 m pc ls st0) (As := As) (rest := rest) S (hM H.size) cw ⟨KPre.blind, kpre As hK hP hD hS hA hAm is hC hnd⟩ rfl hn hl hstack (lv_room hroom) hdg hcap) hP hD hS hA is hC hw1 im hs kk
/-- invokespecial super.y -/
theorem kSU (S : CallFix p m c cc nL s args Ts own) (hM : KM l G y w fr lo (.ref b :: As) wc w1 rv) (cw : va_CS R s args own index y bytes maxL ret w (kR fr 0 0 lo) 0 0 n) (hdg : decode cc pc = .ok (.invokespecial index, 3)) (hl : ls.size = nL)
    (hK : va_K (gD G) vwCl (gTys G) s) (hAm : Amb G A s s.heap) (hA : ∀ q, s.heap.size ≤ q → A q) (hP : va_P (gD G) vwCl ws H) (hD : va_D A ws) (hS : va_S A s.heap H locs)
    (q0 : Nat) {ci : Nat} {fs : List Value} {r : vw_C} (hc : vwCl[ci]? = some r) (hq : ws[q0]? = some (b, .inr (ci, fs))) (is : List Nat) (hC : is.map (fun i => ws[i]?) = wc.map some) (hnd : va_nd is = true) (hw1 : w1.map (fun q => q.1) = wc.map (fun q => q.1)) (im : List Nat) (hs : w1 = kupsS wc w1 im)
    (hn : As.length = n) (hstack : st0 = As.reverse ++ .ref b :: rest) (hroom : (rest.map fun v => v.category).sum ≤ 8)
    (hcap : cells + 0 ≤ R.cells ∧ slots + 0 ≤ R.slots)
    (kk : ∀ (H1 : Heap) (locs1 : List Loc), va_P (gD G) vwCl (kupsM ws is w1 im) H1 → va_D A (kupsM ws is w1 im) → va_S A s.heap H1 locs1 → W p l e R s m args below meth c H1 locs1 cells slots Q (F0 m (pc + 3) ls (rv.toList ++ rest))) : W p l e R s m args below meth c H locs cells slots Q (F0 m pc ls st0) := 
  kgo (va_runSU (g := F0 m pc ls st0) (As := As) (rest := rest) (hK.1 ci r hc).2 S (hM H.size) cw ⟨KPre.blind, va_recv hK hP hc hq, kpre (.ref b :: As) hK hP hD hS hA hAm is hC hnd⟩ rfl hn hl hstack (lv_room hroom) hdg hcap) hP hD hS hA is hC hw1 im hs kk
/-- invokevirtual, inherited or overridden -/
theorem kU {owner : String} {x : MethodName} (S : CallFix p m c cc nL s args Ts own) (hM : KM l G y w fr lo (.ref b :: As) wc w1 rv) (cw : va_CU R s args own C owner index x y bytes maxL ret w (kR fr 0 0 lo) 0 0 n) (hdg : decode cc pc = .ok (.invokevirtual index, 3)) (hl : ls.size = nL)
    (hK : va_K (gD G) vwCl (gTys G) s) (hAm : Amb G A s s.heap) (hA : ∀ q, s.heap.size ≤ q → A q) (hP : va_P (gD G) vwCl ws H) (hD : va_D A ws) (hS : va_S A s.heap H locs)
    (q0 : Nat) {ci : Nat} {fs : List Value} {r : vw_C} (hc : vwCl[ci]? = some r) (hq : ws[q0]? = some (b, .inr (ci, fs))) (hrC : r.1 = C) (is : List Nat) (hC : is.map (fun i => ws[i]?) = wc.map some) (hnd : va_nd is = true) (hw1 : w1.map (fun q => q.1) = wc.map (fun q => q.1)) (im : List Nat) (hs : w1 = kupsS wc w1 im)
    (hn : As.length = n) (hstack : st0 = As.reverse ++ .ref b :: rest) (hroom : (rest.map fun v => v.category).sum ≤ 8)
    (hcap : cells + 0 ≤ R.cells ∧ slots + 0 ≤ R.slots)
    (kk : ∀ (H1 : Heap) (locs1 : List Loc), va_P (gD G) vwCl (kupsM ws is w1 im) H1 → va_D A (kupsM ws is w1 im) → va_S A s.heap H1 locs1 → W p l e R s m args below meth c H1 locs1 cells slots Q (F0 m (pc + 3) ls (rv.toList ++ rest))) : W p l e R s m args below meth c H locs cells slots Q (F0 m pc ls st0) := by
  subst hrC
  exact kgo (va_runU (g := F0 m pc ls st0) (As := As) (rest := rest) S (hM H.size) cw ⟨KPre.blind, va_recv hK hP hc hq, kpre (.ref b :: As) hK hP hD hS hA hAm is hC hnd⟩ rfl hn hl hstack (lv_room hroom) hdg hcap) hP hD hS hA is hC hw1 im hs kk
/-- the ends -/
theorem kiret {v : Int32} (hx : p.tables.exec = Jvm.exec) (hb : c.code = cc) (hr : meth.sig.returnType = some .int) (hlk : meth.locks = false) (hP : va_P (gD G) vwCl w1 H) (hD : va_D A w1) (hS : va_S A s.heap H locs) (hQ : Q = MQ below (KPost G A w1 (some (.int v))) args s cells slots A) (hdg : decode cc pc = .ok (.ireturn, 1)) :
    W p l e R s m args below meth c H locs cells slots Q (F0 m pc ls [.int v]) := by
  subst hQ
  exact W.iret hx hb hr (fun t ht _ => ⟨⟨rfl, by rw [ht]; exact hP, hD⟩, hS.F ht⟩) hS.2.2 hdg hlk
theorem kzret {v : Int32} (hx : p.tables.exec = Jvm.exec) (hb : c.code = cc) (hr : meth.sig.returnType = some .boolean) (hn : v = 0 ∨ v = 1) (hlk : meth.locks = false) (hP : va_P (gD G) vwCl w1 H) (hD : va_D A w1) (hS : va_S A s.heap H locs) (hQ : Q = MQ below (KPost G A w1 (some (.int v))) args s cells slots A) (hdg : decode cc pc = .ok (.ireturn, 1)) :
    W p l e R s m args below meth c H locs cells slots Q (F0 m pc ls [.int v]) := by
  subst hQ
  exact W.zret hx hb hr (by rcases hn with h | h <;> (rw [h]; decide +kernel)) (fun t ht _ => ⟨⟨rfl, by rw [ht]; exact hP, hD⟩, hS.F ht⟩) hS.2.2 hdg hlk
theorem klret {v : Int64} (hx : p.tables.exec = Jvm.exec) (hb : c.code = cc) (hr : meth.sig.returnType = some .long) (hlk : meth.locks = false) (hP : va_P (gD G) vwCl w1 H) (hD : va_D A w1) (hS : va_S A s.heap H locs) (hQ : Q = MQ below (KPost G A w1 (some (.long v))) args s cells slots A) (hdg : decode cc pc = .ok (.lreturn, 1)) :
    W p l e R s m args below meth c H locs cells slots Q (F0 m pc ls [.long v]) := by
  subst hQ
  exact W.lret hx hb hr (fun t ht _ => ⟨⟨rfl, by rw [ht]; exact hP, hD⟩, hS.F ht⟩) hS.2.2 hdg hlk
theorem kvret (hx : p.tables.exec = Jvm.exec) (hb : c.code = cc) (hr : meth.sig.returnType = none) (hlk : meth.locks = false) (hP : va_P (gD G) vwCl w1 H) (hD : va_D A w1) (hS : va_S A s.heap H locs) (hQ : Q = MQ below (KPost G A w1 none) args s cells slots A) (hdg : decode cc pc = .ok (.return_, 1)) :
    W p l e R s m args below meth c H locs cells slots Q (F0 m pc ls []) := by
  subst hQ
  exact W.vret hx hb hr (fun t ht _ => ⟨⟨rfl, by rw [ht]; exact hP, hD⟩, hS.F ht⟩) hS.2.2 hdg hlk
end KCALL
