/-! methods that make cells: the contract KX; what comes back stands behind the caller's other cells -/
def KPostX (G : KG) (A : Nat → Prop) (ws' : (Nat → Nat) → va_W) (rv : (Nat → Nat) → Option Value) : Array Value → State → Outcome → State → Prop := fun _ st oc t => (∃ q : Nat → Nat, oc = .returned (rv q) ∧ va_P (gD G) vwCl (ws' q) t.heap ∧ va_D A (ws' q)) ∧ va_F A st t
def KX (l : Launch) (G : KG) (y : MethodName) (w : List Cond) (fr lo mc ms : Nat) (as : List Value) (ws : va_W) (ws' : (Nat → Nat) → va_W) (rv : (Nat → Nat) → Option Value) : Prop :=
  ∀ sz : Nat, Met l y w (kR fr mc ms lo) (KPre G as ws sz) (KPostX G (va_A ws sz) ws' rv) mc ms (va_A ws sz)
theorem KX.of {l : Launch} {G : KG} {y : MethodName} {fr lo mc ms : Nat} {as : List Value} {ws : va_W} {ws' : (Nat → Nat) → va_W} {rv : (Nat → Nat) → Option Value} {cc : ByteArray} {maxL : Nat} {ret : Option FieldType}
    (hy : plainName y.cls = true) (hlen : (lg_sl as).length ≤ maxL)
    (body : ∀ (p : Program) (e : Env) (s : State) (m : MethodId) (below : List Frame) (meth : Method) (c : Code) (A : Nat → Prop) (ls : Array Slot) (args : Array Value) (Q : State → Prop), Fx p s m meth c args y cc maxL ret → va_P (gD G) vwCl ws s.heap → va_K (gD G) vwCl (gTys G) s → va_D A ws → (∀ q, s.heap.size ≤ q → A q) → va_S A s.heap s.heap [] → Amb G A s s.heap → Q = MQ below (KPostX G A ws' rv) args s mc ms A → lv_has ls maxL (lv_args 0 as) →
      W p l e (kR fr mc ms lo) s m args below meth c s.heap [] 0 0 Q (F0 m 0 ls [])) : KX l G y (kw y cc maxL ret) fr lo mc ms as ws ws' rv := by
  intro sz
  refine Met.ofW (cc := cc) (maxL := maxL) (ret := ret) hy rfl ?_
  intro p e s m args below meth c s₁ B hml hv
  obtain ⟨hargs, hsz, hP, hK, hD0, hAm⟩ := hv
  subst hsz
  have hl := lv_entry as (n := maxL) hlen
  have hts := atoms_spec (ws := kw y cc maxL ret) B.pre
  have hx := body p e s m below meth c (va_A ws s.heap.size) _ args _ ⟨B.exec, B.bytes, B.returns, hml, fun x hx => hts x (List.mem_cons_of_mem _ hx), findClass_of_methodNamed B.named, B.notSynchronized, (name_of_methodNamed B.named B.method).1⟩ hP hK hD0.self (fun q h => Or.inr h) va_S.rf hAm rfl hl
  rw [hargs, lg_entry_eq]
  rw [hargs] at hx
  exact hx
section KXC
variable {p : Program} {l : Launch} {e : Env} {R : Room} {s : State} {m : MethodId} {args : Array Value} {below : List Frame} {meth : Method} {c : Code} {H : Heap} {locs : List Loc} {cells slots : Nat} {Q : State → Prop}
variable {pc : Nat} {ls : Array Slot} {rest st0 : List Value} {a : Array Value} {A : Nat → Prop} {G : KG} {ws wc wr : va_W} {w1 : (Nat → Nat) → va_W} {rv : (Nat → Nat) → Option Value}
variable {y : MethodName} {bytes cc : ByteArray} {maxL nL n index fr lo mc ms : Nat} {ret : Option FieldType} {w Ts : List Cond} {own C : String} {b : Addr} {As : List Value}
theorem kgoX (hr : va_Run p l e R s m args below meth c H locs cells slots mc ms (F0 m pc ls st0) rest (KPostX G (va_A wc H.size) w1 rv a) (va_A wc H.size)) (hP : va_P (gD G) vwCl ws H) (hD : va_D A ws) (hS : va_S A s.heap H locs) (hA : ∀ q, s.heap.size ≤ q → A q) (isC isR : List Nat) (hC : isC.map (fun i => ws[i]?) = wc.map some) (hR : isR.map (fun i => ws[i]?) = wr.map some) (hn : va_nd isR = true) (hdis : ∀ i ∈ isR, i ∉ isC)
    (kk : ∀ (q : Nat → Nat) (H1 : Heap) (locs1 : List Loc), va_P (gD G) vwCl (wr ++ w1 q) H1 → va_D A (wr ++ w1 q) → va_S A s.heap H1 locs1 → W p l e R s m args below meth c H1 locs1 (cells + mc) (slots + ms) Q (F0 m (pc + 3) ls ((rv q).toList ++ rest))) : W p l e R s m args below meth c H locs cells slots Q (F0 m pc ls st0) := by
  intro T hT X
  obtain ⟨v, st₀, t, T', L, h0, X', hL, e1, e2, ⟨⟨q, hv, hP1, hD1⟩, hz, hk⟩, st⟩ := hr T hT X
  cases hv
  rw [h0] at hz hk
  have hF := va_free hD hS hA isC hC
  obtain ⟨hP2, hD2⟩ := va_join (wr := wr) hP hD isC isR hC hR hn hdis hk hF hP1 hD1
  obtain ⟨t2, a1, b1⟩ := kk q t.heap (locs ++ L) hP2 hD2 ⟨Nat.le_trans hS.1 hz, fun q h1 h2 => by rw [hk q (Nat.lt_of_lt_of_le h1 hS.1) (fun z => h2 (hF q z))]; exact hS.2.1 q h1 h2, fun q hq => by
      rcases List.mem_append.mp hq with h | h
      · exact hS.2.2 q h
      · exact hF _ (hL q h)⟩ T' e1 X'
  exact ⟨t2, st t2 a1, b1⟩
theorem kcBX (n : Nat) (ht : ∀ x ∈ gtbl, x.before args s = true) (hcode : Cond.code y bytes maxL ret ∈ gtbl) (hini : Cond.initialized y.cls ∈ gtbl) (hl : Cond.methodLink own index y ∈ gtbl) (hd : y.cls ≠ "java/lang/invoke/MethodHandle" ∧ y.cls ≠ "java/lang/invoke/VarHandle" ∧ (parseMethodDescriptor y.desc).map (fun d => d.parameters.length) = some n) (hR : fr + 1 ≤ R.frames ∧ 8 + (maxL + 11) + lo ≤ R.locals) :
    CallB R s args own index y bytes maxL ret (kw y bytes maxL ret) (kR fr mc ms lo) mc ms n := callB_of n ht (kwIn hcode) rfl rfl rfl (ht _ hini) (ht _ hl) hd hR
theorem kcNX {host : String} (n : Nat) (ht : ∀ x ∈ gtbl, x.before args s = true) (hAm : Amb G A s s.heap) (hnw : Cond.methodLinkNest own index y host ∈ tables_1) (hcode : Cond.code y bytes maxL ret ∈ gtbl) (hini : Cond.initialized y.cls ∈ gtbl) (hd : y.cls ≠ "java/lang/invoke/MethodHandle" ∧ y.cls ≠ "java/lang/invoke/VarHandle" ∧ (parseMethodDescriptor y.desc).map (fun d => d.parameters.length) = some n) (hR : fr + 1 ≤ R.frames ∧ 8 + (maxL + 11) + lo ≤ R.locals) :
    va_CN R s args own index y host bytes maxL ret (kw y bytes maxL ret) (kR fr mc ms lo) mc ms n := va_cnB n ht (kwIn hcode) rfl rfl rfl (hAm.1 _ hnw rfl) (ht _ hini) hd hR
/-- new C(..): the constructor, one's own or a package's -/
theorem kXI (S : CallFix p m c cc nL s args Ts own) (hM : KX l G y w fr lo mc ms (.ref b :: As) wc w1 rv) (cw : CallB R s args own index y bytes maxL none w (kR fr mc ms lo) mc ms n ∧ y.name = "<init>" ∧ (Cond.instanceMethod y).before args s = true) (hdg : decode cc pc = .ok (.invokespecial index, 3)) (hl : ls.size = nL)
    (hK : va_K (gD G) vwCl (gTys G) s) (hAm : Amb G A s s.heap) (hA : ∀ q, s.heap.size ≤ q → A q) (hP : va_P (gD G) vwCl ws H) (hD : va_D A ws) (hS : va_S A s.heap H locs)
    (isC isR : List Nat) (hC : isC.map (fun i => ws[i]?) = wc.map some) (hnC : va_nd isC = true) (hR : isR.map (fun i => ws[i]?) = wr.map some) (hnR : va_nd isR = true) (hdis : ∀ i ∈ isR, i ∉ isC)
    (hn : As.length = n) (hstack : st0 = As.reverse ++ .ref b :: rest) (hroom : (rest.map fun v => v.category).sum ≤ 8) (hcap : cells + mc ≤ R.cells ∧ slots + ms ≤ R.slots)
    (kk : ∀ (q : Nat → Nat) (H1 : Heap) (locs1 : List Loc), va_P (gD G) vwCl (wr ++ w1 q) H1 → va_D A (wr ++ w1 q) → va_S A s.heap H1 locs1 → W p l e R s m args below meth c H1 locs1 (cells + mc) (slots + ms) Q (F0 m (pc + 3) ls ((rv q).toList ++ rest))) : W p l e R s m args below meth c H locs cells slots Q (F0 m pc ls st0) :=
  kgoX (va_runI (g := F0 m pc ls st0) (As := As) (rest := rest) S (hM H.size) cw ⟨KPre.blind, kpre (.ref b :: As) hK hP hD hS hA hAm isC hC hnC⟩ rfl hn hl hstack (lv_room hroom) hdg hcap) hP hD hS hA isC isR hC hR hnR hdis kk
/-- new C(..), a nest mate's own constructor -/
theorem kXIN {host : String} (S : CallFix p m c cc nL s args Ts own) (hM : KX l G y w fr lo mc ms (.ref b :: As) wc w1 rv) (cw : va_CN R s args own index y host bytes maxL none w (kR fr mc ms lo) mc ms n ∧ y.name = "<init>" ∧ (Cond.instanceMethod y).before args s = true) (hdg : decode cc pc = .ok (.invokespecial index, 3)) (hl : ls.size = nL)
    (hK : va_K (gD G) vwCl (gTys G) s) (hAm : Amb G A s s.heap) (hA : ∀ q, s.heap.size ≤ q → A q) (hP : va_P (gD G) vwCl ws H) (hD : va_D A ws) (hS : va_S A s.heap H locs)
    (isC isR : List Nat) (hC : isC.map (fun i => ws[i]?) = wc.map some) (hnC : va_nd isC = true) (hR : isR.map (fun i => ws[i]?) = wr.map some) (hnR : va_nd isR = true) (hdis : ∀ i ∈ isR, i ∉ isC)
    (hn : As.length = n) (hstack : st0 = As.reverse ++ .ref b :: rest) (hroom : (rest.map fun v => v.category).sum ≤ 8) (hcap : cells + mc ≤ R.cells ∧ slots + ms ≤ R.slots)
    (kk : ∀ (q : Nat → Nat) (H1 : Heap) (locs1 : List Loc), va_P (gD G) vwCl (wr ++ w1 q) H1 → va_D A (wr ++ w1 q) → va_S A s.heap H1 locs1 → W p l e R s m args below meth c H1 locs1 (cells + mc) (slots + ms) Q (F0 m (pc + 3) ls ((rv q).toList ++ rest))) : W p l e R s m args below meth c H locs cells slots Q (F0 m pc ls st0) :=
  kgoX (va_runIN (g := F0 m pc ls st0) (As := As) (rest := rest) S (hM H.size) cw ⟨KPre.blind, kpre (.ref b :: As) hK hP hD hS hA hAm isC hC hnC⟩ rfl hn hl hstack (lv_room hroom) hdg hcap) hP hD hS hA isC isR hC hR hnR hdis kk
/-- a static method that makes cells -/
theorem kXS (S : CallFix p m c cc nL s args Ts own) (hM : KX l G y w fr lo mc ms As wc w1 rv) (cw : CallB R s args own index y bytes maxL ret w (kR fr mc ms lo) mc ms n ∧ (Cond.static y).before args s = true) (hdg : decode cc pc = .ok (.invokestatic index, 3)) (hl : ls.size = nL)
    (hK : va_K (gD G) vwCl (gTys G) s) (hAm : Amb G A s s.heap) (hA : ∀ q, s.heap.size ≤ q → A q) (hP : va_P (gD G) vwCl ws H) (hD : va_D A ws) (hS : va_S A s.heap H locs)
    (isC isR : List Nat) (hC : isC.map (fun i => ws[i]?) = wc.map some) (hnC : va_nd isC = true) (hR : isR.map (fun i => ws[i]?) = wr.map some) (hnR : va_nd isR = true) (hdis : ∀ i ∈ isR, i ∉ isC)
    (hn : As.length = n) (hstack : st0 = As.reverse ++ rest) (hroom : (rest.map fun v => v.category).sum ≤ 8) (hcap : cells + mc ≤ R.cells ∧ slots + ms ≤ R.slots)
    (kk : ∀ (q : Nat → Nat) (H1 : Heap) (locs1 : List Loc), va_P (gD G) vwCl (wr ++ w1 q) H1 → va_D A (wr ++ w1 q) → va_S A s.heap H1 locs1 → W p l e R s m args below meth c H1 locs1 (cells + mc) (slots + ms) Q (F0 m (pc + 3) ls ((rv q).toList ++ rest))) : W p l e R s m args below meth c H locs cells slots Q (F0 m pc ls st0) :=
  kgoX (va_runS (g := F0 m pc ls st0) (As := As) (rest := rest) S (hM H.size) cw ⟨KPre.blind, kpre As hK hP hD hS hA hAm isC hC hnC⟩ rfl hn hl hstack (lv_room hroom) hdg hcap) hP hD hS hA isC isR hC hR hnR hdis kk
theorem kXSN {host : String} (S : CallFix p m c cc nL s args Ts own) (hM : KX l G y w fr lo mc ms As wc w1 rv) (cw : va_CN R s args own index y host bytes maxL ret w (kR fr mc ms lo) mc ms n ∧ (Cond.static y).before args s = true ∧ True) (hdg : decode cc pc = .ok (.invokestatic index, 3)) (hl : ls.size = nL)
    (hK : va_K (gD G) vwCl (gTys G) s) (hAm : Amb G A s s.heap) (hA : ∀ q, s.heap.size ≤ q → A q) (hP : va_P (gD G) vwCl ws H) (hD : va_D A ws) (hS : va_S A s.heap H locs)
    (isC isR : List Nat) (hC : isC.map (fun i => ws[i]?) = wc.map some) (hnC : va_nd isC = true) (hR : isR.map (fun i => ws[i]?) = wr.map some) (hnR : va_nd isR = true) (hdis : ∀ i ∈ isR, i ∉ isC)
    (hn : As.length = n) (hstack : st0 = As.reverse ++ rest) (hroom : (rest.map fun v => v.category).sum ≤ 8) (hcap : cells + mc ≤ R.cells ∧ slots + ms ≤ R.slots)
    (kk : ∀ (q : Nat → Nat) (H1 : Heap) (locs1 : List Loc), va_P (gD G) vwCl (wr ++ w1 q) H1 → va_D A (wr ++ w1 q) → va_S A s.heap H1 locs1 → W p l e R s m args below meth c H1 locs1 (cells + mc) (slots + ms) Q (F0 m (pc + 3) ls ((rv q).toList ++ rest))) : W p l e R s m args below meth c H locs cells slots Q (F0 m pc ls st0) :=
  kgoX (va_runSN (g := F0 m pc ls st0) (As := As) (rest := rest) S (hM H.size) cw ⟨KPre.blind, kpre As hK hP hD hS hA hAm isC hC hnC⟩ rfl hn hl hstack (lv_room hroom) hdg hcap) hP hD hS hA isC isR hC hR hnR hdis kk
/-- a KM contract is a KX contract -/
theorem KM.toX {rv0 : Option Value} {ws' : va_W} (h : KM l G y w fr lo As wc ws' rv0) : KX l G y w fr lo 0 0 As wc (fun _ => ws') (fun _ => rv0) := by
  intro sz
  have e : KPostX G (va_A wc sz) (fun _ => ws') (fun _ => rv0) = KPost G (va_A wc sz) ws' rv0 := by
    funext a st oc t
    apply propext
    exact ⟨fun z => ⟨by obtain ⟨⟨q, h1⟩, -⟩ := z; exact h1, z.2⟩, fun z => ⟨⟨fun _ => 0, z.1⟩, z.2⟩⟩
  rw [e]
  exact h sz
theorem kXvret {w2 : va_W} (hx : p.tables.exec = Jvm.exec) (hb : c.code = cc) (hr : meth.sig.returnType = none) (hlk : meth.locks = false) (q : Nat → Nat) (hP : va_P (gD G) vwCl w2 H) (hD : va_D A w2) (hS : va_S A s.heap H locs) (hQ : Q = MQ below (KPostX G A w1 rv) args s cells slots A) (hw : w1 q = w2) (hv : rv q = none) (hdg : decode cc pc = .ok (.return_, 1)) :
    W p l e R s m args below meth c H locs cells slots Q (F0 m pc ls []) := by
  subst hQ
  subst hw
  exact W.vret hx hb hr (fun t ht _ => ⟨⟨q, by rw [hv], by rw [ht]; exact hP, hD⟩, hS.F ht⟩) hS.2.2 hdg hlk
theorem kXaret {w2 : va_W} {v : Nat} {rt : FieldType} (hx : p.tables.exec = Jvm.exec) (hb : c.code = cc) (hr : meth.sig.returnType = some rt) (hlk : meth.locks = false) (q : Nat → Nat) (hP : va_P (gD G) vwCl w2 H) (hD : va_D A w2) (hS : va_S A s.heap H locs) (hQ : Q = MQ below (KPostX G A w1 rv) args s cells slots A) (hw : w1 q = w2) (hv : rv q = some (.ref v)) (hdg : decode cc pc = .ok (.areturn, 1)) (hrt : (∃ n, rt = .object n) ∨ ∃ t, rt = .array t) :
    W p l e R s m args below meth c H locs cells slots Q (F0 m pc ls [.ref v]) := by
  subst hQ
  subst hw
  exact W.aret hx hb hr hrt (Or.inr ⟨_, rfl⟩) (fun t ht _ => ⟨⟨q, by rw [hv], by rw [ht]; exact hP, hD⟩, hS.F ht⟩) hS.2.2 hdg hlk
theorem kXiret {w2 : va_W} {v : Int32} (hx : p.tables.exec = Jvm.exec) (hb : c.code = cc) (hr : meth.sig.returnType = some .int) (hlk : meth.locks = false) (q : Nat → Nat) (hP : va_P (gD G) vwCl w2 H) (hD : va_D A w2) (hS : va_S A s.heap H locs) (hQ : Q = MQ below (KPostX G A w1 rv) args s cells slots A) (hw : w1 q = w2) (hv : rv q = some (.int v)) (hdg : decode cc pc = .ok (.ireturn, 1)) :
    W p l e R s m args below meth c H locs cells slots Q (F0 m pc ls [.int v]) := by
  subst hQ
  subst hw
  exact W.iret hx hb hr (fun t ht _ => ⟨⟨q, by rw [hv], by rw [ht]; exact hP, hD⟩, hS.F ht⟩) hS.2.2 hdg hlk
theorem kcA {cA : ClassId} (h : va_K (gD G) vwCl (gTys G ++ [(cA, .int)]) s) : cA = gI G := Option.some.inj ((h.2 3 _ rfl).2.symm.trans (h.2 0 _ rfl).2)
theorem kcT {cA : ClassId} (h : va_K (gD G) vwCl (gTys G ++ [(cA, .object "FigureTill$Till")]) s) : cA = gT G := by
  obtain ⟨-, -, -, -, -, h1⟩ := (h.2 3 _ rfl).2
  obtain ⟨-, -, -, -, -, h2⟩ := (h.2 2 _ rfl).2
  exact Option.some.inj (h1.symm.trans h2)
theorem kcII {cA : ClassId} (h : va_K (gD G) vwCl (gTys G ++ [(cA, .array .int)]) s) : cA = gII G := Option.some.inj ((h.2 3 _ rfl).2.symm.trans (h.2 1 _ rfl).2)
end KXC
theorem k_cell_eq {cA : ClassId} {n : Nat} {f g : Nat → Option Nat} (h : ∀ j, j < n → f j = g j) : vp_cell cA (n, .inr (.inr (.inr (.inr f)))) = vp_cell cA (n, .inr (.inr (.inr (.inr g)))) := by
  rw [vp_cell_q, vp_cell_q]
  unfold arrV
  congr 1
  apply Array.ext
  · simp
  · intro i h1 h2
    have hi : i < n := by simpa using h1
    simp [h i hi]
theorem k_swap {D : va_G} {cl : List vw_C} {ws : va_W} {k a : Nat} {cA : ClassId} {n : Nat} {f g : Nat → Option Nat} {H : Heap} (h : ∀ j, j < n → f j = g j) (hk : ws[k]? = some (a, .inl (cA, n, .inr (.inr (.inr (.inr f)))))) (hP : va_P D cl ws H) : va_P D cl (ws.set k (a, .inl (cA, n, .inr (.inr (.inr (.inr g)))))) H := by
  intro i q hi
  by_cases e : i = k
  · subst e
    have hl := (List.getElem?_eq_some_iff.mp hk).1
    rw [List.getElem?_set_self hl] at hi
    cases hi
    have := hP i _ hk
    show H[a]? = some (vp_cell cA _)
    rw [← k_cell_eq h]
    exact this
  · rw [List.getElem?_set_ne (Ne.symm e)] at hi
    exact hP i q hi
