/-! inherited, overridden and super calls, out of the one word list -/
section KVIRT
variable {p : Program} {l : Launch} {e : Env} {R : Room} {s : State} {m : MethodId} {args : Array Value} {below : List Frame} {meth : Method} {c : Code} {H : Heap} {locs : List Loc} {cells slots : Nat} {Q : State → Prop}
variable {pc : Nat} {ls : Array Slot} {rest st0 : List Value} {a : Array Value} {A : Nat → Prop} {G : KG} {ws wc w1 : va_W} {rv : Option Value}
variable {y : MethodName} {bytes cc : ByteArray} {maxL nL n index fr lo : Nat} {ret : Option FieldType} {w Ts : List Cond} {own C : String} {b : Addr} {As : List Value}
theorem kparse {y : MethodName} {n : Nat} (h : (parseMethodDescriptor y.desc).map (fun d => d.parameters.length) = some n) : ∀ sig, parseMethodDescriptor y.desc = some sig → n = sig.parameters.length := fun sig h9 => by
  rw [h9] at h
  exact (Option.some.inj h).symm
theorem kcSU (n : Nat) (ht : ∀ x ∈ gtbl, x.before args s = true) (hcode : Cond.code y bytes maxL ret ∈ gtbl) (hini : Cond.initialized y.cls ∈ gtbl) (hl : Cond.methodLink own index y ∈ gtbl) (hsame : Cond.sameMethod y.cls y.cls y.name y.desc ∈ gtbl) (hsup : Cond.superclass own y.cls ∈ gtbl) (him : Cond.instanceMethod y ∈ gtbl) (hno : y.name ≠ "<init>") (hd : y.cls ≠ "java/lang/invoke/MethodHandle" ∧ y.cls ≠ "java/lang/invoke/VarHandle" ∧ (parseMethodDescriptor y.desc).map (fun d => d.parameters.length) = some n) (hR : fr + 1 ≤ R.frames ∧ 8 + (maxL + 11) + lo ≤ R.locals) :
    va_CS R s args own index y bytes maxL ret (kw y bytes maxL ret) (kR fr 0 0 lo) 0 0 n :=
  ⟨⟨rfl, rfl, hR.1, hR.2, pay_in ht (kwIn hcode), List.mem_cons_self⟩, ht _ hl, ht _ hsame, ht _ hsup, ht _ him, ht _ hini, ht _ hcode, hno, kparse hd.2.2⟩
theorem kcU {owner : String} {x : MethodName} {b0 : ByteArray} {m0 : Nat} {r0 : Option FieldType} (n : Nat) (ht : ∀ x ∈ gtbl, x.before args s = true) (hcode : Cond.code y bytes maxL ret ∈ gtbl) (hini : Cond.initialized y.cls ∈ gtbl) (hl : Cond.methodLink own index x ∈ gtbl) (hsame : Cond.sameMethod x.cls owner x.name x.desc ∈ gtbl) (him0 : Cond.instanceMethod ⟨owner, x.name, x.desc⟩ ∈ gtbl) (hcode0 : Cond.code ⟨owner, x.name, x.desc⟩ b0 m0 r0 ∈ gtbl) (hse : Cond.selects C x y ∈ gtbl) (him : Cond.instanceMethod y ∈ gtbl) (hmh : owner ≠ "java/lang/invoke/MethodHandle" ∧ owner ≠ "java/lang/invoke/VarHandle") (hd : (parseMethodDescriptor x.desc).map (fun d => d.parameters.length) = some n) (hR : fr + 1 ≤ R.frames ∧ 8 + (maxL + 11) + lo ≤ R.locals) :
    va_CU R s args own C owner index x y bytes maxL ret (kw y bytes maxL ret) (kR fr 0 0 lo) 0 0 n :=
  ⟨⟨rfl, rfl, hR.1, hR.2, pay_in ht (kwIn hcode), List.mem_cons_self⟩, ht _ hcode, ht _ hini, hmh, kparse (y := x) hd, ht _ hl, ht _ hsame, va_Decl.of (ht _ him0) (ht _ hcode0), ht _ hse, ht _ him⟩
theorem ka_sub {vm : Vm} {c1 c2 : ClassId} {k : Class} (hk : vm.classes[c1]? = some k) (hs : k.super = some c2) : vm.isSubclass c1 c2 = true := by
  have hsz : 0 < vm.classes.size := Nat.lt_of_le_of_lt (Nat.zero_le _) (Array.getElem?_eq_some_iff.mp hk).1
  obtain ⟨n, hn⟩ : ∃ n, vm.classes.size = n + 1 := ⟨vm.classes.size - 1, by omega⟩
  unfold Vm.isSubclass
  rw [hn]
  simp [Vm.isSubclassAux, hk, hs]
/-- super.y, y declared one class further up: D is the direct superclass -/
theorem ka_runSX {D : String} {cC : ClassId} (hat : ClassAt s C cC) (S : CallFix p m c cc nL s args Ts own) {Pc : Array Value → State → Prop} {Qc : Array Value → State → Outcome → State → Prop} {free : Addr → Prop} (hM : Met l y (kw y bytes maxL ret) (kR fr 0 0 lo) Pc Qc 0 0 free)
    (ht : ∀ x ∈ gtbl, x.before args s = true) (hcode : Cond.code y bytes maxL ret ∈ gtbl) (hini : Cond.initialized y.cls ∈ gtbl) (hl : Cond.methodLink own index ⟨D, y.name, y.desc⟩ ∈ gtbl) (hsame : Cond.sameMethod D y.cls y.name y.desc ∈ gtbl) (hsup : Cond.superclass own D ∈ gtbl) (hsup2 : Cond.superclass D y.cls ∈ gtbl) (him : Cond.instanceMethod y ∈ gtbl) (hno : y.name ≠ "<init>") (hd : (parseMethodDescriptor y.desc).map (fun d => d.parameters.length) = some n) (hR : fr + 1 ≤ R.frames ∧ 8 + (maxL + 11) + lo ≤ R.locals)
    (hp : PreV s H C b Pc As) {g : JFrame} (hg : g.method = m) (hn : As.length = n) (hsize : g.locals.size = nL) (hstack : g.stack = As.reverse ++ .ref b :: rest) (hW : 2 * g.monitorRoom + (rest.map fun v => v.category).sum ≤ 8) (hdg : decode cc g.pc = .ok (.invokespecial index, 3)) (hf : cells + 0 ≤ R.cells ∧ slots + 0 ≤ R.slots) :
    va_Run p l e R s m args below meth c H locs cells slots 0 0 g rest (Qc (Value.ref b :: As).toArray) free := by
  have hK : Back l R p e below s args y 3 8 (PreOf R 0 0 Pc) (PostOf Qc 0 0 free) := back_of (bytes := bytes) (maxL := maxL) (ret := ret) hM hp.1 rfl rfl hR.1 hR.2 (pay_in ht (kwIn hcode)) List.mem_cons_self (fun a' U hW => word_at hW (Or.inl (by first | rfl | simp [Cond.onTables, Cond.keeps, Cond.steady])) (ht _ hini))
  obtain ⟨hx, hb, hml, ho, -⟩ := S
  obtain ⟨-, ⟨cellB, hcB, hoB, hclB⟩, hPc⟩ := hp
  obtain ⟨hfc, kB, hkB, -⟩ := hat
  cases hfc.symm.trans hclB
  intro T hT X
  obtain ⟨mk, methM, hnamed, hmethM, hstM, habM⟩ := Cond.instanceMethod_spec (ht _ him)
  obtain ⟨methM', cM, hmethM', -, -, -, -, -, -, hsigM⟩ := Cond.code_spec hnamed (ht _ hcode)
  cases hmethM.symm.trans hmethM'
  obtain ⟨ps, dk, kp, hps, hdk, hkp, hsuper, -, -, hnid⟩ := Cond.superclass_spec ho (ht _ hsup)
  obtain ⟨pt, dk2, kp2, hpt, hdk2, hkp2, hsuper2, -, -, -⟩ := Cond.superclass_spec hps (ht _ hsup2)
  have hpm : pt = mk.cls := Option.some.inj (hpt.symm.trans (findClass_of_methodNamed hnamed))
  have hsub : s.vm.isSubclass ps mk.cls = true := by rw [← hpm]; exact ka_sub hdk2 hsuper2
  have hlen := kparse hd
  obtain ⟨vm₁, X₁, hstep₁⟩ := X.invokespecialUp hx (owner := y.cls) (x := ⟨D, y.name, y.desc⟩) ho (ht _ hl) (ht _ hsame) hnamed hmethM hstM habM hno hdk hnid hps hsuper hsub (a := b) (cell := cellB) (by rw [hT]; exact hcB)
    (fun z h => by rw [h] at hoB; cases hoB) hkB (g := g) hg (argsL := As) (rest := rest) (hn.trans (hlen _ hsigM)) hstack (by rw [hb]; exact hdg)
  obtain ⟨v, B, X', ⟨g', mk', t, L, e1, e2, hq, h1, hL, h2, h3⟩, hsteps⟩ := hK m meth c ⟨T.setVm vm₁, locs, cells, slots⟩ { g with stack := rest } (.invokespecial index) mk (Value.ref b :: As).toArray X₁ hg (hsize.trans hml.symm) (by rw [hb]; exact hdg) hW (X₁.named hnamed) ⟨hf.1, hf.2, hPc (T.setVm vm₁) hT X₁.warmed⟩
  obtain ⟨U', l2, c2, s2⟩ := B
  dsimp only [Pt.U, Pt.locs, Pt.cells, Pt.slots] at X' e1 e2 h1 h2 h3 hsteps
  subst h1; subst h2; subst h3
  exact ⟨v, (T.setVm vm₁).calling g' mk' (Value.ref b :: As).toArray, t, U', L, hT, X', hL, e1, e2, hq, fun target h => hstep₁ _ (by rw [doInvoke_state]; exact hsteps.trans h)⟩
theorem kSX {D : String} (S : CallFix p m c cc nL s args Ts own) (hM : KM l G y (kw y bytes maxL ret) fr lo (.ref b :: As) wc w1 rv)
    (ht : ∀ x ∈ gtbl, x.before args s = true) (hcode : Cond.code y bytes maxL ret ∈ gtbl) (hini : Cond.initialized y.cls ∈ gtbl) (hlk : Cond.methodLink own index ⟨D, y.name, y.desc⟩ ∈ gtbl) (hsame : Cond.sameMethod D y.cls y.name y.desc ∈ gtbl) (hsup : Cond.superclass own D ∈ gtbl) (hsup2 : Cond.superclass D y.cls ∈ gtbl) (him : Cond.instanceMethod y ∈ gtbl) (hno : y.name ≠ "<init>") (hd : (parseMethodDescriptor y.desc).map (fun d => d.parameters.length) = some n) (hR : fr + 1 ≤ R.frames ∧ 8 + (maxL + 11) + lo ≤ R.locals)
    (hdg : decode cc pc = .ok (.invokespecial index, 3)) (hl : ls.size = nL)
    (hK : va_K (gD G) vwCl (gTys G) s) (hAm : Amb G A s s.heap) (hA : ∀ q, s.heap.size ≤ q → A q) (hP : va_P (gD G) vwCl ws H) (hD : va_D A ws) (hS : va_S A s.heap H locs)
    (q0 : Nat) {ci : Nat} {fs : List Value} {r : vw_C} (hc : vwCl[ci]? = some r) (hq : ws[q0]? = some (b, .inr (ci, fs))) (is : List Nat) (hC : is.map (fun i => ws[i]?) = wc.map some) (hnd : va_nd is = true) (hw1 : w1.map (fun q => q.1) = wc.map (fun q => q.1)) (im : List Nat) (hs : w1 = kupsS wc w1 im)
    (hn : As.length = n) (hstack : st0 = As.reverse ++ .ref b :: rest) (hroom : (rest.map fun v => v.category).sum ≤ 8)
    (hcap : cells + 0 ≤ R.cells ∧ slots + 0 ≤ R.slots)
    (kk : ∀ (H1 : Heap) (locs1 : List Loc), va_P (gD G) vwCl (kupsM ws is w1 im) H1 → va_D A (kupsM ws is w1 im) → va_S A s.heap H1 locs1 → W p l e R s m args below meth c H1 locs1 cells slots Q (F0 m (pc + 3) ls (rv.toList ++ rest))) : W p l e R s m args below meth c H locs cells slots Q (F0 m pc ls st0) :=
  kgo (ka_runSX (g := F0 m pc ls st0) (As := As) (rest := rest) (hK.1 ci r hc).2 S (hM H.size) ht hcode hini hlk hsame hsup hsup2 him hno hd hR ⟨KPre.blind, va_recv hK hP hc hq, kpre (.ref b :: As) hK hP hD hS hA hAm is hC hnd⟩ rfl hn hl hstack (lv_room hroom) hdg hcap) hP hD hS hA is hC hw1 im hs kk
/-- aaload of a row of tills: the place's address is known -/
theorem ka_tald (hx : p.tables.exec = Jvm.exec) (hb : c.code = cc) {a : Nat} (hK : va_K (gD G) vwCl (gTys G) s) (hP : va_P (gD G) vwCl ws H) (q0 : Nat) {n ea : Nat} {f : Nat → Option Nat} (ha : ws[q0]? = some (a, .inl (gT G, n, .inr (.inr (.inr (.inr f)))))) {i : Int32} (hin : vp_in i n) (hf : f i.toNatClampNeg = some ea) (hdg : decode cc pc = .ok (.aaload, 1))
    (kk : W p l e R s m args below meth c H locs cells slots Q (F0 m (pc + 1) ls (.ref ea :: rest))) : W p l e R s m args below meth c H locs cells slots Q (F0 m pc ls (.int i :: .ref a :: rest)) := by
  refine va_aldq (D := gD G) hx hb hK hP q0 2 ha rfl hin hdg ?_
  rw [hf]
  exact kk
theorem k4 {j : Nat} {P : Prop} (hj : j < 4) (h0 : j = 0 → P) (h1 : j = 1 → P) (h2 : j = 2 → P) (h3 : j = 3 → P) : P := by
  match j, hj, h0, h1, h2, h3 with
  | 0, _, h0, _, _, _ => exact h0 rfl
  | 1, _, _, h1, _, _ => exact h1 rfl
  | 2, _, _, _, h2, _ => exact h2 rfl
  | 3, _, _, _, _, h3 => exact h3 rfl
  | k + 4, hj, _, _, _, _ => exact absurd hj (by omega)
end KVIRT
def sel4 (j k0 k1 k2 k3 : Nat) : Nat := match j with
  | 0 => k0
  | 1 => k1
  | 2 => k2
  | _ => k3
def kOk (k : Nat) : Bool := decide (k = 8 ∨ k = 1 ∨ k = 2 ∨ k = 3 ∨ k = 5 ∨ k = 6 ∨ k = 9)
theorem kOk_or {k : Nat} (h : kOk k = true) : k = 8 ∨ k = 1 ∨ k = 2 ∨ k = 3 ∨ k = 5 ∨ k = 6 ∨ k = 9 := of_decide_eq_true h
def tag2 (x : Int32) (a b : Nat) : Nat := if x = 0 then a else b
section KARET
variable {p : Program} {l : Launch} {e : Env} {R : Room} {s : State} {m : MethodId} {args : Array Value} {below : List Frame} {meth : Method} {c : Code} {H : Heap} {locs : List Loc} {cells slots : Nat} {Q : State → Prop}
variable {pc : Nat} {ls : Array Slot} {cc : ByteArray} {A : Nat → Prop} {G : KG} {w1 : va_W}
theorem karet {v : Nat} {rt : FieldType} (hx : p.tables.exec = Jvm.exec) (hb : c.code = cc) (hr : meth.sig.returnType = some rt) (hlk : meth.locks = false) (hP : va_P (gD G) vwCl w1 H) (hD : va_D A w1) (hS : va_S A s.heap H locs) (hQ : Q = MQ below (KPost G A w1 (some (.ref v))) args s cells slots A) (hdg : decode cc pc = .ok (.areturn, 1)) (hrt : (∃ n, rt = .object n) ∨ ∃ t, rt = .array t) :
    W p l e R s m args below meth c H locs cells slots Q (F0 m pc ls [.ref v]) := by
  subst hQ
  exact W.aret hx hb hr hrt (Or.inr ⟨_, rfl⟩) (fun t ht _ => ⟨⟨rfl, by rw [ht]; exact hP, hD⟩, hS.F ht⟩) hS.2.2 hdg hlk
end KARET
