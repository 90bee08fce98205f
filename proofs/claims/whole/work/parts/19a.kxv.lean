section KXD
variable {p : Program} {l : Launch} {e : Env} {R : Room} {s : State} {m : MethodId} {args : Array Value} {below : List Frame} {meth : Method} {c : Code} {H : Heap} {locs : List Loc} {cells slots : Nat} {Q : State → Prop}
variable {pc : Nat} {ls : Array Slot} {rest st0 : List Value} {a : Array Value} {A : Nat → Prop} {G : KG} {ws wc wr : va_W} {w1 : (Nat → Nat) → va_W} {rv : (Nat → Nat) → Option Value}
variable {y : MethodName} {bytes cc : ByteArray} {maxL nL n index fr lo mc ms : Nat} {ret : Option FieldType} {w Ts : List Cond} {own C : String} {b : Addr} {As : List Value}
/-- invokevirtual of a method that makes cells -/
theorem kXV (S : CallFix p m c cc nL s args Ts own) (hM : KX l G y w fr lo mc ms (.ref b :: As) wc w1 rv) (cw : CallW R s args own C index y bytes maxL ret w (kR fr mc ms lo) mc ms n) (hdg : decode cc pc = .ok (.invokevirtual index, 3)) (hl : ls.size = nL)
    (hK : va_K (gD G) vwCl (gTys G) s) (hAm : Amb G A s s.heap) (hA : ∀ q, s.heap.size ≤ q → A q) (hP : va_P (gD G) vwCl ws H) (hD : va_D A ws) (hS : va_S A s.heap H locs)
    (q0 : Nat) {ci : Nat} {fs : List Value} {r : vw_C} (hc : vwCl[ci]? = some r) (hq : ws[q0]? = some (b, .inr (ci, fs))) (hrC : r.1 = C) (isC isR : List Nat) (hC : isC.map (fun i => ws[i]?) = wc.map some) (hnC : va_nd isC = true) (hR : isR.map (fun i => ws[i]?) = wr.map some) (hnR : va_nd isR = true) (hdis : ∀ i ∈ isR, i ∉ isC)
    (hn : As.length = n) (hstack : st0 = As.reverse ++ .ref b :: rest) (hroom : (rest.map fun v => v.category).sum ≤ 8) (hcap : cells + mc ≤ R.cells ∧ slots + ms ≤ R.slots)
    (kk : ∀ (q : Nat → Nat) (H1 : Heap) (locs1 : List Loc), va_P (gD G) vwCl (wr ++ w1 q) H1 → va_D A (wr ++ w1 q) → va_S A s.heap H1 locs1 → W p l e R s m args below meth c H1 locs1 (cells + mc) (slots + ms) Q (F0 m (pc + 3) ls ((rv q).toList ++ rest))) : W p l e R s m args below meth c H locs cells slots Q (F0 m pc ls st0) := by
  subst hrC
  exact kgoX (va_runV (g := F0 m pc ls st0) (As := As) (rest := rest) S (hM H.size) cw ⟨KPre.blind, va_recv hK hP hc hq, kpre (.ref b :: As) hK hP hD hS hA hAm isC hC hnC⟩ rfl hn hl hstack (lv_room hroom) hdg hcap) hP hD hS hA isC isR hC hR hnR hdis kk
end KXD
/-- a world in another order -/
theorem va_P.perm {D : va_G} {cl : List vw_C} {ws ws2 : va_W} {H : Heap} (h : ∀ q, q ∈ ws2 → q ∈ ws) (hP : va_P D cl ws H) : va_P D cl ws2 H := by
  intro k q hk
  obtain ⟨j, hj⟩ := List.getElem?_of_mem (h q (List.mem_of_getElem? hk))
  exact hP j q hj
