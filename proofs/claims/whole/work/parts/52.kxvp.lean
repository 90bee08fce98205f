/-! a call of a method that makes cells, in a world given up to order -/
section KXVP
theorem nd_of : ∀ (l : List Nat), l.Nodup → va_nd l = true
  | [], _ => rfl
  | a :: l, h => by
    have h1 := List.nodup_cons.mp h
    have ih := nd_of l h1.2
    unfold va_nd
    simp [ih, h1.1]
theorem rngC {α : Type} (a b : List α) : (List.range a.length).map (fun i => (a ++ b)[i]?) = a.map some := by
  refine List.ext_getElem? (fun k => ?_)
  rw [List.getElem?_map, List.getElem?_map]
  by_cases h : k < a.length
  · rw [List.getElem?_range h, List.getElem?_eq_getElem h]
    show some ((a ++ b)[k]?) = some (some a[k])
    rw [List.getElem?_append_left h, List.getElem?_eq_getElem h]
  · rw [List.getElem?_eq_none (by rw [List.length_range]; omega), List.getElem?_eq_none (by omega)]
    rfl
theorem rngR {α : Type} (a b : List α) : (List.range' a.length b.length).map (fun i => (a ++ b)[i]?) = b.map some := by
  refine List.ext_getElem? (fun k => ?_)
  rw [List.getElem?_map, List.getElem?_map]
  by_cases h : k < b.length
  · rw [List.getElem?_range' h, List.getElem?_eq_getElem h]
    show some ((a ++ b)[a.length + 1 * k]?) = some (some b[k])
    rw [List.getElem?_append_right (by omega), show a.length + 1 * k - a.length = k by omega, List.getElem?_eq_getElem h]
  · rw [List.getElem?_eq_none (by rw [List.length_range']; omega), List.getElem?_eq_none (by omega)]
    rfl
variable {p : Program} {l : Launch} {e : Env} {R : Room} {s : State} {m : MethodId} {args : Array Value} {below : List Frame} {meth : Method} {c : Code} {H : Heap} {locs : List Loc} {cells slots : Nat} {Q : State → Prop}
variable {pc : Nat} {ls : Array Slot} {rest st0 : List Value} {a : Array Value} {A : Nat → Prop} {G : KG} {ws wc wr : va_W} {w1 : (Nat → Nat) → va_W} {rv : (Nat → Nat) → Option Value}
variable {y : MethodName} {bytes cc : ByteArray} {maxL nL n index fr lo mc ms : Nat} {ret : Option FieldType} {w Ts : List Cond} {own C : String} {b : Addr} {As : List Value}
theorem kXVp (S : CallFix p m c cc nL s args Ts own) (hM : KX l G y w fr lo mc ms (.ref b :: As) wc w1 rv) (cw : CallW R s args own C index y bytes maxL ret w (kR fr mc ms lo) mc ms n) (hdg : decode cc pc = .ok (.invokevirtual index, 3)) (hl : ls.size = nL)
    (hK : va_K (gD G) vwCl (gTys G) s) (hAm : Amb G A s s.heap) (hA : ∀ q, s.heap.size ≤ q → A q) (hP : va_P (gD G) vwCl ws H) (hD : va_D A ws) (hS : va_S A s.heap H locs)
    (q0 : Nat) {ci : Nat} {fs : List Value} {r : vw_C} (hc : vwCl[ci]? = some r) (hq : wc[q0]? = some (b, .inr (ci, fs))) (hrC : r.1 = C) (hp : ws.Perm (wc ++ wr))
    (hn : As.length = n) (hstack : st0 = As.reverse ++ .ref b :: rest) (hroom : (rest.map fun v => v.category).sum ≤ 8) (hcap : cells + mc ≤ R.cells ∧ slots + ms ≤ R.slots)
    (kk : ∀ (q : Nat → Nat) (H1 : Heap) (locs1 : List Loc), va_P (gD G) vwCl (wr ++ w1 q) H1 → va_D A (wr ++ w1 q) → va_S A s.heap H1 locs1 → W p l e R s m args below meth c H1 locs1 (cells + mc) (slots + ms) Q (F0 m (pc + 3) ls ((rv q).toList ++ rest))) : W p l e R s m args below meth c H locs cells slots Q (F0 m pc ls st0) := by
  have hq2 : (wc ++ wr)[q0]? = some (b, .inr (ci, fs)) := by
    obtain ⟨h1, -⟩ := List.getElem?_eq_some_iff.mp hq
    rw [List.getElem?_append_left h1]
    exact hq
  refine kXV S hM cw hdg hl hK hAm hA (hP.per hp) (hD.perm hp) hS q0 hc hq2 hrC (List.range wc.length) (List.range' wc.length wr.length) (rngC wc wr) (nd_of _ List.nodup_range) (rngR wc wr) (nd_of _ List.nodup_range') ?_ hn hstack hroom hcap kk
  intro i hi hi2
  have h1 := List.mem_range.mp hi2
  have h2 := List.mem_range'_1.mp hi
  omega
end KXVP
