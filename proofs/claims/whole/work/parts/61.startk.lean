/-! the start: the arrays' classes -/
section STARTT
theorem start_K {s : State} {args : Array Value} (hlt : ∀ w ∈ lw_tbl, w.before args s = true) : ∃ (D : va_G) (cI cII cT : ClassId), va_K D vwCl [(cI, .int), (cII, .array .int), (cT, .object "FigureTill$Till")] s := by
  obtain ⟨D, hD⟩ := start_cls (start_gt hlt)
  obtain ⟨cI, kI, coI, a1, a2, a3⟩ := Cond.arrayClass_spec (hlt (Cond.arrayClass .int) (by decide +kernel))
  obtain ⟨coJ, cJ, kJ, b1, b2, b3, b4⟩ := Cond.arrayOver_specA (hlt (Cond.arrayOver (.array .int)) (by decide +kernel))
  obtain ⟨coT, cT, kT, c1, c0, c2, c3, c4⟩ := Cond.arrayOver_spec (hlt (Cond.arrayOver (.object "FigureTill$Till")) (by decide +kernel))
  refine ⟨D, cI, cJ, cT, hD, fun k q hq => ?_⟩
  match k, hq with
  | 0, hq => cases hq; exact ⟨fun n z => ⟨fun k h => (by cases h), kI, a2, coI, a3⟩, a1⟩
  | 1, hq => cases hq; exact ⟨fun n z => ⟨fun k h => (by cases h), kJ, b2, coJ, b3⟩, b4⟩
  | 2, hq => cases hq; exact ⟨fun n z => ⟨fun k h => (by cases h), kT, c2, coT, c3⟩, kT, coT, c2, c3, c1, c4⟩
  | k + 3, hq => simp at hq
end STARTT
