/-! the start: what does not move -/
section STARTA
theorem start_ZS {s : State} {args : Array Value} {A : Nat → Prop} {n : String} {N : Nat} {xs : List Int32} (hN : N < 2 ^ 31) (hA : ∀ a : Nat, a < s.heap.size → ¬ A a) (h1 : (Cond.laysStatic "FigureTill" n "[I").before args s = true) (h2 : (Cond.initialized "FigureTill").before args s = true) (h3 : (Cond.arrayOf (.static "FigureTill" n "[I") .int).before args s = true) (h4 : (Cond.eq (.length (.static "FigureTill" n "[I")) (.int (Int32.ofNat N))).before args s = true) (h5 : ∀ j : Nat, j < N → (Cond.eq (.elem (.static "FigureTill" n "[I") (.int (Int32.ofNat j))) (.int (xs.getD j 0))).before args s = true) : ∃ t : Nat, ZS n t N xs A s s.heap := by
  obtain ⟨t, ht, hT⟩ := va_Tof (tm := .static "FigureTill" n "[I") (f := fun j => .int (xs.getD j 0)) hN h3 (va_eqt h4) (fun j hj => va_eqt (h5 j hj)) hA
  exact ⟨t, va_Zref h1 h2 ht hA, hT⟩
theorem start_NW {s : State} {args : Array Value} (hlt : ∀ w ∈ lw_tbl, w.before args s = true) : NW s := by
  intro w hw hn
  have h := hlt w (List.mem_append_right _ hw)
  refine va_Nw.of ?_ h
  cases w <;> first | rfl | (simp [isNest] at hn)
theorem start_Amb {s : State} {args : Array Value} {A : Nat → Prop} (hlt : ∀ w ∈ lw_tbl, w.before args s = true) (hgv : (Jvm.Cond.and given_1 narrow_1).before args s = true) (hA : ∀ a : Nat, a < s.heap.size → ¬ A a) (D : va_G) (cs : ClassId × ClassId × ClassId) : ∃ (ts : Nat × Nat × Nat) (sK sV : Nat → Nat), Amb (D, cs, ts, sK, sV) A s s.heap := by
  have hn := flat_of_before _ hgv
  have hini := hlt (Cond.initialized "FigureTill") (by decide +kernel)
  obtain ⟨t0, z0⟩ := start_ZS (n := "FIRST_PRICES") (N := 8) (xs := xsPrices) (by decide) hA (hlt _ (by decide +kernel)) hini (hn _ (by decide +kernel)) (hn _ (by decide +kernel)) (fun j hj => by
    match j, hj with
    | 0, _ => exact hn _ (by decide +kernel)
    | 1, _ => exact hn _ (by decide +kernel)
    | 2, _ => exact hn _ (by decide +kernel)
    | 3, _ => exact hn _ (by decide +kernel)
    | 4, _ => exact hn _ (by decide +kernel)
    | 5, _ => exact hn _ (by decide +kernel)
    | 6, _ => exact hn _ (by decide +kernel)
    | 7, _ => exact hn _ (by decide +kernel)
    | j + 8, hj => exact absurd hj (by omega))
  obtain ⟨t1, z1⟩ := start_ZS (n := "LEAST") (N := 3) (xs := xsLeast) (by decide) hA (hlt _ (by decide +kernel)) hini (hn _ (by decide +kernel)) (hn _ (by decide +kernel)) (fun j hj => by
    match j, hj with
    | 0, _ => exact hn _ (by decide +kernel)
    | 1, _ => exact hn _ (by decide +kernel)
    | 2, _ => exact hn _ (by decide +kernel)
    | j + 3, hj => exact absurd hj (by omega))
  obtain ⟨t2, z2⟩ := start_ZS (n := "MOST") (N := 3) (xs := xsMost) (by decide) hA (hlt _ (by decide +kernel)) hini (hn _ (by decide +kernel)) (hn _ (by decide +kernel)) (fun j hj => by
    match j, hj with
    | 0, _ => exact hn _ (by decide +kernel)
    | 1, _ => exact hn _ (by decide +kernel)
    | 2, _ => exact hn _ (by decide +kernel)
    | j + 3, hj => exact absurd hj (by omega))
  obtain ⟨sK, sV, hS, hev⟩ := vk_Sof (args := args) (s := s) (N := 2) (tm := fun i => match i with | 0 => .string "FigureTill$Shop" 44 | _ => .string "FigureTill$Shop" 53) (len := strLens) (byt := strBytes) (A := A)
    (fun i hi => by match i, hi with | 0, _ => decide | 1, _ => decide | i + 2, hi => exact absurd hi (by omega))
    (fun i hi => by match i, hi with | 0, _ => exact hn _ (by decide +kernel) | 1, _ => exact hn _ (by decide +kernel) | i + 2, hi => exact absurd hi (by omega))
    (fun i hi => by match i, hi with | 0, _ => exact hn _ (by decide +kernel) | 1, _ => exact hn _ (by decide +kernel) | i + 2, hi => exact absurd hi (by omega))
    (fun i hi => by match i, hi with | 0, _ => exact hn _ (by decide +kernel) | 1, _ => exact hn _ (by decide +kernel) | i + 2, hi => exact absurd hi (by omega))
    (fun i hi => by match i, hi with | 0, _ => exact hn _ (by decide +kernel) | 1, _ => exact hn _ (by decide +kernel) | i + 2, hi => exact absurd hi (by omega))
    (fun i hi j hj => by
      match i, hi, j, hj with
      | 0, _, 0, _ => exact hn _ (by decide +kernel)
      | 0, _, 1, _ => exact hn _ (by decide +kernel)
      | 0, _, 2, _ => exact hn _ (by decide +kernel)
      | 0, _, j + 3, hj => exact absurd (show j + 3 < 3 from hj) (by omega)
      | 1, _, 0, _ => exact hn _ (by decide +kernel)
      | 1, _, 1, _ => exact hn _ (by decide +kernel)
      | 1, _, 2, _ => exact hn _ (by decide +kernel)
      | 1, _, j + 3, hj => exact absurd (show j + 3 < 3 from hj) (by omega)
      | i + 2, hi, _, _ => exact absurd hi (by omega))
    (fun i j hi hj hij => by
      match i, hi, j, hj with
      | 0, _, 0, _ => exact absurd rfl hij
      | 0, _, 1, _ => first | exact Or.inl (hn _ (by decide +kernel)) | exact Or.inr (hn _ (by decide +kernel))
      | 1, _, 0, _ => first | exact Or.inl (hn _ (by decide +kernel)) | exact Or.inr (hn _ (by decide +kernel))
      | 1, _, 1, _ => exact absurd rfl hij
      | 0, _, j + 2, hj => exact absurd hj (by omega)
      | 1, _, j + 2, hj => exact absurd hj (by omega)
      | i + 2, hi, _, _ => exact absurd hi (by omega)) hA
  refine ⟨(t0, t1, t2), sK, sV, start_NW hlt, z0, z1, z2, hS, va_Zof (hlt _ (by decide +kernel)) (hlt _ (by decide +kernel)) (va_eqi (hn _ (by decide +kernel))) hA, va_Zqof (hlt _ (by decide +kernel)) (hlt _ (by decide +kernel)) (hn _ (by decide +kernel)) hA, vk_R.of (A := args) (hlt _ (by decide +kernel)) (hev 0 (by omega)), vk_R.of (A := args) (hlt _ (by decide +kernel)) (hev 1 (by omega)), va_AO.of (A := args) (hlt _ (by decide +kernel)), ?_⟩
  exact hlt (Cond.arrayOver (.array .int)) (by decide +kernel)
end STARTA
