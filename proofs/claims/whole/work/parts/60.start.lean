/-! the start: what the tables say -/
section STARTK
theorem in_tbl {w : Cond} (i : Nat) (h : tables_1[i]? = some w) : w ∈ lw_tbl := List.mem_append_right _ (List.mem_of_getElem? h)
theorem start_gt {s : State} {args : Array Value} (h : ∀ w ∈ lw_tbl, w.before args s = true) : ∀ x ∈ gtbl, x.before args s = true := fun x hx => h x (List.mem_filter.mp hx).1
theorem start_cls {s : State} {args : Array Value} (hts : ∀ x ∈ gtbl, x.before args s = true) : ∃ D : va_G, ∀ (k : Nat) (q : vw_C), vwCl[k]? = some q → u_Kn s q.1 q.2.1 q.2.2 (D.1 k) (D.2 k) := by
  have h : ∀ k : Nat, ∃ (cC : ClassId) (iS : Nat → Nat), ∀ q : vw_C, vwCl[k]? = some q → u_Kn s q.1 q.2.1 q.2.2 cC iS := by
    intro k
    have u : ∀ (C : String) (T : u_T) (N : Nat), (∀ w ∈ u_ws C T N, w ∈ gtbl) → Cond.instantiable C N ∈ gtbl → vwCl[k]? = some (C, T, N) → ∃ (cC : ClassId) (iS : Nat → Nat), ∀ q : vw_C, vwCl[k]? = some q → u_Kn s q.1 q.2.1 q.2.2 cC iS := by
      intro C T N h1 h2 h3
      obtain ⟨cC, iS, h4⟩ := u_known (C := C) (T := T) (N := N) (n := N) hts h1 (hts _ h2)
      refine ⟨cC, iS, fun q hq => ?_⟩
      rw [h3] at hq
      cases hq
      exact h4
    match k, u with
    | 0, u => exact u RX0 TX0 3 hin_X0 tw_312 rfl
    | 1, u => exact u RX1 TX1 2 hin_X1 tw_201 rfl
    | 2, u => exact u RX2 TX2 2 hin_X2 tw_219 rfl
    | 3, u => exact u RX3 TX3 2 hin_X3 tw_165 rfl
    | 4, u => exact u RX4 TX4 10 hin_X4 tw_118 rfl
    | 5, u => exact u RX5 TX5 2 hin_X5 tw_210 rfl
    | 6, u => exact u RX6 TX6 2 hin_X6 tw_192 rfl
    | 7, u => exact u RX7 TX7 12 hin_X7 tw_108 rfl
    | 8, u => exact u RX8 TX8 2 hin_X8 tw_237 rfl
    | 9, u => exact u RX9 TX9 2 hin_X9 tw_228 rfl
    | 10, u => exact u RX10 TX10 3 hin_X10 tw_291 rfl
    | 11, u => exact u RX11 TX11 17 hin_X11 tw_100 rfl
    | 12, u => exact u RX12 TX12 30 hin_X12 tw_981 rfl
    | k + 13, u => exact ⟨0, fun _ => 0, fun q hq => by simp [vwCl] at hq⟩
  refine ⟨⟨fun k => (h k).choose, fun k => (h k).choose_spec.choose⟩, fun k q hq => (h k).choose_spec.choose_spec q hq⟩
end STARTK
