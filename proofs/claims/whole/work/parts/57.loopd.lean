section LOOPD
def KTills (e : Nat → Nat) (k0 k1 k2 k3 : Nat) (n m : Nat → Int32) : va_W := [(e 0, .inr (k0, [.int (n 0), .int (m 0)])), (e 1, .inr (k1, [.int (n 1), .int (m 1)])), (e 2, .inr (k2, [.int (n 2), .int (m 2)])), (e 3, .inr (k3, [.int (n 3), .int (m 3)]))]
/-- kept's four tills stand, apart -/
def KeptOK (row : Nat → Option Nat) (e : Nat → Nat) (k0 k1 k2 k3 : Nat) (n m : Nat → Int32) (T : va_W) : Prop := (∀ j, j < 4 → row j = some (e j)) ∧ (∀ q, q ∈ KTills e k0 k1 k2 k3 n m → q ∈ T) ∧ (e 1 ≠ e 0 ∧ e 2 ≠ e 0 ∧ e 3 ≠ e 0 ∧ e 2 ≠ e 1 ∧ e 3 ≠ e 1 ∧ e 3 ≠ e 2)
theorem KeptOK.pull {row : Nat → Option Nat} {e : Nat → Nat} {k0 k1 k2 k3 : Nat} {n m : Nat → Int32} {T : va_W} (h : KeptOK row e k0 k1 k2 k3 n m T) : ∃ Z, T.Perm (KTills e k0 k1 k2 k3 n m ++ Z) := by
  obtain ⟨-, h2, a, b, c, d, f, g⟩ := h
  exact pull4 (h2 _ (List.mem_cons_self)) (h2 _ (List.mem_cons_of_mem _ List.mem_cons_self)) (h2 _ (List.mem_cons_of_mem _ (List.mem_cons_of_mem _ List.mem_cons_self))) (h2 _ (List.mem_cons_of_mem _ (List.mem_cons_of_mem _ (List.mem_cons_of_mem _ List.mem_cons_self)))) (fun h => a (congrArg Prod.fst h)) (fun h => b (congrArg Prod.fst h)) (fun h => c (congrArg Prod.fst h)) (fun h => d (congrArg Prod.fst h)) (fun h => f (congrArg Prod.fst h)) (fun h => g (congrArg Prod.fst h))
theorem KeptOK.till {row : Nat → Option Nat} {ek : Nat → Nat} {l0 l1 l2 l3 : Nat} {kn km : Nat → Int32} {e : Nat → Nat} {k0 k1 k2 k3 : Nat} {n m : Nat → Int32} {Z : va_W} (h : KeptOK row ek l0 l1 l2 l3 kn km (KTills e k0 k1 k2 k3 n m ++ Z)) {j : Nat} (hj : j < 4) (q : Nat) (k : Nat) (x y : Int32) : KeptOK row ek l0 l1 l2 l3 kn km (KTills (fun r => if r = j then q else e r) (if j = 0 then k else k0) (if j = 1 then k else k1) (if j = 2 then k else k2) (if j = 3 then k else k3) (upd n j x) (upd m j y) ++ (((e j, Sum.inr (sel4 j k0 k1 k2 k3, [.int (n j), .int (m j)])) : Nat × va_E) :: Z)) := by
  refine ⟨h.1, fun z hz => ?_, h.2.2⟩
  have h2 := h.2.1 z hz
  have hj4 : j = 0 ∨ j = 1 ∨ j = 2 ∨ j = 3 := by omega
  unfold KTills at h2 ⊢
  simp only [List.cons_append, List.nil_append, List.mem_cons] at h2 ⊢
  rcases hj4 with rfl | rfl | rfl | rfl
  all_goals
    rcases h2 with h2 | h2 | h2 | h2 | h2
    all_goals
      simp [h2, upd, sel4]
theorem permR {α : Type} {A B C T Z T' Z' : List α} (h : (T ++ Z).Perm (T' ++ Z')) : ((A ++ (B ++ (T ++ C))) ++ Z).Perm ((A ++ (T' ++ (B ++ C))) ++ Z') := by
  rw [show (A ++ (B ++ (T ++ C))) ++ Z = A ++ (B ++ (T ++ (C ++ Z))) by simp [List.append_assoc], show (A ++ (T' ++ (B ++ C))) ++ Z' = A ++ (T' ++ (B ++ (C ++ Z'))) by simp [List.append_assoc]]
  refine List.Perm.append_left A ?_
  -- B ++ (T ++ (C ++ Z)) ~ T' ++ (B ++ (C ++ Z'))
  have h1 : (B ++ (T ++ (C ++ Z))).Perm ((T ++ Z) ++ (B ++ C)) := by
    have e1 : (T ++ (C ++ Z)).Perm ((T ++ Z) ++ C) := by
      rw [List.append_assoc]
      exact List.perm_append_comm.append_left T
    refine (e1.append_left B).trans ?_
    rw [← List.append_assoc]
    refine (List.perm_append_comm.append_right C).trans ?_
    rw [List.append_assoc]
  refine h1.trans ((h.append_right _).trans ?_)
  rw [List.append_assoc]
  refine List.Perm.append_left T' ?_
  refine List.perm_append_comm.trans ?_
  rw [List.append_assoc]
end LOOPD
