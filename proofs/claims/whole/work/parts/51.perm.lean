/-! worlds in another order -/
section PERM
theorem va_D.nd {A : Nat → Prop} {ws : va_W} : va_D A ws ↔ (ws.map (fun q => q.1)).Nodup ∧ ∀ q, q ∈ ws → A q.1 := by
  constructor
  · intro h
    refine ⟨?_, fun q hq => ?_⟩
    · rw [List.Nodup, List.pairwise_iff_getElem]
      intro i j hi hj hij e
      rw [List.length_map] at hi hj
      rw [List.getElem_map, List.getElem_map] at e
      have := h.1 i j _ _ (List.getElem?_eq_getElem hi) (List.getElem?_eq_getElem hj) e
      omega
    · obtain ⟨k, hk⟩ := List.getElem?_of_mem hq
      exact h.2 k q hk
  · intro h
    refine ⟨fun i j p q hi hj e => ?_, fun k q hk => h.2 q (List.mem_of_getElem? hk)⟩
    have h1 := h.1
    rw [List.Nodup, List.pairwise_iff_getElem] at h1
    obtain ⟨li, ei⟩ := List.getElem?_eq_some_iff.mp hi
    obtain ⟨lj, ej⟩ := List.getElem?_eq_some_iff.mp hj
    have H : ∀ (a b : Nat) (ha : a < ws.length) (hb : b < ws.length), a < b → ws[a].1 ≠ ws[b].1 := fun a b ha hb hab => by
      have := h1 a b (by rw [List.length_map]; exact ha) (by rw [List.length_map]; exact hb) hab
      rwa [List.getElem_map, List.getElem_map] at this
    by_cases h2 : i < j
    · exact absurd (by rw [ei, ej]; exact e) (H i j li lj h2)
    by_cases h3 : j < i
    · exact absurd (by rw [ei, ej]; exact e.symm) (H j i lj li h3)
    omega
theorem va_D.perm {A : Nat → Prop} {ws ws2 : va_W} (h : ws.Perm ws2) (hD : va_D A ws) : va_D A ws2 := by
  rw [va_D.nd] at hD ⊢
  exact ⟨(h.map _).nodup_iff.mp hD.1, fun q hq => hD.2 q (h.mem_iff.mpr hq)⟩
theorem va_P.per {D : va_G} {cl : List vw_C} {ws ws2 : va_W} {H : Heap} (h : ws.Perm ws2) (hP : va_P D cl ws H) : va_P D cl ws2 H := hP.perm (fun _ hq => h.mem_iff.mpr hq)
def pick {α : Type} (l : List α) (is : List Nat) : List α := is.filterMap (fun i => l[i]?)
theorem pick_range {α : Type} : ∀ (l : List α), pick l (List.range l.length) = l
  | [] => rfl
  | a :: l => by
    have ih := pick_range l
    unfold pick at ih ⊢
    rw [List.length_cons, List.range_succ_eq_map, List.filterMap_cons]
    show a :: List.filterMap _ _ = _
    rw [List.filterMap_map]
    exact congrArg (a :: ·) ih
theorem pick_perm {α : Type} {l : List α} {is : List Nat} {n : Nat} (hn : l.length = n) (h : is.isPerm (List.range n) = true) : l.Perm (pick l is) := by
  have h1 := List.isPerm_iff.mp h
  have h2 := (h1.filterMap (fun i => l[i]?)).symm
  subst hn
  have h3 := pick_range l
  unfold pick at h3 ⊢
  rw [h3] at h2
  exact h2
/-- one that is there, put first -/
theorem pull {α : Type} {a : α} {l : List α} (h : a ∈ l) : ∃ r, l.Perm (a :: r) := by
  obtain ⟨s, t, rfl⟩ := List.append_of_mem h
  exact ⟨s ++ t, List.perm_middle⟩
theorem pull_in {α : Type} {a b : α} {l r : List α} (h : l.Perm (a :: r)) (hb : b ∈ l) (hne : b ≠ a) : b ∈ r := by
  have := h.mem_iff.mp hb
  rcases List.mem_cons.mp this with e | e
  · exact absurd e hne
  · exact e
theorem pull4 {α : Type} {a b c d : α} {l : List α} (ha : a ∈ l) (hb : b ∈ l) (hc : c ∈ l) (hd : d ∈ l) (h1 : b ≠ a) (h2 : c ≠ a) (h3 : d ≠ a) (h4 : c ≠ b) (h5 : d ≠ b) (h6 : d ≠ c) : ∃ r, l.Perm (a :: b :: c :: d :: r) := by
  obtain ⟨r1, p1⟩ := pull ha
  obtain ⟨r2, p2⟩ := pull (pull_in p1 hb h1)
  obtain ⟨r3, p3⟩ := pull (pull_in p2 (pull_in p1 hc h2) h4)
  obtain ⟨r4, p4⟩ := pull (pull_in p3 (pull_in p2 (pull_in p1 hd h3) h5) h6)
  exact ⟨r4, p1.trans ((p2.trans ((p3.trans (p4.cons _)).cons _)).cons _)⟩
end PERM
