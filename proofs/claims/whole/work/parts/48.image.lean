/-! PURE: images -/
section PIMAGE
def G3 (g d : Nat → Nat → Int32) : Nat → Nat → Int32 := va_up (va_up (va_up d 0 (va_cpy (g 0) (d 0) 0 0 8)) 1 (va_cpy (g 1) (d 1) 0 0 8)) 2 (va_cpy (g 2) (d 2) 0 0 8)
def R4 (p d : Nat → Option Nat) : Nat → Option Nat := va_up (va_up (va_up (va_up d 0 (p 0)) 1 (p 1)) 2 (p 2)) 3 (p 3)
theorem cpy_in {α : Type} (f g : Nat → α) {n j : Nat} (h : j < n) : va_cpy f g 0 0 n j = f j := by
  unfold va_cpy
  rw [if_pos ⟨by omega, by omega⟩]
  congr 1
  omega
theorem G3_in (g d : Nat → Nat → Int32) {w t : Nat} (hw : w < 3) (ht : t < 8) : G3 g d w t = g w t := by
  unfold G3
  have : w = 0 ∨ w = 1 ∨ w = 2 := by omega
  rcases this with rfl | rfl | rfl
  · rw [up_ne _ _ (by omega), up_ne _ _ (by omega), up_at, cpy_in _ _ ht]
  · rw [up_ne _ _ (by omega), up_at, cpy_in _ _ ht]
  · rw [up_at, cpy_in _ _ ht]
theorem R4_in (p d : Nat → Option Nat) {j : Nat} (hj : j < 4) : R4 p d j = p j := by
  unfold R4
  have : j = 0 ∨ j = 1 ∨ j = 2 ∨ j = 3 := by omega
  rcases this with rfl | rfl | rfl | rfl
  · rw [up_ne _ _ (by omega), up_ne _ _ (by omega), up_ne _ _ (by omega), up_at]
  · rw [up_ne _ _ (by omega), up_ne _ _ (by omega), up_at]
  · rw [up_ne _ _ (by omega), up_at]
  · rw [up_at]
theorem bc2 (N M : Nat) (g d : Nat → Nat → Int32) (K) : f_X7_become_2 N g K (M + 4) 0 d = K 3 (G3 g d) := by
  have e8 : ¬ (0 : Int32) < 0 ∧ ¬ (0 : Int32) < 0 ∧ ¬ (8 : Int32) < 0 ∧ (0 : Int32).toNatClampNeg + (8 : Int32).toNatClampNeg ≤ 8 ∧ (0 : Int32).toNatClampNeg + (8 : Int32).toNatClampNeg ≤ 8 := by decide
  rw [f_X7_become_2, if_neg (show ¬ (2 : Int32) < 0 by decide), if_pos (show vin 0 3 = true by decide), if_pos (show vin 0 3 = true by decide), if_pos e8, show (0 : Int32) + 1 = 1 from rfl]
  rw [f_X7_become_2, if_neg (show ¬ (2 : Int32) < 1 by decide), if_pos (show vin 1 3 = true by decide), if_pos (show vin 1 3 = true by decide), if_pos e8, show (1 : Int32) + 1 = 2 from rfl]
  rw [f_X7_become_2, if_neg (show ¬ (2 : Int32) < 2 by decide), if_pos (show vin 2 3 = true by decide), if_pos (show vin 2 3 = true by decide), if_pos e8, show (2 : Int32) + 1 = 3 from rfl]
  rw [f_X7_become_2, if_pos (show (2 : Int32) < 3 by decide)]
  congr 1
theorem bc34 (N M : Nat) (p d : Nat → Option Nat) {k0 k1 k2 k3 : Nat} (hk : ∀ j, j < 4 → kOk (sel4 j k0 k1 k2 k3) = true) (K) : f_X7_become_34 N p k0 k1 k2 k3 K (M + 5) 0 d = K 4 (R4 p d) := by
  rw [f_X7_become_34, if_neg (show ¬ (4 : Int32) ≤ 0 by decide), if_pos (show vin 0 4 = true by decide), if_pos (show vin 0 4 = true by decide), show (0 : Int32).toNatClampNeg = 0 from rfl, if_pos (hk 0 (by omega)), show (0 : Int32) + 1 = 1 from rfl]
  rw [f_X7_become_34, if_neg (show ¬ (4 : Int32) ≤ 1 by decide), if_pos (show vin 1 4 = true by decide), if_pos (show vin 1 4 = true by decide), show (1 : Int32).toNatClampNeg = 1 from rfl, if_pos (hk 1 (by omega)), show (1 : Int32) + 1 = 2 from rfl]
  rw [f_X7_become_34, if_neg (show ¬ (4 : Int32) ≤ 2 by decide), if_pos (show vin 2 4 = true by decide), if_pos (show vin 2 4 = true by decide), show (2 : Int32).toNatClampNeg = 2 from rfl, if_pos (hk 2 (by omega)), show (2 : Int32) + 1 = 3 from rfl]
  rw [f_X7_become_34, if_neg (show ¬ (4 : Int32) ≤ 3 by decide), if_pos (show vin 3 4 = true by decide), if_pos (show vin 3 4 = true by decide), show (3 : Int32).toNatClampNeg = 3 from rfl, if_pos (hk 3 (by omega)), show (3 : Int32) + 1 = 4 from rfl]
  rw [f_X7_become_34, if_pos (show (4 : Int32) ≤ 4 by decide)]
  rfl
theorem p_become {N : Nat} (hN : 10 ≤ N) (tk cs go z fed waits : Int32) (g : Nat → Nat → Int32) (pl : Int32) (pc tape : Nat → Int32) (tills : Nat → Option Nat) {k0 k1 k2 k3 : Nat} (hk : ∀ j, j < 4 → kOk (sel4 j k0 k1 k2 k3) = true) (n m : Nat → Int32) (vl : Int32) (vc waiting : Nat → Int32) (dtk dcs dgo dz dfed dwaits : Int32) (dg : Nat → Nat → Int32) (dpl : Int32) (dpc dtape : Nat → Int32) (dtills : Nat → Option Nat) (dvl : Int32) (dvc dwaiting : Nat → Int32) :
    f_X7_become N tk cs go z fed waits g pl pc tape tills k0 k1 k2 k3 n m vl vc waiting dtk dcs dgo dz dfed dwaits dg dpl dpc dtape dtills dvl dvc dwaiting = some (tk, cs, go, z, fed, waits, G3 g dg, pl, va_cpy pc dpc 0 0 60, va_cpy tape dtape 0 0 60, R4 tills dtills, vl, va_cpy vc dvc 0 0 60, va_cpy waiting dwaiting 0 0 24) := by
  obtain ⟨M, rfl⟩ := N_of N hN
  have e60 : ¬ (0 : Int32) < 0 ∧ ¬ (0 : Int32) < 0 ∧ ¬ (60 : Int32) < 0 ∧ (0 : Int32).toNatClampNeg + (60 : Int32).toNatClampNeg ≤ 60 ∧ (0 : Int32).toNatClampNeg + (60 : Int32).toNatClampNeg ≤ 60 := by decide
  have e24 : ¬ (0 : Int32) < 0 ∧ ¬ (0 : Int32) < 0 ∧ ¬ (24 : Int32) < 0 ∧ (0 : Int32).toNatClampNeg + (24 : Int32).toNatClampNeg ≤ 24 ∧ (0 : Int32).toNatClampNeg + (24 : Int32).toNatClampNeg ≤ 24 := by decide
  unfold f_X7_become f_X4_become
  rw [show M + 10 = (M + 6) + 4 from rfl, bc2, show (M + 6) + 4 = (M + 5) + 5 from rfl, bc34 _ _ _ _ hk, if_pos e60, if_pos e60, Option.bind_some, if_pos e60, Option.bind_some, if_pos e24]
  rfl
theorem SR.cpy {g : Nat → Nat → Int32} {k0 k1 k2 k3 : Nat} {n m : Nat → Int32} {tk cs go z fed : Int32} {tape : Nat → Int32} {pl : Int32} {pc : Nat → Int32} {vl : Int32} {vc : Nat → Int32} {waits : Int32} {waiting s s' : Nat → Int32} (h : SR g k0 k1 k2 k3 n m tk cs go z fed tape pl pc vl vc waits waiting s) (hs : ∀ j, j < 374 → s' j = s j) (dg : Nat → Nat → Int32) (dpc dtape dvc dwaiting : Nat → Int32) : SR (G3 g dg) k0 k1 k2 k3 n m tk cs go z fed (va_cpy tape dtape 0 0 60) pl (va_cpy pc dpc 0 0 60) vl (va_cpy vc dvc 0 0 60) waits (va_cpy waiting dwaiting 0 0 24) s' := by
  obtain ⟨hG, hT, hM, hF, ⟨t0, h0⟩, ⟨t1, h1⟩, hW⟩ := h
  refine ⟨GR.frame ⟨fun w t hw ht => by rw [G3_in _ _ hw ht]; exact hG.1 w t hw ht, hG.2⟩ (fun j _ _ => hs j (by omega)), hT.frame (fun j _ _ => hs j (by omega)), hM.frame (fun j _ => hs j (by omega)), FR.frame ⟨hF.1, hF.2.1, fun j hj => by rw [cpy_in _ _ hj]; exact hF.2.2 j hj⟩ (fun j _ => hs j (by omega)), ⟨t0, LRt.frame ⟨h0.1, h0.2.1, h0.2.2.1, h0.2.2.2.1, h0.2.2.2.2.1, fun j t hj => ?_⟩ (fun j _ _ => hs j (by omega))⟩, ⟨t1, LRt.frame ⟨h1.1, h1.2.1, h1.2.2.1, h1.2.2.2.1, h1.2.2.2.2.1, fun j t hj => ?_⟩ (fun j _ _ => hs j (by omega))⟩, WR.frame ⟨hW.1, hW.2.1, fun j hj => by rw [cpy_in _ _ hj]; exact hW.2.2 j hj⟩ (fun j _ => hs j (by omega))⟩
  · have hlt : j < t0.length := by
      by_cases h : j < t0.length
      · exact h
      · rw [List.getElem?_eq_none (by omega)] at hj; exact absurd hj (by simp)
    have := h0.1
    rw [cpy_in _ _ (by omega)]
    exact h0.2.2.2.2.2 j t hj
  · have hlt : j < t1.length := by
      by_cases h : j < t1.length
      · exact h
      · rw [List.getElem?_eq_none (by omega)] at hj; exact absurd hj (by simp)
    have := h1.1
    rw [cpy_in _ _ (by omega)]
    exact h1.2.2.2.2.2 j t hj
theorem p12_carryL (N : Nat) (p : Nat → Int32) (K) : ∀ (d n y : Nat) (q : Nat → Int32), y + d = 374 → d < n → (∀ j, j < y → q j = p j) → ∃ q', f_X12_carry_2 N p K n (Int32.ofNat y) q = K 374 q' ∧ ∀ j, j < 374 → q' j = p j := by
  intro d
  induction d with
  | zero =>
    intro n y q hy hn hq
    obtain ⟨n, rfl⟩ : ∃ k, n = k + 1 := ⟨n - 1, by omega⟩
    have : y = 374 := by omega
    subst this
    rw [f_X12_carry_2, if_pos (show (374 : Int32) ≤ Int32.ofNat 374 by decide)]
    exact ⟨q, rfl, hq⟩
  | succ d ih =>
    intro n y q hy hn hq
    obtain ⟨n, rfl⟩ : ∃ k, n = k + 1 := ⟨n - 1, by omega⟩
    rw [f_X12_carry_2, if_neg (show ¬ (374 : Int32) ≤ Int32.ofNat y by rw [lit_le (by omega) (by omega)]; omega), if_pos (of_eq_true (on_vin (by omega) (by omega))), if_pos (of_eq_true (on_vin (by omega) (by omega))), on_tn (k := y) (by omega), show Int32.ofNat y + (1 : Int32) = Int32.ofNat (y + 1) from add_lit 1 y]
    refine ih n (y + 1) _ (by omega) (by omega) (fun j hj => ?_)
    by_cases e : j = y
    · rw [e, upd_at]
    · rw [upd_ne _ _ e]; exact hq j (by omega)
theorem p12_carry {N : Nat} (hN : 400 ≤ N) (p q : Nat → Int32) : ∃ q', f_X12_carry N p q = some q' ∧ ∀ j, j < 374 → q' j = p j := by
  obtain ⟨q', h1, h2⟩ := p12_carryL N p (fun v2_4 p1_4 => (some p1_4)) 374 N 0 q (by omega) (by omega) (fun j hj => absurd hj (by omega))
  exact ⟨q', h1, h2⟩
theorem TR.ok {k0 k1 k2 k3 : Nat} {n m s : Nat → Int32} (h : TR k0 k1 k2 k3 n m s) : ∀ j, j < 4 → kOk (sel4 j k0 k1 k2 k3) = true := fun j hj => by rw [(h j hj).1]; exact tk_ok _
theorem pm_image {N : Nat} (hN : 400 ≤ N) {g : Nat → Nat → Int32} {k0 k1 k2 k3 : Nat} {n m : Nat → Int32} {tk cs go z fed : Int32} {tape : Nat → Int32} {pl : Int32} {pc : Nat → Int32} {vl : Int32} {vc : Nat → Int32} {waits : Int32} {waiting s : Nat → Int32} (hS : SR g k0 k1 k2 k3 n m tk cs go z fed tape pl pc vl vc waits waiting s) (tills : Nat → Option Nat) (imaged images dtk dcs dgo dz dfed dwaits : Int32) (dg : Nat → Nat → Int32) (dpl : Int32) (dpc dtape : Nat → Int32) (dtills : Nat → Option Nat) (dvl : Int32) (dvc dwaiting mk : Nat → Int32) :
    ∃ g' pc' tape' row' vc' wg' mk', f_X11_image N imaged images dtk dcs dgo dz dfed dwaits dg dpl dpc dtape dtills dvl dvc dwaiting tk cs go z fed waits g pl pc tape tills k0 k1 k2 k3 n m vl vc waiting = some (images + 1, 1, images + 1, tk, cs, go, z, fed, waits, g', pl, pc', tape', row', vl, vc', wg') ∧ f_X12_image N images mk s = some (images + 1, images + 1, mk') ∧ SR g' k0 k1 k2 k3 n m tk cs go z fed tape' pl pc' vl vc' waits wg' mk' ∧ ∀ j, j < 4 → row' j = tills j := by
  obtain ⟨mk', h1, h2⟩ := p12_carry hN s mk
  unfold f_X11_image f_X12_image
  rw [p_become (by omega) tk cs go z fed waits g pl pc tape tills hS.2.1.ok, h1, Option.bind_some, Option.bind_some]
  exact ⟨_, _, _, _, _, _, mk', rfl, rfl, hS.cpy h2 _ _ _ _ _, fun j hj => R4_in _ _ hj⟩
theorem pm_restore {N : Nat} (hN : 400 ≤ N) {imaged images : Int32} (hI : imaged = 0 ↔ images = 0) {ce me : Nat → Int32} (hE : ER ce me) {g : Nat → Nat → Int32} {k0 k1 k2 k3 : Nat} {n m : Nat → Int32} {tk cs go z fed : Int32} {tape : Nat → Int32} {pl : Int32} {pc : Nat → Int32} {vl : Int32} {vc : Nat → Int32} {waits : Int32} {waiting mk : Nat → Int32} (hS : imaged ≠ 0 → SR g k0 k1 k2 k3 n m tk cs go z fed tape pl pc vl vc waits waiting mk) (tills : Nat → Option Nat) (dtk dcs dgo dz dfed dwaits : Int32) (dg : Nat → Nat → Int32) (dpl : Int32) (dpc dtape : Nat → Int32) (dtills : Nat → Option Nat) (dvl : Int32) (dvc dwaiting s : Nat → Int32) :
    (∃ v ce' me', imaged = 0 ∧ f_X11_restore N imaged ce tk cs go z fed waits g pl pc tape tills k0 k1 k2 k3 n m vl vc waiting dtk dcs dgo dz dfed dwaits dg dpl dpc dtape dtills dvl dvc dwaiting = some (v, ce', dtk, dcs, dgo, dz, dfed, dwaits, dg, dpl, dpc, dtape, dtills, dvl, dvc, dwaiting) ∧ f_X12_restore N images me mk s = some (v, me', s) ∧ ER ce' me') ∨
    (∃ v g' pc' tape' row' vc' wg' s', imaged ≠ 0 ∧ f_X11_restore N imaged ce tk cs go z fed waits g pl pc tape tills k0 k1 k2 k3 n m vl vc waiting dtk dcs dgo dz dfed dwaits dg dpl dpc dtape dtills dvl dvc dwaiting = some (v, ce, tk, cs, go, z, fed, waits, g', pl, pc', tape', row', vl, vc', wg') ∧ f_X12_restore N images me mk s = some (v, me, s') ∧ SR g' k0 k1 k2 k3 n m tk cs go z fed tape' pl pc' vl vc' waits wg' s' ∧ ∀ j, j < 4 → row' j = tills j) := by
  by_cases h : imaged = 0
  · left
    unfold f_X11_restore f_X12_restore
    rw [if_pos h, if_pos (hI.mp h), p11_error2, p12_error2, Option.bind_some, Option.bind_some]
    exact ⟨_, _, _, h, rfl, rfl, hE.up (k := 2) (by omega)⟩
  · right
    have hS := hS h
    obtain ⟨s', h1, h2⟩ := p12_carry hN mk s
    have e0 : go = s' 0 := by rw [h2 0 (by omega)]; exact hS.2.2.1.2.2.1
    unfold f_X11_restore f_X12_restore
    rw [if_neg h, if_neg (fun e => h (hI.mpr e)), p_become (by omega) tk cs go z fed waits g pl pc tape tills hS.2.1.ok, h1, Option.bind_some, Option.bind_some]
    refine ⟨go, _, _, _, _, _, _, s', h, rfl, ?_, hS.cpy h2 _ _ _ _ _, fun j hj => R4_in _ _ hj⟩
    rw [e0]
    rfl
end PIMAGE
