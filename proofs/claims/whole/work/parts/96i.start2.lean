/-! ===== 96i: the two constructors, the law's loop ===== -/
def zM0 : zM := (fun _ _ => 0, fun _ _ => 0, fun _ _ => none, fun _ => 0, 0, 0)
def mA : zM := znew zM0 0 (zf 8).length
def mB : zM := (fp_X10_init 0 mA).getD zM0
def mC : zM := znew mB 0 (zf 9).length
def mD : zM := (fp_X11_init 46 mC).getD zM0
theorem some_getD {α : Type} {o : Option α} {d : α} (h : o.isSome = true) : o = some (o.getD d) := by
  cases o with
  | none => cases h
  | some x => rfl
theorem e_A : zno 8 zM0 = some (0, mA) := by
  unfold zno
  rw [if_pos (by decide +kernel)]; rfl
theorem e_B : fp_X10_init 0 mA = some mB := some_getD (by decide +kernel)
theorem zS_B : zS mB = 46 := by decide +kernel
theorem e_C : zno 9 mB = some (46, mC) := by
  unfold zno
  rw [if_pos (by decide +kernel), zS_B]; rfl
theorem e_D : fp_X11_init 46 mC = some mD := some_getD (by decide +kernel)
theorem C_D : zC mD := ⟨by decide +kernel, by decide +kernel, by decide +kernel⟩
def S00 : zSt := (0, 0, 0, [], [], fun _ => none, none)
theorem okZ0 : okZ S00 := ⟨⟨by decide, by decide⟩, Nat.zero_le _, (fun x hx => absurd hx List.not_mem_nil), Nat.zero_le _, (fun x hx => absurd hx List.not_mem_nil), fun k q hq => by cases hq⟩
theorem D_0 : zI mD 0 0 = 0 ∧ zI mD 0 1 = 0 ∧ zI mD 0 2 = 0 ∧ zI mD 0 3 = 0 ∧ zI mD 1 1 = 0 ∧ zI mD 6 1 = 0 ∧ zI mD 38 1 = -1 ∧ zI mD 8 0 = -1 ∧ zI mD 8 1 = -1 ∧ zI mD 8 2 = -1 := by decide +kernel
theorem D_m : ∀ m, m = 23 ∨ m = 28 ∨ m = 33 → zI mD m 2 = -1 ∧ zR mD m 1 = some (m + 1) ∧ m + 1 < zS mD ∧ kd (m + 1) = 101 ∧ zI mD m 0 = 0 ∧ zL mD (m + 1) = 256 := by
  intro m hm
  rcases hm with rfl | rfl | rfl <;> decide +kernel
theorem D_27 : zI mD 23 9 = 0 ∧ ∀ j, j < 128 → zI mD 27 j = 0 := by decide +kernel
theorem D_z : zS mD ≤ 100 ∧ zU mD ≤ 100000 := by decide +kernel
theorem D_46 : zI mD 46 0 = 0 ∧ zI mD 46 1 = 0 ∧ zI mD 46 5 = 0 ∧ zI mD 46 11 = -1 ∧ zI mD 46 12 = -1 ∧ zI mD 46 20 = 0 ∧ zI mD 56 0 = 0 ∧ zI mD 56 1 = 0 ∧ zI mD 56 2 = 0 := by decide +kernel
theorem MW0 {m : Nat} (hm : m = 23 ∨ m = 28 ∨ m = 33) : MO m (m + 1) mD := by
  obtain ⟨h1, h2, h3, h4, h5, h6⟩ := D_m m hm
  exact Or.inl ⟨h1, [], h2, Or.inl rfl, h3, h4, h5.trans n_0, (fun i hi => absurd hi (Nat.not_lt_zero _)), Nat.zero_le _, Or.inl h6⟩
theorem IC0 : IC S00 0 mD := by
  obtain ⟨a0, a1, a2, a3, a4, a5, a6, a7, a8, a9⟩ := D_0
  obtain ⟨b1, b2⟩ := D_27
  obtain ⟨z1, z2⟩ := D_z
  have l1 := (D_m 23 (Or.inl rfl)).2.2.2.2.2
  have l2 := (D_m 28 (Or.inr (Or.inl rfl))).2.2.2.2.2
  have l3 := (D_m 33 (Or.inr (Or.inr rfl))).2.2.2.2.2
  refine ⟨okZ0, C_D, ⟨a0, a1.trans n_0, a2.trans n_0, a3, ⟨a4.trans n_0, fun i hi => absurd hi (Nat.not_lt_zero _)⟩, ⟨a5.trans n_0, fun i hi => absurd hi (Nat.not_lt_zero _)⟩, fun k hk => ?_⟩, Or.inl a6, (24, 29, 34), 0, MW0 (Or.inl rfl), MW0 (Or.inr (Or.inl rfl)), MW0 (Or.inr (Or.inr rfl)), ⟨by decide, by decide, by decide⟩, ⟨b1.trans n_0, fun j hj => ⟨0, Nat.le_refl _, (b2 j hj).trans n_0⟩⟩, Nat.zero_le _, ?_, ?_⟩
  · have k3 : k = 0 ∨ k = 1 ∨ k = 2 := by omega
    rcases k3 with rfl | rfl | rfl
    · exact a7
    · exact a8
    · exact a9
  · show zS mD + lv (zL mD 24) + lv (zL mD 29) + lv (zL mD 34) ≤ 600000
    rw [show zL mD 24 = 256 from l1, show zL mD 29 = 256 from l2, show zL mD 34 = 256 from l3]
    have : lv 256 = 3 := rfl
    omega
  · show zU mD + lu (zL mD 24) + lu (zL mD 29) + lu (zL mD 34) ≤ 7302250
    rw [show zL mD 24 = 256 from l1, show zL mD 29 = 256 from l2, show zL mD 34 = 256 from l3]
    have : lu 256 = 98432 := rfl
    omega
theorem IR0 : IR S00 mD := by
  obtain ⟨a0, a1, a5, a11, a12, a20, b0, b1, b2⟩ := D_46
  refine ⟨okZ0, C_D, ⟨a0.trans n_0, fun p hp => absurd hp (Nat.not_lt_zero _)⟩, a1, ⟨a5.trans n_0, fun i hi => absurd hi (Nat.not_lt_zero _)⟩, ⟨a12, a11⟩, ⟨a20.trans n_0, fun i hi => absurd hi (Nat.not_lt_zero _)⟩, fun k hk => ?_⟩
  have k3 : k = 0 ∨ k = 1 ∨ k = 2 := by omega
  rcases k3 with rfl | rfl | rfl
  · exact b0
  · exact b1
  · exact b2
