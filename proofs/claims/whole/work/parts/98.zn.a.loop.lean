/-! ===== the start ===== -/
theorem om_1 {o : Option (Int × AH)} {n : Int} (h : o.map (fun p => (p.1, p.2.1)) = some (0, n)) : o = some (0, (o.getD (0, h0_)).2) ∧ ((o.getD (0, h0_)).2).1 = n := by
  cases o with
  | none => cases h
  | some p =>
    have e : (p.1, p.2.1) = (0, n) := Option.some.inj h
    have e1 : p.1 = 0 := congrArg Prod.fst e
    have e2 : p.2.1 = n := congrArg Prod.snd e
    refine ⟨?_, e2⟩
    show some p = some (0, p.2)
    rw [← e1]
def hB_ : AH := ((f_B_init 1 (h_A h0_ 10 0)).getD (0, h0_)).2
theorem ib_1 : (f_B_init 1 (h_A h0_ 10 0)).map (fun p => (p.1, p.2.1)) = some (0, 46) := by decide +kernel
theorem ib_e : f_B_init 1 (h_A h0_ 10 0) = some (0, hB_) ∧ hB_.1 = 46 := om_1 ib_1
def hI_ : AH := ((f_M_init 46 (h_A hB_ 11 0)).getD (0, h0_)).2
theorem im_1 : (f_M_init 46 (h_A hB_ 11 0)).map (fun p => (p.1, p.2.1)) = some (0, 69) := by decide +kernel
theorem im_e : f_M_init 46 (h_A hB_ 11 0) = some (0, hI_) ∧ hI_.1 = 69 := om_1 im_1
theorem hI_bp : BP hI_ := ⟨by decide +kernel, by decide +kernel⟩
theorem hI_ms : MS hI_ := ⟨by decide +kernel, by decide +kernel⟩
theorem hI_18 : ∀ p : Fin 60, h_V hI_ 18 p.val = -1 := by decide +kernel
theorem hI_56 (i : Int) : h_V hI_ 56 i = 0 := by with_unfolding_all rfl
