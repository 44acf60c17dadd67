/-! ===== arraycopy; the literals: String.length, charAt ===== -/
theorem x_t_eq (i : Nat) (hi : i < 6) : sb_.getD i [] = (x_t (-((i : Int) + 1))).map (fun c => Int32.ofNat c.toNat) := by
  rcases (show i = 0 ∨ i = 1 ∨ i = 2 ∨ i = 3 ∨ i = 4 ∨ i = 5 by omega) with rfl | rfl | rfl | rfl | rfl | rfl <;> decide +kernel
theorem x_l_eq (i : Nat) (hi : i < 6) : sl_.getD i 0 = (x_t (-((i : Int) + 1))).length := by
  rcases (show i = 0 ∨ i = 1 ∨ i = 2 ∨ i = 3 ∨ i = 4 ∨ i = 5 by omega) with rfl | rfl | rfl | rfl | rfl | rfl <;> decide +kernel
theorem x_small : ∀ i : Nat, i < 6 → (x_t (-((i : Int) + 1))).length < 100 ∧ ∀ j, j < (x_t (-((i : Int) + 1))).length → ((x_t (-((i : Int) + 1))).getD j ' ').toNat < 128 := by decide +kernel
section SH
variable {S : SX} {own : String} {cc : ByteArray} {pc : Nat} {ls : List (Nat × Nat × Int)} {st : List (Nat × Int)} {k n : Nat} {h : AH} {o : Option (Int × AH)}
theorem s_acopy (hS : SO S own cc) {t sa sp da dp z : Int} {ix : Nat} {f : AH → Option (Int × AH)} (ht : t = 20 ∨ t = 21) (w1 : Cond.methodLink own ix arraycopyName ∈ gw_) (w2 : Cond.native arraycopyName ∈ gw_) (w3 : Cond.static arraycopyName ∈ gw_) (w4 : Cond.initialized "java/lang/System" ∈ gw_) (hR : 1 ≤ S.2.2.2.2.2.2.1 ∧ 60 ≤ S.2.2.2.2.2.2.2) (hl : st.length ≤ 4) (d : decode cc pc = .ok (.invokestatic ix, 3))
    (kk : ∀ h2 : AH, Sim S (pc + 3) ls st k n h2 (f h2)) : Sim S pc ls ((0, z) :: (0, dp) :: (2, da) :: (0, sp) :: (2, sa) :: st) k n h ((a_c h t sa sp da dp z).bind f) := by
  unfold a_c
  by_cases e : h_T h sa = t ∧ h_T h da = t ∧ 0 ≤ nm sp ∧ 0 ≤ nm dp ∧ 0 ≤ nm z ∧ nm sp + nm z ≤ h_N h sa ∧ nm dp + nm z ≤ h_N h da
  · rw [if_pos e]
    obtain ⟨e1, e2, e3, e4, e5, e6, e7⟩ := e
    intro r h' ho H locs la hH hf hv
    have hSR := hS.2.2.2.2.2.2.2.2
    have hcat := sum_cat S.1 st
    have h20 : 20 ≤ t := by omega
    obtain ⟨a1, a2, n0, n1, c0⟩ := HO_arr hH e1 h20
    obtain ⟨b1, b2, m0, m1, c1⟩ := HO_arr hH e2 h20
    have hAr := (hS.2.2.2.2.2.1.2.1 t h20 (by omega)).1
    obtain ⟨-, k0, hk0, cm0, hkk0⟩ := hAr (h_N h sa).toNat (fun j => g_v S.1 (t_t (e_ty t), h_V h sa j))
    obtain ⟨-, k1, hk1, cm1, hkk1⟩ := hAr (h_N h da).toNat (fun j => g_v S.1 (t_t (e_ty t), h_V h da j))
    simp only [List.map_cons, gv0, gv2 _ (show sa ≠ 0 by omega), gv2 _ (show da ≠ 0 by omega)]
    intro T hT X
    have hfit : ∀ w : Int, fits (e_ty t) (g_v S.1 (t_t (e_ty t), w)) = true := by
      intro w
      rcases ht with rfl | rfl <;> exact rfl
    have hpr : refKind (e_ty t) = false := by rcases ht with rfl | rfl <;> exact rfl
    obtain ⟨vm', X', step⟩ := X.arraycopy hS.1 hS.2.2.2.1 (hS.2.2.2.2.1 _ w1) (hS.2.2.2.2.1 _ w2) (hS.2.2.2.2.1 _ w3) (hS.2.2.2.2.1 _ w4) (src := g_a S.1 sa) (dst := g_a S.1 da) (srcPos := i32 sp) (destPos := i32 dp) (n := i32 z) (by rw [hT]; exact c0) (by rw [hT]; exact c1)
      (fun _ h => by cases h) (fun _ h => by cases h) (fun h => by cases h) (fun h => by cases h) hk0 hk1 hkk0 hkk1 (by simp [hpr]) (by rw [z_lt]; omega) (by rw [z_lt]; omega) (by rw [z_lt]; omega)
      (by rw [i32_nm, i32_nm, arrV_size]; omega) (by rw [i32_nm, i32_nm, arrV_size]; omega)
      (fun vm₁ _ i hi => by
        rw [i32_cl] at hi
        have e9 : (arrV (S.1.2.2.2.1 t) (h_N h sa).toNat (fun j => g_v S.1 (t_t (e_ty t), h_V h sa j))).slots.getD ((i32 sp).toNatClampNeg + i) .null = g_v S.1 (t_t (e_ty t), h_V h sa (((i32 sp).toNatClampNeg + i : Nat) : Int)) := by
          rw [Array.getD_eq_getD_getElem?, arrV_read _ _ (by rw [i32_cl]; omega)]
          rfl
        rw [e9]
        refine ⟨hfit _, ?_⟩
        rcases ht with rfl | rfl <;> exact trivial)
      (g := F0 S.2.1.2.2.2.2.2.1 pc la (.int (i32 z) :: .int (i32 dp) :: .ref (g_a S.1 da) :: .int (i32 sp) :: .ref (g_a S.1 sa) :: st.map (g_v S.1))) rfl (by rw [hS.2.2.1]; exact hv.1) (rest := st.map (g_v S.1)) rfl (by rw [hS.2.1]; exact d) (by omega) (by show 2 * 0 + _ + (5 + 2 + 11) ≤ _; omega)
    have e8 := va_copied (fun w : Int => g_v S.1 (t_t (e_ty t), w)) (S.1.2.2.2.1 t) (S.1.2.2.2.1 t) (n0 := (h_N h sa).toNat) (n1 := (h_N h da).toNat) (sp := (i32 sp).toNatClampNeg) (dp := (i32 dp).toNatClampNeg) (n := (i32 z).toNatClampNeg) (fun j => h_V h sa j) (fun j => h_V h da j) (by rw [i32_cl, i32_cl]; omega)
    have e9 : copied (arrV (S.1.2.2.2.1 t) (h_N h sa).toNat (fun j => g_v S.1 (t_t (e_ty t), h_V h sa j))) (arrV (S.1.2.2.2.1 t) (h_N h da).toNat (fun j => g_v S.1 (t_t (e_ty t), h_V h da j))) (i32 sp) (i32 dp) (i32 z) = arrV (S.1.2.2.2.1 t) (h_N h da).toNat (fun j => g_v S.1 (t_t (e_ty t), va_cpy (fun j => h_V h sa j) (fun j => h_V h da j) (i32 sp).toNatClampNeg (i32 dp).toNatClampNeg (i32 z).toNatClampNeg j)) := e8
    rw [e9] at X' step
    have hl1 : g_a S.1 da < H.size := (Array.getElem?_eq_some_iff.mp c1).1
    have hO : HO S.1 (h.1, h.2.1, h.2.2.1, fun b j => if b = da ∧ nm dp ≤ j ∧ j < nm dp + nm z then h_V h sa (nm sp + (j - nm dp)) else h_V h b j) (H.setIfInBounds (g_a S.1 da) (arrV (S.1.2.2.2.1 t) (h_N h da).toNat (fun j => g_v S.1 (t_t (e_ty t), va_cpy (fun j => h_V h sa j) (fun j => h_V h da j) (i32 sp).toNatClampNeg (i32 dp).toNatClampNeg (i32 z).toNatClampNeg j)))) := by
      refine HO_upd (a := da) hH rfl (fun _ => rfl) (fun _ => rfl) (fun b j hb => ?_) b1 (by simp) (fun q hq => by simp [Array.getElem?_setIfInBounds, Ne.symm hq]) (fun _ => ⟨fun cj q hq hq2 => ?_, fun _ => ⟨m0, m1, ?_⟩⟩)
      · show (if b = da ∧ _ then _ else _) = _
        rw [if_neg (fun q => hb q.1)]
      · have := cl_lt hq
        have e0 : h_T h da = (cj : Int) + 1 := hq2
        omega
      · show (H.setIfInBounds (g_a S.1 da) _)[g_a S.1 da]? = some (arrV (S.1.2.2.2.1 (h_T h da)) (h_N h da).toNat _)
        rw [e2]
        simp only [Array.getElem?_setIfInBounds, hl1, if_true]
        congr 2
        funext j
        have e0 : h_T (h.1, h.2.1, h.2.2.1, fun b j => if b = da ∧ nm dp ≤ j ∧ j < nm dp + nm z then h_V h sa (nm sp + (j - nm dp)) else h_V h b j) da = t := e2
        rw [e0]
        congr 2
        show va_cpy (fun j => h_V h sa j) (fun j => h_V h da j) (i32 sp).toNatClampNeg (i32 dp).toNatClampNeg (i32 z).toNatClampNeg j = if da = da ∧ nm dp ≤ (j : Int) ∧ (j : Int) < nm dp + nm z then h_V h sa (nm sp + ((j : Int) - nm dp)) else h_V h da j
        unfold va_cpy
        rw [i32_cl, i32_cl, i32_cl]
        by_cases hj : nm dp ≤ (j : Int) ∧ (j : Int) < nm dp + nm z
        · rw [if_pos (by omega), if_pos ⟨rfl, hj⟩]
          show h_V h sa _ = h_V h sa _
          congr 1
          omega
        · rw [if_neg (by omega), if_neg (fun q => hj q.2)]
    obtain ⟨t2, q1, q2⟩ := kk _ r h' ho _ _ la hO (by
      intro q hq
      rcases List.mem_append.mp hq with w | w
      · exact hf q w
      · obtain ⟨u, -, hu⟩ := List.mem_map.mp w
        rw [← hu]
        exact ga_ge _ b1) hv _ (by rw [← hT]; rfl) X'
    exact ⟨t2, step t2 q1, q2⟩
  · rw [if_neg e]; exact s_none
/-- a static field of the JDK that nobody writes -/
theorem s_gst (hS : SO S own cc) {ix t : Nat} {C fn fd : String} {z : Int} (hZ : va_Z C fn fd (g_v S.1 (t, z)) (fun q => S.1.1 ≤ q) S.2.1.2.2.2.2.1 S.1.2.2.2.2) (w1 : Cond.fieldLink own ix C fn fd ∈ gw_) (d : decode cc pc = .ok (.getstatic ix, 3)) (kk : Sim S (pc + 3) ls ((t, z) :: st) k n h o) : Sim S pc ls st k n h o := by
  intro r h' ho H locs la hH hf hv
  obtain ⟨cf, kf, fi, f, a, cell, h1, h2, h3, h4, h5, h6, h7, h8⟩ := hZ
  exact W.gets hS.1 hS.2.1 hS.2.2.2.1 (hS.2.2.2.2.1 _ w1) h1 h2 h3 h4 (by rw [hH.2.2.1 a (by omega)]; exact h5) (fun e => by rw [e] at h6; cases h6) h7 rfl d (kk r h' ho H locs la hH hf hv)
/-- a field of a literal -/
theorem s_gfl (hS : SO S own cc) {ix t : Nat} {fn fd : String} {a z : Int} (ha : a < 0) (hZ : va_OF "java/lang/String" fn fd (g_v S.1 (t, z)) (S.1.2.1 (-a - 1).toNat) (fun q => S.1.1 ≤ q) S.2.1.2.2.2.2.1 S.1.2.2.2.2) (w1 : Cond.fieldLink own ix "java/lang/String" fn fd ∈ gw_) (d : decode cc pc = .ok (.getfield ix, 3)) (kk : Sim S (pc + 3) ls ((t, z) :: st) k n h o) : Sim S pc ls ((2, a) :: st) k n h o := by
  intro r h' ho H locs la hH hf hv
  obtain ⟨cf, kf, fi, f, cell, h1, h2, h3, h4, h5, h6⟩ := hZ
  have e : g_v S.1 (2, a) = .ref (S.1.2.1 (-a - 1).toNat) := by
    rw [gv2 _ (by omega)]; unfold g_a; rw [if_neg (by omega)]
  simp only [List.map_cons, e]
  exact W.getf hS.1 hS.2.1 hS.2.2.2.1 (hS.2.2.2.2.1 _ w1) h1 h2 (by rw [hH.2.2.1 _ (by omega)]; exact h3) h4 h5 rfl rfl d (kk r h' ho H locs la hH hf hv)
theorem lit_ref (G : GE) {a : Int} (ha : a < 0) : g_v G (2, a) = .ref (G.2.1 (-a - 1).toNat) := by
  rw [gv2 _ (by omega)]; unfold g_a; rw [if_neg (by omega)]
/-- of the literal i: its cells -/
theorem lit_S (hS : SO S own cc) {z : Int} (h1 : -6 ≤ z) (h2 : z ≤ -1) : va_O "java/lang/String" (S.1.2.1 (-z - 1).toNat) (fun q => S.1.1 ≤ q) S.2.1.2.2.2.2.1 S.1.2.2.2.2 ∧ va_OF "java/lang/String" "coder" "B" (g_v S.1 (0, 0)) (S.1.2.1 (-z - 1).toNat) (fun q => S.1.1 ≤ q) S.2.1.2.2.2.2.1 S.1.2.2.2.2 ∧ va_OF "java/lang/String" "value" "[B" (g_v S.1 (2, z - 6)) (S.1.2.1 (-z - 1).toNat) (fun q => S.1.1 ≤ q) S.2.1.2.2.2.2.1 S.1.2.2.2.2 ∧
    va_T .byte (S.1.2.1 (-(z - 6) - 1).toNat) (x_t z).length (fun j => .int (Int32.ofNat ((x_t z).getD j ' ').toNat)) (fun q => S.1.1 ≤ q) S.2.1.2.2.2.2.1 S.1.2.2.2.2 := by
  have hs := hS.2.2.2.2.2.1.2.2.2.2.1.1 (-z - 1).toNat (by omega)
  have e1 : -(((-z - 1).toNat : Nat) + 1 : Int) = z := by omega
  have e2 : 6 + (-z - 1).toNat = (-(z - 6) - 1).toNat := by omega
  refine ⟨hs.1, hs.2.1, ?_, ?_⟩
  · rw [lit_ref _ (by omega), ← e2]; exact hs.2.2.1
  · have h4 := hs.2.2.2
    rw [x_l_eq _ (by omega), x_t_eq _ (by omega), e1] at h4
    obtain ⟨cell, g1, g2, g3, g4, g5, g6, g7⟩ := h4
    have g1 : S.1.2.2.2.2[S.1.2.1 (6 + (-z - 1).toNat)]? = some cell := g1
    have g7 : ¬ S.1.1 ≤ S.1.2.1 (6 + (-z - 1).toNat) := g7
    rw [e2] at g1 g7
    refine ⟨cell, g1, g2, g3, g4, g5, fun j hj => ?_, g7⟩
    rw [g6 j hj]
    simp [List.getD_eq_getElem?_getD, hj]
theorem s_xal (hS : SO S own cc) {z : Int} (h1 : -6 ≤ z) (h2 : z ≤ -1) (d : decode cc pc = .ok (.arraylength, 1)) (kk : Sim S (pc + 1) ls ((0, ((x_t z).length : Int)) :: st) k n h o) : Sim S pc ls ((2, z - 6) :: st) k n h o := by
  intro r h' ho H locs la hH hf hv
  obtain ⟨cell, g1, g2, g3, g4, g5, g6, g7⟩ := (lit_S hS h1 h2).2.2.2
  simp only [List.map_cons, lit_ref S.1 (show z - 6 < 0 by omega)]
  refine W.alen hS.1 hS.2.1 (by rw [hH.2.2.1 _ (by omega)]; exact g1) g2 (g5.trans ?_) rfl rfl d (kk r h' ho H locs la hH hf hv)
  exact Int32.ofInt_eq_ofNat.symm
theorem s_xbl (hS : SO S own cc) {z i : Int} (h1 : -6 ≤ z) (h2 : z ≤ -1) (h3 : 0 ≤ nm i) (h4 : nm i < ((x_t z).length : Int)) (d : decode cc pc = .ok (.baload, 1)) (kk : Sim S (pc + 1) ls ((0, (((x_t z).getD (nm i).toNat ' ').toNat : Int)) :: st) k n h o) : Sim S pc ls ((0, i) :: (2, z - 6) :: st) k n h o := by
  intro r h' ho H locs la hH hf hv
  obtain ⟨cell, g1, g2, g3, g4, g5, g6, g7⟩ := (lit_S hS h1 h2).2.2.2
  simp only [List.map_cons, gv0, lit_ref S.1 (show z - 6 < 0 by omega)]
  have K := kk r h' ho H locs la hH hf hv
  refine W.bald hS.1 hS.2.1 (by rw [hH.2.2.1 _ (by omega)]; exact g1) g2 g3 (ix_in h3 (by omega)) (v := .int (Int32.ofNat ((x_t z).getD (nm i).toNat ' ').toNat)) (by rw [i32_cl]; exact g6 _ (by omega)) rfl rfl d ?_
  have e : i32 (((x_t z).getD (nm i).toNat ' ').toNat : Int) = Int32.ofNat ((x_t z).getD (nm i).toNat ' ').toNat := Int32.ofInt_eq_ofNat
  simp only [List.map_cons, gv0, e] at K
  exact K
/-- a call on a literal, its answer known -/
theorem s_callX (hS : SO S own cc) {y : MethodName} {bytes : ByteArray} {mL ix np fr lo : Nat} {ret : Option FieldType} {b r0 : Int} {h0 : AH} {As stk : List (Nat × Int)} (hM : mow_ y bytes mL ret np) (hyc : y.cls = "java/lang/String") (h1 : -6 ≤ b) (h2 : b ≤ -1) (hc : Con S.2.1.2.1 y bytes mL ret fr lo 0 0 S.1 ((2, b) :: As) h (some (r0, h0))) (w1 : Cond.methodLink own ix y ∈ gw_) (w2 : Cond.instanceMethod y ∈ gw_) (w3 : Cond.selects y.cls y y ∈ gw_) (hR : fr + 1 ≤ S.2.2.2.2.2.2.1 ∧ 8 + (mL + 11) + lo ≤ S.2.2.2.2.2.2.2) (hk : k ≤ S.2.2.2.1 ∧ n ≤ S.2.2.2.2.1) (hn : As.length = np) (hst : stk = As.reverse ++ (2, b) :: st) (hl : st.length ≤ 4) (d : decode cc pc = .ok (.invokevirtual ix, 3))
    (kk : Sim S (pc + 3) ls (q_p ret r0 ++ st) k n h0 o) : Sim S pc ls stk k n h o := by
  subst hst
  intro r h' ho H locs la hH hf hv
  have hSR := hS.2.2.2.2.2.2.2.2
  have hcat := sum_cat S.1 st
  obtain ⟨cell, q1, q2, q3, q4⟩ := (lit_S hS h1 h2).1
  have e2 := lit_ref S.1 (show b < 0 by omega)
  refine s_run (r1 := r0) (h1 := h0) (ret := ret) (mc := 0) (ms := 0) (va_runV (cc := cc) (nL := S.2.2.1) (own := own) (Ts := gw_) (C := y.cls) (b := S.1.2.1 (-b - 1).toNat) (As := As.map (g_v S.1)) (Pc := pc_ S.1 ((2, b) :: As) h) ⟨hS.1, hS.2.1, hS.2.2.1, hS.2.2.2.1, hS.2.2.2.2.1⟩ (hc r0 h0 rfl) ⟨callB_of np hS.2.2.2.2.1 (gw_goodIn hM.1) rfl rfl rfl (hS.2.2.2.2.1 _ hM.2.1) (hS.2.2.2.2.1 _ w1) hM.2.2 ⟨by show fr + 1 ≤ _; omega, by show 8 + (mL + 11) + lo ≤ _; omega⟩, hS.2.2.2.2.1 _ w2, hS.2.2.2.2.1 _ w3⟩
    ⟨pc_blind _ _ _, ⟨cell, by rw [hH.2.2.1 _ (by omega)]; exact q1, q2, by rw [hyc]; exact q3⟩, fun U hU hW => ⟨by rw [List.map_cons, e2], EO_warm hW hS.2.2.2.2.2.1, by rw [hU]; exact hH⟩⟩ rfl (by rw [List.length_map]; exact hn) (by show la.size = _; exact hv.1) (by simp [e2]) (by show 2 * 0 + _ ≤ 8; omega) d ⟨by omega, by omega⟩) kk ho hf hv
theorem s_callS1 (hS : SO S own cc) {y : MethodName} {bytes : ByteArray} {mL ix np fr lo : Nat} {ret : Option FieldType} {r0 : Int} {h0 : AH} {As stk : List (Nat × Int)} (hM : mow_ y bytes mL ret np) (hc : Con S.2.1.2.1 y bytes mL ret fr lo 0 0 S.1 As h (some (r0, h0))) (w1 : Cond.methodLink own ix y ∈ gw_) (w2 : Cond.static y ∈ gw_) (hR : fr + 1 ≤ S.2.2.2.2.2.2.1 ∧ 8 + (mL + 11) + lo ≤ S.2.2.2.2.2.2.2) (hk : k ≤ S.2.2.2.1 ∧ n ≤ S.2.2.2.2.1) (hn : As.length = np) (hst : stk = As.reverse ++ st) (hl : st.length ≤ 4) (d : decode cc pc = .ok (.invokestatic ix, 3))
    (kk : Sim S (pc + 3) ls (q_p ret r0 ++ st) k n h0 o) : Sim S pc ls stk k n h o := by
  subst hst
  intro r h' ho H locs la hH hf hv
  have hSR := hS.2.2.2.2.2.2.2.2
  have hcat := sum_cat S.1 st
  refine s_run (r1 := r0) (h1 := h0) (ret := ret) (mc := 0) (ms := 0) (va_runS (cc := cc) (nL := S.2.2.1) (own := own) (Ts := gw_) (As := As.map (g_v S.1)) ⟨hS.1, hS.2.1, hS.2.2.1, hS.2.2.2.1, hS.2.2.2.2.1⟩ (hc r0 h0 rfl) ⟨callB_of np hS.2.2.2.2.1 (gw_goodIn hM.1) rfl rfl rfl (hS.2.2.2.2.1 _ hM.2.1) (hS.2.2.2.2.1 _ w1) hM.2.2 ⟨by show fr + 1 ≤ _; omega, by show 8 + (mL + 11) + lo ≤ _; omega⟩, hS.2.2.2.2.1 _ w2⟩
    ⟨pc_blind _ _ _, fun U hU hW => ⟨rfl, EO_warm hW hS.2.2.2.2.2.1, by rw [hU]; exact hH⟩⟩ rfl (by rw [List.length_map]; exact hn) (by show la.size = _; exact hv.1) (by simp) (by show 2 * 0 + _ ≤ 8; omega) d ⟨by omega, by omega⟩) kk ho hf hv
/-- an answer that is a byte, a char: within its range -/
theorem s_nret (hS : SO S own cc) {z : Int} {ty : FieldType} (hr : S.2.2.2.2.2.1 = some ty) (ht : t_t ty = 0) (hn : narrow ty (.int (i32 z)) = .int (i32 z)) (hk : k ≤ S.2.2.2.1) (hn2 : n ≤ S.2.2.2.2.1) (d : decode cc pc = .ok (.ireturn, 1)) : Sim S pc ls [(0, z)] k n h (some (z, h)) := by
  intro r h' ho H locs la hH hf hv
  cases ho
  refine W.widen hk hn2 ?_
  exact W.zret hS.1 hS.2.1 (hS.2.2.2.2.2.2.1.trans hr) hn (fun t hT _ => ⟨by rw [hr]; show _ = Outcome.returned (some (g_v S.1 (t_t ty, z))); rw [ht]; rfl, by rw [hT]; exact hH⟩) hf d hS.2.2.2.2.2.2.2.1
theorem s_i2c (hS : SO S own cc) {x y : Int} (e : ((i32 x).toUInt32 % 65536).toInt32 = i32 y) (d : decode cc pc = .ok (.i2c, 1)) (kk : Sim S (pc + 1) ls ((0, y) :: st) k n h o) : Sim S pc ls ((0, x) :: st) k n h o := by
  intro r h' ho H locs la hH hf hv
  exact lv_i2c hS.1 hS.2.1 d e (kk r h' ho H locs la hH hf hv)
theorem s_cmpT (hS : SO S own cc) {x y : Int} {off : Int} {tgt : Nat} (d : decode cc pc = .ok (.if_icmp .lt off, 3)) (ht : (pc : Int) + off = (tgt : Int)) (hc : nm x < nm y) (k1 : Sim S tgt ls st k n h o) : Sim S pc ls ((0, y) :: (0, x) :: st) k n h o := by
  have := s_icmp_lt hS d ht k1 (s_none (S := S) (pc := pc + 3) (ls := ls) (st := st) (k := k) (n := n) (h := h)) (x := x) (y := y)
  rw [if_pos hc] at this
  exact this
end SH
theorem nm_1 : nm 1 = 1 := by decide +kernel
theorem ct_coder (l : Launch) (G : GE) (z : Int) (h1 : -6 ≤ z) (h2 : z ≤ -1) (h : AH) : Con l yJ0_coder_7d493 cJ0_coder_7d493 1 (some .byte) 0 0 0 0 G [(2, z)] h (some (0, h)) :=
  con_of (by decide +kernel) (Nat.le_of_ble_eq_true rfl) fun X hX hS hi => by
    refine s_gst hS (t := 0) (z := 1) hS.2.2.2.2.2.1.2.2.2.2.2.2.1 tw_513 dJ0_coder_7d493_0 ?_
    have K : Sim (G, X, 1, 0, 0, some .byte, 0, 0) 6 (l_a 0 [(2, z)]) [] 0 0 h (some (0, h)) := by
      refine s_aload_n hS dJ0_coder_7d493_6 rfl 0 rfl ?_
      refine s_gfl hS (by omega) (lit_S hS h1 h2).2.1 tw_1835 dJ0_coder_7d493_7 ?_
      refine s_goto hS dJ0_coder_7d493_10 rfl ?_
      exact s_nret hS rfl rfl (by decide +kernel) (Nat.le_refl _) (Nat.le_refl _) dJ0_coder_7d493_14
    have := s_if_eq hS dJ0_coder_7d493_3 (tgt := 13) rfl s_none K (x := 1)
    rw [nm_1, if_neg (by decide)] at this
    exact this
theorem ct_latin (l : Launch) (G : GE) (z : Int) (h1 : -6 ≤ z) (h2 : z ≤ -1) (h : AH) : Con l yJ0_isLatin1_aae02 cJ0_isLatin1_aae02 1 (some .boolean) 0 0 0 0 G [(2, z)] h (some (1, h)) :=
  con_of (by decide +kernel) (Nat.le_of_ble_eq_true rfl) fun X hX hS hi => by
    refine s_gst hS (t := 0) (z := 1) hS.2.2.2.2.2.1.2.2.2.2.2.2.1 tw_513 dJ0_isLatin1_aae02_0 ?_
    have K2 : Sim (G, X, 1, 0, 0, some .boolean, 0, 0) 13 (l_a 0 [(2, z)]) [] 0 0 h (some (1, h)) := by
      refine s_iconst hS dJ0_isLatin1_aae02_13 ?_
      refine s_goto hS dJ0_isLatin1_aae02_14 rfl ?_
      exact s_nret hS rfl rfl (by decide +kernel) (Nat.le_refl _) (Nat.le_refl _) dJ0_isLatin1_aae02_18
    have K : Sim (G, X, 1, 0, 0, some .boolean, 0, 0) 6 (l_a 0 [(2, z)]) [] 0 0 h (some (1, h)) := by
      refine s_aload_n hS dJ0_isLatin1_aae02_6 rfl 0 rfl ?_
      refine s_gfl hS (by omega) (lit_S hS h1 h2).2.1 tw_1835 dJ0_isLatin1_aae02_7 ?_
      have := s_if_ne hS dJ0_isLatin1_aae02_10 (tgt := 17) rfl s_none K2 (x := 0)
      rw [nm_0, if_neg (by decide)] at this
      exact this
    have := s_if_eq hS dJ0_isLatin1_aae02_3 (tgt := 17) rfl s_none K (x := 1)
    rw [nm_1, if_neg (by decide)] at this
    exact this
theorem ct_length (l : Launch) (G : GE) (z : Int) (h1 : -6 ≤ z) (h2 : z ≤ -1) (h : AH) : Con l yJ0_length_8abf5 cJ0_length_8abf5 1 (some .int) 1 20 0 0 G [(2, z)] h (some (((x_t z).length : Int), h)) :=
  con_of (by decide +kernel) (Nat.le_of_ble_eq_true rfl) fun X hX hS hi => by
    refine s_aload_n hS dJ0_length_8abf5_0 rfl 0 rfl ?_
    refine s_gfl hS (by omega) (lit_S hS h1 h2).2.2.1 tw_1834 dJ0_length_8abf5_1 ?_
    refine s_xal hS h1 h2 dJ0_length_8abf5_4 ?_
    refine s_aload_n hS dJ0_length_8abf5_5 rfl 0 rfl ?_
    subst hX
    refine s_callX hS mo_J0_coder_7d493 rfl h1 h2 (ct_coder _ _ z h1 h2 h) tw_509 tw_510 tw_511 ⟨Nat.le_of_ble_eq_true rfl, Nat.le_of_ble_eq_true rfl⟩ ⟨Nat.zero_le _, Nat.zero_le _⟩ rfl rfl (Nat.le_of_ble_eq_true rfl) dJ0_length_8abf5_6 ?_
    refine s_ishr hS dJ0_length_8abf5_9 ?_
    have hsm := (x_small (-z - 1).toNat (by omega)).1
    rw [show -(((-z - 1).toNat : Nat) + 1 : Int) = z by omega] at hsm
    have e : o_shr ((x_t z).length : Int) 0 = ((x_t z).length : Int) := by
      unfold o_shr
      rw [show (i32 0 &&& 31) = 0 by decide +kernel, Int32.shiftRight_zero, i32_nm, nm_id (by omega) (by omega)]
    rw [e]
    exact s_iret hS rfl (Nat.le_refl _) (Nat.le_refl _) dJ0_length_8abf5_10
theorem ct_pre (l : Launch) (G : GE) (i m q : Int) (h1 : 0 ≤ nm i) (h2 : nm i < nm m) (h : AH) : Con l yJ3_checkIndex_8e157 cJ3_checkIndex_8e157 3 (some .int) 0 0 0 0 G [(0, i), (0, m), (2, q)] h (some (i, h)) :=
  con_of (by decide +kernel) (Nat.le_of_ble_eq_true rfl) fun X hX hS hi => by
    refine s_iload_n hS dJ3_checkIndex_8e157_0 rfl 0 rfl ?_
    have K : Sim (G, X, 3, 0, 0, some .int, 0, 0) 4 (l_a 0 [(0, i), (0, m), (2, q)]) [] 0 0 h (some (i, h)) := by
      refine s_iload_n hS dJ3_checkIndex_8e157_4 rfl 0 rfl ?_
      refine s_iload_n hS dJ3_checkIndex_8e157_5 rfl 1 rfl ?_
      refine s_cmpT hS dJ3_checkIndex_8e157_6 (tgt := 16) rfl h2 ?_
      refine s_iload_n hS dJ3_checkIndex_8e157_16 rfl 0 rfl ?_
      exact s_iret hS rfl (Nat.le_refl _) (Nat.le_refl _) dJ3_checkIndex_8e157_17
    have := s_if_lt hS dJ3_checkIndex_8e157_1 (tgt := 9) rfl s_none K (x := i)
    rw [if_neg (by omega)] at this
    exact this
theorem ct_check (l : Launch) (G : GE) (i m : Int) (h1 : 0 ≤ nm i) (h2 : nm i < nm m) (h : AH) : Con l yJ0_checkIndex_df160 cJ0_checkIndex_df160 2 none 1 22 0 0 G [(0, i), (0, m)] h (some (0, h)) :=
  con_of (by decide +kernel) (Nat.le_of_ble_eq_true rfl) fun X hX hS hi => by
    subst hX
    refine s_iload_n hS dJ0_checkIndex_df160_0 rfl 0 rfl ?_
    refine s_iload_n hS dJ0_checkIndex_df160_1 rfl 1 rfl ?_
    have K : ∀ q : Int, Sim (G, X, 2, 0, 0, none, 1, 22) 5 (l_a 0 [(0, i), (0, m)]) [(2, q), (0, m), (0, i)] 0 0 h (some (0, h)) := by
      intro q
      refine s_callS1 hS mo_J3_checkIndex_8e157 (ct_pre _ _ i m q h1 h2 h) tw_531 tw_532 ⟨Nat.le_of_ble_eq_true rfl, Nat.le_of_ble_eq_true rfl⟩ ⟨Nat.zero_le _, Nat.zero_le _⟩ rfl rfl (Nat.le_of_ble_eq_true rfl) dJ0_checkIndex_df160_5 ?_
      refine s_pop hS dJ0_checkIndex_df160_8 (by decide) ?_
      exact s_vret hS rfl (Nat.le_refl _) (Nat.le_refl _) dJ0_checkIndex_df160_9
    rcases hS.2.2.2.2.2.1.2.2.2.2.2.2.2 with hZ | hZ
    · exact s_gst hS (t := 2) (z := 0) hZ tw_529 dJ0_checkIndex_df160_2 (K 0)
    · refine s_gst hS (t := 2) (z := -13) ?_ tw_529 dJ0_checkIndex_df160_2 (K (-13))
      rw [lit_ref _ (by decide)]
      exact hZ
theorem nar_char {v : Int} (h1 : 0 ≤ v) (h2 : v < 128) : ((i32 (o_and v 255)).toUInt32 % 65536).toInt32 = i32 v ∧ narrow .char (.int (i32 v)) = .int (i32 v) := by
  have key : ∀ n : Fin 128, ((i32 (o_and (n.val : Int) 255)).toUInt32 % 65536).toInt32 = i32 (n.val : Int) ∧ narrow .char (.int (i32 (n.val : Int))) = .int (i32 (n.val : Int)) := by decide +kernel
  have := key ⟨v.toNat, by omega⟩
  rw [show ((⟨v.toNat, by omega⟩ : Fin 128).val : Int) = v by show ((v.toNat : Nat) : Int) = v; omega] at this
  exact this
theorem x_small' {z : Int} (h1 : -6 ≤ z) (h2 : z ≤ -1) : (x_t z).length < 100 ∧ ∀ j, j < (x_t z).length → ((x_t z).getD j ' ').toNat < 128 := by
  have h := x_small (-z - 1).toNat (by omega)
  rw [show -(((-z - 1).toNat : Nat) + 1 : Int) = z by omega] at h
  exact h
theorem ct_lchar (l : Launch) (G : GE) (z i : Int) (h1 : -6 ≤ z) (h2 : z ≤ -1) (h3 : 0 ≤ nm i) (h4 : nm i < ((x_t z).length : Int)) (h : AH) : Con l yJ1_charAt_3b067 cJ1_charAt_3b067 2 (some .char) 2 43 0 0 G [(2, z - 6), (0, i)] h (some ((((x_t z).getD (nm i).toNat ' ').toNat : Int), h)) :=
  con_of (by decide +kernel) (Nat.le_of_ble_eq_true rfl) fun X hX hS hi => by
    subst hX
    obtain ⟨s1, s2⟩ := x_small' h1 h2
    refine s_iload_n hS dJ1_charAt_3b067_0 rfl 1 rfl ?_
    refine s_aload_n hS dJ1_charAt_3b067_1 rfl 0 rfl ?_
    refine s_xal hS h1 h2 dJ1_charAt_3b067_2 ?_
    refine s_callS1 hS mo_J0_checkIndex_df160 (ct_check _ _ i _ h3 (by rw [nm_id (z := ((x_t z).length : Int)) (by omega) (by omega)]; exact h4) h) tw_526 tw_527 ⟨Nat.le_of_ble_eq_true rfl, Nat.le_of_ble_eq_true rfl⟩ ⟨Nat.zero_le _, Nat.zero_le _⟩ rfl rfl (Nat.le_of_ble_eq_true rfl) dJ1_charAt_3b067_3 ?_
    refine s_aload_n hS dJ1_charAt_3b067_6 rfl 0 rfl ?_
    refine s_iload_n hS dJ1_charAt_3b067_7 rfl 1 rfl ?_
    refine s_xbl hS h1 h2 h3 h4 dJ1_charAt_3b067_8 ?_
    refine s_sipush hS dJ1_charAt_3b067_9 (by decide +kernel) ?_
    refine s_iand hS dJ1_charAt_3b067_12 ?_
    have hc := nar_char (v := (((x_t z).getD (nm i).toNat ' ').toNat : Int)) (by omega) (by have := s2 (nm i).toNat (by omega); omega)
    refine s_i2c hS hc.1 dJ1_charAt_3b067_13 ?_
    exact s_nret hS rfl rfl hc.2 (Nat.le_refl _) (Nat.le_refl _) dJ1_charAt_3b067_14
theorem ct_char (l : Launch) (G : GE) (z i : Int) (h1 : -6 ≤ z) (h2 : z ≤ -1) (h3 : 0 ≤ nm i) (h4 : nm i < ((x_t z).length : Int)) (h : AH) : Con l yJ0_charAt_5068e cJ0_charAt_5068e 2 (some .char) 3 64 0 0 G [(2, z), (0, i)] h (some ((((x_t z).getD (nm i).toNat ' ').toNat : Int), h)) :=
  con_of (by decide +kernel) (Nat.le_of_ble_eq_true rfl) fun X hX hS hi => by
    subst hX
    obtain ⟨s1, s2⟩ := x_small' h1 h2
    refine s_aload_n hS dJ0_charAt_5068e_0 rfl 0 rfl ?_
    refine s_callX hS mo_J0_isLatin1_aae02 rfl h1 h2 (ct_latin _ _ z h1 h2 h) tw_519 tw_520 tw_521 ⟨Nat.le_of_ble_eq_true rfl, Nat.le_of_ble_eq_true rfl⟩ ⟨Nat.zero_le _, Nat.zero_le _⟩ rfl rfl (Nat.le_of_ble_eq_true rfl) dJ0_charAt_5068e_1 ?_
    have K : Sim (G, X, 2, 0, 0, some .char, 3, 64) 7 (l_a 0 [(2, z), (0, i)]) [] 0 0 h (some ((((x_t z).getD (nm i).toNat ' ').toNat : Int), h)) := by
      refine s_aload_n hS dJ0_charAt_5068e_7 rfl 0 rfl ?_
      refine s_gfl hS (by omega) (lit_S hS h1 h2).2.2.1 tw_1834 dJ0_charAt_5068e_8 ?_
      refine s_iload_n hS dJ0_charAt_5068e_11 rfl 1 rfl ?_
      refine s_callS1 hS mo_J1_charAt_3b067 (ct_lchar _ _ z i h1 h2 h3 h4 h) tw_523 tw_524 ⟨Nat.le_of_ble_eq_true rfl, Nat.le_of_ble_eq_true rfl⟩ ⟨Nat.zero_le _, Nat.zero_le _⟩ rfl rfl (Nat.le_of_ble_eq_true rfl) dJ0_charAt_5068e_12 ?_
      exact s_nret hS rfl rfl (nar_char (v := (((x_t z).getD (nm i).toNat ' ').toNat : Int)) (by omega) (by have := s2 (nm i).toNat (by omega); omega)).2 (Nat.le_refl _) (Nat.le_refl _) dJ0_charAt_5068e_15
    have := s_if_eq hS dJ0_charAt_5068e_4 (tgt := 16) rfl s_none K (x := 1)
    rw [nm_1, if_neg (by decide)] at this
    exact this
section SI
variable {S : SX} {own : String} {cc : ByteArray} {pc : Nat} {ls : List (Nat × Nat × Int)} {st : List (Nat × Int)} {k n : Nat} {h : AH} {o : Option (Int × AH)}
theorem s_slen (hS : SO S own cc) {z : Int} {ix : Nat} {f : Int → Option (Int × AH)} (w1 : Cond.methodLink own ix yJ0_length_8abf5 ∈ gw_) (hR : 9 ≤ S.2.2.2.2.2.2.1 ∧ 300 ≤ S.2.2.2.2.2.2.2) (hk : k ≤ S.2.2.2.1 ∧ n ≤ S.2.2.2.2.1) (hl : st.length ≤ 4) (d : decode cc pc = .ok (.invokevirtual ix, 3))
    (kk : ∀ v : Int, Sim S (pc + 3) ls ((0, v) :: st) k n h (f v)) : Sim S pc ls ((2, z) :: st) k n h ((x_n z).bind f) := by
  unfold x_n
  by_cases e : -6 ≤ z ∧ z ≤ -1
  · rw [if_pos e]
    exact s_callX hS mo_J0_length_8abf5 rfl e.1 e.2 (ct_length _ _ z e.1 e.2 h) w1 tw_506 tw_507 ⟨by omega, by omega⟩ hk rfl rfl hl d (kk _)
  · rw [if_neg e]; exact s_none
theorem s_schr (hS : SO S own cc) {z i : Int} {ix : Nat} {f : Int → Option (Int × AH)} (w1 : Cond.methodLink own ix yJ0_charAt_5068e ∈ gw_) (hR : 9 ≤ S.2.2.2.2.2.2.1 ∧ 300 ≤ S.2.2.2.2.2.2.2) (hk : k ≤ S.2.2.2.1 ∧ n ≤ S.2.2.2.2.1) (hl : st.length ≤ 4) (d : decode cc pc = .ok (.invokevirtual ix, 3))
    (kk : ∀ v : Int, Sim S (pc + 3) ls ((0, v) :: st) k n h (f v)) : Sim S pc ls ((0, i) :: (2, z) :: st) k n h ((x_c z i).bind f) := by
  unfold x_c
  by_cases e : -6 ≤ z ∧ z ≤ -1 ∧ 0 ≤ nm i ∧ nm i < ((x_t z).length : Int)
  · rw [if_pos e]
    exact s_callX (As := [(0, i)]) hS mo_J0_charAt_5068e rfl e.1 e.2.1 (ct_char _ _ z i e.1 e.2.1 e.2.2.1 e.2.2.2 h) w1 tw_516 tw_517 ⟨by omega, by omega⟩ hk rfl rfl hl d (kk _)
  · rw [if_neg e]; exact s_none
end SI
