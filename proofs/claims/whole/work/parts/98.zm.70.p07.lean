theorem gf_X10_148 {S : SX} {cc : ByteArray} {pc : Nat} {ls : List (Nat × Nat × Int)} {st : List (Nat × Int)} {k n : Nat} {h : AH} {a : Int} {f : Int → Option (Int × AH)} (hS : SO S RX10 cc) (d : decode cc pc = .ok (.getfield 148, 3)) (kk : ∀ v : Int, Sim S (pc + 3) ls ((0, v) :: st) k n h (f v)) : Sim S pc ls ((2, a) :: st) k n h ((g_f h 11 a 12).bind f) := s_getf hS cx_10 12 (by decide) tw_1150 rfl rfl rfl d kk
theorem pf_X10_148 {S : SX} {cc : ByteArray} {pc : Nat} {ls : List (Nat × Nat × Int)} {st : List (Nat × Int)} {k n : Nat} {h : AH} {a v : Int} {f : AH → Option (Int × AH)} (hS : SO S RX10 cc) (d : decode cc pc = .ok (.putfield 148, 3)) (kk : ∀ h2 : AH, Sim S (pc + 3) ls st k n h2 (f h2)) : Sim S pc ls ((0, v) :: (2, a) :: st) k n h ((s_f h 11 a 12 v).bind f) := s_putf hS cx_10 12 (by decide) tw_1150 rfl rfl (Or.inl rfl) rfl rfl d kk
abbrev S_M_makes (G : GE) (X : SMw) : SX := (G, X, 2, 0, 0, (some .boolean), 1, 22)
set_option maxRecDepth 100000 in
set_option maxHeartbeats 4000000 in
theorem b_M_makes {G : GE} {X : SMw} (hS : SO (S_M_makes G X) RX10 cX10_makes) (z0 z1 : Int) (h : AH) : Sim (S_M_makes G X) 0 [(0, 2, z0), (1, 0, z1)] [] 0 0 h (f_M_makes z0 z1 h) := by
  unfold f_M_makes
  refine s_aload_n hS dX10_makes_0 rfl 0 rfl ?_
  refine gf_X10_148 hS dX10_makes_1 fun v1 => ?_
  refine s_bipush hS dX10_makes_4 (by decide +kernel) ?_
  refine s_icmp_ne hS dX10_makes_6 rfl ?_ ?_
  · refine s_aload_n hS dX10_makes_16 rfl 0 rfl ?_
    refine s_dup hS dX10_makes_17 (by decide) ?_
    refine gf_X10_148 hS dX10_makes_18 fun v2 => ?_
    refine s_iconst hS dX10_makes_21 ?_
    refine s_iadd hS dX10_makes_22 ?_
    refine pf_X10_148 hS dX10_makes_23 fun h3 => ?_
    refine s_iconst hS dX10_makes_26 ?_
    exact s_zret hS rfl (Nat.le_of_ble_eq_true rfl) (Nat.le_of_ble_eq_true rfl) dX10_makes_27
  · refine s_aload_n hS dX10_makes_9 rfl 0 rfl ?_
    refine s_iconst hS dX10_makes_10 ?_
    refine s_iload_n hS dX10_makes_11 rfl 1 rfl ?_
    refine ca_X10_114 hS ⟨Nat.le_of_ble_eq_true rfl, Nat.le_of_ble_eq_true rfl⟩ ⟨Nat.le_of_ble_eq_true rfl, Nat.le_of_ble_eq_true rfl⟩ (Nat.le_of_ble_eq_true rfl) dX10_makes_12 fun v4 h5 => ?_
    exact s_zret hS rfl (Nat.le_of_ble_eq_true rfl) (Nat.le_of_ble_eq_true rfl) dX10_makes_15
theorem c_M_makes (l : Launch) (G : GE) (z0 z1 : Int) (h : AH) : Con l yX10_makes cX10_makes 2 (some .boolean) 1 22 0 0 G [(2, z0), (0, z1)] h (f_M_makes z0 z1 h) :=
  con_of (by decide +kernel) (Nat.le_of_ble_eq_true rfl) fun X hX hS hi => b_M_makes hS z0 z1 h
theorem gf_X10_151 {S : SX} {cc : ByteArray} {pc : Nat} {ls : List (Nat × Nat × Int)} {st : List (Nat × Int)} {k n : Nat} {h : AH} {a : Int} {f : Int → Option (Int × AH)} (hS : SO S RX10 cc) (d : decode cc pc = .ok (.getfield 151, 3)) (kk : ∀ v : Int, Sim S (pc + 3) ls ((0, v) :: st) k n h (f v)) : Sim S pc ls ((2, a) :: st) k n h ((g_f h 11 a 13).bind f) := s_getf hS cx_10 13 (by decide) tw_1151 rfl rfl rfl d kk
theorem pf_X10_151 {S : SX} {cc : ByteArray} {pc : Nat} {ls : List (Nat × Nat × Int)} {st : List (Nat × Int)} {k n : Nat} {h : AH} {a v : Int} {f : AH → Option (Int × AH)} (hS : SO S RX10 cc) (d : decode cc pc = .ok (.putfield 151, 3)) (kk : ∀ h2 : AH, Sim S (pc + 3) ls st k n h2 (f h2)) : Sim S pc ls ((0, v) :: (2, a) :: st) k n h ((s_f h 11 a 13 v).bind f) := s_putf hS cx_10 13 (by decide) tw_1151 rfl rfl (Or.inl rfl) rfl rfl d kk
theorem gf_X10_29 {S : SX} {cc : ByteArray} {pc : Nat} {ls : List (Nat × Nat × Int)} {st : List (Nat × Int)} {k n : Nat} {h : AH} {a : Int} {f : Int → Option (Int × AH)} (hS : SO S RX10 cc) (d : decode cc pc = .ok (.getfield 29, 3)) (kk : ∀ v : Int, Sim S (pc + 3) ls ((2, v) :: st) k n h (f v)) : Sim S pc ls ((2, a) :: st) k n h ((g_f h 11 a 15).bind f) := s_getf hS cx_10 15 (by decide) tw_1153 rfl rfl rfl d kk
theorem gf_X10_154 {S : SX} {cc : ByteArray} {pc : Nat} {ls : List (Nat × Nat × Int)} {st : List (Nat × Int)} {k n : Nat} {h : AH} {a : Int} {f : Int → Option (Int × AH)} (hS : SO S RX10 cc) (d : decode cc pc = .ok (.getfield 154, 3)) (kk : ∀ v : Int, Sim S (pc + 3) ls ((0, v) :: st) k n h (f v)) : Sim S pc ls ((2, a) :: st) k n h ((g_f h 11 a 16).bind f) := s_getf hS cx_10 16 (by decide) tw_1154 rfl rfl rfl d kk
theorem pf_X10_154 {S : SX} {cc : ByteArray} {pc : Nat} {ls : List (Nat × Nat × Int)} {st : List (Nat × Int)} {k n : Nat} {h : AH} {a v : Int} {f : AH → Option (Int × AH)} (hS : SO S RX10 cc) (d : decode cc pc = .ok (.putfield 154, 3)) (kk : ∀ h2 : AH, Sim S (pc + 3) ls st k n h2 (f h2)) : Sim S pc ls ((0, v) :: (2, a) :: st) k n h ((s_f h 11 a 16 v).bind f) := s_putf hS cx_10 16 (by decide) tw_1154 rfl rfl (Or.inl rfl) rfl rfl d kk
abbrev S_M_opens (G : GE) (X : SMw) : SX := (G, X, 2, 0, 0, (some .boolean), 1, 22)
set_option maxRecDepth 100000 in
set_option maxHeartbeats 4000000 in
theorem b_M_opens {G : GE} {X : SMw} (hS : SO (S_M_opens G X) RX10 cX10_opens) (z0 z1 : Int) (h : AH) : Sim (S_M_opens G X) 0 [(0, 2, z0), (1, 0, z1)] [] 0 0 h (f_M_opens z0 z1 h) := by
  unfold f_M_opens
  refine s_aload_n hS dX10_opens_0 rfl 0 rfl ?_
  refine gf_X10_151 hS dX10_opens_1 fun v1 => ?_
  refine s_bipush hS dX10_opens_4 (by decide +kernel) ?_
  refine s_icmp_ne hS dX10_opens_6 rfl ?_ ?_
  · refine s_aload_n hS dX10_opens_19 rfl 0 rfl ?_
    refine s_dup hS dX10_opens_20 (by decide) ?_
    refine gf_X10_151 hS dX10_opens_21 fun v2 => ?_
    refine s_iconst hS dX10_opens_24 ?_
    refine s_iadd hS dX10_opens_25 ?_
    refine pf_X10_151 hS dX10_opens_26 fun h3 => ?_
    refine s_aload_n hS dX10_opens_29 rfl 0 rfl ?_
    refine gf_X10_29 hS dX10_opens_30 fun v4 => ?_
    refine s_aload_n hS dX10_opens_33 rfl 0 rfl ?_
    refine gf_X10_154 hS dX10_opens_34 fun v5 => ?_
    refine s_iload_n hS dX10_opens_37 rfl 1 rfl ?_
    refine s_iast hS dX10_opens_38 fun h6 => ?_
    refine s_aload_n hS dX10_opens_39 rfl 0 rfl ?_
    refine s_dup hS dX10_opens_40 (by decide) ?_
    refine gf_X10_154 hS dX10_opens_41 fun v7 => ?_
    refine s_iconst hS dX10_opens_44 ?_
    refine s_iadd hS dX10_opens_45 ?_
    refine pf_X10_154 hS dX10_opens_46 fun h8 => ?_
    refine s_iconst hS dX10_opens_49 ?_
    exact s_zret hS rfl (Nat.le_of_ble_eq_true rfl) (Nat.le_of_ble_eq_true rfl) dX10_opens_50
  · refine s_aload_n hS dX10_opens_9 rfl 0 rfl ?_
    refine s_iconst hS dX10_opens_10 ?_
    refine s_aload_n hS dX10_opens_11 rfl 0 rfl ?_
    refine gf_X10_93 hS dX10_opens_12 fun v9 => ?_
    refine ca_X10_114 hS ⟨Nat.le_of_ble_eq_true rfl, Nat.le_of_ble_eq_true rfl⟩ ⟨Nat.le_of_ble_eq_true rfl, Nat.le_of_ble_eq_true rfl⟩ (Nat.le_of_ble_eq_true rfl) dX10_opens_15 fun v10 h11 => ?_
    exact s_zret hS rfl (Nat.le_of_ble_eq_true rfl) (Nat.le_of_ble_eq_true rfl) dX10_opens_18
theorem c_M_opens (l : Launch) (G : GE) (z0 z1 : Int) (h : AH) : Con l yX10_opens cX10_opens 2 (some .boolean) 1 22 0 0 G [(2, z0), (0, z1)] h (f_M_opens z0 z1 h) :=
  con_of (by decide +kernel) (Nat.le_of_ble_eq_true rfl) fun X hX hS hi => b_M_opens hS z0 z1 h
abbrev S_M_strength (G : GE) (X : SMw) : SX := (G, X, 1, 0, 0, (some .int), 0, 0)
set_option maxRecDepth 100000 in
set_option maxHeartbeats 4000000 in
theorem b_M_strength {G : GE} {X : SMw} (hS : SO (S_M_strength G X) RX10 cX10_strength) (z0 : Int) (h : AH) : Sim (S_M_strength G X) 0 [(0, 0, z0)] [] 0 0 h (f_M_strength z0 h) := by
  unfold f_M_strength
  refine s_iload_n hS dX10_strength_0 rfl 0 rfl ?_
  refine s_bipush hS dX10_strength_1 (by decide +kernel) ?_
  refine s_icmp_ne hS dX10_strength_3 rfl ?_ ?_
  · refine s_iload_n hS dX10_strength_10 rfl 0 rfl ?_
    refine s_bipush hS dX10_strength_11 (by decide +kernel) ?_
    refine s_icmp_ne hS dX10_strength_13 rfl ?_ ?_
    · refine s_iload_n hS dX10_strength_20 rfl 0 rfl ?_
      refine s_bipush hS dX10_strength_21 (by decide +kernel) ?_
      refine s_icmp_ne hS dX10_strength_23 rfl ?_ ?_
      · refine s_iconst hS dX10_strength_30 ?_
        exact s_iret hS rfl (Nat.le_of_ble_eq_true rfl) (Nat.le_of_ble_eq_true rfl) dX10_strength_31
      · refine s_iconst hS dX10_strength_26 ?_
        refine s_goto hS dX10_strength_27 rfl ?_
        exact s_iret hS rfl (Nat.le_of_ble_eq_true rfl) (Nat.le_of_ble_eq_true rfl) dX10_strength_31
    · refine s_iconst hS dX10_strength_16 ?_
      refine s_goto hS dX10_strength_17 rfl ?_
      exact s_iret hS rfl (Nat.le_of_ble_eq_true rfl) (Nat.le_of_ble_eq_true rfl) dX10_strength_31
  · refine s_iconst hS dX10_strength_6 ?_
    refine s_goto hS dX10_strength_7 rfl ?_
    exact s_iret hS rfl (Nat.le_of_ble_eq_true rfl) (Nat.le_of_ble_eq_true rfl) dX10_strength_31
theorem c_M_strength (l : Launch) (G : GE) (z0 : Int) (h : AH) : Con l yX10_strength cX10_strength 1 (some .int) 0 0 0 0 G [(0, z0)] h (f_M_strength z0 h) :=
  con_of (by decide +kernel) (Nat.le_of_ble_eq_true rfl) fun X hX hS hi => b_M_strength hS z0 h
theorem ca_X10_157 {S : SX} {cc : ByteArray} {pc : Nat} {ls : List (Nat × Nat × Int)} {st : List (Nat × Int)} {k n : Nat} {h : AH} {q0 : Int} {f : Int → AH → Option (Int × AH)} (hS : SO S RX10 cc) (hR : 0 + 1 ≤ S.2.2.2.2.2.2.1 ∧ 8 + (1 + 11) + 0 ≤ S.2.2.2.2.2.2.2) (hk : k + 0 ≤ S.2.2.2.1 ∧ n + 0 ≤ S.2.2.2.2.1) (hl : st.length ≤ 4) (d : decode cc pc = .ok (.invokestatic 157, 3)) (kk : ∀ (r : Int) (h2 : AH), Sim S (pc + 3) ls ((0, r) :: st) (k + 0) (n + 0) h2 (f r h2)) : Sim S pc ls ((0, q0) :: st) k n h (bd_ (f_M_strength q0 h) f) := s_callS hS mo_X10_strength (c_M_strength _ _ _ h) tw_1425 tw_1426 hR hk rfl rfl hl d kk
theorem ca_X10_161 {S : SX} {cc : ByteArray} {pc : Nat} {ls : List (Nat × Nat × Int)} {st : List (Nat × Int)} {k n : Nat} {h : AH} {q0 q1 b : Int} {f : Int → AH → Option (Int × AH)} (hS : SO S RX10 cc) (hR : 0 + 1 ≤ S.2.2.2.2.2.2.1 ∧ 8 + (3 + 11) + 0 ≤ S.2.2.2.2.2.2.2) (hk : k + 0 ≤ S.2.2.2.1 ∧ n + 0 ≤ S.2.2.2.2.1) (hl : st.length ≤ 4) (d : decode cc pc = .ok (.invokevirtual 161, 3)) (kk : ∀ (r : Int) (h2 : AH), Sim S (pc + 3) ls (st) (k + 0) (n + 0) h2 (f r h2)) : Sim S pc ls ((0, q1) :: (0, q0) :: (2, b) :: st) k n h (c_k h 11 b (bd_ (f_M_puts b q0 q1 h) f)) := s_callV hS mo_X10_puts rfl rfl (c_M_puts _ _ _ _ _ h) tw_1379 tw_1381 tw_52 hR hk rfl rfl hl d kk
abbrev S_M_layDown (G : GE) (X : SMw) : SX := (G, X, 2, 0, 0, none, 1, 22)
set_option maxRecDepth 100000 in
set_option maxHeartbeats 4000000 in
theorem B_M_layDown_0 {G : GE} {X : SMw} (hS : SO (S_M_layDown G X) RX10 cX10_layDown) (z0 z1 : Int) {k0 : AH → Option (Int × AH)} (hk0 : ∀ (h : AH), Sim (S_M_layDown G X) 0 [(0, 2, z0), (1, 0, z1)] [] 0 0 h (k0 h)) (h : AH) : Sim (S_M_layDown G X) 0 [(0, 2, z0), (1, 0, z1)] [] 0 0 h (F_M_layDown_0 z0 z1 k0 h) := by
  unfold F_M_layDown_0
  refine s_aload_n hS dX10_layDown_0 rfl 0 rfl ?_
  refine gf_X10_154 hS dX10_layDown_1 fun v1 => ?_
  refine s_if_le hS dX10_layDown_4 rfl ?_ ?_
  · exact s_vret hS rfl (Nat.le_of_ble_eq_true rfl) (Nat.le_of_ble_eq_true rfl) dX10_layDown_76
  · refine s_aload_n hS dX10_layDown_7 rfl 0 rfl ?_
    refine gf_X10_29 hS dX10_layDown_8 fun v2 => ?_
    refine s_aload_n hS dX10_layDown_11 rfl 0 rfl ?_
    refine gf_X10_154 hS dX10_layDown_12 fun v3 => ?_
    refine s_iconst hS dX10_layDown_15 ?_
    refine s_isub hS dX10_layDown_16 ?_
    refine s_iald hS dX10_layDown_17 fun v4 => ?_
    refine ca_X10_157 hS ⟨Nat.le_of_ble_eq_true rfl, Nat.le_of_ble_eq_true rfl⟩ ⟨Nat.le_of_ble_eq_true rfl, Nat.le_of_ble_eq_true rfl⟩ (Nat.le_of_ble_eq_true rfl) dX10_layDown_18 fun v5 h6 => ?_
    refine s_iload_n hS dX10_layDown_21 rfl 1 rfl ?_
    refine s_icmp_lt hS dX10_layDown_22 rfl ?_ ?_
    · exact s_vret hS rfl (Nat.le_of_ble_eq_true rfl) (Nat.le_of_ble_eq_true rfl) dX10_layDown_76
    · refine s_aload_n hS dX10_layDown_25 rfl 0 rfl ?_
      refine s_dup hS dX10_layDown_26 (by decide) ?_
      refine gf_X10_154 hS dX10_layDown_27 fun v7 => ?_
      refine s_iconst hS dX10_layDown_30 ?_
      refine s_isub hS dX10_layDown_31 ?_
      refine pf_X10_154 hS dX10_layDown_32 fun h8 => ?_
      refine s_aload_n hS dX10_layDown_35 rfl 0 rfl ?_
      refine s_aload_n hS dX10_layDown_36 rfl 0 rfl ?_
      refine gf_X10_29 hS dX10_layDown_37 fun v9 => ?_
      refine s_aload_n hS dX10_layDown_40 rfl 0 rfl ?_
      refine gf_X10_154 hS dX10_layDown_41 fun v10 => ?_
      refine s_iald hS dX10_layDown_44 fun v11 => ?_
      refine s_iconst hS dX10_layDown_45 ?_
      refine ca_X10_161 hS ⟨Nat.le_of_ble_eq_true rfl, Nat.le_of_ble_eq_true rfl⟩ ⟨Nat.le_of_ble_eq_true rfl, Nat.le_of_ble_eq_true rfl⟩ (Nat.le_of_ble_eq_true rfl) dX10_layDown_46 fun v12 h13 => ?_
      refine s_aload_n hS dX10_layDown_49 rfl 0 rfl ?_
      refine gf_X10_29 hS dX10_layDown_50 fun v14 => ?_
      refine s_aload_n hS dX10_layDown_53 rfl 0 rfl ?_
      refine gf_X10_154 hS dX10_layDown_54 fun v15 => ?_
      refine s_iald hS dX10_layDown_57 fun v16 => ?_
      refine s_bipush hS dX10_layDown_58 (by decide +kernel) ?_
      refine s_icmp_ne hS dX10_layDown_60 rfl ?_ ?_
      · exact hk0 _
      · refine s_aload_n hS dX10_layDown_63 rfl 0 rfl ?_
        refine s_dup hS dX10_layDown_64 (by decide) ?_
        refine gf_X10_151 hS dX10_layDown_65 fun v17 => ?_
        refine s_iconst hS dX10_layDown_68 ?_
        refine s_isub hS dX10_layDown_69 ?_
        refine pf_X10_151 hS dX10_layDown_70 fun h18 => ?_
        refine s_goto hS dX10_layDown_73 rfl ?_
        exact hk0 _
set_option maxRecDepth 100000 in
set_option maxHeartbeats 4000000 in
theorem b_M_layDown_0 {G : GE} {X : SMw} (hS : SO (S_M_layDown G X) RX10 cX10_layDown) (z0 z1 : Int) (h : AH) : Sim (S_M_layDown G X) 0 [(0, 2, z0), (1, 0, z1)] [] 0 0 h (f_M_layDown_0 z0 z1 h) := by
  exact s_loop (S := (S_M_layDown G X)) (lsf := fun s : AH => [(0, 2, z0), (1, 0, z1)]) (hf := fun s => s) (fun kf hkf s => B_M_layDown_0 hS z0 z1 (fun a0 => hkf (a0))  s) fu_ (h)
set_option maxRecDepth 100000 in
set_option maxHeartbeats 4000000 in
theorem b_M_layDown {G : GE} {X : SMw} (hS : SO (S_M_layDown G X) RX10 cX10_layDown) (z0 z1 : Int) (h : AH) : Sim (S_M_layDown G X) 0 [(0, 2, z0), (1, 0, z1)] [] 0 0 h (f_M_layDown z0 z1 h) := by
  unfold f_M_layDown
  refine s_ls [0, 1] rfl ?_
  exact b_M_layDown_0 hS _ _ _
theorem c_M_layDown (l : Launch) (G : GE) (z0 z1 : Int) (h : AH) : Con l yX10_layDown cX10_layDown 2 none 1 22 0 0 G [(2, z0), (0, z1)] h (f_M_layDown z0 z1 h) :=
  con_of (by decide +kernel) (Nat.le_of_ble_eq_true rfl) fun X hX hS hi => b_M_layDown hS z0 z1 h
theorem ca_X10_172 {S : SX} {cc : ByteArray} {pc : Nat} {ls : List (Nat × Nat × Int)} {st : List (Nat × Int)} {k n : Nat} {h : AH} {b : Int} {f : Int → AH → Option (Int × AH)} (hS : SO S RX10 cc) (hR : 2 + 1 ≤ S.2.2.2.2.2.2.1 ∧ 8 + (1 + 11) + 46 ≤ S.2.2.2.2.2.2.2) (hk : k + 0 ≤ S.2.2.2.1 ∧ n + 0 ≤ S.2.2.2.2.1) (hl : st.length ≤ 4) (d : decode cc pc = .ok (.invokevirtual 172, 3)) (kk : ∀ (r : Int) (h2 : AH), Sim S (pc + 3) ls ((0, r) :: st) (k + 0) (n + 0) h2 (f r h2)) : Sim S pc ls ((2, b) :: st) k n h (c_k h 11 b (bd_ (f_M_wordHere b h) f)) := s_callV hS mo_X10_wordHere rfl rfl (c_M_wordHere _ _ _ h) tw_1383 tw_1385 tw_53 hR hk rfl rfl hl d kk
theorem ca_X10_169 {S : SX} {cc : ByteArray} {pc : Nat} {ls : List (Nat × Nat × Int)} {st : List (Nat × Int)} {k n : Nat} {h : AH} {q0 b : Int} {f : Int → AH → Option (Int × AH)} (hS : SO S RX10 cc) (hR : 1 + 1 ≤ S.2.2.2.2.2.2.1 ∧ 8 + (2 + 11) + 22 ≤ S.2.2.2.2.2.2.2) (hk : k + 0 ≤ S.2.2.2.1 ∧ n + 0 ≤ S.2.2.2.2.1) (hl : st.length ≤ 4) (d : decode cc pc = .ok (.invokevirtual 169, 3)) (kk : ∀ (r : Int) (h2 : AH), Sim S (pc + 3) ls ((0, r) :: st) (k + 0) (n + 0) h2 (f r h2)) : Sim S pc ls ((0, q0) :: (2, b) :: st) k n h (c_k h 11 b (bd_ (f_M_makes b q0 h) f)) := s_callV hS mo_X10_makes rfl rfl (c_M_makes _ _ _ _ h) tw_1375 tw_1377 tw_51 hR hk rfl rfl hl d kk
theorem ca_X10_166 {S : SX} {cc : ByteArray} {pc : Nat} {ls : List (Nat × Nat × Int)} {st : List (Nat × Int)} {k n : Nat} {h : AH} {q0 q1 b : Int} {f : Int → AH → Option (Int × AH)} (hS : SO S RX10 cc) (hR : 1 + 1 ≤ S.2.2.2.2.2.2.1 ∧ 8 + (5 + 11) + 25 ≤ S.2.2.2.2.2.2.2) (hk : k + 0 ≤ S.2.2.2.1 ∧ n + 0 ≤ S.2.2.2.2.1) (hl : st.length ≤ 4) (d : decode cc pc = .ok (.invokevirtual 166, 3)) (kk : ∀ (r : Int) (h2 : AH), Sim S (pc + 3) ls ((0, r) :: st) (k + 0) (n + 0) h2 (f r h2)) : Sim S pc ls ((0, q1) :: (0, q0) :: (2, b) :: st) k n h (c_k h 11 b (bd_ (f_M_numberHere b q0 q1 h) f)) := s_callV hS mo_X10_numberHere rfl rfl (c_M_numberHere _ _ _ _ _ h) tw_1331 tw_1333 tw_41 hR hk rfl rfl hl d kk
theorem gf_X10_118 {S : SX} {cc : ByteArray} {pc : Nat} {ls : List (Nat × Nat × Int)} {st : List (Nat × Int)} {k n : Nat} {h : AH} {a : Int} {f : Int → Option (Int × AH)} (hS : SO S RX10 cc) (d : decode cc pc = .ok (.getfield 118, 3)) (kk : ∀ v : Int, Sim S (pc + 3) ls ((0, v) :: st) k n h (f v)) : Sim S pc ls ((2, a) :: st) k n h ((g_f h 11 a 10).bind f) := s_getf hS cx_10 10 (by decide) tw_1148 rfl rfl rfl d kk
abbrev S_M_value (G : GE) (X : SMw) : SX := (G, X, 3, 0, 0, (some .boolean), 3, 66)
set_option maxRecDepth 100000 in
set_option maxHeartbeats 4000000 in
theorem b_M_value {G : GE} {X : SMw} (hS : SO (S_M_value G X) RX10 cX10_value) (z0 : Int) (h : AH) : Sim (S_M_value G X) 0 [(0, 2, z0)] [] 0 0 h (f_M_value z0 h) := by
  unfold f_M_value
  refine s_aload_n hS dX10_value_0 rfl 0 rfl ?_
  refine ca_X10_96 hS ⟨Nat.le_of_ble_eq_true rfl, Nat.le_of_ble_eq_true rfl⟩ ⟨Nat.le_of_ble_eq_true rfl, Nat.le_of_ble_eq_true rfl⟩ (Nat.le_of_ble_eq_true rfl) dX10_value_1 fun v1 h2 => ?_
  refine s_pop hS dX10_value_4 (by decide) ?_
  refine s_aload_n hS dX10_value_5 rfl 0 rfl ?_
  refine gf_X10_93 hS dX10_value_6 fun v3 => ?_
  refine s_istore_n hS dX10_value_9 rfl (Nat.le_of_ble_eq_true rfl) (ls' := [(1, 0, v3), (0, 2, z0)]) rfl ?_
  refine s_aload_n hS dX10_value_10 rfl 1 rfl ?_
  refine s_aload_n hS dX10_value_11 rfl 1 rfl ?_
  refine gf_X10_93 hS dX10_value_12 fun v4 => ?_
  refine ca_X10_111 hS ⟨Nat.le_of_ble_eq_true rfl, Nat.le_of_ble_eq_true rfl⟩ ⟨Nat.le_of_ble_eq_true rfl, Nat.le_of_ble_eq_true rfl⟩ (Nat.le_of_ble_eq_true rfl) dX10_value_15 fun v5 h6 => ?_
  refine s_if_eq hS dX10_value_18 rfl ?_ ?_
  · refine s_aload_n hS dX10_value_52 rfl 1 rfl ?_
    refine ca_X10_172 hS ⟨Nat.le_of_ble_eq_true rfl, Nat.le_of_ble_eq_true rfl⟩ ⟨Nat.le_of_ble_eq_true rfl, Nat.le_of_ble_eq_true rfl⟩ (Nat.le_of_ble_eq_true rfl) dX10_value_53 fun v7 h8 => ?_
    refine s_istore_n hS dX10_value_56 rfl (Nat.le_of_ble_eq_true rfl) (ls' := [(2, 0, v7), (1, 0, v3), (0, 2, z0)]) rfl ?_
    refine s_iload_n hS dX10_value_57 rfl 0 rfl ?_
    refine s_if_ge hS dX10_value_58 rfl ?_ ?_
    · refine s_aload_n hS dX10_value_68 rfl 2 rfl ?_
      refine s_iload_n hS dX10_value_69 rfl 1 rfl ?_
      refine ca_X10_169 hS ⟨Nat.le_of_ble_eq_true rfl, Nat.le_of_ble_eq_true rfl⟩ ⟨Nat.le_of_ble_eq_true rfl, Nat.le_of_ble_eq_true rfl⟩ (Nat.le_of_ble_eq_true rfl) dX10_value_70 fun v9 h10 => ?_
      refine s_if_ne hS dX10_value_73 rfl ?_ ?_
      · refine s_aload_n hS dX10_value_78 rfl 2 rfl ?_
        refine ca_X10_108 hS ⟨Nat.le_of_ble_eq_true rfl, Nat.le_of_ble_eq_true rfl⟩ ⟨Nat.le_of_ble_eq_true rfl, Nat.le_of_ble_eq_true rfl⟩ (Nat.le_of_ble_eq_true rfl) dX10_value_79 fun v11 h12 => ?_
        refine s_aload_n hS dX10_value_82 rfl 2 rfl ?_
        refine s_iconst hS dX10_value_83 ?_
        refine s_iload_n hS dX10_value_84 rfl 0 rfl ?_
        refine ca_X10_161 hS ⟨Nat.le_of_ble_eq_true rfl, Nat.le_of_ble_eq_true rfl⟩ ⟨Nat.le_of_ble_eq_true rfl, Nat.le_of_ble_eq_true rfl⟩ (Nat.le_of_ble_eq_true rfl) dX10_value_85 fun v13 h14 => ?_
        refine s_iconst hS dX10_value_88 ?_
        exact s_zret hS rfl (Nat.le_of_ble_eq_true rfl) (Nat.le_of_ble_eq_true rfl) dX10_value_89
      · refine s_iconst hS dX10_value_76 ?_
        exact s_zret hS rfl (Nat.le_of_ble_eq_true rfl) (Nat.le_of_ble_eq_true rfl) dX10_value_77
    · refine s_aload_n hS dX10_value_61 rfl 2 rfl ?_
      refine s_iconst hS dX10_value_62 ?_
      refine s_iload_n hS dX10_value_63 rfl 1 rfl ?_
      refine ca_X10_114 hS ⟨Nat.le_of_ble_eq_true rfl, Nat.le_of_ble_eq_true rfl⟩ ⟨Nat.le_of_ble_eq_true rfl, Nat.le_of_ble_eq_true rfl⟩ (Nat.le_of_ble_eq_true rfl) dX10_value_64 fun v15 h16 => ?_
      exact s_zret hS rfl (Nat.le_of_ble_eq_true rfl) (Nat.le_of_ble_eq_true rfl) dX10_value_67
  · refine s_aload_n hS dX10_value_21 rfl 1 rfl ?_
    refine s_iconst hS dX10_value_22 ?_
    refine s_ldc hS (z := 99999) tw_1374 (by decide +kernel) dX10_value_23 ?_
    refine ca_X10_166 hS ⟨Nat.le_of_ble_eq_true rfl, Nat.le_of_ble_eq_true rfl⟩ ⟨Nat.le_of_ble_eq_true rfl, Nat.le_of_ble_eq_true rfl⟩ (Nat.le_of_ble_eq_true rfl) dX10_value_25 fun v17 h18 => ?_
    refine s_if_eq hS dX10_value_28 rfl ?_ ?_
    · refine s_iconst hS dX10_value_39 ?_
      exact s_zret hS rfl (Nat.le_of_ble_eq_true rfl) (Nat.le_of_ble_eq_true rfl) dX10_value_40
    · refine s_aload_n hS dX10_value_31 rfl 1 rfl ?_
      refine s_iload_n hS dX10_value_32 rfl 0 rfl ?_
      refine ca_X10_169 hS ⟨Nat.le_of_ble_eq_true rfl, Nat.le_of_ble_eq_true rfl⟩ ⟨Nat.le_of_ble_eq_true rfl, Nat.le_of_ble_eq_true rfl⟩ (Nat.le_of_ble_eq_true rfl) dX10_value_33 fun v19 h20 => ?_
      refine s_if_ne hS dX10_value_36 rfl ?_ ?_
      · refine s_aload_n hS dX10_value_41 rfl 1 rfl ?_
        refine s_iconst hS dX10_value_42 ?_
        refine s_aload_n hS dX10_value_43 rfl 1 rfl ?_
        refine gf_X10_118 hS dX10_value_44 fun v21 => ?_
        refine ca_X10_161 hS ⟨Nat.le_of_ble_eq_true rfl, Nat.le_of_ble_eq_true rfl⟩ ⟨Nat.le_of_ble_eq_true rfl, Nat.le_of_ble_eq_true rfl⟩ (Nat.le_of_ble_eq_true rfl) dX10_value_47 fun v22 h23 => ?_
        refine s_iconst hS dX10_value_50 ?_
        exact s_zret hS rfl (Nat.le_of_ble_eq_true rfl) (Nat.le_of_ble_eq_true rfl) dX10_value_51
      · refine s_iconst hS dX10_value_39 ?_
        exact s_zret hS rfl (Nat.le_of_ble_eq_true rfl) (Nat.le_of_ble_eq_true rfl) dX10_value_40
theorem c_M_value (l : Launch) (G : GE) (z0 : Int) (h : AH) : Con l yX10_value cX10_value 3 (some .boolean) 3 66 0 0 G [(2, z0)] h (f_M_value z0 h) :=
  con_of (by decide +kernel) (Nat.le_of_ble_eq_true rfl) fun X hX hS hi => b_M_value hS z0 h
theorem ca_X10_175 {S : SX} {cc : ByteArray} {pc : Nat} {ls : List (Nat × Nat × Int)} {st : List (Nat × Int)} {k n : Nat} {h : AH} {b : Int} {f : Int → AH → Option (Int × AH)} (hS : SO S RX10 cc) (hR : 3 + 1 ≤ S.2.2.2.2.2.2.1 ∧ 8 + (3 + 11) + 66 ≤ S.2.2.2.2.2.2.2) (hk : k + 0 ≤ S.2.2.2.1 ∧ n + 0 ≤ S.2.2.2.2.1) (hl : st.length ≤ 4) (d : decode cc pc = .ok (.invokevirtual 175, 3)) (kk : ∀ (r : Int) (h2 : AH), Sim S (pc + 3) ls ((0, r) :: st) (k + 0) (n + 0) h2 (f r h2)) : Sim S pc ls ((2, b) :: st) k n h (c_k h 11 b (bd_ (f_M_value b h) f)) := s_callV hS mo_X10_value rfl rfl (c_M_value _ _ _ h) tw_1370 tw_1372 tw_50 hR hk rfl rfl hl d kk
abbrev S_M_term (G : GE) (X : SMw) : SX := (G, X, 2, 0, 0, (some .boolean), 4, 88)
set_option maxRecDepth 100000 in
set_option maxHeartbeats 4000000 in
theorem b_M_term_74 {G : GE} {X : SMw} (hS : SO (S_M_term G X) RX10 cX10_term) (z0 : Int) {k9 : AH → Option (Int × AH)} (hk9 : ∀ (h : AH), Sim (S_M_term G X) 9 [(0, 2, z0)] [] 0 0 h (k9 h)) (w0 : Int) (h : AH) : Sim (S_M_term G X) 74 [(0, 2, z0)] [(0, w0)] 0 0 h (f_M_term_74 k9 z0 w0 h) := by
  unfold f_M_term_74
  refine s_istore_n hS dX10_term_74 rfl (Nat.le_of_ble_eq_true rfl) (ls' := [(1, 0, w0), (0, 2, z0)]) rfl ?_
  refine s_aload_n hS dX10_term_75 rfl 1 rfl ?_
  refine s_dup hS dX10_term_76 (by decide) ?_
  refine gf_X10_93 hS dX10_term_77 fun v1 => ?_
  refine s_iconst hS dX10_term_80 ?_
  refine s_iadd hS dX10_term_81 ?_
  refine pf_X10_93 hS dX10_term_82 fun h2 => ?_
  refine s_aload_n hS dX10_term_85 rfl 1 rfl ?_
  refine ca_X10_175 hS ⟨Nat.le_of_ble_eq_true rfl, Nat.le_of_ble_eq_true rfl⟩ ⟨Nat.le_of_ble_eq_true rfl, Nat.le_of_ble_eq_true rfl⟩ (Nat.le_of_ble_eq_true rfl) dX10_term_86 fun v3 h4 => ?_
  refine s_if_ne hS dX10_term_89 rfl ?_ ?_
  · refine s_aload_n hS dX10_term_94 rfl 1 rfl ?_
    refine s_iload_n hS dX10_term_95 rfl 0 rfl ?_
    refine s_iconst hS dX10_term_96 ?_
    refine ca_X10_161 hS ⟨Nat.le_of_ble_eq_true rfl, Nat.le_of_ble_eq_true rfl⟩ ⟨Nat.le_of_ble_eq_true rfl, Nat.le_of_ble_eq_true rfl⟩ (Nat.le_of_ble_eq_true rfl) dX10_term_97 fun v5 h6 => ?_
    refine s_goto hS dX10_term_100 rfl ?_
    refine s_ls [1] rfl ?_
    exact hk9 _
  · refine s_iconst hS dX10_term_92 ?_
    exact s_zret hS rfl (Nat.le_of_ble_eq_true rfl) (Nat.le_of_ble_eq_true rfl) dX10_term_93
set_option maxRecDepth 100000 in
set_option maxHeartbeats 4000000 in
theorem b_M_term_36 {G : GE} {X : SMw} (hS : SO (S_M_term G X) RX10 cX10_term) (z0 : Int) {k9 : AH → Option (Int × AH)} (hk9 : ∀ (h : AH), Sim (S_M_term G X) 9 [(0, 2, z0)] [] 0 0 h (k9 h)) (h : AH) : Sim (S_M_term G X) 36 [(0, 2, z0)] [] 0 0 h (f_M_term_36 k9 z0 h) := by
  unfold f_M_term_36
  refine s_aload_n hS dX10_term_36 rfl 0 rfl ?_
  refine gf_X10_7 hS dX10_term_37 fun v1 => ?_
  refine s_aload_n hS dX10_term_40 rfl 0 rfl ?_
  refine gf_X10_93 hS dX10_term_41 fun v2 => ?_
  refine s_bald hS dX10_term_44 fun v3 => ?_
  refine s_bipush hS dX10_term_45 (by decide +kernel) ?_
  refine s_icmp_ne hS dX10_term_47 rfl ?_ ?_
  · refine s_aload_n hS dX10_term_54 rfl 0 rfl ?_
    refine gf_X10_7 hS dX10_term_55 fun v4 => ?_
    refine s_aload_n hS dX10_term_58 rfl 0 rfl ?_
    refine gf_X10_93 hS dX10_term_59 fun v5 => ?_
    refine s_bald hS dX10_term_62 fun v6 => ?_
    refine s_bipush hS dX10_term_63 (by decide +kernel) ?_
    refine s_icmp_ne hS dX10_term_65 rfl ?_ ?_
    · refine s_bipush hS dX10_term_72 (by decide +kernel) ?_
      exact b_M_term_74 hS _ hk9 _ _
    · refine s_iconst hS dX10_term_68 ?_
      refine s_goto hS dX10_term_69 rfl ?_
      exact b_M_term_74 hS _ hk9 _ _
  · refine s_iconst hS dX10_term_50 ?_
    refine s_goto hS dX10_term_51 rfl ?_
    exact b_M_term_74 hS _ hk9 _ _
set_option maxRecDepth 100000 in
set_option maxHeartbeats 4000000 in
theorem B_M_term_9 {G : GE} {X : SMw} (hS : SO (S_M_term G X) RX10 cX10_term) (z0 : Int) {k9 : AH → Option (Int × AH)} (hk9 : ∀ (h : AH), Sim (S_M_term G X) 9 [(0, 2, z0)] [] 0 0 h (k9 h)) (h : AH) : Sim (S_M_term G X) 9 [(0, 2, z0)] [] 0 0 h (F_M_term_9 z0 k9 h) := by
  unfold F_M_term_9
  refine s_aload_n hS dX10_term_9 rfl 0 rfl ?_
  refine ca_X10_96 hS ⟨Nat.le_of_ble_eq_true rfl, Nat.le_of_ble_eq_true rfl⟩ ⟨Nat.le_of_ble_eq_true rfl, Nat.le_of_ble_eq_true rfl⟩ (Nat.le_of_ble_eq_true rfl) dX10_term_10 fun v1 h2 => ?_
  refine s_bipush hS dX10_term_13 (by decide +kernel) ?_
  refine s_icmp_eq hS dX10_term_15 rfl ?_ ?_
  · exact b_M_term_36 hS _ hk9 _
  · refine s_aload_n hS dX10_term_18 rfl 0 rfl ?_
    refine ca_X10_96 hS ⟨Nat.le_of_ble_eq_true rfl, Nat.le_of_ble_eq_true rfl⟩ ⟨Nat.le_of_ble_eq_true rfl, Nat.le_of_ble_eq_true rfl⟩ (Nat.le_of_ble_eq_true rfl) dX10_term_19 fun v3 h4 => ?_
    refine s_bipush hS dX10_term_22 (by decide +kernel) ?_
    refine s_icmp_eq hS dX10_term_24 rfl ?_ ?_
    · exact b_M_term_36 hS _ hk9 _
    · refine s_aload_n hS dX10_term_27 rfl 0 rfl ?_
      refine ca_X10_96 hS ⟨Nat.le_of_ble_eq_true rfl, Nat.le_of_ble_eq_true rfl⟩ ⟨Nat.le_of_ble_eq_true rfl, Nat.le_of_ble_eq_true rfl⟩ (Nat.le_of_ble_eq_true rfl) dX10_term_28 fun v5 h6 => ?_
      refine s_bipush hS dX10_term_31 (by decide +kernel) ?_
      refine s_icmp_ne hS dX10_term_33 rfl ?_ ?_
      · refine s_iconst hS dX10_term_103 ?_
        exact s_zret hS rfl (Nat.le_of_ble_eq_true rfl) (Nat.le_of_ble_eq_true rfl) dX10_term_104
      · exact b_M_term_36 hS _ hk9 _
set_option maxRecDepth 100000 in
set_option maxHeartbeats 4000000 in
theorem b_M_term_9 {G : GE} {X : SMw} (hS : SO (S_M_term G X) RX10 cX10_term) (z0 : Int) (h : AH) : Sim (S_M_term G X) 9 [(0, 2, z0)] [] 0 0 h (f_M_term_9 z0 h) := by
  exact s_loop (S := (S_M_term G X)) (lsf := fun s : AH => [(0, 2, z0)]) (hf := fun s => s) (fun kf hkf s => B_M_term_9 hS z0 (fun a0 => hkf (a0))  s) fu_ (h)
set_option maxRecDepth 100000 in
set_option maxHeartbeats 4000000 in
theorem b_M_term {G : GE} {X : SMw} (hS : SO (S_M_term G X) RX10 cX10_term) (z0 : Int) (h : AH) : Sim (S_M_term G X) 0 [(0, 2, z0)] [] 0 0 h (f_M_term z0 h) := by
  unfold f_M_term
  refine s_aload_n hS dX10_term_0 rfl 0 rfl ?_
  refine ca_X10_175 hS ⟨Nat.le_of_ble_eq_true rfl, Nat.le_of_ble_eq_true rfl⟩ ⟨Nat.le_of_ble_eq_true rfl, Nat.le_of_ble_eq_true rfl⟩ (Nat.le_of_ble_eq_true rfl) dX10_term_1 fun v1 h2 => ?_
  refine s_if_ne hS dX10_term_4 rfl ?_ ?_
  · exact b_M_term_9 hS _ _
  · refine s_iconst hS dX10_term_7 ?_
    exact s_zret hS rfl (Nat.le_of_ble_eq_true rfl) (Nat.le_of_ble_eq_true rfl) dX10_term_8
theorem c_M_term (l : Launch) (G : GE) (z0 : Int) (h : AH) : Con l yX10_term cX10_term 2 (some .boolean) 4 88 0 0 G [(2, z0)] h (f_M_term z0 h) :=
  con_of (by decide +kernel) (Nat.le_of_ble_eq_true rfl) fun X hX hS hi => b_M_term hS z0 h
theorem ca_X10_179 {S : SX} {cc : ByteArray} {pc : Nat} {ls : List (Nat × Nat × Int)} {st : List (Nat × Int)} {k n : Nat} {h : AH} {b : Int} {f : Int → AH → Option (Int × AH)} (hS : SO S RX10 cc) (hR : 4 + 1 ≤ S.2.2.2.2.2.2.1 ∧ 8 + (2 + 11) + 88 ≤ S.2.2.2.2.2.2.2) (hk : k + 0 ≤ S.2.2.2.1 ∧ n + 0 ≤ S.2.2.2.2.1) (hl : st.length ≤ 4) (d : decode cc pc = .ok (.invokevirtual 179, 3)) (kk : ∀ (r : Int) (h2 : AH), Sim S (pc + 3) ls ((0, r) :: st) (k + 0) (n + 0) h2 (f r h2)) : Sim S pc ls ((2, b) :: st) k n h (c_k h 11 b (bd_ (f_M_term b h) f)) := s_callV hS mo_X10_term rfl rfl (c_M_term _ _ _ h) tw_1366 tw_1368 tw_49 hR hk rfl rfl hl d kk
abbrev S_M_sum (G : GE) (X : SMw) : SX := (G, X, 2, 0, 0, (some .boolean), 5, 109)
set_option maxRecDepth 100000 in
set_option maxHeartbeats 4000000 in
theorem b_M_sum_46 {G : GE} {X : SMw} (hS : SO (S_M_sum G X) RX10 cX10_sum) (z0 : Int) {k9 : AH → Option (Int × AH)} (hk9 : ∀ (h : AH), Sim (S_M_sum G X) 9 [(0, 2, z0)] [] 0 0 h (k9 h)) (w0 : Int) (h : AH) : Sim (S_M_sum G X) 46 [(0, 2, z0)] [(0, w0)] 0 0 h (f_M_sum_46 k9 z0 w0 h) := by
  unfold f_M_sum_46
  refine s_istore_n hS dX10_sum_46 rfl (Nat.le_of_ble_eq_true rfl) (ls' := [(1, 0, w0), (0, 2, z0)]) rfl ?_
  refine s_aload_n hS dX10_sum_47 rfl 1 rfl ?_
  refine s_dup hS dX10_sum_48 (by decide) ?_
  refine gf_X10_93 hS dX10_sum_49 fun v1 => ?_
  refine s_iconst hS dX10_sum_52 ?_
  refine s_iadd hS dX10_sum_53 ?_
  refine pf_X10_93 hS dX10_sum_54 fun h2 => ?_
  refine s_aload_n hS dX10_sum_57 rfl 1 rfl ?_
  refine ca_X10_179 hS ⟨Nat.le_of_ble_eq_true rfl, Nat.le_of_ble_eq_true rfl⟩ ⟨Nat.le_of_ble_eq_true rfl, Nat.le_of_ble_eq_true rfl⟩ (Nat.le_of_ble_eq_true rfl) dX10_sum_58 fun v3 h4 => ?_
  refine s_if_ne hS dX10_sum_61 rfl ?_ ?_
  · refine s_aload_n hS dX10_sum_66 rfl 1 rfl ?_
    refine s_iload_n hS dX10_sum_67 rfl 0 rfl ?_
    refine s_iconst hS dX10_sum_68 ?_
    refine ca_X10_161 hS ⟨Nat.le_of_ble_eq_true rfl, Nat.le_of_ble_eq_true rfl⟩ ⟨Nat.le_of_ble_eq_true rfl, Nat.le_of_ble_eq_true rfl⟩ (Nat.le_of_ble_eq_true rfl) dX10_sum_69 fun v5 h6 => ?_
    refine s_goto hS dX10_sum_72 rfl ?_
    refine s_ls [1] rfl ?_
    exact hk9 _
  · refine s_iconst hS dX10_sum_64 ?_
    exact s_zret hS rfl (Nat.le_of_ble_eq_true rfl) (Nat.le_of_ble_eq_true rfl) dX10_sum_65
set_option maxRecDepth 100000 in
set_option maxHeartbeats 4000000 in
theorem b_M_sum_27 {G : GE} {X : SMw} (hS : SO (S_M_sum G X) RX10 cX10_sum) (z0 : Int) {k9 : AH → Option (Int × AH)} (hk9 : ∀ (h : AH), Sim (S_M_sum G X) 9 [(0, 2, z0)] [] 0 0 h (k9 h)) (h : AH) : Sim (S_M_sum G X) 27 [(0, 2, z0)] [] 0 0 h (f_M_sum_27 k9 z0 h) := by
  unfold f_M_sum_27
  refine s_aload_n hS dX10_sum_27 rfl 0 rfl ?_
  refine gf_X10_7 hS dX10_sum_28 fun v1 => ?_
  refine s_aload_n hS dX10_sum_31 rfl 0 rfl ?_
  refine gf_X10_93 hS dX10_sum_32 fun v2 => ?_
  refine s_bald hS dX10_sum_35 fun v3 => ?_
  refine s_bipush hS dX10_sum_36 (by decide +kernel) ?_
  refine s_icmp_ne hS dX10_sum_38 rfl ?_ ?_
  · refine s_iconst hS dX10_sum_45 ?_
    exact b_M_sum_46 hS _ hk9 _ _
  · refine s_iconst hS dX10_sum_41 ?_
    refine s_goto hS dX10_sum_42 rfl ?_
    exact b_M_sum_46 hS _ hk9 _ _
set_option maxRecDepth 100000 in
set_option maxHeartbeats 4000000 in
theorem B_M_sum_9 {G : GE} {X : SMw} (hS : SO (S_M_sum G X) RX10 cX10_sum) (z0 : Int) {k9 : AH → Option (Int × AH)} (hk9 : ∀ (h : AH), Sim (S_M_sum G X) 9 [(0, 2, z0)] [] 0 0 h (k9 h)) (h : AH) : Sim (S_M_sum G X) 9 [(0, 2, z0)] [] 0 0 h (F_M_sum_9 z0 k9 h) := by
  unfold F_M_sum_9
  refine s_aload_n hS dX10_sum_9 rfl 0 rfl ?_
  refine ca_X10_96 hS ⟨Nat.le_of_ble_eq_true rfl, Nat.le_of_ble_eq_true rfl⟩ ⟨Nat.le_of_ble_eq_true rfl, Nat.le_of_ble_eq_true rfl⟩ (Nat.le_of_ble_eq_true rfl) dX10_sum_10 fun v1 h2 => ?_
  refine s_bipush hS dX10_sum_13 (by decide +kernel) ?_
  refine s_icmp_eq hS dX10_sum_15 rfl ?_ ?_
  · exact b_M_sum_27 hS _ hk9 _
  · refine s_aload_n hS dX10_sum_18 rfl 0 rfl ?_
    refine ca_X10_96 hS ⟨Nat.le_of_ble_eq_true rfl, Nat.le_of_ble_eq_true rfl⟩ ⟨Nat.le_of_ble_eq_true rfl, Nat.le_of_ble_eq_true rfl⟩ (Nat.le_of_ble_eq_true rfl) dX10_sum_19 fun v3 h4 => ?_
    refine s_bipush hS dX10_sum_22 (by decide +kernel) ?_
    refine s_icmp_ne hS dX10_sum_24 rfl ?_ ?_
    · refine s_iconst hS dX10_sum_75 ?_
      exact s_zret hS rfl (Nat.le_of_ble_eq_true rfl) (Nat.le_of_ble_eq_true rfl) dX10_sum_76
    · exact b_M_sum_27 hS _ hk9 _
set_option maxRecDepth 100000 in
set_option maxHeartbeats 4000000 in
theorem b_M_sum_9 {G : GE} {X : SMw} (hS : SO (S_M_sum G X) RX10 cX10_sum) (z0 : Int) (h : AH) : Sim (S_M_sum G X) 9 [(0, 2, z0)] [] 0 0 h (f_M_sum_9 z0 h) := by
  exact s_loop (S := (S_M_sum G X)) (lsf := fun s : AH => [(0, 2, z0)]) (hf := fun s => s) (fun kf hkf s => B_M_sum_9 hS z0 (fun a0 => hkf (a0))  s) fu_ (h)
set_option maxRecDepth 100000 in
set_option maxHeartbeats 4000000 in
theorem b_M_sum {G : GE} {X : SMw} (hS : SO (S_M_sum G X) RX10 cX10_sum) (z0 : Int) (h : AH) : Sim (S_M_sum G X) 0 [(0, 2, z0)] [] 0 0 h (f_M_sum z0 h) := by
  unfold f_M_sum
  refine s_aload_n hS dX10_sum_0 rfl 0 rfl ?_
  refine ca_X10_179 hS ⟨Nat.le_of_ble_eq_true rfl, Nat.le_of_ble_eq_true rfl⟩ ⟨Nat.le_of_ble_eq_true rfl, Nat.le_of_ble_eq_true rfl⟩ (Nat.le_of_ble_eq_true rfl) dX10_sum_1 fun v1 h2 => ?_
  refine s_if_ne hS dX10_sum_4 rfl ?_ ?_
  · exact b_M_sum_9 hS _ _
  · refine s_iconst hS dX10_sum_7 ?_
    exact s_zret hS rfl (Nat.le_of_ble_eq_true rfl) (Nat.le_of_ble_eq_true rfl) dX10_sum_8
theorem c_M_sum (l : Launch) (G : GE) (z0 : Int) (h : AH) : Con l yX10_sum cX10_sum 2 (some .boolean) 5 109 0 0 G [(2, z0)] h (f_M_sum z0 h) :=
  con_of (by decide +kernel) (Nat.le_of_ble_eq_true rfl) fun X hX hS hi => b_M_sum hS z0 h
theorem ca_X10_182 {S : SX} {cc : ByteArray} {pc : Nat} {ls : List (Nat × Nat × Int)} {st : List (Nat × Int)} {k n : Nat} {h : AH} {b : Int} {f : Int → AH → Option (Int × AH)} (hS : SO S RX10 cc) (hR : 5 + 1 ≤ S.2.2.2.2.2.2.1 ∧ 8 + (2 + 11) + 109 ≤ S.2.2.2.2.2.2.2) (hk : k + 0 ≤ S.2.2.2.1 ∧ n + 0 ≤ S.2.2.2.2.1) (hl : st.length ≤ 4) (d : decode cc pc = .ok (.invokevirtual 182, 3)) (kk : ∀ (r : Int) (h2 : AH), Sim S (pc + 3) ls ((0, r) :: st) (k + 0) (n + 0) h2 (f r h2)) : Sim S pc ls ((2, b) :: st) k n h (c_k h 11 b (bd_ (f_M_sum b h) f)) := s_callV hS mo_X10_sum rfl rfl (c_M_sum _ _ _ h) tw_1362 tw_1364 tw_48 hR hk rfl rfl hl d kk
abbrev S_M_compare (G : GE) (X : SMw) : SX := (G, X, 5, 0, 0, (some .boolean), 6, 130)
set_option maxRecDepth 100000 in
set_option maxHeartbeats 4000000 in
theorem b_M_compare_152 {G : GE} {X : SMw} (hS : SO (S_M_compare G X) RX10 cX10_compare) (z0 w0 : Int) (h : AH) : Sim (S_M_compare G X) 152 [(0, 2, z0)] [(0, w0)] 0 0 h (f_M_compare_152 z0 w0 h) := by
  unfold f_M_compare_152
  refine s_istore hS dX10_compare_152 (Nat.le_of_ble_eq_true rfl) (ls' := [(4, 0, w0), (0, 2, z0)]) rfl ?_
  refine s_aload_n hS dX10_compare_154 rfl 1 rfl ?_
  refine ca_X10_182 hS ⟨Nat.le_of_ble_eq_true rfl, Nat.le_of_ble_eq_true rfl⟩ ⟨Nat.le_of_ble_eq_true rfl, Nat.le_of_ble_eq_true rfl⟩ (Nat.le_of_ble_eq_true rfl) dX10_compare_155 fun v1 h2 => ?_
  refine s_if_ne hS dX10_compare_158 rfl ?_ ?_
  · refine s_aload_n hS dX10_compare_163 rfl 1 rfl ?_
    refine s_bipush hS dX10_compare_164 (by decide +kernel) ?_
    refine s_iload hS dX10_compare_166 0 rfl ?_
    refine s_iadd hS dX10_compare_168 ?_
    refine s_iconst hS dX10_compare_169 ?_
    refine ca_X10_161 hS ⟨Nat.le_of_ble_eq_true rfl, Nat.le_of_ble_eq_true rfl⟩ ⟨Nat.le_of_ble_eq_true rfl, Nat.le_of_ble_eq_true rfl⟩ (Nat.le_of_ble_eq_true rfl) dX10_compare_170 fun v3 h4 => ?_
    refine s_iconst hS dX10_compare_173 ?_
    exact s_zret hS rfl (Nat.le_of_ble_eq_true rfl) (Nat.le_of_ble_eq_true rfl) dX10_compare_174
  · refine s_iconst hS dX10_compare_161 ?_
    exact s_zret hS rfl (Nat.le_of_ble_eq_true rfl) (Nat.le_of_ble_eq_true rfl) dX10_compare_162
set_option maxRecDepth 100000 in
set_option maxHeartbeats 4000000 in
theorem b_M_compare_105 {G : GE} {X : SMw} (hS : SO (S_M_compare G X) RX10 cX10_compare) (z0 z1 z2 z3 : Int) (h : AH) : Sim (S_M_compare G X) 105 [(0, 2, z0), (1, 0, z1), (2, 0, z2), (3, 0, z3)] [] 0 0 h (f_M_compare_105 z0 z1 z2 z3 h) := by
  unfold f_M_compare_105
  refine s_aload_n hS dX10_compare_105 rfl 0 rfl ?_
  refine s_iload_n hS dX10_compare_106 rfl 2 rfl ?_
  refine ca_X10_169 hS ⟨Nat.le_of_ble_eq_true rfl, Nat.le_of_ble_eq_true rfl⟩ ⟨Nat.le_of_ble_eq_true rfl, Nat.le_of_ble_eq_true rfl⟩ (Nat.le_of_ble_eq_true rfl) dX10_compare_107 fun v1 h2 => ?_
  refine s_if_ne hS dX10_compare_110 rfl ?_ ?_
  · refine s_iload_n hS dX10_compare_115 rfl 1 rfl ?_
    refine s_bipush hS dX10_compare_116 (by decide +kernel) ?_
    refine s_icmp_ne hS dX10_compare_118 rfl ?_ ?_
    · refine s_iload_n hS dX10_compare_133 rfl 1 rfl ?_
      refine s_bipush hS dX10_compare_134 (by decide +kernel) ?_
      refine s_icmp_ne hS dX10_compare_136 rfl ?_ ?_
      · refine s_iload_n hS dX10_compare_143 rfl 3 rfl ?_
        refine s_if_eq hS dX10_compare_144 rfl ?_ ?_
        · refine s_iconst hS dX10_compare_151 ?_
          refine s_ls [0] rfl ?_
          exact b_M_compare_152 hS _ _ _
        · refine s_iconst hS dX10_compare_147 ?_
          refine s_goto hS dX10_compare_148 rfl ?_
          refine s_ls [0] rfl ?_
          exact b_M_compare_152 hS _ _ _
      · refine s_iconst hS dX10_compare_139 ?_
        refine s_goto hS dX10_compare_140 rfl ?_
        refine s_ls [0] rfl ?_
        exact b_M_compare_152 hS _ _ _
    · refine s_iload_n hS dX10_compare_121 rfl 3 rfl ?_
      refine s_if_eq hS dX10_compare_122 rfl ?_ ?_
      · refine s_iconst hS dX10_compare_129 ?_
        refine s_goto hS dX10_compare_130 rfl ?_
        refine s_ls [0] rfl ?_
        exact b_M_compare_152 hS _ _ _
      · refine s_iconst hS dX10_compare_125 ?_
        refine s_goto hS dX10_compare_126 rfl ?_
        refine s_ls [0] rfl ?_
        exact b_M_compare_152 hS _ _ _
  · refine s_iconst hS dX10_compare_113 ?_
    exact s_zret hS rfl (Nat.le_of_ble_eq_true rfl) (Nat.le_of_ble_eq_true rfl) dX10_compare_114
set_option maxRecDepth 100000 in
set_option maxHeartbeats 4000000 in
theorem b_M_compare_90 {G : GE} {X : SMw} (hS : SO (S_M_compare G X) RX10 cX10_compare) (z0 z1 z2 w0 : Int) (h : AH) : Sim (S_M_compare G X) 90 [(0, 2, z0), (1, 0, z1), (2, 0, z2)] [(0, w0)] 0 0 h (f_M_compare_90 z0 z1 z2 w0 h) := by
  unfold f_M_compare_90
  refine s_istore_n hS dX10_compare_90 rfl (Nat.le_of_ble_eq_true rfl) (ls' := [(3, 0, w0), (0, 2, z0), (1, 0, z1), (2, 0, z2)]) rfl ?_
  refine s_iload_n hS dX10_compare_91 rfl 0 rfl ?_
  refine s_if_eq hS dX10_compare_92 rfl ?_ ?_
  · refine s_ls [1, 2, 3, 0] rfl ?_
    exact b_M_compare_105 hS _ _ _ _ _
  · refine s_aload_n hS dX10_compare_95 rfl 1 rfl ?_
    refine s_dup hS dX10_compare_96 (by decide) ?_
    refine gf_X10_93 hS dX10_compare_97 fun v1 => ?_
    refine s_iconst hS dX10_compare_100 ?_
    refine s_iadd hS dX10_compare_101 ?_
    refine pf_X10_93 hS dX10_compare_102 fun h2 => ?_
    refine s_ls [1, 2, 3, 0] rfl ?_
    exact b_M_compare_105 hS _ _ _ _ _
set_option maxRecDepth 100000 in
set_option maxHeartbeats 4000000 in
theorem b_M_compare_89 {G : GE} {X : SMw} (hS : SO (S_M_compare G X) RX10 cX10_compare) (z0 z1 z2 : Int) (h : AH) : Sim (S_M_compare G X) 89 [(0, 2, z0), (1, 0, z1), (2, 0, z2)] [] 0 0 h (f_M_compare_89 z0 z1 z2 h) := by
  unfold f_M_compare_89
  refine s_iconst hS dX10_compare_89 ?_
  exact b_M_compare_90 hS _ _ _ _ _
set_option maxRecDepth 100000 in
set_option maxHeartbeats 4000000 in
theorem b_M_compare_44 {G : GE} {X : SMw} (hS : SO (S_M_compare G X) RX10 cX10_compare) (z0 z1 z2 : Int) (h : AH) : Sim (S_M_compare G X) 44 [(0, 2, z0), (1, 0, z1), (2, 0, z2)] [] 0 0 h (f_M_compare_44 z0 z1 z2 h) := by
  unfold f_M_compare_44
  refine s_aload_n hS dX10_compare_44 rfl 0 rfl ?_
  refine s_dup hS dX10_compare_45 (by decide) ?_
  refine gf_X10_93 hS dX10_compare_46 fun v1 => ?_
  refine s_iconst hS dX10_compare_49 ?_
  refine s_iadd hS dX10_compare_50 ?_
  refine pf_X10_93 hS dX10_compare_51 fun h2 => ?_
  refine s_iload_n hS dX10_compare_54 rfl 1 rfl ?_
  refine s_bipush hS dX10_compare_55 (by decide +kernel) ?_
  refine s_icmp_eq hS dX10_compare_57 rfl ?_ ?_
  · exact b_M_compare_89 hS _ _ _ _
  · refine s_aload_n hS dX10_compare_60 rfl 0 rfl ?_
    refine gf_X10_93 hS dX10_compare_61 fun v3 => ?_
    refine s_aload_n hS dX10_compare_64 rfl 0 rfl ?_
    refine gf_X10_83 hS dX10_compare_65 fun v4 => ?_
    refine s_icmp_ge hS dX10_compare_68 rfl ?_ ?_
    · exact b_M_compare_89 hS _ _ _ _
    · refine s_aload_n hS dX10_compare_71 rfl 0 rfl ?_
      refine gf_X10_7 hS dX10_compare_72 fun v5 => ?_
      refine s_aload_n hS dX10_compare_75 rfl 0 rfl ?_
      refine gf_X10_93 hS dX10_compare_76 fun v6 => ?_
      refine s_bald hS dX10_compare_79 fun v7 => ?_
      refine s_bipush hS dX10_compare_80 (by decide +kernel) ?_
      refine s_icmp_ne hS dX10_compare_82 rfl ?_ ?_
      · exact b_M_compare_89 hS _ _ _ _
      · refine s_iconst hS dX10_compare_85 ?_
        refine s_goto hS dX10_compare_86 rfl ?_
        exact b_M_compare_90 hS _ _ _ _ _
set_option maxRecDepth 100000 in
set_option maxHeartbeats 4000000 in
theorem b_M_compare {G : GE} {X : SMw} (hS : SO (S_M_compare G X) RX10 cX10_compare) (z0 : Int) (h : AH) : Sim (S_M_compare G X) 0 [(0, 2, z0)] [] 0 0 h (f_M_compare z0 h) := by
  unfold f_M_compare
  refine s_aload_n hS dX10_compare_0 rfl 0 rfl ?_
  refine ca_X10_182 hS ⟨Nat.le_of_ble_eq_true rfl, Nat.le_of_ble_eq_true rfl⟩ ⟨Nat.le_of_ble_eq_true rfl, Nat.le_of_ble_eq_true rfl⟩ (Nat.le_of_ble_eq_true rfl) dX10_compare_1 fun v1 h2 => ?_
  refine s_if_ne hS dX10_compare_4 rfl ?_ ?_
  · refine s_aload_n hS dX10_compare_9 rfl 0 rfl ?_
    refine ca_X10_96 hS ⟨Nat.le_of_ble_eq_true rfl, Nat.le_of_ble_eq_true rfl⟩ ⟨Nat.le_of_ble_eq_true rfl, Nat.le_of_ble_eq_true rfl⟩ (Nat.le_of_ble_eq_true rfl) dX10_compare_10 fun v3 h4 => ?_
    refine s_istore_n hS dX10_compare_13 rfl (Nat.le_of_ble_eq_true rfl) (ls' := [(1, 0, v3), (0, 2, z0)]) rfl ?_
    refine s_aload_n hS dX10_compare_14 rfl 1 rfl ?_
    refine gf_X10_93 hS dX10_compare_15 fun v5 => ?_
    refine s_istore_n hS dX10_compare_18 rfl (Nat.le_of_ble_eq_true rfl) (ls' := [(2, 0, v5), (1, 0, v3), (0, 2, z0)]) rfl ?_
    refine s_iload_n hS dX10_compare_19 rfl 1 rfl ?_
    refine s_bipush hS dX10_compare_20 (by decide +kernel) ?_
    refine s_icmp_eq hS dX10_compare_22 rfl ?_ ?_
    · refine s_ls [2, 1, 0] rfl ?_
      exact b_M_compare_44 hS _ _ _ _
    · refine s_iload_n hS dX10_compare_25 rfl 1 rfl ?_
      refine s_bipush hS dX10_compare_26 (by decide +kernel) ?_
      refine s_icmp_eq hS dX10_compare_28 rfl ?_ ?_
      · refine s_ls [2, 1, 0] rfl ?_
        exact b_M_compare_44 hS _ _ _ _
      · refine s_iload_n hS dX10_compare_31 rfl 1 rfl ?_
        refine s_bipush hS dX10_compare_32 (by decide +kernel) ?_
        refine s_icmp_eq hS dX10_compare_34 rfl ?_ ?_
        · refine s_ls [2, 1, 0] rfl ?_
          exact b_M_compare_44 hS _ _ _ _
        · refine s_aload_n hS dX10_compare_37 rfl 2 rfl ?_
          refine s_iconst hS dX10_compare_38 ?_
          refine s_iload_n hS dX10_compare_39 rfl 0 rfl ?_
          refine ca_X10_114 hS ⟨Nat.le_of_ble_eq_true rfl, Nat.le_of_ble_eq_true rfl⟩ ⟨Nat.le_of_ble_eq_true rfl, Nat.le_of_ble_eq_true rfl⟩ (Nat.le_of_ble_eq_true rfl) dX10_compare_40 fun v6 h7 => ?_
          exact s_zret hS rfl (Nat.le_of_ble_eq_true rfl) (Nat.le_of_ble_eq_true rfl) dX10_compare_43
  · refine s_iconst hS dX10_compare_7 ?_
    exact s_zret hS rfl (Nat.le_of_ble_eq_true rfl) (Nat.le_of_ble_eq_true rfl) dX10_compare_8
theorem c_M_compare (l : Launch) (G : GE) (z0 : Int) (h : AH) : Con l yX10_compare cX10_compare 5 (some .boolean) 6 130 0 0 G [(2, z0)] h (f_M_compare z0 h) :=
  con_of (by decide +kernel) (Nat.le_of_ble_eq_true rfl) fun X hX hS hi => b_M_compare hS z0 h
theorem ca_X10_190 {S : SX} {cc : ByteArray} {pc : Nat} {ls : List (Nat × Nat × Int)} {st : List (Nat × Int)} {k n : Nat} {h : AH} {b : Int} {f : Int → AH → Option (Int × AH)} (hS : SO S RX10 cc) (hR : 6 + 1 ≤ S.2.2.2.2.2.2.1 ∧ 8 + (5 + 11) + 130 ≤ S.2.2.2.2.2.2.2) (hk : k + 0 ≤ S.2.2.2.1 ∧ n + 0 ≤ S.2.2.2.2.1) (hl : st.length ≤ 4) (d : decode cc pc = .ok (.invokevirtual 190, 3)) (kk : ∀ (r : Int) (h2 : AH), Sim S (pc + 3) ls ((0, r) :: st) (k + 0) (n + 0) h2 (f r h2)) : Sim S pc ls ((2, b) :: st) k n h (c_k h 11 b (bd_ (f_M_compare b h) f)) := s_callV hS mo_X10_compare rfl rfl (c_M_compare _ _ _ h) tw_1413 tw_1415 tw_58 hR hk rfl rfl hl d kk
theorem ca_X10_187 {S : SX} {cc : ByteArray} {pc : Nat} {ls : List (Nat × Nat × Int)} {st : List (Nat × Int)} {k n : Nat} {h : AH} {q0 b : Int} {f : Int → AH → Option (Int × AH)} (hS : SO S RX10 cc) (hR : 1 + 1 ≤ S.2.2.2.2.2.2.1 ∧ 8 + (2 + 11) + 22 ≤ S.2.2.2.2.2.2.2) (hk : k + 0 ≤ S.2.2.2.1 ∧ n + 0 ≤ S.2.2.2.2.1) (hl : st.length ≤ 4) (d : decode cc pc = .ok (.invokevirtual 187, 3)) (kk : ∀ (r : Int) (h2 : AH), Sim S (pc + 3) ls ((0, r) :: st) (k + 0) (n + 0) h2 (f r h2)) : Sim S pc ls ((0, q0) :: (2, b) :: st) k n h (c_k h 11 b (bd_ (f_M_opens b q0 h) f)) := s_callV hS mo_X10_opens rfl rfl (c_M_opens _ _ _ _ h) tw_1409 tw_1411 tw_57 hR hk rfl rfl hl d kk
abbrev S_M_fact (G : GE) (X : SMw) : SX := (G, X, 3, 0, 0, (some .boolean), 7, 154)
set_option maxRecDepth 100000 in
set_option maxHeartbeats 4000000 in
theorem B_M_fact_2 {G : GE} {X : SMw} (hS : SO (S_M_fact G X) RX10 cX10_fact) (z0 : Int) {k2 : Int → AH → Option (Int × AH)} (hk2 : ∀ (z1 : Int) (h : AH), Sim (S_M_fact G X) 2 [(0, 2, z0), (1, 0, z1)] [] 0 0 h (k2 z1 h)) (z1 : Int) (h : AH) : Sim (S_M_fact G X) 2 [(0, 2, z0), (1, 0, z1)] [] 0 0 h (F_M_fact_2 z0 k2 z1 h) := by
  unfold F_M_fact_2
  refine s_iload_n hS dX10_fact_2 rfl 1 rfl ?_
  refine s_if_eq hS dX10_fact_3 rfl ?_ ?_
  · refine s_aload_n hS dX10_fact_75 rfl 0 rfl ?_
    refine ca_X10_190 hS ⟨Nat.le_of_ble_eq_true rfl, Nat.le_of_ble_eq_true rfl⟩ ⟨Nat.le_of_ble_eq_true rfl, Nat.le_of_ble_eq_true rfl⟩ (Nat.le_of_ble_eq_true rfl) dX10_fact_76 fun v1 h2 => ?_
    exact s_zret hS rfl (Nat.le_of_ble_eq_true rfl) (Nat.le_of_ble_eq_true rfl) dX10_fact_79
  · refine s_iconst hS dX10_fact_6 ?_
    refine s_istore_n hS dX10_fact_7 rfl (Nat.le_of_ble_eq_true rfl) (ls' := [(1, 0, 0), (0, 2, z0)]) rfl ?_
    refine s_aload_n hS dX10_fact_8 rfl 1 rfl ?_
    refine ca_X10_96 hS ⟨Nat.le_of_ble_eq_true rfl, Nat.le_of_ble_eq_true rfl⟩ ⟨Nat.le_of_ble_eq_true rfl, Nat.le_of_ble_eq_true rfl⟩ (Nat.le_of_ble_eq_true rfl) dX10_fact_9 fun v3 h4 => ?_
    refine s_istore_n hS dX10_fact_12 rfl (Nat.le_of_ble_eq_true rfl) (ls' := [(2, 0, v3), (1, 0, 0), (0, 2, z0)]) rfl ?_
    refine s_aload_n hS dX10_fact_13 rfl 2 rfl ?_
    refine s_ldc2 hS (z := 7237492) tw_1408 (by decide +kernel) dX10_fact_14 ?_
    refine ca_X10_104 hS ⟨Nat.le_of_ble_eq_true rfl, Nat.le_of_ble_eq_true rfl⟩ ⟨Nat.le_of_ble_eq_true rfl, Nat.le_of_ble_eq_true rfl⟩ (Nat.le_of_ble_eq_true rfl) dX10_fact_17 fun v5 h6 => ?_
    refine s_if_eq hS dX10_fact_20 rfl ?_ ?_
    · refine s_iload_n hS dX10_fact_43 rfl 0 rfl ?_
      refine s_bipush hS dX10_fact_44 (by decide +kernel) ?_
      refine s_icmp_ne hS dX10_fact_46 rfl ?_ ?_
      · refine s_goto hS dX10_fact_72 rfl ?_
        refine s_ls [2, 1] rfl ?_
        exact hk2 _ _
      · refine s_aload_n hS dX10_fact_49 rfl 2 rfl ?_
        refine s_bipush hS dX10_fact_50 (by decide +kernel) ?_
        refine ca_X10_187 hS ⟨Nat.le_of_ble_eq_true rfl, Nat.le_of_ble_eq_true rfl⟩ ⟨Nat.le_of_ble_eq_true rfl, Nat.le_of_ble_eq_true rfl⟩ (Nat.le_of_ble_eq_true rfl) dX10_fact_52 fun v7 h8 => ?_
        refine s_if_ne hS dX10_fact_55 rfl ?_ ?_
        · refine s_aload_n hS dX10_fact_60 rfl 2 rfl ?_
          refine s_dup hS dX10_fact_61 (by decide) ?_
          refine gf_X10_93 hS dX10_fact_62 fun v9 => ?_
          refine s_iconst hS dX10_fact_65 ?_
          refine s_iadd hS dX10_fact_66 ?_
          refine pf_X10_93 hS dX10_fact_67 fun h10 => ?_
          refine s_iconst hS dX10_fact_70 ?_
          refine s_istore_n hS dX10_fact_71 rfl (Nat.le_of_ble_eq_true rfl) (ls' := [(1, 0, 1), (2, 0, v3), (0, 2, z0)]) rfl ?_
          refine s_goto hS dX10_fact_72 rfl ?_
          refine s_ls [2, 0] rfl ?_
          exact hk2 _ _
        · refine s_iconst hS dX10_fact_58 ?_
          exact s_zret hS rfl (Nat.le_of_ble_eq_true rfl) (Nat.le_of_ble_eq_true rfl) dX10_fact_59
    · refine s_aload_n hS dX10_fact_23 rfl 2 rfl ?_
      refine s_bipush hS dX10_fact_24 (by decide +kernel) ?_
      refine ca_X10_187 hS ⟨Nat.le_of_ble_eq_true rfl, Nat.le_of_ble_eq_true rfl⟩ ⟨Nat.le_of_ble_eq_true rfl, Nat.le_of_ble_eq_true rfl⟩ (Nat.le_of_ble_eq_true rfl) dX10_fact_26 fun v11 h12 => ?_
      refine s_if_ne hS dX10_fact_29 rfl ?_ ?_
      · refine s_aload_n hS dX10_fact_34 rfl 2 rfl ?_
        refine ca_X10_108 hS ⟨Nat.le_of_ble_eq_true rfl, Nat.le_of_ble_eq_true rfl⟩ ⟨Nat.le_of_ble_eq_true rfl, Nat.le_of_ble_eq_true rfl⟩ (Nat.le_of_ble_eq_true rfl) dX10_fact_35 fun v13 h14 => ?_
        refine s_iconst hS dX10_fact_38 ?_
        refine s_istore_n hS dX10_fact_39 rfl (Nat.le_of_ble_eq_true rfl) (ls' := [(1, 0, 1), (2, 0, v3), (0, 2, z0)]) rfl ?_
        refine s_goto hS dX10_fact_40 rfl ?_
        refine s_goto hS dX10_fact_72 rfl ?_
        refine s_ls [2, 0] rfl ?_
        exact hk2 _ _
      · refine s_iconst hS dX10_fact_32 ?_
        exact s_zret hS rfl (Nat.le_of_ble_eq_true rfl) (Nat.le_of_ble_eq_true rfl) dX10_fact_33
set_option maxRecDepth 100000 in
set_option maxHeartbeats 4000000 in
theorem b_M_fact_2 {G : GE} {X : SMw} (hS : SO (S_M_fact G X) RX10 cX10_fact) (z0 : Int) (z1 : Int) (h : AH) : Sim (S_M_fact G X) 2 [(0, 2, z0), (1, 0, z1)] [] 0 0 h (f_M_fact_2 z0 z1 h) := by
  exact s_loop (S := (S_M_fact G X)) (lsf := fun s : Int × AH => [(0, 2, z0), (1, 0, s.1)]) (hf := fun s => s.2) (fun kf hkf s => B_M_fact_2 hS z0 (fun a0 a1 => hkf (a0, a1)) s.1 s.2) fu_ (z1, h)
set_option maxRecDepth 100000 in
set_option maxHeartbeats 4000000 in
theorem b_M_fact {G : GE} {X : SMw} (hS : SO (S_M_fact G X) RX10 cX10_fact) (z0 : Int) (h : AH) : Sim (S_M_fact G X) 0 [(0, 2, z0)] [] 0 0 h (f_M_fact z0 h) := by
  unfold f_M_fact
  refine s_iconst hS dX10_fact_0 ?_
  refine s_istore_n hS dX10_fact_1 rfl (Nat.le_of_ble_eq_true rfl) (ls' := [(1, 0, 1), (0, 2, z0)]) rfl ?_
  refine s_ls [1, 0] rfl ?_
  exact b_M_fact_2 hS _ _ _
theorem c_M_fact (l : Launch) (G : GE) (z0 : Int) (h : AH) : Con l yX10_fact cX10_fact 3 (some .boolean) 7 154 0 0 G [(2, z0)] h (f_M_fact z0 h) :=
  con_of (by decide +kernel) (Nat.le_of_ble_eq_true rfl) fun X hX hS hi => b_M_fact hS z0 h
abbrev S_M_isInside (G : GE) (X : SMw) : SX := (G, X, 2, 0, 0, (some .boolean), 0, 0)
set_option maxRecDepth 100000 in
set_option maxHeartbeats 4000000 in
theorem B_M_isInside_2 {G : GE} {X : SMw} (hS : SO (S_M_isInside G X) RX10 cX10_isInside) (z0 : Int) {k2 : Int → AH → Option (Int × AH)} (hk2 : ∀ (z1 : Int) (h : AH), Sim (S_M_isInside G X) 2 [(0, 2, z0), (1, 0, z1)] [] 0 0 h (k2 z1 h)) (z1 : Int) (h : AH) : Sim (S_M_isInside G X) 2 [(0, 2, z0), (1, 0, z1)] [] 0 0 h (F_M_isInside_2 z0 k2 z1 h) := by
  unfold F_M_isInside_2
  refine s_iload_n hS dX10_isInside_2 rfl 1 rfl ?_
  refine s_aload_n hS dX10_isInside_3 rfl 0 rfl ?_
  refine gf_X10_154 hS dX10_isInside_4 fun v1 => ?_
  refine s_icmp_ge hS dX10_isInside_7 rfl ?_ ?_
  · refine s_iconst hS dX10_isInside_29 ?_
    exact s_zret hS rfl (Nat.le_of_ble_eq_true rfl) (Nat.le_of_ble_eq_true rfl) dX10_isInside_30
  · refine s_aload_n hS dX10_isInside_10 rfl 0 rfl ?_
    refine gf_X10_29 hS dX10_isInside_11 fun v2 => ?_
    refine s_iload_n hS dX10_isInside_14 rfl 1 rfl ?_
    refine s_iald hS dX10_isInside_15 fun v3 => ?_
    refine s_bipush hS dX10_isInside_16 (by decide +kernel) ?_
    refine s_icmp_ne hS dX10_isInside_18 rfl ?_ ?_
    · refine s_iinc hS dX10_isInside_23 1 rfl (Nat.le_of_ble_eq_true rfl) (ls' := [(1, 0, (z1 + 1)), (0, 2, z0)]) rfl ?_
      refine s_goto hS dX10_isInside_26 rfl ?_
      refine s_ls [1, 0] rfl ?_
      exact hk2 _ _
    · refine s_iconst hS dX10_isInside_21 ?_
      exact s_zret hS rfl (Nat.le_of_ble_eq_true rfl) (Nat.le_of_ble_eq_true rfl) dX10_isInside_22
set_option maxRecDepth 100000 in
set_option maxHeartbeats 4000000 in
theorem b_M_isInside_2 {G : GE} {X : SMw} (hS : SO (S_M_isInside G X) RX10 cX10_isInside) (z0 : Int) (z1 : Int) (h : AH) : Sim (S_M_isInside G X) 2 [(0, 2, z0), (1, 0, z1)] [] 0 0 h (f_M_isInside_2 z0 z1 h) := by
  exact s_loop (S := (S_M_isInside G X)) (lsf := fun s : Int × AH => [(0, 2, z0), (1, 0, s.1)]) (hf := fun s => s.2) (fun kf hkf s => B_M_isInside_2 hS z0 (fun a0 a1 => hkf (a0, a1)) s.1 s.2) fu_ (z1, h)
set_option maxRecDepth 100000 in
set_option maxHeartbeats 4000000 in
theorem b_M_isInside {G : GE} {X : SMw} (hS : SO (S_M_isInside G X) RX10 cX10_isInside) (z0 : Int) (h : AH) : Sim (S_M_isInside G X) 0 [(0, 2, z0)] [] 0 0 h (f_M_isInside z0 h) := by
  unfold f_M_isInside
  refine s_iconst hS dX10_isInside_0 ?_
  refine s_istore_n hS dX10_isInside_1 rfl (Nat.le_of_ble_eq_true rfl) (ls' := [(1, 0, 0), (0, 2, z0)]) rfl ?_
  refine s_ls [1, 0] rfl ?_
  exact b_M_isInside_2 hS _ _ _
theorem c_M_isInside (l : Launch) (G : GE) (z0 : Int) (h : AH) : Con l yX10_isInside cX10_isInside 2 (some .boolean) 0 0 0 0 G [(2, z0)] h (f_M_isInside z0 h) :=
  con_of (by decide +kernel) (Nat.le_of_ble_eq_true rfl) fun X hX hS hi => b_M_isInside hS z0 h
theorem ca_X10_193 {S : SX} {cc : ByteArray} {pc : Nat} {ls : List (Nat × Nat × Int)} {st : List (Nat × Int)} {k n : Nat} {h : AH} {q0 b : Int} {f : Int → AH → Option (Int × AH)} (hS : SO S RX10 cc) (hR : 1 + 1 ≤ S.2.2.2.2.2.2.1 ∧ 8 + (2 + 11) + 22 ≤ S.2.2.2.2.2.2.2) (hk : k + 0 ≤ S.2.2.2.1 ∧ n + 0 ≤ S.2.2.2.2.1) (hl : st.length ≤ 4) (d : decode cc pc = .ok (.invokevirtual 193, 3)) (kk : ∀ (r : Int) (h2 : AH), Sim S (pc + 3) ls (st) (k + 0) (n + 0) h2 (f r h2)) : Sim S pc ls ((0, q0) :: (2, b) :: st) k n h (c_k h 11 b (bd_ (f_M_layDown b q0 h) f)) := s_callV hS mo_X10_layDown rfl rfl (c_M_layDown _ _ _ _ h) tw_1421 tw_1423 tw_60 hR hk rfl rfl hl d kk
theorem ca_X10_196 {S : SX} {cc : ByteArray} {pc : Nat} {ls : List (Nat × Nat × Int)} {st : List (Nat × Int)} {k n : Nat} {h : AH} {b : Int} {f : Int → AH → Option (Int × AH)} (hS : SO S RX10 cc) (hR : 0 + 1 ≤ S.2.2.2.2.2.2.1 ∧ 8 + (2 + 11) + 0 ≤ S.2.2.2.2.2.2.2) (hk : k + 0 ≤ S.2.2.2.1 ∧ n + 0 ≤ S.2.2.2.2.1) (hl : st.length ≤ 4) (d : decode cc pc = .ok (.invokevirtual 196, 3)) (kk : ∀ (r : Int) (h2 : AH), Sim S (pc + 3) ls ((0, r) :: st) (k + 0) (n + 0) h2 (f r h2)) : Sim S pc ls ((2, b) :: st) k n h (c_k h 11 b (bd_ (f_M_isInside b h) f)) := s_callV hS mo_X10_isInside rfl rfl (c_M_isInside _ _ _ h) tw_1428 tw_1430 tw_61 hR hk rfl rfl hl d kk
abbrev S_M_closes (G : GE) (X : SMw) : SX := (G, X, 1, 0, 0, none, 2, 43)
set_option maxRecDepth 100000 in
set_option maxHeartbeats 4000000 in
theorem B_M_closes_5 {G : GE} {X : SMw} (hS : SO (S_M_closes G X) RX10 cX10_closes) (z0 : Int) {k5 : AH → Option (Int × AH)} (hk5 : ∀ (h : AH), Sim (S_M_closes G X) 5 [(0, 2, z0)] [] 0 0 h (k5 h)) (h : AH) : Sim (S_M_closes G X) 5 [(0, 2, z0)] [] 0 0 h (F_M_closes_5 z0 k5 h) := by
  unfold F_M_closes_5
  refine s_aload_n hS dX10_closes_5 rfl 0 rfl ?_
  refine ca_X10_96 hS ⟨Nat.le_of_ble_eq_true rfl, Nat.le_of_ble_eq_true rfl⟩ ⟨Nat.le_of_ble_eq_true rfl, Nat.le_of_ble_eq_true rfl⟩ (Nat.le_of_ble_eq_true rfl) dX10_closes_6 fun v1 h2 => ?_
  refine s_bipush hS dX10_closes_9 (by decide +kernel) ?_
  refine s_icmp_ne hS dX10_closes_11 rfl ?_ ?_
  · exact s_vret hS rfl (Nat.le_of_ble_eq_true rfl) (Nat.le_of_ble_eq_true rfl) dX10_closes_64
  · refine s_aload_n hS dX10_closes_14 rfl 0 rfl ?_
    refine ca_X10_196 hS ⟨Nat.le_of_ble_eq_true rfl, Nat.le_of_ble_eq_true rfl⟩ ⟨Nat.le_of_ble_eq_true rfl, Nat.le_of_ble_eq_true rfl⟩ (Nat.le_of_ble_eq_true rfl) dX10_closes_15 fun v3 h4 => ?_
    refine s_if_eq hS dX10_closes_18 rfl ?_ ?_
    · exact s_vret hS rfl (Nat.le_of_ble_eq_true rfl) (Nat.le_of_ble_eq_true rfl) dX10_closes_64
    · refine s_aload_n hS dX10_closes_21 rfl 0 rfl ?_
      refine s_iconst hS dX10_closes_22 ?_
      refine ca_X10_193 hS ⟨Nat.le_of_ble_eq_true rfl, Nat.le_of_ble_eq_true rfl⟩ ⟨Nat.le_of_ble_eq_true rfl, Nat.le_of_ble_eq_true rfl⟩ (Nat.le_of_ble_eq_true rfl) dX10_closes_23 fun v5 h6 => ?_
      refine s_aload_n hS dX10_closes_26 rfl 0 rfl ?_
      refine s_dup hS dX10_closes_27 (by decide) ?_
      refine gf_X10_154 hS dX10_closes_28 fun v7 => ?_
      refine s_iconst hS dX10_closes_31 ?_
      refine s_isub hS dX10_closes_32 ?_
      refine pf_X10_154 hS dX10_closes_33 fun h8 => ?_
      refine s_aload_n hS dX10_closes_36 rfl 0 rfl ?_
      refine s_dup hS dX10_closes_37 (by decide) ?_
      refine gf_X10_151 hS dX10_closes_38 fun v9 => ?_
      refine s_iconst hS dX10_closes_41 ?_
      refine s_isub hS dX10_closes_42 ?_
      refine pf_X10_151 hS dX10_closes_43 fun h10 => ?_
      refine s_aload_n hS dX10_closes_46 rfl 0 rfl ?_
      refine s_dup hS dX10_closes_47 (by decide) ?_
      refine gf_X10_93 hS dX10_closes_48 fun v11 => ?_
      refine s_iconst hS dX10_closes_51 ?_
      refine s_iadd hS dX10_closes_52 ?_
      refine pf_X10_93 hS dX10_closes_53 fun h12 => ?_
      refine s_aload_n hS dX10_closes_56 rfl 0 rfl ?_
      refine s_iconst hS dX10_closes_57 ?_
      refine ca_X10_193 hS ⟨Nat.le_of_ble_eq_true rfl, Nat.le_of_ble_eq_true rfl⟩ ⟨Nat.le_of_ble_eq_true rfl, Nat.le_of_ble_eq_true rfl⟩ (Nat.le_of_ble_eq_true rfl) dX10_closes_58 fun v13 h14 => ?_
      refine s_goto hS dX10_closes_61 rfl ?_
      exact hk5 _
set_option maxRecDepth 100000 in
set_option maxHeartbeats 4000000 in
theorem b_M_closes_5 {G : GE} {X : SMw} (hS : SO (S_M_closes G X) RX10 cX10_closes) (z0 : Int) (h : AH) : Sim (S_M_closes G X) 5 [(0, 2, z0)] [] 0 0 h (f_M_closes_5 z0 h) := by
  exact s_loop (S := (S_M_closes G X)) (lsf := fun s : AH => [(0, 2, z0)]) (hf := fun s => s) (fun kf hkf s => B_M_closes_5 hS z0 (fun a0 => hkf (a0))  s) fu_ (h)
set_option maxRecDepth 100000 in
set_option maxHeartbeats 4000000 in
theorem b_M_closes {G : GE} {X : SMw} (hS : SO (S_M_closes G X) RX10 cX10_closes) (z0 : Int) (h : AH) : Sim (S_M_closes G X) 0 [(0, 2, z0)] [] 0 0 h (f_M_closes z0 h) := by
  unfold f_M_closes
  refine s_aload_n hS dX10_closes_0 rfl 0 rfl ?_
  refine s_iconst hS dX10_closes_1 ?_
  refine ca_X10_193 hS ⟨Nat.le_of_ble_eq_true rfl, Nat.le_of_ble_eq_true rfl⟩ ⟨Nat.le_of_ble_eq_true rfl, Nat.le_of_ble_eq_true rfl⟩ (Nat.le_of_ble_eq_true rfl) dX10_closes_2 fun v1 h2 => ?_
  exact b_M_closes_5 hS _ _
theorem c_M_closes (l : Launch) (G : GE) (z0 : Int) (h : AH) : Con l yX10_closes cX10_closes 1 none 2 43 0 0 G [(2, z0)] h (f_M_closes z0 h) :=
  con_of (by decide +kernel) (Nat.le_of_ble_eq_true rfl) fun X hX hS hi => b_M_closes hS z0 h
theorem ca_X10_199 {S : SX} {cc : ByteArray} {pc : Nat} {ls : List (Nat × Nat × Int)} {st : List (Nat × Int)} {k n : Nat} {h : AH} {b : Int} {f : Int → AH → Option (Int × AH)} (hS : SO S RX10 cc) (hR : 7 + 1 ≤ S.2.2.2.2.2.2.1 ∧ 8 + (3 + 11) + 154 ≤ S.2.2.2.2.2.2.2) (hk : k + 0 ≤ S.2.2.2.1 ∧ n + 0 ≤ S.2.2.2.2.1) (hl : st.length ≤ 4) (d : decode cc pc = .ok (.invokevirtual 199, 3)) (kk : ∀ (r : Int) (h2 : AH), Sim S (pc + 3) ls ((0, r) :: st) (k + 0) (n + 0) h2 (f r h2)) : Sim S pc ls ((2, b) :: st) k n h (c_k h 11 b (bd_ (f_M_fact b h) f)) := s_callV hS mo_X10_fact rfl rfl (c_M_fact _ _ _ h) tw_1404 tw_1406 tw_56 hR hk rfl rfl hl d kk
theorem ca_X10_202 {S : SX} {cc : ByteArray} {pc : Nat} {ls : List (Nat × Nat × Int)} {st : List (Nat × Int)} {k n : Nat} {h : AH} {b : Int} {f : Int → AH → Option (Int × AH)} (hS : SO S RX10 cc) (hR : 2 + 1 ≤ S.2.2.2.2.2.2.1 ∧ 8 + (1 + 11) + 43 ≤ S.2.2.2.2.2.2.2) (hk : k + 0 ≤ S.2.2.2.1 ∧ n + 0 ≤ S.2.2.2.2.1) (hl : st.length ≤ 4) (d : decode cc pc = .ok (.invokevirtual 202, 3)) (kk : ∀ (r : Int) (h2 : AH), Sim S (pc + 3) ls (st) (k + 0) (n + 0) h2 (f r h2)) : Sim S pc ls ((2, b) :: st) k n h (c_k h 11 b (bd_ (f_M_closes b h) f)) := s_callV hS mo_X10_closes rfl rfl (c_M_closes _ _ _ h) tw_1417 tw_1419 tw_59 hR hk rfl rfl hl d kk
abbrev S_M_tested (G : GE) (X : SMw) : SX := (G, X, 3, 0, 0, (some .boolean), 8, 176)
set_option maxRecDepth 100000 in
set_option maxHeartbeats 4000000 in
theorem b_M_tested_76 {G : GE} {X : SMw} (hS : SO (S_M_tested G X) RX10 cX10_tested) (z0 : Int) {k12 : Int → AH → Option (Int × AH)} (hk12 : ∀ (z1 : Int) (h : AH), Sim (S_M_tested G X) 12 [(0, 2, z0), (1, 0, z1)] [] 0 0 h (k12 z1 h)) (z1 w0 : Int) (h : AH) : Sim (S_M_tested G X) 76 [(0, 2, z0), (1, 0, z1)] [(0, w0)] 0 0 h (f_M_tested_76 k12 z0 z1 w0 h) := by
  unfold f_M_tested_76
  refine s_istore_n hS dX10_tested_76 rfl (Nat.le_of_ble_eq_true rfl) (ls' := [(2, 0, w0), (0, 2, z0), (1, 0, z1)]) rfl ?_
  refine s_aload_n hS dX10_tested_77 rfl 1 rfl ?_
  refine ca_X10_108 hS ⟨Nat.le_of_ble_eq_true rfl, Nat.le_of_ble_eq_true rfl⟩ ⟨Nat.le_of_ble_eq_true rfl, Nat.le_of_ble_eq_true rfl⟩ (Nat.le_of_ble_eq_true rfl) dX10_tested_78 fun v1 h2 => ?_
  refine s_aload_n hS dX10_tested_81 rfl 1 rfl ?_
  refine s_iload_n hS dX10_tested_82 rfl 0 rfl ?_
  refine ca_X10_157 hS ⟨Nat.le_of_ble_eq_true rfl, Nat.le_of_ble_eq_true rfl⟩ ⟨Nat.le_of_ble_eq_true rfl, Nat.le_of_ble_eq_true rfl⟩ (Nat.le_of_ble_eq_true rfl) dX10_tested_83 fun v3 h4 => ?_
  refine ca_X10_193 hS ⟨Nat.le_of_ble_eq_true rfl, Nat.le_of_ble_eq_true rfl⟩ ⟨Nat.le_of_ble_eq_true rfl, Nat.le_of_ble_eq_true rfl⟩ (Nat.le_of_ble_eq_true rfl) dX10_tested_86 fun v5 h6 => ?_
  refine s_aload_n hS dX10_tested_89 rfl 1 rfl ?_
  refine gf_X10_29 hS dX10_tested_90 fun v7 => ?_
  refine s_aload_n hS dX10_tested_93 rfl 1 rfl ?_
  refine gf_X10_154 hS dX10_tested_94 fun v8 => ?_
  refine s_iload_n hS dX10_tested_97 rfl 0 rfl ?_
  refine s_iast hS dX10_tested_98 fun h9 => ?_
  refine s_aload_n hS dX10_tested_99 rfl 1 rfl ?_
  refine s_dup hS dX10_tested_100 (by decide) ?_
  refine gf_X10_154 hS dX10_tested_101 fun v10 => ?_
  refine s_iconst hS dX10_tested_104 ?_
  refine s_iadd hS dX10_tested_105 ?_
  refine pf_X10_154 hS dX10_tested_106 fun h11 => ?_
  refine s_goto hS dX10_tested_109 rfl ?_
  refine s_ls [1, 2] rfl ?_
  exact hk12 _ _
set_option maxRecDepth 100000 in
set_option maxHeartbeats 4000000 in
theorem b_M_tested_54 {G : GE} {X : SMw} (hS : SO (S_M_tested G X) RX10 cX10_tested) (z0 : Int) {k12 : Int → AH → Option (Int × AH)} (hk12 : ∀ (z1 : Int) (h : AH), Sim (S_M_tested G X) 12 [(0, 2, z0), (1, 0, z1)] [] 0 0 h (k12 z1 h)) (w0 : Int) (h : AH) : Sim (S_M_tested G X) 54 [(0, 2, z0)] [(0, w0)] 0 0 h (f_M_tested_54 k12 z0 w0 h) := by
  unfold f_M_tested_54
  refine s_istore_n hS dX10_tested_54 rfl (Nat.le_of_ble_eq_true rfl) (ls' := [(1, 0, w0), (0, 2, z0)]) rfl ?_
  refine s_iload_n hS dX10_tested_55 rfl 0 rfl ?_
  refine s_if_eq hS dX10_tested_56 rfl ?_ ?_
  · refine s_ls [1, 0] rfl ?_
    exact hk12 _ _
  · refine s_aload_n hS dX10_tested_59 rfl 1 rfl ?_
    refine s_ldc2 hS (z := 6385252) tw_1432 (by decide +kernel) dX10_tested_60 ?_
    refine ca_X10_104 hS ⟨Nat.le_of_ble_eq_true rfl, Nat.le_of_ble_eq_true rfl⟩ ⟨Nat.le_of_ble_eq_true rfl, Nat.le_of_ble_eq_true rfl⟩ (Nat.le_of_ble_eq_true rfl) dX10_tested_63 fun v1 h2 => ?_
    refine s_if_eq hS dX10_tested_66 rfl ?_ ?_
    · refine s_bipush hS dX10_tested_74 (by decide +kernel) ?_
      refine s_ls [1, 0] rfl ?_
      exact b_M_tested_76 hS _ hk12 _ _ _
    · refine s_bipush hS dX10_tested_69 (by decide +kernel) ?_
      refine s_goto hS dX10_tested_71 rfl ?_
      refine s_ls [1, 0] rfl ?_
      exact b_M_tested_76 hS _ hk12 _ _ _
set_option maxRecDepth 100000 in
set_option maxHeartbeats 4000000 in
theorem B_M_tested_12 {G : GE} {X : SMw} (hS : SO (S_M_tested G X) RX10 cX10_tested) (z0 : Int) {k12 : Int → AH → Option (Int × AH)} (hk12 : ∀ (z1 : Int) (h : AH), Sim (S_M_tested G X) 12 [(0, 2, z0), (1, 0, z1)] [] 0 0 h (k12 z1 h)) (z1 : Int) (h : AH) : Sim (S_M_tested G X) 12 [(0, 2, z0), (1, 0, z1)] [] 0 0 h (F_M_tested_12 z0 k12 z1 h) := by
  unfold F_M_tested_12
  refine s_iload_n hS dX10_tested_12 rfl 1 rfl ?_
  refine s_if_eq hS dX10_tested_13 rfl ?_ ?_
  · refine s_aload_n hS dX10_tested_112 rfl 0 rfl ?_
    refine ca_X10_196 hS ⟨Nat.le_of_ble_eq_true rfl, Nat.le_of_ble_eq_true rfl⟩ ⟨Nat.le_of_ble_eq_true rfl, Nat.le_of_ble_eq_true rfl⟩ (Nat.le_of_ble_eq_true rfl) dX10_tested_113 fun v1 h2 => ?_
    refine s_if_eq hS dX10_tested_116 rfl ?_ ?_
    · refine s_aload_n hS dX10_tested_134 rfl 0 rfl ?_
      refine s_iconst hS dX10_tested_135 ?_
      refine ca_X10_193 hS ⟨Nat.le_of_ble_eq_true rfl, Nat.le_of_ble_eq_true rfl⟩ ⟨Nat.le_of_ble_eq_true rfl, Nat.le_of_ble_eq_true rfl⟩ (Nat.le_of_ble_eq_true rfl) dX10_tested_136 fun v3 h4 => ?_
      refine s_iconst hS dX10_tested_139 ?_
      exact s_zret hS rfl (Nat.le_of_ble_eq_true rfl) (Nat.le_of_ble_eq_true rfl) dX10_tested_140
    · refine s_aload_n hS dX10_tested_119 rfl 0 rfl ?_
      refine ca_X10_96 hS ⟨Nat.le_of_ble_eq_true rfl, Nat.le_of_ble_eq_true rfl⟩ ⟨Nat.le_of_ble_eq_true rfl, Nat.le_of_ble_eq_true rfl⟩ (Nat.le_of_ble_eq_true rfl) dX10_tested_120 fun v5 h6 => ?_
      refine s_pop hS dX10_tested_123 (by decide) ?_
      refine s_aload_n hS dX10_tested_124 rfl 0 rfl ?_
      refine s_iconst hS dX10_tested_125 ?_
      refine s_aload_n hS dX10_tested_126 rfl 0 rfl ?_
      refine gf_X10_93 hS dX10_tested_127 fun v7 => ?_
      refine ca_X10_114 hS ⟨Nat.le_of_ble_eq_true rfl, Nat.le_of_ble_eq_true rfl⟩ ⟨Nat.le_of_ble_eq_true rfl, Nat.le_of_ble_eq_true rfl⟩ (Nat.le_of_ble_eq_true rfl) dX10_tested_130 fun v8 h9 => ?_
      exact s_zret hS rfl (Nat.le_of_ble_eq_true rfl) (Nat.le_of_ble_eq_true rfl) dX10_tested_133
  · refine s_aload_n hS dX10_tested_16 rfl 0 rfl ?_
    refine ca_X10_199 hS ⟨Nat.le_of_ble_eq_true rfl, Nat.le_of_ble_eq_true rfl⟩ ⟨Nat.le_of_ble_eq_true rfl, Nat.le_of_ble_eq_true rfl⟩ (Nat.le_of_ble_eq_true rfl) dX10_tested_17 fun v10 h11 => ?_
    refine s_if_ne hS dX10_tested_20 rfl ?_ ?_
    · refine s_aload_n hS dX10_tested_25 rfl 0 rfl ?_
      refine ca_X10_202 hS ⟨Nat.le_of_ble_eq_true rfl, Nat.le_of_ble_eq_true rfl⟩ ⟨Nat.le_of_ble_eq_true rfl, Nat.le_of_ble_eq_true rfl⟩ (Nat.le_of_ble_eq_true rfl) dX10_tested_26 fun v12 h13 => ?_
      refine s_aload_n hS dX10_tested_29 rfl 0 rfl ?_
      refine s_ldc2 hS (z := 6385252) tw_1432 (by decide +kernel) dX10_tested_30 ?_
      refine ca_X10_104 hS ⟨Nat.le_of_ble_eq_true rfl, Nat.le_of_ble_eq_true rfl⟩ ⟨Nat.le_of_ble_eq_true rfl, Nat.le_of_ble_eq_true rfl⟩ (Nat.le_of_ble_eq_true rfl) dX10_tested_33 fun v14 h15 => ?_
      refine s_if_ne hS dX10_tested_36 rfl ?_ ?_
      · refine s_iconst hS dX10_tested_49 ?_
        refine s_goto hS dX10_tested_50 rfl ?_
        refine s_ls [0] rfl ?_
        exact b_M_tested_54 hS _ hk12 _ _
      · refine s_aload_n hS dX10_tested_39 rfl 0 rfl ?_
        refine s_ldc2 hS (z := 28530) tw_1433 (by decide +kernel) dX10_tested_40 ?_
        refine ca_X10_104 hS ⟨Nat.le_of_ble_eq_true rfl, Nat.le_of_ble_eq_true rfl⟩ ⟨Nat.le_of_ble_eq_true rfl, Nat.le_of_ble_eq_true rfl⟩ (Nat.le_of_ble_eq_true rfl) dX10_tested_43 fun v16 h17 => ?_
        refine s_if_eq hS dX10_tested_46 rfl ?_ ?_
        · refine s_iconst hS dX10_tested_53 ?_
          refine s_ls [0] rfl ?_
          exact b_M_tested_54 hS _ hk12 _ _
        · refine s_iconst hS dX10_tested_49 ?_
          refine s_goto hS dX10_tested_50 rfl ?_
          refine s_ls [0] rfl ?_
          exact b_M_tested_54 hS _ hk12 _ _
    · refine s_iconst hS dX10_tested_23 ?_
      exact s_zret hS rfl (Nat.le_of_ble_eq_true rfl) (Nat.le_of_ble_eq_true rfl) dX10_tested_24
set_option maxRecDepth 100000 in
set_option maxHeartbeats 4000000 in
theorem b_M_tested_12 {G : GE} {X : SMw} (hS : SO (S_M_tested G X) RX10 cX10_tested) (z0 : Int) (z1 : Int) (h : AH) : Sim (S_M_tested G X) 12 [(0, 2, z0), (1, 0, z1)] [] 0 0 h (f_M_tested_12 z0 z1 h) := by
  exact s_loop (S := (S_M_tested G X)) (lsf := fun s : Int × AH => [(0, 2, z0), (1, 0, s.1)]) (hf := fun s => s.2) (fun kf hkf s => B_M_tested_12 hS z0 (fun a0 a1 => hkf (a0, a1)) s.1 s.2) fu_ (z1, h)
set_option maxRecDepth 100000 in
set_option maxHeartbeats 4000000 in
theorem b_M_tested {G : GE} {X : SMw} (hS : SO (S_M_tested G X) RX10 cX10_tested) (z0 : Int) (h : AH) : Sim (S_M_tested G X) 0 [(0, 2, z0)] [] 0 0 h (f_M_tested z0 h) := by
  unfold f_M_tested
  refine s_aload_n hS dX10_tested_0 rfl 0 rfl ?_
  refine s_iconst hS dX10_tested_1 ?_
  refine pf_X10_154 hS dX10_tested_2 fun h1 => ?_
  refine s_aload_n hS dX10_tested_5 rfl 0 rfl ?_
  refine s_iconst hS dX10_tested_6 ?_
  refine pf_X10_151 hS dX10_tested_7 fun h2 => ?_
  refine s_iconst hS dX10_tested_10 ?_
  refine s_istore_n hS dX10_tested_11 rfl (Nat.le_of_ble_eq_true rfl) (ls' := [(1, 0, 1), (0, 2, z0)]) rfl ?_
  refine s_ls [1, 0] rfl ?_
  exact b_M_tested_12 hS _ _ _
theorem c_M_tested (l : Launch) (G : GE) (z0 : Int) (h : AH) : Con l yX10_tested cX10_tested 3 (some .boolean) 8 176 0 0 G [(2, z0)] h (f_M_tested z0 h) :=
  con_of (by decide +kernel) (Nat.le_of_ble_eq_true rfl) fun X hX hS hi => b_M_tested hS z0 h
theorem gf_X10_23 {S : SX} {cc : ByteArray} {pc : Nat} {ls : List (Nat × Nat × Int)} {st : List (Nat × Int)} {k n : Nat} {h : AH} {a : Int} {f : Int → Option (Int × AH)} (hS : SO S RX10 cc) (d : decode cc pc = .ok (.getfield 23, 3)) (kk : ∀ v : Int, Sim S (pc + 3) ls ((2, v) :: st) k n h (f v)) : Sim S pc ls ((2, a) :: st) k n h ((g_f h 11 a 6).bind f) := s_getf hS cx_10 6 (by decide) tw_1144 rfl rfl rfl d kk
theorem gf_X10_20 {S : SX} {cc : ByteArray} {pc : Nat} {ls : List (Nat × Nat × Int)} {st : List (Nat × Int)} {k n : Nat} {h : AH} {a : Int} {f : Int → Option (Int × AH)} (hS : SO S RX10 cc) (d : decode cc pc = .ok (.getfield 20, 3)) (kk : ∀ v : Int, Sim S (pc + 3) ls ((2, v) :: st) k n h (f v)) : Sim S pc ls ((2, a) :: st) k n h ((g_f h 11 a 5).bind f) := s_getf hS cx_10 5 (by decide) tw_1143 rfl rfl rfl d kk
theorem ca_X10_211 {S : SX} {cc : ByteArray} {pc : Nat} {ls : List (Nat × Nat × Int)} {st : List (Nat × Int)} {k n : Nat} {h : AH} {q0 b : Int} {f : Int → AH → Option (Int × AH)} (hS : SO S RX10 cc) (hR : 2 + 1 ≤ S.2.2.2.2.2.2.1 ∧ 8 + (3 + 11) + 46 ≤ S.2.2.2.2.2.2.2) (hk : k + 0 ≤ S.2.2.2.1 ∧ n + 0 ≤ S.2.2.2.2.1) (hl : st.length ≤ 4) (d : decode cc pc = .ok (.invokevirtual 211, 3)) (kk : ∀ (r : Int) (h2 : AH), Sim S (pc + 3) ls ((0, r) :: st) (k + 0) (n + 0) h2 (f r h2)) : Sim S pc ls ((1, q0) :: (2, b) :: st) k n h (c_k h 11 b (bd_ (f_M_takesWord b q0 h) f)) := s_callV hS mo_X10_takesWord rfl rfl (c_M_takesWord _ _ _ _ h) tw_1396 tw_1398 tw_54 hR hk rfl rfl hl d kk
theorem ca_X10_214 {S : SX} {cc : ByteArray} {pc : Nat} {ls : List (Nat × Nat × Int)} {st : List (Nat × Int)} {k n : Nat} {h : AH} {b : Int} {f : Int → AH → Option (Int × AH)} (hS : SO S RX10 cc) (hR : 8 + 1 ≤ S.2.2.2.2.2.2.1 ∧ 8 + (3 + 11) + 176 ≤ S.2.2.2.2.2.2.2) (hk : k + 0 ≤ S.2.2.2.1 ∧ n + 0 ≤ S.2.2.2.2.1) (hl : st.length ≤ 4) (d : decode cc pc = .ok (.invokevirtual 214, 3)) (kk : ∀ (r : Int) (h2 : AH), Sim S (pc + 3) ls ((0, r) :: st) (k + 0) (n + 0) h2 (f r h2)) : Sim S pc ls ((2, b) :: st) k n h (c_k h 11 b (bd_ (f_M_tested b h) f)) := s_callV hS mo_X10_tested rfl rfl (c_M_tested _ _ _ h) tw_1400 tw_1402 tw_55 hR hk rfl rfl hl d kk
abbrev S_M_isServeHere (G : GE) (X : SMw) : SX := (G, X, 2, 0, 0, (some .boolean), 9, 198)
set_option maxRecDepth 100000 in
set_option maxHeartbeats 4000000 in
theorem b_M_isServeHere_110 {G : GE} {X : SMw} (hS : SO (S_M_isServeHere G X) RX10 cX10_isServeHere) (z0 z1 : Int) (h : AH) : Sim (S_M_isServeHere G X) 110 [(0, 2, z0), (1, 0, z1)] [] 0 0 h (f_M_isServeHere_110 z0 z1 h) := by
  unfold f_M_isServeHere_110
  refine s_aload_n hS dX10_isServeHere_110 rfl 0 rfl ?_
  refine gf_X10_20 hS dX10_isServeHere_111 fun v1 => ?_
  refine s_iload_n hS dX10_isServeHere_114 rfl 1 rfl ?_
  refine s_iconst hS dX10_isServeHere_115 ?_
  refine s_iadd hS dX10_isServeHere_116 ?_
  refine s_aload_n hS dX10_isServeHere_117 rfl 0 rfl ?_
  refine gf_X10_17 hS dX10_isServeHere_118 fun v2 => ?_
  refine s_aload_n hS dX10_isServeHere_121 rfl 0 rfl ?_
  refine gf_X10_145 hS dX10_isServeHere_122 fun v3 => ?_
  refine s_iald hS dX10_isServeHere_125 fun v4 => ?_
  refine s_iast hS dX10_isServeHere_126 fun h5 => ?_
  refine s_aload_n hS dX10_isServeHere_127 rfl 0 rfl ?_
  refine gf_X10_23 hS dX10_isServeHere_128 fun v6 => ?_
  refine s_aload_n hS dX10_isServeHere_131 rfl 0 rfl ?_
  refine gf_X10_145 hS dX10_isServeHere_132 fun v7 => ?_
  refine s_dup2 hS dX10_isServeHere_135 (by decide) (by decide) ?_
  refine s_iald hS dX10_isServeHere_136 fun v8 => ?_
  refine s_iconst hS dX10_isServeHere_137 ?_
  refine s_iadd hS dX10_isServeHere_138 ?_
  refine s_iast hS dX10_isServeHere_139 fun h9 => ?_
  refine s_iconst hS dX10_isServeHere_140 ?_
  exact s_zret hS rfl (Nat.le_of_ble_eq_true rfl) (Nat.le_of_ble_eq_true rfl) dX10_isServeHere_141
set_option maxRecDepth 100000 in
set_option maxHeartbeats 4000000 in
theorem b_M_isServeHere {G : GE} {X : SMw} (hS : SO (S_M_isServeHere G X) RX10 cX10_isServeHere) (z0 : Int) (h : AH) : Sim (S_M_isServeHere G X) 0 [(0, 2, z0)] [] 0 0 h (f_M_isServeHere z0 h) := by
  unfold f_M_isServeHere
  refine s_aload_n hS dX10_isServeHere_0 rfl 0 rfl ?_
  refine ca_X10_108 hS ⟨Nat.le_of_ble_eq_true rfl, Nat.le_of_ble_eq_true rfl⟩ ⟨Nat.le_of_ble_eq_true rfl, Nat.le_of_ble_eq_true rfl⟩ (Nat.le_of_ble_eq_true rfl) dX10_isServeHere_1 fun v1 h2 => ?_
  refine s_bipush hS dX10_isServeHere_4 (by decide +kernel) ?_
  refine s_aload_n hS dX10_isServeHere_6 rfl 0 rfl ?_
  refine gf_X10_145 hS dX10_isServeHere_7 fun v3 => ?_
  refine s_imul hS dX10_isServeHere_10 ?_
  refine s_iconst hS dX10_isServeHere_11 ?_
  refine s_aload_n hS dX10_isServeHere_12 rfl 0 rfl ?_
  refine gf_X10_23 hS dX10_isServeHere_13 fun v4 => ?_
  refine s_aload_n hS dX10_isServeHere_16 rfl 0 rfl ?_
  refine gf_X10_145 hS dX10_isServeHere_17 fun v5 => ?_
  refine s_iald hS dX10_isServeHere_20 fun v6 => ?_
  refine s_imul hS dX10_isServeHere_21 ?_
  refine s_iadd hS dX10_isServeHere_22 ?_
  refine s_let fun v7 => ?_
  refine s_istore_n hS dX10_isServeHere_23 rfl (Nat.le_of_ble_eq_true rfl) (ls' := [(1, 0, v7), (0, 2, z0)]) rfl ?_
  refine s_aload_n hS dX10_isServeHere_24 rfl 1 rfl ?_
  refine gf_X10_20 hS dX10_isServeHere_25 fun v8 => ?_
  refine s_iload_n hS dX10_isServeHere_28 rfl 0 rfl ?_
  refine s_aload_n hS dX10_isServeHere_29 rfl 1 rfl ?_
  refine gf_X10_17 hS dX10_isServeHere_30 fun v9 => ?_
  refine s_aload_n hS dX10_isServeHere_33 rfl 1 rfl ?_
  refine gf_X10_145 hS dX10_isServeHere_34 fun v10 => ?_
  refine s_iald hS dX10_isServeHere_37 fun v11 => ?_
  refine s_iast hS dX10_isServeHere_38 fun h12 => ?_
  refine s_aload_n hS dX10_isServeHere_39 rfl 1 rfl ?_
  refine ca_X10_182 hS ⟨Nat.le_of_ble_eq_true rfl, Nat.le_of_ble_eq_true rfl⟩ ⟨Nat.le_of_ble_eq_true rfl, Nat.le_of_ble_eq_true rfl⟩ (Nat.le_of_ble_eq_true rfl) dX10_isServeHere_40 fun v13 h14 => ?_
  refine s_if_ne hS dX10_isServeHere_43 rfl ?_ ?_
  · refine s_aload_n hS dX10_isServeHere_48 rfl 1 rfl ?_
    refine gf_X10_20 hS dX10_isServeHere_49 fun v15 => ?_
    refine s_iload_n hS dX10_isServeHere_52 rfl 0 rfl ?_
    refine s_iconst hS dX10_isServeHere_53 ?_
    refine s_iadd hS dX10_isServeHere_54 ?_
    refine s_aload_n hS dX10_isServeHere_55 rfl 1 rfl ?_
    refine gf_X10_17 hS dX10_isServeHere_56 fun v16 => ?_
    refine s_aload_n hS dX10_isServeHere_59 rfl 1 rfl ?_
    refine gf_X10_145 hS dX10_isServeHere_60 fun v17 => ?_
    refine s_iald hS dX10_isServeHere_63 fun v18 => ?_
    refine s_iast hS dX10_isServeHere_64 fun h19 => ?_
    refine s_aload_n hS dX10_isServeHere_65 rfl 1 rfl ?_
    refine gf_X10_20 hS dX10_isServeHere_66 fun v20 => ?_
    refine s_iload_n hS dX10_isServeHere_69 rfl 0 rfl ?_
    refine s_iconst hS dX10_isServeHere_70 ?_
    refine s_iadd hS dX10_isServeHere_71 ?_
    refine s_iconst hS dX10_isServeHere_72 ?_
    refine s_iast hS dX10_isServeHere_73 fun h21 => ?_
    refine s_aload_n hS dX10_isServeHere_74 rfl 1 rfl ?_
    refine s_ldc2 hS (z := 26982) tw_1395 (by decide +kernel) dX10_isServeHere_75 ?_
    refine ca_X10_211 hS ⟨Nat.le_of_ble_eq_true rfl, Nat.le_of_ble_eq_true rfl⟩ ⟨Nat.le_of_ble_eq_true rfl, Nat.le_of_ble_eq_true rfl⟩ (Nat.le_of_ble_eq_true rfl) dX10_isServeHere_78 fun v22 h23 => ?_
    refine s_if_eq hS dX10_isServeHere_81 rfl ?_ ?_
    · refine s_ls [1, 0] rfl ?_
      exact b_M_isServeHere_110 hS _ _ _
    · refine s_aload_n hS dX10_isServeHere_84 rfl 1 rfl ?_
      refine gf_X10_20 hS dX10_isServeHere_85 fun v24 => ?_
      refine s_iload_n hS dX10_isServeHere_88 rfl 0 rfl ?_
      refine s_iconst hS dX10_isServeHere_89 ?_
      refine s_iadd hS dX10_isServeHere_90 ?_
      refine s_aload_n hS dX10_isServeHere_91 rfl 1 rfl ?_
      refine gf_X10_17 hS dX10_isServeHere_92 fun v25 => ?_
      refine s_aload_n hS dX10_isServeHere_95 rfl 1 rfl ?_
      refine gf_X10_145 hS dX10_isServeHere_96 fun v26 => ?_
      refine s_iald hS dX10_isServeHere_99 fun v27 => ?_
      refine s_iast hS dX10_isServeHere_100 fun h28 => ?_
      refine s_aload_n hS dX10_isServeHere_101 rfl 1 rfl ?_
      refine ca_X10_214 hS ⟨Nat.le_of_ble_eq_true rfl, Nat.le_of_ble_eq_true rfl⟩ ⟨Nat.le_of_ble_eq_true rfl, Nat.le_of_ble_eq_true rfl⟩ (Nat.le_of_ble_eq_true rfl) dX10_isServeHere_102 fun v29 h30 => ?_
      refine s_if_ne hS dX10_isServeHere_105 rfl ?_ ?_
      · refine s_ls [1, 0] rfl ?_
        exact b_M_isServeHere_110 hS _ _ _
      · refine s_iconst hS dX10_isServeHere_108 ?_
        exact s_zret hS rfl (Nat.le_of_ble_eq_true rfl) (Nat.le_of_ble_eq_true rfl) dX10_isServeHere_109
  · refine s_iconst hS dX10_isServeHere_46 ?_
    exact s_zret hS rfl (Nat.le_of_ble_eq_true rfl) (Nat.le_of_ble_eq_true rfl) dX10_isServeHere_47
theorem c_M_isServeHere (l : Launch) (G : GE) (z0 : Int) (h : AH) : Con l yX10_isServeHere cX10_isServeHere 2 (some .boolean) 9 198 0 0 G [(2, z0)] h (f_M_isServeHere z0 h) :=
  con_of (by decide +kernel) (Nat.le_of_ble_eq_true rfl) fun X hX hS hi => b_M_isServeHere hS z0 h
theorem gf_X10_26 {S : SX} {cc : ByteArray} {pc : Nat} {ls : List (Nat × Nat × Int)} {st : List (Nat × Int)} {k n : Nat} {h : AH} {a : Int} {f : Int → Option (Int × AH)} (hS : SO S RX10 cc) (d : decode cc pc = .ok (.getfield 26, 3)) (kk : ∀ v : Int, Sim S (pc + 3) ls ((2, v) :: st) k n h (f v)) : Sim S pc ls ((2, a) :: st) k n h ((g_f h 11 a 7).bind f) := s_getf hS cx_10 7 (by decide) tw_1145 rfl rfl rfl d kk
abbrev S_M_cellHere (G : GE) (X : SMw) : SX := (G, X, 4, 0, 0, (some .boolean), 2, 49)
set_option maxRecDepth 100000 in
set_option maxHeartbeats 4000000 in
theorem b_M_cellHere {G : GE} {X : SMw} (hS : SO (S_M_cellHere G X) RX10 cX10_cellHere) (z0 z1 z2 z3 : Int) (h : AH) : Sim (S_M_cellHere G X) 0 [(0, 2, z0), (1, 0, z1), (2, 0, z2), (3, 0, z3)] [] 0 0 h (f_M_cellHere z0 z1 z2 z3 h) := by
  unfold f_M_cellHere
  refine s_aload_n hS dX10_cellHere_0 rfl 0 rfl ?_
  refine s_iload_n hS dX10_cellHere_1 rfl 2 rfl ?_
  refine s_iload_n hS dX10_cellHere_2 rfl 3 rfl ?_
  refine ca_X10_166 hS ⟨Nat.le_of_ble_eq_true rfl, Nat.le_of_ble_eq_true rfl⟩ ⟨Nat.le_of_ble_eq_true rfl, Nat.le_of_ble_eq_true rfl⟩ (Nat.le_of_ble_eq_true rfl) dX10_cellHere_3 fun v1 h2 => ?_
  refine s_if_ne hS dX10_cellHere_6 rfl ?_ ?_
  · refine s_aload_n hS dX10_cellHere_11 rfl 0 rfl ?_
    refine gf_X10_26 hS dX10_cellHere_12 fun v3 => ?_
    refine s_iload_n hS dX10_cellHere_15 rfl 1 rfl ?_
    refine s_aload_n hS dX10_cellHere_16 rfl 0 rfl ?_
    refine gf_X10_118 hS dX10_cellHere_17 fun v4 => ?_
    refine s_iast hS dX10_cellHere_20 fun h5 => ?_
    refine s_iconst hS dX10_cellHere_21 ?_
    exact s_zret hS rfl (Nat.le_of_ble_eq_true rfl) (Nat.le_of_ble_eq_true rfl) dX10_cellHere_22
  · refine s_iconst hS dX10_cellHere_9 ?_
    exact s_zret hS rfl (Nat.le_of_ble_eq_true rfl) (Nat.le_of_ble_eq_true rfl) dX10_cellHere_10
theorem c_M_cellHere (l : Launch) (G : GE) (z0 z1 z2 z3 : Int) (h : AH) : Con l yX10_cellHere cX10_cellHere 4 (some .boolean) 2 49 0 0 G [(2, z0), (0, z1), (0, z2), (0, z3)] h (f_M_cellHere z0 z1 z2 z3 h) :=
  con_of (by decide +kernel) (Nat.le_of_ble_eq_true rfl) fun X hX hS hi => b_M_cellHere hS z0 z1 z2 z3 h
theorem ca_X10_217 {S : SX} {cc : ByteArray} {pc : Nat} {ls : List (Nat × Nat × Int)} {st : List (Nat × Int)} {k n : Nat} {h : AH} {q0 q1 q2 b : Int} {f : Int → AH → Option (Int × AH)} (hS : SO S RX10 cc) (hR : 2 + 1 ≤ S.2.2.2.2.2.2.1 ∧ 8 + (4 + 11) + 49 ≤ S.2.2.2.2.2.2.2) (hk : k + 0 ≤ S.2.2.2.1 ∧ n + 0 ≤ S.2.2.2.2.1) (hl : st.length ≤ 4) (d : decode cc pc = .ok (.invokevirtual 217, 3)) (kk : ∀ (r : Int) (h2 : AH), Sim S (pc + 3) ls ((0, r) :: st) (k + 0) (n + 0) h2 (f r h2)) : Sim S pc ls ((0, q2) :: (0, q1) :: (0, q0) :: (2, b) :: st) k n h (c_k h 11 b (bd_ (f_M_cellHere b q0 q1 q2 h) f)) := s_callV hS mo_X10_cellHere rfl rfl (c_M_cellHere _ _ _ _ _ _ h) tw_1327 tw_1329 tw_40 hR hk rfl rfl hl d kk
abbrev S_M_isPapersHere (G : GE) (X : SMw) : SX := (G, X, 3, 0, 0, (some .boolean), 3, 72)
set_option maxRecDepth 100000 in
set_option maxHeartbeats 4000000 in
theorem B_M_isPapersHere_35 {G : GE} {X : SMw} (hS : SO (S_M_isPapersHere G X) RX10 cX10_isPapersHere) (z0 : Int) {k35 : Int → AH → Option (Int × AH)} (hk35 : ∀ (z2 : Int) (h : AH), Sim (S_M_isPapersHere G X) 35 [(0, 2, z0), (2, 0, z2)] [] 0 0 h (k35 z2 h)) (z2 : Int) (h : AH) : Sim (S_M_isPapersHere G X) 35 [(0, 2, z0), (2, 0, z2)] [] 0 0 h (F_M_isPapersHere_35 z0 k35 z2 h) := by
  unfold F_M_isPapersHere_35
  refine s_iload_n hS dX10_isPapersHere_35 rfl 1 rfl ?_
  refine s_bipush hS dX10_isPapersHere_36 (by decide +kernel) ?_
  refine s_icmp_ge hS dX10_isPapersHere_38 rfl ?_ ?_
  · refine s_aload_n hS dX10_isPapersHere_56 rfl 0 rfl ?_
    refine gf_X10_26 hS dX10_isPapersHere_57 fun v1 => ?_
    refine s_iconst hS dX10_isPapersHere_60 ?_
    refine s_iconst hS dX10_isPapersHere_61 ?_
    refine s_iast hS dX10_isPapersHere_62 fun h2 => ?_
    refine s_iconst hS dX10_isPapersHere_63 ?_
    exact s_zret hS rfl (Nat.le_of_ble_eq_true rfl) (Nat.le_of_ble_eq_true rfl) dX10_isPapersHere_64
  · refine s_aload_n hS dX10_isPapersHere_41 rfl 0 rfl ?_
    refine gf_X10_26 hS dX10_isPapersHere_42 fun v3 => ?_
    refine s_iconst hS dX10_isPapersHere_45 ?_
    refine s_iload_n hS dX10_isPapersHere_46 rfl 1 rfl ?_
    refine s_iadd hS dX10_isPapersHere_47 ?_
    refine s_iconst hS dX10_isPapersHere_48 ?_
    refine s_iast hS dX10_isPapersHere_49 fun h4 => ?_
    refine s_iinc hS dX10_isPapersHere_50 1 rfl (Nat.le_of_ble_eq_true rfl) (ls' := [(2, 0, (z2 + 1)), (0, 2, z0)]) rfl ?_
    refine s_goto hS dX10_isPapersHere_53 rfl ?_
    refine s_ls [1, 0] rfl ?_
    exact hk35 _ _
set_option maxRecDepth 100000 in
set_option maxHeartbeats 4000000 in
theorem b_M_isPapersHere_35 {G : GE} {X : SMw} (hS : SO (S_M_isPapersHere G X) RX10 cX10_isPapersHere) (z0 : Int) (z2 : Int) (h : AH) : Sim (S_M_isPapersHere G X) 35 [(0, 2, z0), (2, 0, z2)] [] 0 0 h (f_M_isPapersHere_35 z0 z2 h) := by
  exact s_loop (S := (S_M_isPapersHere G X)) (lsf := fun s : Int × AH => [(0, 2, z0), (2, 0, s.1)]) (hf := fun s => s.2) (fun kf hkf s => B_M_isPapersHere_35 hS z0 (fun a0 a1 => hkf (a0, a1)) s.1 s.2) fu_ (z2, h)
set_option maxRecDepth 100000 in
set_option maxHeartbeats 4000000 in
theorem b_M_isPapersHere {G : GE} {X : SMw} (hS : SO (S_M_isPapersHere G X) RX10 cX10_isPapersHere) (z0 z1 : Int) (h : AH) : Sim (S_M_isPapersHere G X) 0 [(0, 2, z0), (1, 0, z1)] [] 0 0 h (f_M_isPapersHere z0 z1 h) := by
  unfold f_M_isPapersHere
  refine s_aload_n hS dX10_isPapersHere_0 rfl 0 rfl ?_
  refine gf_X10_26 hS dX10_isPapersHere_1 fun v1 => ?_
  refine s_iconst hS dX10_isPapersHere_4 ?_
  refine s_iald hS dX10_isPapersHere_5 fun v2 => ?_
  refine s_if_le hS dX10_isPapersHere_6 rfl ?_ ?_
  · refine s_aload_n hS dX10_isPapersHere_16 rfl 0 rfl ?_
    refine ca_X10_108 hS ⟨Nat.le_of_ble_eq_true rfl, Nat.le_of_ble_eq_true rfl⟩ ⟨Nat.le_of_ble_eq_true rfl, Nat.le_of_ble_eq_true rfl⟩ (Nat.le_of_ble_eq_true rfl) dX10_isPapersHere_17 fun v3 h4 => ?_
    refine s_aload_n hS dX10_isPapersHere_20 rfl 0 rfl ?_
    refine s_iconst hS dX10_isPapersHere_21 ?_
    refine s_iconst hS dX10_isPapersHere_22 ?_
    refine s_bipush hS dX10_isPapersHere_23 (by decide +kernel) ?_
    refine ca_X10_217 hS ⟨Nat.le_of_ble_eq_true rfl, Nat.le_of_ble_eq_true rfl⟩ ⟨Nat.le_of_ble_eq_true rfl, Nat.le_of_ble_eq_true rfl⟩ (Nat.le_of_ble_eq_true rfl) dX10_isPapersHere_25 fun v5 h6 => ?_
    refine s_if_ne hS dX10_isPapersHere_28 rfl ?_ ?_
    · refine s_iconst hS dX10_isPapersHere_33 ?_
      refine s_istore_n hS dX10_isPapersHere_34 rfl (Nat.le_of_ble_eq_true rfl) (ls' := [(2, 0, 0), (0, 2, z0), (1, 0, z1)]) rfl ?_
      refine s_ls [1, 0] rfl ?_
      exact b_M_isPapersHere_35 hS _ _ _
    · refine s_iconst hS dX10_isPapersHere_31 ?_
      exact s_zret hS rfl (Nat.le_of_ble_eq_true rfl) (Nat.le_of_ble_eq_true rfl) dX10_isPapersHere_32
  · refine s_aload_n hS dX10_isPapersHere_9 rfl 0 rfl ?_
    refine s_iconst hS dX10_isPapersHere_10 ?_
    refine s_iload_n hS dX10_isPapersHere_11 rfl 1 rfl ?_
    refine ca_X10_114 hS ⟨Nat.le_of_ble_eq_true rfl, Nat.le_of_ble_eq_true rfl⟩ ⟨Nat.le_of_ble_eq_true rfl, Nat.le_of_ble_eq_true rfl⟩ (Nat.le_of_ble_eq_true rfl) dX10_isPapersHere_12 fun v7 h8 => ?_
    exact s_zret hS rfl (Nat.le_of_ble_eq_true rfl) (Nat.le_of_ble_eq_true rfl) dX10_isPapersHere_15
theorem c_M_isPapersHere (l : Launch) (G : GE) (z0 z1 : Int) (h : AH) : Con l yX10_isPapersHere cX10_isPapersHere 3 (some .boolean) 3 72 0 0 G [(2, z0), (0, z1)] h (f_M_isPapersHere z0 z1 h) :=
  con_of (by decide +kernel) (Nat.le_of_ble_eq_true rfl) fun X hX hS hi => b_M_isPapersHere hS z0 z1 h
abbrev S_M_isFreeTold (G : GE) (X : SMw) : SX := (G, X, 4, 0, 0, (some .boolean), 0, 0)
set_option maxRecDepth 100000 in
set_option maxHeartbeats 4000000 in
theorem B_M_isFreeTold_2 {G : GE} {X : SMw} (hS : SO (S_M_isFreeTold G X) RX10 cX10_isFreeTold) (z0 z2 : Int) {k2 : Int → AH → Option (Int × AH)} (hk2 : ∀ (z3 : Int) (h : AH), Sim (S_M_isFreeTold G X) 2 [(0, 2, z0), (2, 0, z2), (3, 0, z3)] [] 0 0 h (k2 z3 h)) (z3 : Int) (h : AH) : Sim (S_M_isFreeTold G X) 2 [(0, 2, z0), (2, 0, z2), (3, 0, z3)] [] 0 0 h (F_M_isFreeTold_2 z0 z2 k2 z3 h) := by
  unfold F_M_isFreeTold_2
  refine s_iload_n hS dX10_isFreeTold_2 rfl 2 rfl ?_
  refine s_iload_n hS dX10_isFreeTold_3 rfl 1 rfl ?_
  refine s_icmp_gt hS dX10_isFreeTold_4 rfl ?_ ?_
  · refine s_iconst hS dX10_isFreeTold_26 ?_
    exact s_zret hS rfl (Nat.le_of_ble_eq_true rfl) (Nat.le_of_ble_eq_true rfl) dX10_isFreeTold_27
  · refine s_aload_n hS dX10_isFreeTold_7 rfl 0 rfl ?_
    refine gf_X10_26 hS dX10_isFreeTold_8 fun v1 => ?_
    refine s_iconst hS dX10_isFreeTold_11 ?_
    refine s_iload_n hS dX10_isFreeTold_12 rfl 2 rfl ?_
    refine s_iadd hS dX10_isFreeTold_13 ?_
    refine s_iald hS dX10_isFreeTold_14 fun v2 => ?_
    refine s_if_lt hS dX10_isFreeTold_15 rfl ?_ ?_
    · refine s_iinc hS dX10_isFreeTold_20 2 rfl (Nat.le_of_ble_eq_true rfl) (ls' := [(3, 0, (z3 + 1)), (0, 2, z0), (2, 0, z2)]) rfl ?_
      refine s_goto hS dX10_isFreeTold_23 rfl ?_
      refine s_ls [1, 2, 0] rfl ?_
      exact hk2 _ _
    · refine s_iconst hS dX10_isFreeTold_18 ?_
      exact s_zret hS rfl (Nat.le_of_ble_eq_true rfl) (Nat.le_of_ble_eq_true rfl) dX10_isFreeTold_19
set_option maxRecDepth 100000 in
set_option maxHeartbeats 4000000 in
theorem b_M_isFreeTold_2 {G : GE} {X : SMw} (hS : SO (S_M_isFreeTold G X) RX10 cX10_isFreeTold) (z0 z2 : Int) (z3 : Int) (h : AH) : Sim (S_M_isFreeTold G X) 2 [(0, 2, z0), (2, 0, z2), (3, 0, z3)] [] 0 0 h (f_M_isFreeTold_2 z0 z2 z3 h) := by
  exact s_loop (S := (S_M_isFreeTold G X)) (lsf := fun s : Int × AH => [(0, 2, z0), (2, 0, z2), (3, 0, s.1)]) (hf := fun s => s.2) (fun kf hkf s => B_M_isFreeTold_2 hS z0 z2 (fun a0 a1 => hkf (a0, a1)) s.1 s.2) fu_ (z3, h)
set_option maxRecDepth 100000 in
set_option maxHeartbeats 4000000 in
theorem b_M_isFreeTold {G : GE} {X : SMw} (hS : SO (S_M_isFreeTold G X) RX10 cX10_isFreeTold) (z0 z1 z2 : Int) (h : AH) : Sim (S_M_isFreeTold G X) 0 [(0, 2, z0), (1, 0, z1), (2, 0, z2)] [] 0 0 h (f_M_isFreeTold z0 z1 z2 h) := by
  unfold f_M_isFreeTold
  refine s_iload_n hS dX10_isFreeTold_0 rfl 1 rfl ?_
  refine s_istore_n hS dX10_isFreeTold_1 rfl (Nat.le_of_ble_eq_true rfl) (ls' := [(3, 0, z1), (0, 2, z0), (1, 0, z1), (2, 0, z2)]) rfl ?_
  refine s_ls [1, 3, 0] rfl ?_
  exact b_M_isFreeTold_2 hS _ _ _ _
theorem c_M_isFreeTold (l : Launch) (G : GE) (z0 z1 z2 : Int) (h : AH) : Con l yX10_isFreeTold cX10_isFreeTold 4 (some .boolean) 0 0 0 0 G [(2, z0), (0, z1), (0, z2)] h (f_M_isFreeTold z0 z1 z2 h) :=
  con_of (by decide +kernel) (Nat.le_of_ble_eq_true rfl) fun X hX hS hi => b_M_isFreeTold hS z0 z1 z2 h
theorem ca_X10_221 {S : SX} {cc : ByteArray} {pc : Nat} {ls : List (Nat × Nat × Int)} {st : List (Nat × Int)} {k n : Nat} {h : AH} {q0 q1 b : Int} {f : Int → AH → Option (Int × AH)} (hS : SO S RX10 cc) (hR : 0 + 1 ≤ S.2.2.2.2.2.2.1 ∧ 8 + (4 + 11) + 0 ≤ S.2.2.2.2.2.2.2) (hk : k + 0 ≤ S.2.2.2.1 ∧ n + 0 ≤ S.2.2.2.2.1) (hl : st.length ≤ 4) (d : decode cc pc = .ok (.invokevirtual 221, 3)) (kk : ∀ (r : Int) (h2 : AH), Sim S (pc + 3) ls ((0, r) :: st) (k + 0) (n + 0) h2 (f r h2)) : Sim S pc ls ((0, q1) :: (0, q0) :: (2, b) :: st) k n h (c_k h 11 b (bd_ (f_M_isFreeTold b q0 q1 h) f)) := s_callV hS mo_X10_isFreeTold rfl rfl (c_M_isFreeTold _ _ _ _ _ h) tw_1346 tw_1348 tw_44 hR hk rfl rfl hl d kk
abbrev S_M_isStationHere (G : GE) (X : SMw) : SX := (G, X, 6, 0, 0, (some .boolean), 2, 49)
set_option maxRecDepth 100000 in
set_option maxHeartbeats 4000000 in
theorem B_M_isStationHere_122 {G : GE} {X : SMw} (hS : SO (S_M_isStationHere G X) RX10 cX10_isStationHere) (z0 : Int) {k122 : Int → AH → Option (Int × AH)} (hk122 : ∀ (z5 : Int) (h : AH), Sim (S_M_isStationHere G X) 122 [(0, 2, z0), (5, 0, z5)] [] 0 0 h (k122 z5 h)) (z5 : Int) (h : AH) : Sim (S_M_isStationHere G X) 122 [(0, 2, z0), (5, 0, z5)] [] 0 0 h (F_M_isStationHere_122 z0 k122 z5 h) := by
  unfold F_M_isStationHere_122
  refine s_iload hS dX10_isStationHere_122 1 rfl ?_
  refine s_aload_n hS dX10_isStationHere_124 rfl 0 rfl ?_
  refine gf_X10_118 hS dX10_isStationHere_125 fun v1 => ?_
  refine s_icmp_gt hS dX10_isStationHere_128 rfl ?_ ?_
  · refine s_aload_n hS dX10_isStationHere_152 rfl 0 rfl ?_
    refine gf_X10_26 hS dX10_isStationHere_153 fun v2 => ?_
    refine s_iconst hS dX10_isStationHere_156 ?_
    refine s_dup2 hS dX10_isStationHere_157 (by decide) (by decide) ?_
    refine s_iald hS dX10_isStationHere_158 fun v3 => ?_
    refine s_iconst hS dX10_isStationHere_159 ?_
    refine s_iadd hS dX10_isStationHere_160 ?_
    refine s_iast hS dX10_isStationHere_161 fun h4 => ?_
    refine s_iconst hS dX10_isStationHere_162 ?_
    exact s_zret hS rfl (Nat.le_of_ble_eq_true rfl) (Nat.le_of_ble_eq_true rfl) dX10_isStationHere_163
  · refine s_aload_n hS dX10_isStationHere_131 rfl 0 rfl ?_
    refine gf_X10_26 hS dX10_isStationHere_132 fun v5 => ?_
    refine s_iconst hS dX10_isStationHere_135 ?_
    refine s_iload hS dX10_isStationHere_136 1 rfl ?_
    refine s_iadd hS dX10_isStationHere_138 ?_
    refine s_aload_n hS dX10_isStationHere_139 rfl 0 rfl ?_
    refine gf_X10_26 hS dX10_isStationHere_140 fun v6 => ?_
    refine s_iconst hS dX10_isStationHere_143 ?_
    refine s_iald hS dX10_isStationHere_144 fun v7 => ?_
    refine s_iast hS dX10_isStationHere_145 fun h8 => ?_
    refine s_iinc hS dX10_isStationHere_146 1 rfl (Nat.le_of_ble_eq_true rfl) (ls' := [(5, 0, (z5 + 1)), (0, 2, z0)]) rfl ?_
    refine s_goto hS dX10_isStationHere_149 rfl ?_
    refine s_ls [1, 0] rfl ?_
    exact hk122 _ _
set_option maxRecDepth 100000 in
set_option maxHeartbeats 4000000 in
theorem b_M_isStationHere_122 {G : GE} {X : SMw} (hS : SO (S_M_isStationHere G X) RX10 cX10_isStationHere) (z0 : Int) (z5 : Int) (h : AH) : Sim (S_M_isStationHere G X) 122 [(0, 2, z0), (5, 0, z5)] [] 0 0 h (f_M_isStationHere_122 z0 z5 h) := by
  exact s_loop (S := (S_M_isStationHere G X)) (lsf := fun s : Int × AH => [(0, 2, z0), (5, 0, s.1)]) (hf := fun s => s.2) (fun kf hkf s => B_M_isStationHere_122 hS z0 (fun a0 a1 => hkf (a0, a1)) s.1 s.2) fu_ (z5, h)
set_option maxRecDepth 100000 in
set_option maxHeartbeats 4000000 in
theorem b_M_isStationHere {G : GE} {X : SMw} (hS : SO (S_M_isStationHere G X) RX10 cX10_isStationHere) (z0 z1 : Int) (h : AH) : Sim (S_M_isStationHere G X) 0 [(0, 2, z0), (1, 0, z1)] [] 0 0 h (f_M_isStationHere z0 z1 h) := by
  unfold f_M_isStationHere
  refine s_aload_n hS dX10_isStationHere_0 rfl 0 rfl ?_
  refine gf_X10_26 hS dX10_isStationHere_1 fun v1 => ?_
  refine s_iconst hS dX10_isStationHere_4 ?_
  refine s_iald hS dX10_isStationHere_5 fun v2 => ?_
  refine s_iconst hS dX10_isStationHere_6 ?_
  refine s_icmp_ne hS dX10_isStationHere_7 rfl ?_ ?_
  · refine s_aload_n hS dX10_isStationHere_17 rfl 0 rfl ?_
    refine ca_X10_108 hS ⟨Nat.le_of_ble_eq_true rfl, Nat.le_of_ble_eq_true rfl⟩ ⟨Nat.le_of_ble_eq_true rfl, Nat.le_of_ble_eq_true rfl⟩ (Nat.le_of_ble_eq_true rfl) dX10_isStationHere_18 fun v3 h4 => ?_
    refine s_aload_n hS dX10_isStationHere_21 rfl 0 rfl ?_
    refine ca_X10_96 hS ⟨Nat.le_of_ble_eq_true rfl, Nat.le_of_ble_eq_true rfl⟩ ⟨Nat.le_of_ble_eq_true rfl, Nat.le_of_ble_eq_true rfl⟩ (Nat.le_of_ble_eq_true rfl) dX10_isStationHere_22 fun v5 h6 => ?_
    refine s_pop hS dX10_isStationHere_25 (by decide) ?_
    refine s_aload_n hS dX10_isStationHere_26 rfl 0 rfl ?_
    refine gf_X10_93 hS dX10_isStationHere_27 fun v7 => ?_
    refine s_istore_n hS dX10_isStationHere_30 rfl (Nat.le_of_ble_eq_true rfl) (ls' := [(2, 0, v7), (0, 2, z0), (1, 0, z1)]) rfl ?_
    refine s_aload_n hS dX10_isStationHere_31 rfl 1 rfl ?_
    refine s_iconst hS dX10_isStationHere_32 ?_
    refine s_aload_n hS dX10_isStationHere_33 rfl 1 rfl ?_
    refine gf_X10_26 hS dX10_isStationHere_34 fun v8 => ?_
    refine s_iconst hS dX10_isStationHere_37 ?_
    refine s_iald hS dX10_isStationHere_38 fun v9 => ?_
    refine s_iconst hS dX10_isStationHere_39 ?_
    refine s_isub hS dX10_isStationHere_40 ?_
    refine ca_X10_166 hS ⟨Nat.le_of_ble_eq_true rfl, Nat.le_of_ble_eq_true rfl⟩ ⟨Nat.le_of_ble_eq_true rfl, Nat.le_of_ble_eq_true rfl⟩ (Nat.le_of_ble_eq_true rfl) dX10_isStationHere_41 fun v10 h11 => ?_
    refine s_if_ne hS dX10_isStationHere_44 rfl ?_ ?_
    · refine s_aload_n hS dX10_isStationHere_49 rfl 1 rfl ?_
      refine gf_X10_118 hS dX10_isStationHere_50 fun v12 => ?_
      refine s_istore_n hS dX10_isStationHere_53 rfl (Nat.le_of_ble_eq_true rfl) (ls' := [(3, 0, v12), (2, 0, v7), (0, 2, z0), (1, 0, z1)]) rfl ?_
      refine s_aload_n hS dX10_isStationHere_54 rfl 2 rfl ?_
      refine s_iload_n hS dX10_isStationHere_55 rfl 0 rfl ?_
      refine s_iload_n hS dX10_isStationHere_56 rfl 0 rfl ?_
      refine ca_X10_221 hS ⟨Nat.le_of_ble_eq_true rfl, Nat.le_of_ble_eq_true rfl⟩ ⟨Nat.le_of_ble_eq_true rfl, Nat.le_of_ble_eq_true rfl⟩ (Nat.le_of_ble_eq_true rfl) dX10_isStationHere_57 fun v13 h14 => ?_
      refine s_if_ne hS dX10_isStationHere_60 rfl ?_ ?_
      · refine s_aload_n hS dX10_isStationHere_70 rfl 2 rfl ?_
        refine ca_X10_96 hS ⟨Nat.le_of_ble_eq_true rfl, Nat.le_of_ble_eq_true rfl⟩ ⟨Nat.le_of_ble_eq_true rfl, Nat.le_of_ble_eq_true rfl⟩ (Nat.le_of_ble_eq_true rfl) dX10_isStationHere_71 fun v15 h16 => ?_
        refine s_pop hS dX10_isStationHere_74 (by decide) ?_
        refine s_aload_n hS dX10_isStationHere_75 rfl 2 rfl ?_
        refine gf_X10_93 hS dX10_isStationHere_76 fun v17 => ?_
        refine s_istore hS dX10_isStationHere_79 (Nat.le_of_ble_eq_true rfl) (ls' := [(4, 0, v17), (3, 0, v12), (2, 0, v7), (0, 2, z0), (1, 0, z1)]) rfl ?_
        refine s_aload_n hS dX10_isStationHere_81 rfl 3 rfl ?_
        refine s_iload_n hS dX10_isStationHere_82 rfl 1 rfl ?_
        refine s_aload_n hS dX10_isStationHere_83 rfl 3 rfl ?_
        refine gf_X10_26 hS dX10_isStationHere_84 fun v18 => ?_
        refine s_iconst hS dX10_isStationHere_87 ?_
        refine s_iald hS dX10_isStationHere_88 fun v19 => ?_
        refine s_iconst hS dX10_isStationHere_89 ?_
        refine s_isub hS dX10_isStationHere_90 ?_
        refine ca_X10_166 hS ⟨Nat.le_of_ble_eq_true rfl, Nat.le_of_ble_eq_true rfl⟩ ⟨Nat.le_of_ble_eq_true rfl, Nat.le_of_ble_eq_true rfl⟩ (Nat.le_of_ble_eq_true rfl) dX10_isStationHere_91 fun v20 h21 => ?_
        refine s_if_ne hS dX10_isStationHere_94 rfl ?_ ?_
        · refine s_aload_n hS dX10_isStationHere_99 rfl 3 rfl ?_
          refine s_iload_n hS dX10_isStationHere_100 rfl 1 rfl ?_
          refine s_aload_n hS dX10_isStationHere_101 rfl 3 rfl ?_
          refine gf_X10_118 hS dX10_isStationHere_102 fun v22 => ?_
          refine ca_X10_221 hS ⟨Nat.le_of_ble_eq_true rfl, Nat.le_of_ble_eq_true rfl⟩ ⟨Nat.le_of_ble_eq_true rfl, Nat.le_of_ble_eq_true rfl⟩ (Nat.le_of_ble_eq_true rfl) dX10_isStationHere_105 fun v23 h24 => ?_
          refine s_if_ne hS dX10_isStationHere_108 rfl ?_ ?_
          · refine s_iload_n hS dX10_isStationHere_119 rfl 1 rfl ?_
            refine s_istore hS dX10_isStationHere_120 (Nat.le_of_ble_eq_true rfl) (ls' := [(5, 0, v12), (4, 0, v17), (3, 0, v12), (2, 0, v7), (0, 2, z0), (1, 0, z1)]) rfl ?_
            refine s_ls [4, 0] rfl ?_
            exact b_M_isStationHere_122 hS _ _ _
          · refine s_aload_n hS dX10_isStationHere_111 rfl 3 rfl ?_
            refine s_iconst hS dX10_isStationHere_112 ?_
            refine s_iload hS dX10_isStationHere_113 0 rfl ?_
            refine ca_X10_114 hS ⟨Nat.le_of_ble_eq_true rfl, Nat.le_of_ble_eq_true rfl⟩ ⟨Nat.le_of_ble_eq_true rfl, Nat.le_of_ble_eq_true rfl⟩ (Nat.le_of_ble_eq_true rfl) dX10_isStationHere_115 fun v25 h26 => ?_
            exact s_zret hS rfl (Nat.le_of_ble_eq_true rfl) (Nat.le_of_ble_eq_true rfl) dX10_isStationHere_118
        · refine s_iconst hS dX10_isStationHere_97 ?_
          exact s_zret hS rfl (Nat.le_of_ble_eq_true rfl) (Nat.le_of_ble_eq_true rfl) dX10_isStationHere_98
      · refine s_aload_n hS dX10_isStationHere_63 rfl 2 rfl ?_
        refine s_iconst hS dX10_isStationHere_64 ?_
        refine s_iload_n hS dX10_isStationHere_65 rfl 1 rfl ?_
        refine ca_X10_114 hS ⟨Nat.le_of_ble_eq_true rfl, Nat.le_of_ble_eq_true rfl⟩ ⟨Nat.le_of_ble_eq_true rfl, Nat.le_of_ble_eq_true rfl⟩ (Nat.le_of_ble_eq_true rfl) dX10_isStationHere_66 fun v27 h28 => ?_
        exact s_zret hS rfl (Nat.le_of_ble_eq_true rfl) (Nat.le_of_ble_eq_true rfl) dX10_isStationHere_69
    · refine s_iconst hS dX10_isStationHere_47 ?_
      exact s_zret hS rfl (Nat.le_of_ble_eq_true rfl) (Nat.le_of_ble_eq_true rfl) dX10_isStationHere_48
  · refine s_aload_n hS dX10_isStationHere_10 rfl 0 rfl ?_
    refine s_iconst hS dX10_isStationHere_11 ?_
    refine s_iload_n hS dX10_isStationHere_12 rfl 1 rfl ?_
    refine ca_X10_114 hS ⟨Nat.le_of_ble_eq_true rfl, Nat.le_of_ble_eq_true rfl⟩ ⟨Nat.le_of_ble_eq_true rfl, Nat.le_of_ble_eq_true rfl⟩ (Nat.le_of_ble_eq_true rfl) dX10_isStationHere_13 fun v29 h30 => ?_
    exact s_zret hS rfl (Nat.le_of_ble_eq_true rfl) (Nat.le_of_ble_eq_true rfl) dX10_isStationHere_16
theorem c_M_isStationHere (l : Launch) (G : GE) (z0 z1 : Int) (h : AH) : Con l yX10_isStationHere cX10_isStationHere 6 (some .boolean) 2 49 0 0 G [(2, z0), (0, z1)] h (f_M_isStationHere z0 z1 h) :=
  con_of (by decide +kernel) (Nat.le_of_ble_eq_true rfl) fun X hX hS hi => b_M_isStationHere hS z0 z1 h
abbrev S_M_isVotersHere (G : GE) (X : SMw) : SX := (G, X, 2, 0, 0, (some .boolean), 3, 72)
set_option maxRecDepth 100000 in
set_option maxHeartbeats 4000000 in
theorem b_M_isVotersHere {G : GE} {X : SMw} (hS : SO (S_M_isVotersHere G X) RX10 cX10_isVotersHere) (z0 : Int) (h : AH) : Sim (S_M_isVotersHere G X) 0 [(0, 2, z0)] [] 0 0 h (f_M_isVotersHere z0 h) := by
  unfold f_M_isVotersHere
  refine s_aload_n hS dX10_isVotersHere_0 rfl 0 rfl ?_
  refine ca_X10_108 hS ⟨Nat.le_of_ble_eq_true rfl, Nat.le_of_ble_eq_true rfl⟩ ⟨Nat.le_of_ble_eq_true rfl, Nat.le_of_ble_eq_true rfl⟩ (Nat.le_of_ble_eq_true rfl) dX10_isVotersHere_1 fun v1 h2 => ?_
  refine s_aload_n hS dX10_isVotersHere_4 rfl 0 rfl ?_
  refine s_iconst hS dX10_isVotersHere_5 ?_
  refine s_aload_n hS dX10_isVotersHere_6 rfl 0 rfl ?_
  refine gf_X10_26 hS dX10_isVotersHere_7 fun v3 => ?_
  refine s_iconst hS dX10_isVotersHere_10 ?_
  refine s_iald hS dX10_isVotersHere_11 fun v4 => ?_
  refine s_iconst hS dX10_isVotersHere_12 ?_
  refine s_isub hS dX10_isVotersHere_13 ?_
  refine ca_X10_166 hS ⟨Nat.le_of_ble_eq_true rfl, Nat.le_of_ble_eq_true rfl⟩ ⟨Nat.le_of_ble_eq_true rfl, Nat.le_of_ble_eq_true rfl⟩ (Nat.le_of_ble_eq_true rfl) dX10_isVotersHere_14 fun v5 h6 => ?_
  refine s_if_ne hS dX10_isVotersHere_17 rfl ?_ ?_
  · refine s_aload_n hS dX10_isVotersHere_22 rfl 0 rfl ?_
    refine gf_X10_118 hS dX10_isVotersHere_23 fun v7 => ?_
    refine s_istore_n hS dX10_isVotersHere_26 rfl (Nat.le_of_ble_eq_true rfl) (ls' := [(1, 0, v7), (0, 2, z0)]) rfl ?_
    refine s_aload_n hS dX10_isVotersHere_27 rfl 1 rfl ?_
    refine s_bipush hS dX10_isVotersHere_28 (by decide +kernel) ?_
    refine s_iload_n hS dX10_isVotersHere_30 rfl 0 rfl ?_
    refine s_iadd hS dX10_isVotersHere_31 ?_
    refine s_iconst hS dX10_isVotersHere_32 ?_
    refine s_bipush hS dX10_isVotersHere_33 (by decide +kernel) ?_
    refine ca_X10_217 hS ⟨Nat.le_of_ble_eq_true rfl, Nat.le_of_ble_eq_true rfl⟩ ⟨Nat.le_of_ble_eq_true rfl, Nat.le_of_ble_eq_true rfl⟩ (Nat.le_of_ble_eq_true rfl) dX10_isVotersHere_35 fun v8 h9 => ?_
    exact s_zret hS rfl (Nat.le_of_ble_eq_true rfl) (Nat.le_of_ble_eq_true rfl) dX10_isVotersHere_38
  · refine s_iconst hS dX10_isVotersHere_20 ?_
    exact s_zret hS rfl (Nat.le_of_ble_eq_true rfl) (Nat.le_of_ble_eq_true rfl) dX10_isVotersHere_21
theorem c_M_isVotersHere (l : Launch) (G : GE) (z0 : Int) (h : AH) : Con l yX10_isVotersHere cX10_isVotersHere 2 (some .boolean) 3 72 0 0 G [(2, z0)] h (f_M_isVotersHere z0 h) :=
  con_of (by decide +kernel) (Nat.le_of_ble_eq_true rfl) fun X hX hS hi => b_M_isVotersHere hS z0 h
abbrev S_M_isSpoiledHere (G : GE) (X : SMw) : SX := (G, X, 2, 0, 0, (some .boolean), 2, 49)
set_option maxRecDepth 100000 in
set_option maxHeartbeats 4000000 in
theorem b_M_isSpoiledHere {G : GE} {X : SMw} (hS : SO (S_M_isSpoiledHere G X) RX10 cX10_isSpoiledHere) (z0 : Int) (h : AH) : Sim (S_M_isSpoiledHere G X) 0 [(0, 2, z0)] [] 0 0 h (f_M_isSpoiledHere z0 h) := by
  unfold f_M_isSpoiledHere
  refine s_aload_n hS dX10_isSpoiledHere_0 rfl 0 rfl ?_
  refine ca_X10_108 hS ⟨Nat.le_of_ble_eq_true rfl, Nat.le_of_ble_eq_true rfl⟩ ⟨Nat.le_of_ble_eq_true rfl, Nat.le_of_ble_eq_true rfl⟩ (Nat.le_of_ble_eq_true rfl) dX10_isSpoiledHere_1 fun v1 h2 => ?_
  refine s_aload_n hS dX10_isSpoiledHere_4 rfl 0 rfl ?_
  refine ca_X10_96 hS ⟨Nat.le_of_ble_eq_true rfl, Nat.le_of_ble_eq_true rfl⟩ ⟨Nat.le_of_ble_eq_true rfl, Nat.le_of_ble_eq_true rfl⟩ (Nat.le_of_ble_eq_true rfl) dX10_isSpoiledHere_5 fun v3 h4 => ?_
  refine s_pop hS dX10_isSpoiledHere_8 (by decide) ?_
  refine s_aload_n hS dX10_isSpoiledHere_9 rfl 0 rfl ?_
  refine gf_X10_93 hS dX10_isSpoiledHere_10 fun v5 => ?_
  refine s_istore_n hS dX10_isSpoiledHere_13 rfl (Nat.le_of_ble_eq_true rfl) (ls' := [(1, 0, v5), (0, 2, z0)]) rfl ?_
  refine s_aload_n hS dX10_isSpoiledHere_14 rfl 1 rfl ?_
  refine s_iconst hS dX10_isSpoiledHere_15 ?_
  refine s_aload_n hS dX10_isSpoiledHere_16 rfl 1 rfl ?_
  refine gf_X10_26 hS dX10_isSpoiledHere_17 fun v6 => ?_
  refine s_iconst hS dX10_isSpoiledHere_20 ?_
  refine s_iald hS dX10_isSpoiledHere_21 fun v7 => ?_
  refine s_iconst hS dX10_isSpoiledHere_22 ?_
  refine s_isub hS dX10_isSpoiledHere_23 ?_
  refine ca_X10_166 hS ⟨Nat.le_of_ble_eq_true rfl, Nat.le_of_ble_eq_true rfl⟩ ⟨Nat.le_of_ble_eq_true rfl, Nat.le_of_ble_eq_true rfl⟩ (Nat.le_of_ble_eq_true rfl) dX10_isSpoiledHere_24 fun v8 h9 => ?_
  refine s_if_ne hS dX10_isSpoiledHere_27 rfl ?_ ?_
  · refine s_aload_n hS dX10_isSpoiledHere_32 rfl 1 rfl ?_
    refine gf_X10_26 hS dX10_isSpoiledHere_33 fun v10 => ?_
    refine s_iconst hS dX10_isSpoiledHere_36 ?_
    refine s_aload_n hS dX10_isSpoiledHere_37 rfl 1 rfl ?_
    refine gf_X10_118 hS dX10_isSpoiledHere_38 fun v11 => ?_
    refine s_iadd hS dX10_isSpoiledHere_41 ?_
    refine s_iald hS dX10_isSpoiledHere_42 fun v12 => ?_
    refine s_if_ge hS dX10_isSpoiledHere_43 rfl ?_ ?_
    · refine s_aload_n hS dX10_isSpoiledHere_53 rfl 1 rfl ?_
      refine gf_X10_26 hS dX10_isSpoiledHere_54 fun v13 => ?_
      refine s_bipush hS dX10_isSpoiledHere_57 (by decide +kernel) ?_
      refine s_aload_n hS dX10_isSpoiledHere_59 rfl 1 rfl ?_
      refine gf_X10_118 hS dX10_isSpoiledHere_60 fun v14 => ?_
      refine s_iadd hS dX10_isSpoiledHere_63 ?_
      refine s_iconst hS dX10_isSpoiledHere_64 ?_
      refine s_iast hS dX10_isSpoiledHere_65 fun h15 => ?_
      refine s_iconst hS dX10_isSpoiledHere_66 ?_
      exact s_zret hS rfl (Nat.le_of_ble_eq_true rfl) (Nat.le_of_ble_eq_true rfl) dX10_isSpoiledHere_67
    · refine s_aload_n hS dX10_isSpoiledHere_46 rfl 1 rfl ?_
      refine s_iconst hS dX10_isSpoiledHere_47 ?_
      refine s_iload_n hS dX10_isSpoiledHere_48 rfl 0 rfl ?_
      refine ca_X10_114 hS ⟨Nat.le_of_ble_eq_true rfl, Nat.le_of_ble_eq_true rfl⟩ ⟨Nat.le_of_ble_eq_true rfl, Nat.le_of_ble_eq_true rfl⟩ (Nat.le_of_ble_eq_true rfl) dX10_isSpoiledHere_49 fun v16 h17 => ?_
      exact s_zret hS rfl (Nat.le_of_ble_eq_true rfl) (Nat.le_of_ble_eq_true rfl) dX10_isSpoiledHere_52
  · refine s_iconst hS dX10_isSpoiledHere_30 ?_
    exact s_zret hS rfl (Nat.le_of_ble_eq_true rfl) (Nat.le_of_ble_eq_true rfl) dX10_isSpoiledHere_31
theorem c_M_isSpoiledHere (l : Launch) (G : GE) (z0 : Int) (h : AH) : Con l yX10_isSpoiledHere cX10_isSpoiledHere 2 (some .boolean) 2 49 0 0 G [(2, z0)] h (f_M_isSpoiledHere z0 h) :=
  con_of (by decide +kernel) (Nat.le_of_ble_eq_true rfl) fun X hX hS hi => b_M_isSpoiledHere hS z0 h
theorem ca_X10_237 {S : SX} {cc : ByteArray} {pc : Nat} {ls : List (Nat × Nat × Int)} {st : List (Nat × Int)} {k n : Nat} {h : AH} {b : Int} {f : Int → AH → Option (Int × AH)} (hS : SO S RX10 cc) (hR : 2 + 1 ≤ S.2.2.2.2.2.2.1 ∧ 8 + (2 + 11) + 49 ≤ S.2.2.2.2.2.2.2) (hk : k + 0 ≤ S.2.2.2.1 ∧ n + 0 ≤ S.2.2.2.2.1) (hl : st.length ≤ 4) (d : decode cc pc = .ok (.invokevirtual 237, 3)) (kk : ∀ (r : Int) (h2 : AH), Sim S (pc + 3) ls ((0, r) :: st) (k + 0) (n + 0) h2 (f r h2)) : Sim S pc ls ((2, b) :: st) k n h (c_k h 11 b (bd_ (f_M_isSpoiledHere b h) f)) := s_callV hS mo_X10_isSpoiledHere rfl rfl (c_M_isSpoiledHere _ _ _ h) tw_1354 tw_1356 tw_46 hR hk rfl rfl hl d kk
theorem ca_X10_234 {S : SX} {cc : ByteArray} {pc : Nat} {ls : List (Nat × Nat × Int)} {st : List (Nat × Int)} {k n : Nat} {h : AH} {b : Int} {f : Int → AH → Option (Int × AH)} (hS : SO S RX10 cc) (hR : 3 + 1 ≤ S.2.2.2.2.2.2.1 ∧ 8 + (2 + 11) + 72 ≤ S.2.2.2.2.2.2.2) (hk : k + 0 ≤ S.2.2.2.1 ∧ n + 0 ≤ S.2.2.2.2.1) (hl : st.length ≤ 4) (d : decode cc pc = .ok (.invokevirtual 234, 3)) (kk : ∀ (r : Int) (h2 : AH), Sim S (pc + 3) ls ((0, r) :: st) (k + 0) (n + 0) h2 (f r h2)) : Sim S pc ls ((2, b) :: st) k n h (c_k h 11 b (bd_ (f_M_isVotersHere b h) f)) := s_callV hS mo_X10_isVotersHere rfl rfl (c_M_isVotersHere _ _ _ h) tw_1350 tw_1352 tw_45 hR hk rfl rfl hl d kk
theorem ca_X10_229 {S : SX} {cc : ByteArray} {pc : Nat} {ls : List (Nat × Nat × Int)} {st : List (Nat × Int)} {k n : Nat} {h : AH} {q0 b : Int} {f : Int → AH → Option (Int × AH)} (hS : SO S RX10 cc) (hR : 2 + 1 ≤ S.2.2.2.2.2.2.1 ∧ 8 + (6 + 11) + 49 ≤ S.2.2.2.2.2.2.2) (hk : k + 0 ≤ S.2.2.2.1 ∧ n + 0 ≤ S.2.2.2.2.1) (hl : st.length ≤ 4) (d : decode cc pc = .ok (.invokevirtual 229, 3)) (kk : ∀ (r : Int) (h2 : AH), Sim S (pc + 3) ls ((0, r) :: st) (k + 0) (n + 0) h2 (f r h2)) : Sim S pc ls ((0, q0) :: (2, b) :: st) k n h (c_k h 11 b (bd_ (f_M_isStationHere b q0 h) f)) := s_callV hS mo_X10_isStationHere rfl rfl (c_M_isStationHere _ _ _ _ h) tw_1342 tw_1344 tw_43 hR hk rfl rfl hl d kk
theorem ca_X10_226 {S : SX} {cc : ByteArray} {pc : Nat} {ls : List (Nat × Nat × Int)} {st : List (Nat × Int)} {k n : Nat} {h : AH} {q0 b : Int} {f : Int → AH → Option (Int × AH)} (hS : SO S RX10 cc) (hR : 3 + 1 ≤ S.2.2.2.2.2.2.1 ∧ 8 + (3 + 11) + 72 ≤ S.2.2.2.2.2.2.2) (hk : k + 0 ≤ S.2.2.2.1 ∧ n + 0 ≤ S.2.2.2.2.1) (hl : st.length ≤ 4) (d : decode cc pc = .ok (.invokevirtual 226, 3)) (kk : ∀ (r : Int) (h2 : AH), Sim S (pc + 3) ls ((0, r) :: st) (k + 0) (n + 0) h2 (f r h2)) : Sim S pc ls ((0, q0) :: (2, b) :: st) k n h (c_k h 11 b (bd_ (f_M_isPapersHere b q0 h) f)) := s_callV hS mo_X10_isPapersHere rfl rfl (c_M_isPapersHere _ _ _ _ h) tw_1319 tw_1321 tw_38 hR hk rfl rfl hl d kk
abbrev S_M_electionLineHere (G : GE) (X : SMw) : SX := (G, X, 2, 0, 0, (some .boolean), 4, 94)
set_option maxRecDepth 100000 in
set_option maxHeartbeats 4000000 in
theorem b_M_electionLineHere {G : GE} {X : SMw} (hS : SO (S_M_electionLineHere G X) RX10 cX10_electionLineHere) (z0 z1 : Int) (h : AH) : Sim (S_M_electionLineHere G X) 0 [(0, 2, z0), (1, 0, z1)] [] 0 0 h (f_M_electionLineHere z0 z1 h) := by
  unfold f_M_electionLineHere
  refine s_aload_n hS dX10_electionLineHere_0 rfl 0 rfl ?_
  refine s_ldc2 hS (z := 123563799835251) tw_1298 (by decide +kernel) dX10_electionLineHere_1 ?_
  refine ca_X10_104 hS ⟨Nat.le_of_ble_eq_true rfl, Nat.le_of_ble_eq_true rfl⟩ ⟨Nat.le_of_ble_eq_true rfl, Nat.le_of_ble_eq_true rfl⟩ (Nat.le_of_ble_eq_true rfl) dX10_electionLineHere_4 fun v1 h2 => ?_
  refine s_if_eq hS dX10_electionLineHere_7 rfl ?_ ?_
  · refine s_aload_n hS dX10_electionLineHere_16 rfl 0 rfl ?_
    refine gf_X10_26 hS dX10_electionLineHere_17 fun v3 => ?_
    refine s_iconst hS dX10_electionLineHere_20 ?_
    refine s_iald hS dX10_electionLineHere_21 fun v4 => ?_
    refine s_if_ne hS dX10_electionLineHere_22 rfl ?_ ?_
    · refine s_aload_n hS dX10_electionLineHere_32 rfl 0 rfl ?_
      refine s_ldc2 hS (z := 32497584235442030) tw_1307 (by decide +kernel) dX10_electionLineHere_33 ?_
      refine ca_X10_104 hS ⟨Nat.le_of_ble_eq_true rfl, Nat.le_of_ble_eq_true rfl⟩ ⟨Nat.le_of_ble_eq_true rfl, Nat.le_of_ble_eq_true rfl⟩ (Nat.le_of_ble_eq_true rfl) dX10_electionLineHere_36 fun v5 h6 => ?_
      refine s_if_eq hS dX10_electionLineHere_39 rfl ?_ ?_
      · refine s_aload_n hS dX10_electionLineHere_48 rfl 0 rfl ?_
        refine s_ldc2 hS (z := 130221066252915) tw_1308 (by decide +kernel) dX10_electionLineHere_49 ?_
        refine ca_X10_104 hS ⟨Nat.le_of_ble_eq_true rfl, Nat.le_of_ble_eq_true rfl⟩ ⟨Nat.le_of_ble_eq_true rfl, Nat.le_of_ble_eq_true rfl⟩ (Nat.le_of_ble_eq_true rfl) dX10_electionLineHere_52 fun v7 h8 => ?_
        refine s_if_eq hS dX10_electionLineHere_55 rfl ?_ ?_
        · refine s_aload_n hS dX10_electionLineHere_65 rfl 0 rfl ?_
          refine ca_X10_237 hS ⟨Nat.le_of_ble_eq_true rfl, Nat.le_of_ble_eq_true rfl⟩ ⟨Nat.le_of_ble_eq_true rfl, Nat.le_of_ble_eq_true rfl⟩ (Nat.le_of_ble_eq_true rfl) dX10_electionLineHere_66 fun v9 h10 => ?_
          exact s_zret hS rfl (Nat.le_of_ble_eq_true rfl) (Nat.le_of_ble_eq_true rfl) dX10_electionLineHere_69
        · refine s_aload_n hS dX10_electionLineHere_58 rfl 0 rfl ?_
          refine ca_X10_234 hS ⟨Nat.le_of_ble_eq_true rfl, Nat.le_of_ble_eq_true rfl⟩ ⟨Nat.le_of_ble_eq_true rfl, Nat.le_of_ble_eq_true rfl⟩ (Nat.le_of_ble_eq_true rfl) dX10_electionLineHere_59 fun v11 h12 => ?_
          refine s_goto hS dX10_electionLineHere_62 rfl ?_
          exact s_zret hS rfl (Nat.le_of_ble_eq_true rfl) (Nat.le_of_ble_eq_true rfl) dX10_electionLineHere_69
      · refine s_aload_n hS dX10_electionLineHere_42 rfl 0 rfl ?_
        refine s_iload_n hS dX10_electionLineHere_43 rfl 1 rfl ?_
        refine ca_X10_229 hS ⟨Nat.le_of_ble_eq_true rfl, Nat.le_of_ble_eq_true rfl⟩ ⟨Nat.le_of_ble_eq_true rfl, Nat.le_of_ble_eq_true rfl⟩ (Nat.le_of_ble_eq_true rfl) dX10_electionLineHere_44 fun v13 h14 => ?_
        exact s_zret hS rfl (Nat.le_of_ble_eq_true rfl) (Nat.le_of_ble_eq_true rfl) dX10_electionLineHere_47
    · refine s_aload_n hS dX10_electionLineHere_25 rfl 0 rfl ?_
      refine s_iconst hS dX10_electionLineHere_26 ?_
      refine s_iload_n hS dX10_electionLineHere_27 rfl 1 rfl ?_
      refine ca_X10_114 hS ⟨Nat.le_of_ble_eq_true rfl, Nat.le_of_ble_eq_true rfl⟩ ⟨Nat.le_of_ble_eq_true rfl, Nat.le_of_ble_eq_true rfl⟩ (Nat.le_of_ble_eq_true rfl) dX10_electionLineHere_28 fun v15 h16 => ?_
      exact s_zret hS rfl (Nat.le_of_ble_eq_true rfl) (Nat.le_of_ble_eq_true rfl) dX10_electionLineHere_31
  · refine s_aload_n hS dX10_electionLineHere_10 rfl 0 rfl ?_
    refine s_iload_n hS dX10_electionLineHere_11 rfl 1 rfl ?_
    refine ca_X10_226 hS ⟨Nat.le_of_ble_eq_true rfl, Nat.le_of_ble_eq_true rfl⟩ ⟨Nat.le_of_ble_eq_true rfl, Nat.le_of_ble_eq_true rfl⟩ (Nat.le_of_ble_eq_true rfl) dX10_electionLineHere_12 fun v17 h18 => ?_
    exact s_zret hS rfl (Nat.le_of_ble_eq_true rfl) (Nat.le_of_ble_eq_true rfl) dX10_electionLineHere_15
theorem c_M_electionLineHere (l : Launch) (G : GE) (z0 z1 : Int) (h : AH) : Con l yX10_electionLineHere cX10_electionLineHere 2 (some .boolean) 4 94 0 0 G [(2, z0), (0, z1)] h (f_M_electionLineHere z0 z1 h) :=
  con_of (by decide +kernel) (Nat.le_of_ble_eq_true rfl) fun X hX hS hi => b_M_electionLineHere hS z0 z1 h
abbrev S_M_isElectionWord (G : GE) (X : SMw) : SX := (G, X, 1, 0, 0, (some .boolean), 2, 46)
set_option maxRecDepth 100000 in
set_option maxHeartbeats 4000000 in
theorem b_M_isElectionWord {G : GE} {X : SMw} (hS : SO (S_M_isElectionWord G X) RX10 cX10_isElectionWord) (z0 : Int) (h : AH) : Sim (S_M_isElectionWord G X) 0 [(0, 2, z0)] [] 0 0 h (f_M_isElectionWord z0 h) := by
  unfold f_M_isElectionWord
  refine s_aload_n hS dX10_isElectionWord_0 rfl 0 rfl ?_
  refine s_ldc2 hS (z := 123563799835251) tw_1298 (by decide +kernel) dX10_isElectionWord_1 ?_
  refine ca_X10_104 hS ⟨Nat.le_of_ble_eq_true rfl, Nat.le_of_ble_eq_true rfl⟩ ⟨Nat.le_of_ble_eq_true rfl, Nat.le_of_ble_eq_true rfl⟩ (Nat.le_of_ble_eq_true rfl) dX10_isElectionWord_4 fun v1 h2 => ?_
  refine s_if_ne hS dX10_isElectionWord_7 rfl ?_ ?_
  · refine s_iconst hS dX10_isElectionWord_40 ?_
    refine s_goto hS dX10_isElectionWord_41 rfl ?_
    exact s_zret hS rfl (Nat.le_of_ble_eq_true rfl) (Nat.le_of_ble_eq_true rfl) dX10_isElectionWord_45
  · refine s_aload_n hS dX10_isElectionWord_10 rfl 0 rfl ?_
    refine s_ldc2 hS (z := 32497584235442030) tw_1307 (by decide +kernel) dX10_isElectionWord_11 ?_
    refine ca_X10_104 hS ⟨Nat.le_of_ble_eq_true rfl, Nat.le_of_ble_eq_true rfl⟩ ⟨Nat.le_of_ble_eq_true rfl, Nat.le_of_ble_eq_true rfl⟩ (Nat.le_of_ble_eq_true rfl) dX10_isElectionWord_14 fun v3 h4 => ?_
    refine s_if_ne hS dX10_isElectionWord_17 rfl ?_ ?_
    · refine s_iconst hS dX10_isElectionWord_40 ?_
      refine s_goto hS dX10_isElectionWord_41 rfl ?_
      exact s_zret hS rfl (Nat.le_of_ble_eq_true rfl) (Nat.le_of_ble_eq_true rfl) dX10_isElectionWord_45
    · refine s_aload_n hS dX10_isElectionWord_20 rfl 0 rfl ?_
      refine s_ldc2 hS (z := 130221066252915) tw_1308 (by decide +kernel) dX10_isElectionWord_21 ?_
      refine ca_X10_104 hS ⟨Nat.le_of_ble_eq_true rfl, Nat.le_of_ble_eq_true rfl⟩ ⟨Nat.le_of_ble_eq_true rfl, Nat.le_of_ble_eq_true rfl⟩ (Nat.le_of_ble_eq_true rfl) dX10_isElectionWord_24 fun v5 h6 => ?_
      refine s_if_ne hS dX10_isElectionWord_27 rfl ?_ ?_
      · refine s_iconst hS dX10_isElectionWord_40 ?_
        refine s_goto hS dX10_isElectionWord_41 rfl ?_
        exact s_zret hS rfl (Nat.le_of_ble_eq_true rfl) (Nat.le_of_ble_eq_true rfl) dX10_isElectionWord_45
      · refine s_aload_n hS dX10_isElectionWord_30 rfl 0 rfl ?_
        refine s_ldc2 hS (z := 32493246134117732) tw_1309 (by decide +kernel) dX10_isElectionWord_31 ?_
        refine ca_X10_104 hS ⟨Nat.le_of_ble_eq_true rfl, Nat.le_of_ble_eq_true rfl⟩ ⟨Nat.le_of_ble_eq_true rfl, Nat.le_of_ble_eq_true rfl⟩ (Nat.le_of_ble_eq_true rfl) dX10_isElectionWord_34 fun v7 h8 => ?_
        refine s_if_eq hS dX10_isElectionWord_37 rfl ?_ ?_
        · refine s_iconst hS dX10_isElectionWord_44 ?_
          exact s_zret hS rfl (Nat.le_of_ble_eq_true rfl) (Nat.le_of_ble_eq_true rfl) dX10_isElectionWord_45
        · refine s_iconst hS dX10_isElectionWord_40 ?_
          refine s_goto hS dX10_isElectionWord_41 rfl ?_
          exact s_zret hS rfl (Nat.le_of_ble_eq_true rfl) (Nat.le_of_ble_eq_true rfl) dX10_isElectionWord_45
theorem c_M_isElectionWord (l : Launch) (G : GE) (z0 : Int) (h : AH) : Con l yX10_isElectionWord cX10_isElectionWord 1 (some .boolean) 2 46 0 0 G [(2, z0)] h (f_M_isElectionWord z0 h) :=
  con_of (by decide +kernel) (Nat.le_of_ble_eq_true rfl) fun X hX hS hi => b_M_isElectionWord hS z0 h
theorem ca_X10_240 {S : SX} {cc : ByteArray} {pc : Nat} {ls : List (Nat × Nat × Int)} {st : List (Nat × Int)} {k n : Nat} {h : AH} {b : Int} {f : Int → AH → Option (Int × AH)} (hS : SO S RX10 cc) (hR : 2 + 1 ≤ S.2.2.2.2.2.2.1 ∧ 8 + (1 + 11) + 46 ≤ S.2.2.2.2.2.2.2) (hk : k + 0 ≤ S.2.2.2.1 ∧ n + 0 ≤ S.2.2.2.2.1) (hl : st.length ≤ 4) (d : decode cc pc = .ok (.invokevirtual 240, 3)) (kk : ∀ (r : Int) (h2 : AH), Sim S (pc + 3) ls ((0, r) :: st) (k + 0) (n + 0) h2 (f r h2)) : Sim S pc ls ((2, b) :: st) k n h (c_k h 11 b (bd_ (f_M_isElectionWord b h) f)) := s_callV hS mo_X10_isElectionWord rfl rfl (c_M_isElectionWord _ _ _ h) tw_1294 tw_1296 tw_33 hR hk rfl rfl hl d kk
theorem gf_X10_245 {S : SX} {cc : ByteArray} {pc : Nat} {ls : List (Nat × Nat × Int)} {st : List (Nat × Int)} {k n : Nat} {h : AH} {a : Int} {f : Int → Option (Int × AH)} (hS : SO S RX10 cc) (d : decode cc pc = .ok (.getfield 245, 3)) (kk : ∀ v : Int, Sim S (pc + 3) ls ((0, v) :: st) k n h (f v)) : Sim S pc ls ((2, a) :: st) k n h ((g_f h 11 a 14).bind f) := s_getf hS cx_10 14 (by decide) tw_1152 rfl rfl rfl d kk
theorem pf_X10_245 {S : SX} {cc : ByteArray} {pc : Nat} {ls : List (Nat × Nat × Int)} {st : List (Nat × Int)} {k n : Nat} {h : AH} {a v : Int} {f : AH → Option (Int × AH)} (hS : SO S RX10 cc) (d : decode cc pc = .ok (.putfield 245, 3)) (kk : ∀ h2 : AH, Sim S (pc + 3) ls st k n h2 (f h2)) : Sim S pc ls ((0, v) :: (2, a) :: st) k n h ((s_f h 11 a 14 v).bind f) := s_putf hS cx_10 14 (by decide) tw_1152 rfl rfl (Or.inl rfl) rfl rfl d kk
theorem ca_X10_251 {S : SX} {cc : ByteArray} {pc : Nat} {ls : List (Nat × Nat × Int)} {st : List (Nat × Int)} {k n : Nat} {h : AH} {b : Int} {f : Int → AH → Option (Int × AH)} (hS : SO S RX10 cc) (hR : 9 + 1 ≤ S.2.2.2.2.2.2.1 ∧ 8 + (2 + 11) + 198 ≤ S.2.2.2.2.2.2.2) (hk : k + 0 ≤ S.2.2.2.1 ∧ n + 0 ≤ S.2.2.2.2.1) (hl : st.length ≤ 4) (d : decode cc pc = .ok (.invokevirtual 251, 3)) (kk : ∀ (r : Int) (h2 : AH), Sim S (pc + 3) ls ((0, r) :: st) (k + 0) (n + 0) h2 (f r h2)) : Sim S pc ls ((2, b) :: st) k n h (c_k h 11 b (bd_ (f_M_isServeHere b h) f)) := s_callV hS mo_X10_isServeHere rfl rfl (c_M_isServeHere _ _ _ h) tw_1358 tw_1360 tw_47 hR hk rfl rfl hl d kk
theorem ca_X10_248 {S : SX} {cc : ByteArray} {pc : Nat} {ls : List (Nat × Nat × Int)} {st : List (Nat × Int)} {k n : Nat} {h : AH} {q0 b : Int} {f : Int → AH → Option (Int × AH)} (hS : SO S RX10 cc) (hR : 4 + 1 ≤ S.2.2.2.2.2.2.1 ∧ 8 + (2 + 11) + 94 ≤ S.2.2.2.2.2.2.2) (hk : k + 0 ≤ S.2.2.2.1 ∧ n + 0 ≤ S.2.2.2.2.1) (hl : st.length ≤ 4) (d : decode cc pc = .ok (.invokevirtual 248, 3)) (kk : ∀ (r : Int) (h2 : AH), Sim S (pc + 3) ls ((0, r) :: st) (k + 0) (n + 0) h2 (f r h2)) : Sim S pc ls ((0, q0) :: (2, b) :: st) k n h (c_k h 11 b (bd_ (f_M_electionLineHere b q0 h) f)) := s_callV hS mo_X10_electionLineHere rfl rfl (c_M_electionLineHere _ _ _ _ h) tw_1315 tw_1317 tw_37 hR hk rfl rfl hl d kk
abbrev S_M_clauseHere (G : GE) (X : SMw) : SX := (G, X, 3, 0, 0, (some .boolean), 10, 219)
set_option maxRecDepth 100000 in
set_option maxHeartbeats 4000000 in
theorem b_M_clauseHere_71 {G : GE} {X : SMw} (hS : SO (S_M_clauseHere G X) RX10 cX10_clauseHere) (z0 z1 z2 w0 w1 : Int) (h : AH) : Sim (S_M_clauseHere G X) 71 [(0, 2, z0), (1, 0, z1), (2, 0, z2)] [(0, w1), (0, w0)] 0 0 h (f_M_clauseHere_71 z0 z1 z2 w0 w1 h) := by
  unfold f_M_clauseHere_71
  refine s_icmp_ne hS dX10_clauseHere_71 rfl ?_ ?_
  · refine s_aload_n hS dX10_clauseHere_81 rfl 0 rfl ?_
    refine s_dup hS dX10_clauseHere_82 (by decide) ?_
    refine gf_X10_245 hS dX10_clauseHere_83 fun v1 => ?_
    refine s_iconst hS dX10_clauseHere_86 ?_
    refine s_iadd hS dX10_clauseHere_87 ?_
    refine pf_X10_245 hS dX10_clauseHere_88 fun h2 => ?_
    refine s_iload_n hS dX10_clauseHere_91 rfl 2 rfl ?_
    refine s_if_eq hS dX10_clauseHere_92 rfl ?_ ?_
    · refine s_aload_n hS dX10_clauseHere_103 rfl 0 rfl ?_
      refine ca_X10_251 hS ⟨Nat.le_of_ble_eq_true rfl, Nat.le_of_ble_eq_true rfl⟩ ⟨Nat.le_of_ble_eq_true rfl, Nat.le_of_ble_eq_true rfl⟩ (Nat.le_of_ble_eq_true rfl) dX10_clauseHere_104 fun v3 h4 => ?_
      exact s_zret hS rfl (Nat.le_of_ble_eq_true rfl) (Nat.le_of_ble_eq_true rfl) dX10_clauseHere_107
    · refine s_aload_n hS dX10_clauseHere_95 rfl 0 rfl ?_
      refine s_iload_n hS dX10_clauseHere_96 rfl 1 rfl ?_
      refine ca_X10_248 hS ⟨Nat.le_of_ble_eq_true rfl, Nat.le_of_ble_eq_true rfl⟩ ⟨Nat.le_of_ble_eq_true rfl, Nat.le_of_ble_eq_true rfl⟩ (Nat.le_of_ble_eq_true rfl) dX10_clauseHere_97 fun v5 h6 => ?_
      refine s_goto hS dX10_clauseHere_100 rfl ?_
      exact s_zret hS rfl (Nat.le_of_ble_eq_true rfl) (Nat.le_of_ble_eq_true rfl) dX10_clauseHere_107
  · refine s_aload_n hS dX10_clauseHere_74 rfl 0 rfl ?_
    refine s_iconst hS dX10_clauseHere_75 ?_
    refine s_iload_n hS dX10_clauseHere_76 rfl 1 rfl ?_
    refine ca_X10_114 hS ⟨Nat.le_of_ble_eq_true rfl, Nat.le_of_ble_eq_true rfl⟩ ⟨Nat.le_of_ble_eq_true rfl, Nat.le_of_ble_eq_true rfl⟩ (Nat.le_of_ble_eq_true rfl) dX10_clauseHere_77 fun v7 h8 => ?_
    exact s_zret hS rfl (Nat.le_of_ble_eq_true rfl) (Nat.le_of_ble_eq_true rfl) dX10_clauseHere_80
set_option maxRecDepth 100000 in
set_option maxHeartbeats 4000000 in
theorem b_M_clauseHere_56 {G : GE} {X : SMw} (hS : SO (S_M_clauseHere G X) RX10 cX10_clauseHere) (z0 z1 z2 : Int) (h : AH) : Sim (S_M_clauseHere G X) 56 [(0, 2, z0), (1, 0, z1), (2, 0, z2)] [] 0 0 h (f_M_clauseHere_56 z0 z1 z2 h) := by
  unfold f_M_clauseHere_56
  refine s_aload_n hS dX10_clauseHere_56 rfl 0 rfl ?_
  refine gf_X10_245 hS dX10_clauseHere_57 fun v1 => ?_
  refine s_iload_n hS dX10_clauseHere_60 rfl 2 rfl ?_
  refine s_if_eq hS dX10_clauseHere_61 rfl ?_ ?_
  · refine s_bipush hS dX10_clauseHere_69 (by decide +kernel) ?_
    exact b_M_clauseHere_71 hS _ _ _ _ _ _
  · refine s_bipush hS dX10_clauseHere_64 (by decide +kernel) ?_
    refine s_goto hS dX10_clauseHere_66 rfl ?_
    exact b_M_clauseHere_71 hS _ _ _ _ _ _
set_option maxRecDepth 100000 in
set_option maxHeartbeats 4000000 in
theorem b_M_clauseHere_49 {G : GE} {X : SMw} (hS : SO (S_M_clauseHere G X) RX10 cX10_clauseHere) (z0 z1 : Int) (h : AH) : Sim (S_M_clauseHere G X) 49 [(0, 2, z0), (1, 0, z1)] [] 0 0 h (f_M_clauseHere_49 z0 z1 h) := by
  unfold f_M_clauseHere_49
  refine s_aload_n hS dX10_clauseHere_49 rfl 0 rfl ?_
  refine s_iconst hS dX10_clauseHere_50 ?_
  refine s_iload_n hS dX10_clauseHere_51 rfl 1 rfl ?_
  refine ca_X10_114 hS ⟨Nat.le_of_ble_eq_true rfl, Nat.le_of_ble_eq_true rfl⟩ ⟨Nat.le_of_ble_eq_true rfl, Nat.le_of_ble_eq_true rfl⟩ (Nat.le_of_ble_eq_true rfl) dX10_clauseHere_52 fun v1 h2 => ?_
  exact s_zret hS rfl (Nat.le_of_ble_eq_true rfl) (Nat.le_of_ble_eq_true rfl) dX10_clauseHere_55
set_option maxRecDepth 100000 in
set_option maxHeartbeats 4000000 in
theorem b_M_clauseHere_24 {G : GE} {X : SMw} (hS : SO (S_M_clauseHere G X) RX10 cX10_clauseHere) (z0 z1 w0 : Int) (h : AH) : Sim (S_M_clauseHere G X) 24 [(0, 2, z0), (1, 0, z1)] [(0, w0)] 0 0 h (f_M_clauseHere_24 z0 z1 w0 h) := by
  unfold f_M_clauseHere_24
  refine s_istore_n hS dX10_clauseHere_24 rfl (Nat.le_of_ble_eq_true rfl) (ls' := [(2, 0, w0), (0, 2, z0), (1, 0, z1)]) rfl ?_
  refine s_iload_n hS dX10_clauseHere_25 rfl 0 rfl ?_
  refine s_if_eq hS dX10_clauseHere_26 rfl ?_ ?_
  · refine s_aload_n hS dX10_clauseHere_39 rfl 1 rfl ?_
    refine s_ldc2 hS (z := 495623239269) tw_1310 (by decide +kernel) dX10_clauseHere_40 ?_
    refine ca_X10_104 hS ⟨Nat.le_of_ble_eq_true rfl, Nat.le_of_ble_eq_true rfl⟩ ⟨Nat.le_of_ble_eq_true rfl, Nat.le_of_ble_eq_true rfl⟩ (Nat.le_of_ble_eq_true rfl) dX10_clauseHere_43 fun v1 h2 => ?_
    refine s_if_ne hS dX10_clauseHere_46 rfl ?_ ?_
    · refine s_ls [1, 2, 0] rfl ?_
      exact b_M_clauseHere_56 hS _ _ _ _
    · refine s_ls [1, 2] rfl ?_
      exact b_M_clauseHere_49 hS _ _ _
  · refine s_aload_n hS dX10_clauseHere_29 rfl 1 rfl ?_
    refine ca_X10_240 hS ⟨Nat.le_of_ble_eq_true rfl, Nat.le_of_ble_eq_true rfl⟩ ⟨Nat.le_of_ble_eq_true rfl, Nat.le_of_ble_eq_true rfl⟩ (Nat.le_of_ble_eq_true rfl) dX10_clauseHere_30 fun v3 h4 => ?_
    refine s_if_ne hS dX10_clauseHere_33 rfl ?_ ?_
    · refine s_ls [1, 2, 0] rfl ?_
      exact b_M_clauseHere_56 hS _ _ _ _
    · refine s_goto hS dX10_clauseHere_36 rfl ?_
      refine s_ls [1, 2] rfl ?_
      exact b_M_clauseHere_49 hS _ _ _
set_option maxRecDepth 100000 in
set_option maxHeartbeats 4000000 in
theorem b_M_clauseHere {G : GE} {X : SMw} (hS : SO (S_M_clauseHere G X) RX10 cX10_clauseHere) (z0 : Int) (h : AH) : Sim (S_M_clauseHere G X) 0 [(0, 2, z0)] [] 0 0 h (f_M_clauseHere z0 h) := by
  unfold f_M_clauseHere
  refine s_aload_n hS dX10_clauseHere_0 rfl 0 rfl ?_
  refine ca_X10_96 hS ⟨Nat.le_of_ble_eq_true rfl, Nat.le_of_ble_eq_true rfl⟩ ⟨Nat.le_of_ble_eq_true rfl, Nat.le_of_ble_eq_true rfl⟩ (Nat.le_of_ble_eq_true rfl) dX10_clauseHere_1 fun v1 h2 => ?_
  refine s_pop hS dX10_clauseHere_4 (by decide) ?_
  refine s_aload_n hS dX10_clauseHere_5 rfl 0 rfl ?_
  refine gf_X10_93 hS dX10_clauseHere_6 fun v3 => ?_
  refine s_istore_n hS dX10_clauseHere_9 rfl (Nat.le_of_ble_eq_true rfl) (ls' := [(1, 0, v3), (0, 2, z0)]) rfl ?_
  refine s_aload_n hS dX10_clauseHere_10 rfl 1 rfl ?_
  refine gf_X10_145 hS dX10_clauseHere_11 fun v4 => ?_
  refine s_bipush hS dX10_clauseHere_14 (by decide +kernel) ?_
  refine s_icmp_ne hS dX10_clauseHere_16 rfl ?_ ?_
  · refine s_iconst hS dX10_clauseHere_23 ?_
    refine s_ls [1, 0] rfl ?_
    exact b_M_clauseHere_24 hS _ _ _ _
  · refine s_iconst hS dX10_clauseHere_19 ?_
    refine s_goto hS dX10_clauseHere_20 rfl ?_
    refine s_ls [1, 0] rfl ?_
    exact b_M_clauseHere_24 hS _ _ _ _
theorem c_M_clauseHere (l : Launch) (G : GE) (z0 : Int) (h : AH) : Con l yX10_clauseHere cX10_clauseHere 3 (some .boolean) 10 219 0 0 G [(2, z0)] h (f_M_clauseHere z0 h) :=
  con_of (by decide +kernel) (Nat.le_of_ble_eq_true rfl) fun X hX hS hi => b_M_clauseHere hS z0 h
