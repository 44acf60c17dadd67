abbrev S_S_isPaper (G : GE) (X : SMw) : SX := (G, X, 2, 0, 0, (some .boolean), 0, 0)
set_option maxRecDepth 100000 in
set_option maxHeartbeats 4000000 in
theorem b_S_isPaper {G : GE} {X : SMw} (hS : SO (S_S_isPaper G X) RX5 cX5_isPaper) (z0 z1 : Int) (h : AH) : Sim (S_S_isPaper G X) 0 [(0, 2, z0), (1, 0, z1)] [] 0 0 h (f_S_isPaper z0 z1 h) := by
  unfold f_S_isPaper
  refine s_iload_n hS dX5_isPaper_0 rfl 1 rfl ?_
  refine s_if_lt hS dX5_isPaper_1 rfl ?_ ?_
  · refine s_iconst hS dX5_isPaper_24 ?_
    exact s_zret hS rfl (Nat.le_of_ble_eq_true rfl) (Nat.le_of_ble_eq_true rfl) dX5_isPaper_25
  · refine s_iload_n hS dX5_isPaper_4 rfl 1 rfl ?_
    refine s_bipush hS dX5_isPaper_5 (by decide +kernel) ?_
    refine s_icmp_ge hS dX5_isPaper_7 rfl ?_ ?_
    · refine s_iconst hS dX5_isPaper_24 ?_
      exact s_zret hS rfl (Nat.le_of_ble_eq_true rfl) (Nat.le_of_ble_eq_true rfl) dX5_isPaper_25
    · refine s_aload_n hS dX5_isPaper_10 rfl 0 rfl ?_
      refine gf_X5_22 hS dX5_isPaper_11 fun v1 => ?_
      refine s_iload_n hS dX5_isPaper_14 rfl 1 rfl ?_
      refine s_iald hS dX5_isPaper_15 fun v2 => ?_
      refine s_iconst hS dX5_isPaper_16 ?_
      refine s_icmp_eq hS dX5_isPaper_17 rfl ?_ ?_
      · refine s_iconst hS dX5_isPaper_24 ?_
        exact s_zret hS rfl (Nat.le_of_ble_eq_true rfl) (Nat.le_of_ble_eq_true rfl) dX5_isPaper_25
      · refine s_iconst hS dX5_isPaper_20 ?_
        refine s_goto hS dX5_isPaper_21 rfl ?_
        exact s_zret hS rfl (Nat.le_of_ble_eq_true rfl) (Nat.le_of_ble_eq_true rfl) dX5_isPaper_25
theorem c_S_isPaper (l : Launch) (G : GE) (z0 z1 : Int) (h : AH) : Con l yX5_isPaper cX5_isPaper 2 (some .boolean) 0 0 0 0 G [(2, z0), (0, z1)] h (f_S_isPaper z0 z1 h) :=
  con_of (by decide +kernel) (Nat.le_of_ble_eq_true rfl) fun X hX hS hi => b_S_isPaper hS z0 z1 h
theorem ca_X5_80 {S : SX} {cc : ByteArray} {pc : Nat} {ls : List (Nat × Nat × Int)} {st : List (Nat × Int)} {k n : Nat} {h : AH} {q0 : Int} {f : Int → AH → Option (Int × AH)} (hS : SO S RX5 cc) (hR : 0 + 1 ≤ S.2.2.2.2.2.2.1 ∧ 8 + (2 + 11) + 0 ≤ S.2.2.2.2.2.2.2) (hk : k + 0 ≤ S.2.2.2.1 ∧ n + 0 ≤ S.2.2.2.2.1) (hl : st.length ≤ 4) (d : decode cc pc = .ok (.invokestatic 80, 3)) (kk : ∀ (r : Int) (h2 : AH), Sim S (pc + 3) ls ((0, r) :: st) (k + 0) (n + 0) h2 (f r h2)) : Sim S pc ls ((1, q0) :: st) k n h (bd_ (f_J13_bitCount_95d88 q0 h) f) := s_callS hS mo_J13_bitCount_95d88 (c_J13_bitCount_95d88 _ _ _ h) tw_762 tw_603 hR hk rfl rfl hl d kk
abbrev S_S_placeOf (G : GE) (X : SMw) : SX := (G, X, 4, 0, 0, (some .int), 1, 21)
set_option maxRecDepth 100000 in
set_option maxHeartbeats 4000000 in
theorem B_S_placeOf_35 {G : GE} {X : SMw} (hS : SO (S_S_placeOf G X) RX5 cX5_placeOf) (z0 z1 : Int) {k35 : Int → Int → AH → Option (Int × AH)} (hk35 : ∀ (z2 z3 : Int) (h : AH), Sim (S_S_placeOf G X) 35 [(0, 2, z0), (1, 0, z1), (2, 0, z2), (3, 0, z3)] [] 0 0 h (k35 z2 z3 h)) (z2 z3 : Int) (h : AH) : Sim (S_S_placeOf G X) 35 [(0, 2, z0), (1, 0, z1), (2, 0, z2), (3, 0, z3)] [] 0 0 h (F_S_placeOf_35 z0 z1 k35 z2 z3 h) := by
  unfold F_S_placeOf_35
  refine s_iload_n hS dX5_placeOf_35 rfl 3 rfl ?_
  refine s_bipush hS dX5_placeOf_36 (by decide +kernel) ?_
  refine s_icmp_ge hS dX5_placeOf_38 rfl ?_ ?_
  · refine s_iload_n hS dX5_placeOf_80 rfl 2 rfl ?_
    exact s_iret hS rfl (Nat.le_of_ble_eq_true rfl) (Nat.le_of_ble_eq_true rfl) dX5_placeOf_81
  · refine s_aload_n hS dX5_placeOf_41 rfl 0 rfl ?_
    refine gf_X5_22 hS dX5_placeOf_42 fun v1 => ?_
    refine s_iload_n hS dX5_placeOf_45 rfl 3 rfl ?_
    refine s_iald hS dX5_placeOf_46 fun v2 => ?_
    refine s_aload_n hS dX5_placeOf_47 rfl 0 rfl ?_
    refine gf_X5_22 hS dX5_placeOf_48 fun v3 => ?_
    refine s_iload_n hS dX5_placeOf_51 rfl 1 rfl ?_
    refine s_iald hS dX5_placeOf_52 fun v4 => ?_
    refine s_icmp_ne hS dX5_placeOf_53 rfl ?_ ?_
    · refine s_iinc hS dX5_placeOf_74 3 rfl (Nat.le_of_ble_eq_true rfl) (ls' := [(3, 0, (z3 + 1)), (0, 2, z0), (1, 0, z1), (2, 0, z2)]) rfl ?_
      refine s_goto hS dX5_placeOf_77 rfl ?_
      refine s_ls [1, 2, 3, 0] rfl ?_
      exact hk35 _ _ _
    · refine s_aload_n hS dX5_placeOf_56 rfl 0 rfl ?_
      refine gf_X5_25 hS dX5_placeOf_57 fun v5 => ?_
      refine s_iload_n hS dX5_placeOf_60 rfl 3 rfl ?_
      refine s_iald hS dX5_placeOf_61 fun v6 => ?_
      refine s_aload_n hS dX5_placeOf_62 rfl 0 rfl ?_
      refine gf_X5_25 hS dX5_placeOf_63 fun v7 => ?_
      refine s_iload_n hS dX5_placeOf_66 rfl 1 rfl ?_
      refine s_iald hS dX5_placeOf_67 fun v8 => ?_
      refine s_icmp_ge hS dX5_placeOf_68 rfl ?_ ?_
      · refine s_iinc hS dX5_placeOf_74 3 rfl (Nat.le_of_ble_eq_true rfl) (ls' := [(3, 0, (z3 + 1)), (0, 2, z0), (1, 0, z1), (2, 0, z2)]) rfl ?_
        refine s_goto hS dX5_placeOf_77 rfl ?_
        refine s_ls [1, 2, 3, 0] rfl ?_
        exact hk35 _ _ _
      · refine s_iinc hS dX5_placeOf_71 2 rfl (Nat.le_of_ble_eq_true rfl) (ls' := [(2, 0, (z2 + 1)), (0, 2, z0), (1, 0, z1), (3, 0, z3)]) rfl ?_
        refine s_iinc hS dX5_placeOf_74 3 rfl (Nat.le_of_ble_eq_true rfl) (ls' := [(3, 0, (z3 + 1)), (2, 0, (z2 + 1)), (0, 2, z0), (1, 0, z1)]) rfl ?_
        refine s_goto hS dX5_placeOf_77 rfl ?_
        refine s_ls [2, 3, 1, 0] rfl ?_
        exact hk35 _ _ _
set_option maxRecDepth 100000 in
set_option maxHeartbeats 4000000 in
theorem b_S_placeOf_35 {G : GE} {X : SMw} (hS : SO (S_S_placeOf G X) RX5 cX5_placeOf) (z0 z1 : Int) (z2 z3 : Int) (h : AH) : Sim (S_S_placeOf G X) 35 [(0, 2, z0), (1, 0, z1), (2, 0, z2), (3, 0, z3)] [] 0 0 h (f_S_placeOf_35 z0 z1 z2 z3 h) := by
  exact s_loop (S := (S_S_placeOf G X)) (lsf := fun s : Int × Int × AH => [(0, 2, z0), (1, 0, z1), (2, 0, s.1), (3, 0, s.2.1)]) (hf := fun s => s.2.2) (fun kf hkf s => B_S_placeOf_35 hS z0 z1 (fun a0 a1 a2 => hkf (a0, a1, a2)) s.1 s.2.1 s.2.2) fu_ (z2, z3, h)
set_option maxRecDepth 100000 in
set_option maxHeartbeats 4000000 in
theorem b_S_placeOf {G : GE} {X : SMw} (hS : SO (S_S_placeOf G X) RX5 cX5_placeOf) (z0 z1 : Int) (h : AH) : Sim (S_S_placeOf G X) 0 [(0, 2, z0), (1, 0, z1)] [] 0 0 h (f_S_placeOf z0 z1 h) := by
  unfold f_S_placeOf
  refine s_aload_n hS dX5_placeOf_0 rfl 0 rfl ?_
  refine s_iload_n hS dX5_placeOf_1 rfl 1 rfl ?_
  refine ca_X5_70 hS ⟨Nat.le_of_ble_eq_true rfl, Nat.le_of_ble_eq_true rfl⟩ ⟨Nat.le_of_ble_eq_true rfl, Nat.le_of_ble_eq_true rfl⟩ (Nat.le_of_ble_eq_true rfl) dX5_placeOf_2 fun v1 h2 => ?_
  refine s_if_ne hS dX5_placeOf_5 rfl ?_ ?_
  · refine s_iconst hS dX5_placeOf_31 ?_
    refine s_istore_n hS dX5_placeOf_32 rfl (Nat.le_of_ble_eq_true rfl) (ls' := [(2, 0, 0), (0, 2, z0), (1, 0, z1)]) rfl ?_
    refine s_iconst hS dX5_placeOf_33 ?_
    refine s_istore_n hS dX5_placeOf_34 rfl (Nat.le_of_ble_eq_true rfl) (ls' := [(3, 0, 0), (2, 0, 0), (0, 2, z0), (1, 0, z1)]) rfl ?_
    refine s_ls [2, 3, 1, 0] rfl ?_
    exact b_S_placeOf_35 hS _ _ _ _ _
  · refine s_aload_n hS dX5_placeOf_8 rfl 0 rfl ?_
    refine gf_X5_12 hS dX5_placeOf_9 fun v3 => ?_
    refine gf_X5_74 hS dX5_placeOf_12 fun v4 => ?_
    refine s_aload_n hS dX5_placeOf_15 rfl 0 rfl ?_
    refine s_iload_n hS dX5_placeOf_16 rfl 1 rfl ?_
    refine ca_X5_77 hS ⟨Nat.le_of_ble_eq_true rfl, Nat.le_of_ble_eq_true rfl⟩ ⟨Nat.le_of_ble_eq_true rfl, Nat.le_of_ble_eq_true rfl⟩ (Nat.le_of_ble_eq_true rfl) dX5_placeOf_17 fun v5 h6 => ?_
    refine s_lald hS dX5_placeOf_20 fun v7 => ?_
    refine s_lconst1 hS dX5_placeOf_21 ?_
    refine s_iload_n hS dX5_placeOf_22 rfl 1 rfl ?_
    refine s_lshl hS dX5_placeOf_23 ?_
    refine s_lconst1 hS dX5_placeOf_24 ?_
    refine s_lsub hS dX5_placeOf_25 ?_
    refine s_land hS dX5_placeOf_26 ?_
    refine ca_X5_80 hS ⟨Nat.le_of_ble_eq_true rfl, Nat.le_of_ble_eq_true rfl⟩ ⟨Nat.le_of_ble_eq_true rfl, Nat.le_of_ble_eq_true rfl⟩ (Nat.le_of_ble_eq_true rfl) dX5_placeOf_27 fun v8 h9 => ?_
    exact s_iret hS rfl (Nat.le_of_ble_eq_true rfl) (Nat.le_of_ble_eq_true rfl) dX5_placeOf_30
theorem c_S_placeOf (l : Launch) (G : GE) (z0 z1 : Int) (h : AH) : Con l yX5_placeOf cX5_placeOf 4 (some .int) 1 21 0 0 G [(2, z0), (0, z1)] h (f_S_placeOf z0 z1 h) :=
  con_of (by decide +kernel) (Nat.le_of_ble_eq_true rfl) fun X hX hS hi => b_S_placeOf hS z0 z1 h
theorem ca_X5_86 {S : SX} {cc : ByteArray} {pc : Nat} {ls : List (Nat × Nat × Int)} {st : List (Nat × Int)} {k n : Nat} {h : AH} {q0 b : Int} {f : Int → AH → Option (Int × AH)} (hS : SO S RX5 cc) (hR : 1 + 1 ≤ S.2.2.2.2.2.2.1 ∧ 8 + (4 + 11) + 21 ≤ S.2.2.2.2.2.2.2) (hk : k + 0 ≤ S.2.2.2.1 ∧ n + 0 ≤ S.2.2.2.2.1) (hl : st.length ≤ 4) (d : decode cc pc = .ok (.invokevirtual 86, 3)) (kk : ∀ (r : Int) (h2 : AH), Sim S (pc + 3) ls ((0, r) :: st) (k + 0) (n + 0) h2 (f r h2)) : Sim S pc ls ((0, q0) :: (2, b) :: st) k n h (c_k h 6 b (bd_ (f_S_placeOf b q0 h) f)) := s_callV hS mo_X5_placeOf rfl rfl (c_S_placeOf _ _ _ _ h) tw_771 tw_759 tw_760 hR hk rfl rfl hl d kk
abbrev S_S_paperAt (G : GE) (X : SMw) : SX := (G, X, 5, 0, 0, (some .int), 2, 44)
set_option maxRecDepth 100000 in
set_option maxHeartbeats 4000000 in
theorem B_S_paperAt_3 {G : GE} {X : SMw} (hS : SO (S_S_paperAt G X) RX5 cX5_paperAt) (z0 z1 z2 z3 : Int) {k3 : Int → AH → Option (Int × AH)} (hk3 : ∀ (z4 : Int) (h : AH), Sim (S_S_paperAt G X) 3 [(0, 2, z0), (1, 0, z1), (2, 0, z2), (3, 0, z3), (4, 0, z4)] [] 0 0 h (k3 z4 h)) (z4 : Int) (h : AH) : Sim (S_S_paperAt G X) 3 [(0, 2, z0), (1, 0, z1), (2, 0, z2), (3, 0, z3), (4, 0, z4)] [] 0 0 h (F_S_paperAt_3 z0 z1 z2 z3 k3 z4 h) := by
  unfold F_S_paperAt_3
  refine s_iload hS dX5_paperAt_3 4 rfl ?_
  refine s_bipush hS dX5_paperAt_5 (by decide +kernel) ?_
  refine s_icmp_ge hS dX5_paperAt_7 rfl ?_ ?_
  · refine s_iconst hS dX5_paperAt_44 ?_
    exact s_iret hS rfl (Nat.le_of_ble_eq_true rfl) (Nat.le_of_ble_eq_true rfl) dX5_paperAt_45
  · refine s_aload_n hS dX5_paperAt_10 rfl 0 rfl ?_
    refine gf_X5_22 hS dX5_paperAt_11 fun v1 => ?_
    refine s_iload hS dX5_paperAt_14 4 rfl ?_
    refine s_iald hS dX5_paperAt_16 fun v2 => ?_
    refine s_iload_n hS dX5_paperAt_17 rfl 1 rfl ?_
    refine s_iconst hS dX5_paperAt_18 ?_
    refine s_imul hS dX5_paperAt_19 ?_
    refine s_iload_n hS dX5_paperAt_20 rfl 2 rfl ?_
    refine s_iadd hS dX5_paperAt_21 ?_
    refine s_icmp_ne hS dX5_paperAt_22 rfl ?_ ?_
    · refine s_iinc hS dX5_paperAt_38 4 rfl (Nat.le_of_ble_eq_true rfl) (ls' := [(4, 0, (z4 + 1)), (0, 2, z0), (1, 0, z1), (2, 0, z2), (3, 0, z3)]) rfl ?_
      refine s_goto hS dX5_paperAt_41 rfl ?_
      refine s_ls [1, 2, 3, 4, 0] rfl ?_
      exact hk3 _ _
    · refine s_aload_n hS dX5_paperAt_25 rfl 0 rfl ?_
      refine s_iload hS dX5_paperAt_26 4 rfl ?_
      refine ca_X5_86 hS ⟨Nat.le_of_ble_eq_true rfl, Nat.le_of_ble_eq_true rfl⟩ ⟨Nat.le_of_ble_eq_true rfl, Nat.le_of_ble_eq_true rfl⟩ (Nat.le_of_ble_eq_true rfl) dX5_paperAt_28 fun v3 h4 => ?_
      refine s_iload_n hS dX5_paperAt_31 rfl 3 rfl ?_
      refine s_icmp_ne hS dX5_paperAt_32 rfl ?_ ?_
      · refine s_iinc hS dX5_paperAt_38 4 rfl (Nat.le_of_ble_eq_true rfl) (ls' := [(4, 0, (z4 + 1)), (0, 2, z0), (1, 0, z1), (2, 0, z2), (3, 0, z3)]) rfl ?_
        refine s_goto hS dX5_paperAt_41 rfl ?_
        refine s_ls [1, 2, 3, 4, 0] rfl ?_
        exact hk3 _ _
      · refine s_iload hS dX5_paperAt_35 4 rfl ?_
        exact s_iret hS rfl (Nat.le_of_ble_eq_true rfl) (Nat.le_of_ble_eq_true rfl) dX5_paperAt_37
set_option maxRecDepth 100000 in
set_option maxHeartbeats 4000000 in
theorem b_S_paperAt_3 {G : GE} {X : SMw} (hS : SO (S_S_paperAt G X) RX5 cX5_paperAt) (z0 z1 z2 z3 : Int) (z4 : Int) (h : AH) : Sim (S_S_paperAt G X) 3 [(0, 2, z0), (1, 0, z1), (2, 0, z2), (3, 0, z3), (4, 0, z4)] [] 0 0 h (f_S_paperAt_3 z0 z1 z2 z3 z4 h) := by
  exact s_loop (S := (S_S_paperAt G X)) (lsf := fun s : Int × AH => [(0, 2, z0), (1, 0, z1), (2, 0, z2), (3, 0, z3), (4, 0, s.1)]) (hf := fun s => s.2) (fun kf hkf s => B_S_paperAt_3 hS z0 z1 z2 z3 (fun a0 a1 => hkf (a0, a1)) s.1 s.2) fu_ (z4, h)
set_option maxRecDepth 100000 in
set_option maxHeartbeats 4000000 in
theorem b_S_paperAt {G : GE} {X : SMw} (hS : SO (S_S_paperAt G X) RX5 cX5_paperAt) (z0 z1 z2 z3 : Int) (h : AH) : Sim (S_S_paperAt G X) 0 [(0, 2, z0), (1, 0, z1), (2, 0, z2), (3, 0, z3)] [] 0 0 h (f_S_paperAt z0 z1 z2 z3 h) := by
  unfold f_S_paperAt
  refine s_iconst hS dX5_paperAt_0 ?_
  refine s_istore hS dX5_paperAt_1 (Nat.le_of_ble_eq_true rfl) (ls' := [(4, 0, 0), (0, 2, z0), (1, 0, z1), (2, 0, z2), (3, 0, z3)]) rfl ?_
  refine s_ls [1, 2, 3, 4, 0] rfl ?_
  exact b_S_paperAt_3 hS _ _ _ _ _ _
theorem c_S_paperAt (l : Launch) (G : GE) (z0 z1 z2 z3 : Int) (h : AH) : Con l yX5_paperAt cX5_paperAt 5 (some .int) 2 44 0 0 G [(2, z0), (0, z1), (0, z2), (0, z3)] h (f_S_paperAt z0 z1 z2 z3 h) :=
  con_of (by decide +kernel) (Nat.le_of_ble_eq_true rfl) fun X hX hS hi => b_S_paperAt hS z0 z1 z2 z3 h
abbrev S_S_firstOf (G : GE) (X : SMw) : SX := (G, X, 5, 0, 0, (some .int), 0, 0)
set_option maxRecDepth 100000 in
set_option maxHeartbeats 4000000 in
theorem B_S_firstOf_5 {G : GE} {X : SMw} (hS : SO (S_S_firstOf G X) RX5 cX5_firstOf) (z0 z1 z2 : Int) {k5 : Int → Int → AH → Option (Int × AH)} (hk5 : ∀ (z3 z4 : Int) (h : AH), Sim (S_S_firstOf G X) 5 [(0, 2, z0), (1, 0, z1), (2, 0, z2), (3, 0, z3), (4, 0, z4)] [] 0 0 h (k5 z3 z4 h)) (z3 z4 : Int) (h : AH) : Sim (S_S_firstOf G X) 5 [(0, 2, z0), (1, 0, z1), (2, 0, z2), (3, 0, z3), (4, 0, z4)] [] 0 0 h (F_S_firstOf_5 z0 z1 z2 k5 z3 z4 h) := by
  unfold F_S_firstOf_5
  refine s_iload hS dX5_firstOf_5 4 rfl ?_
  refine s_bipush hS dX5_firstOf_7 (by decide +kernel) ?_
  refine s_icmp_ge hS dX5_firstOf_9 rfl ?_ ?_
  · refine s_iload_n hS dX5_firstOf_57 rfl 3 rfl ?_
    exact s_iret hS rfl (Nat.le_of_ble_eq_true rfl) (Nat.le_of_ble_eq_true rfl) dX5_firstOf_58
  · refine s_aload_n hS dX5_firstOf_12 rfl 0 rfl ?_
    refine gf_X5_22 hS dX5_firstOf_13 fun v1 => ?_
    refine s_iload hS dX5_firstOf_16 4 rfl ?_
    refine s_iald hS dX5_firstOf_18 fun v2 => ?_
    refine s_iload_n hS dX5_firstOf_19 rfl 1 rfl ?_
    refine s_iconst hS dX5_firstOf_20 ?_
    refine s_imul hS dX5_firstOf_21 ?_
    refine s_iload_n hS dX5_firstOf_22 rfl 2 rfl ?_
    refine s_iadd hS dX5_firstOf_23 ?_
    refine s_icmp_ne hS dX5_firstOf_24 rfl ?_ ?_
    · refine s_iinc hS dX5_firstOf_51 4 rfl (Nat.le_of_ble_eq_true rfl) (ls' := [(4, 0, (z4 + 1)), (0, 2, z0), (1, 0, z1), (2, 0, z2), (3, 0, z3)]) rfl ?_
      refine s_goto hS dX5_firstOf_54 rfl ?_
      refine s_ls [1, 2, 3, 4, 0] rfl ?_
      exact hk5 _ _ _
    · refine s_iload_n hS dX5_firstOf_27 rfl 3 rfl ?_
      refine s_iconst hS dX5_firstOf_28 ?_
      refine s_icmp_eq hS dX5_firstOf_29 rfl ?_ ?_
      · refine s_iload hS dX5_firstOf_48 4 rfl ?_
        refine s_istore_n hS dX5_firstOf_50 rfl (Nat.le_of_ble_eq_true rfl) (ls' := [(3, 0, z4), (0, 2, z0), (1, 0, z1), (2, 0, z2), (4, 0, z4)]) rfl ?_
        refine s_iinc hS dX5_firstOf_51 4 rfl (Nat.le_of_ble_eq_true rfl) (ls' := [(4, 0, (z4 + 1)), (3, 0, z4), (0, 2, z0), (1, 0, z1), (2, 0, z2)]) rfl ?_
        refine s_goto hS dX5_firstOf_54 rfl ?_
        refine s_ls [2, 3, 4, 1, 0] rfl ?_
        exact hk5 _ _ _
      · refine s_aload_n hS dX5_firstOf_32 rfl 0 rfl ?_
        refine gf_X5_25 hS dX5_firstOf_33 fun v3 => ?_
        refine s_iload hS dX5_firstOf_36 4 rfl ?_
        refine s_iald hS dX5_firstOf_38 fun v4 => ?_
        refine s_aload_n hS dX5_firstOf_39 rfl 0 rfl ?_
        refine gf_X5_25 hS dX5_firstOf_40 fun v5 => ?_
        refine s_iload_n hS dX5_firstOf_43 rfl 3 rfl ?_
        refine s_iald hS dX5_firstOf_44 fun v6 => ?_
        refine s_icmp_ge hS dX5_firstOf_45 rfl ?_ ?_
        · refine s_iinc hS dX5_firstOf_51 4 rfl (Nat.le_of_ble_eq_true rfl) (ls' := [(4, 0, (z4 + 1)), (0, 2, z0), (1, 0, z1), (2, 0, z2), (3, 0, z3)]) rfl ?_
          refine s_goto hS dX5_firstOf_54 rfl ?_
          refine s_ls [1, 2, 3, 4, 0] rfl ?_
          exact hk5 _ _ _
        · refine s_iload hS dX5_firstOf_48 4 rfl ?_
          refine s_istore_n hS dX5_firstOf_50 rfl (Nat.le_of_ble_eq_true rfl) (ls' := [(3, 0, z4), (0, 2, z0), (1, 0, z1), (2, 0, z2), (4, 0, z4)]) rfl ?_
          refine s_iinc hS dX5_firstOf_51 4 rfl (Nat.le_of_ble_eq_true rfl) (ls' := [(4, 0, (z4 + 1)), (3, 0, z4), (0, 2, z0), (1, 0, z1), (2, 0, z2)]) rfl ?_
          refine s_goto hS dX5_firstOf_54 rfl ?_
          refine s_ls [2, 3, 4, 1, 0] rfl ?_
          exact hk5 _ _ _
set_option maxRecDepth 100000 in
set_option maxHeartbeats 4000000 in
theorem b_S_firstOf_5 {G : GE} {X : SMw} (hS : SO (S_S_firstOf G X) RX5 cX5_firstOf) (z0 z1 z2 : Int) (z3 z4 : Int) (h : AH) : Sim (S_S_firstOf G X) 5 [(0, 2, z0), (1, 0, z1), (2, 0, z2), (3, 0, z3), (4, 0, z4)] [] 0 0 h (f_S_firstOf_5 z0 z1 z2 z3 z4 h) := by
  exact s_loop (S := (S_S_firstOf G X)) (lsf := fun s : Int × Int × AH => [(0, 2, z0), (1, 0, z1), (2, 0, z2), (3, 0, s.1), (4, 0, s.2.1)]) (hf := fun s => s.2.2) (fun kf hkf s => B_S_firstOf_5 hS z0 z1 z2 (fun a0 a1 a2 => hkf (a0, a1, a2)) s.1 s.2.1 s.2.2) fu_ (z3, z4, h)
set_option maxRecDepth 100000 in
set_option maxHeartbeats 4000000 in
theorem b_S_firstOf {G : GE} {X : SMw} (hS : SO (S_S_firstOf G X) RX5 cX5_firstOf) (z0 z1 z2 : Int) (h : AH) : Sim (S_S_firstOf G X) 0 [(0, 2, z0), (1, 0, z1), (2, 0, z2)] [] 0 0 h (f_S_firstOf z0 z1 z2 h) := by
  unfold f_S_firstOf
  refine s_iconst hS dX5_firstOf_0 ?_
  refine s_istore_n hS dX5_firstOf_1 rfl (Nat.le_of_ble_eq_true rfl) (ls' := [(3, 0, (-1)), (0, 2, z0), (1, 0, z1), (2, 0, z2)]) rfl ?_
  refine s_iconst hS dX5_firstOf_2 ?_
  refine s_istore hS dX5_firstOf_3 (Nat.le_of_ble_eq_true rfl) (ls' := [(4, 0, 0), (3, 0, (-1)), (0, 2, z0), (1, 0, z1), (2, 0, z2)]) rfl ?_
  refine s_ls [2, 3, 4, 1, 0] rfl ?_
  exact b_S_firstOf_5 hS _ _ _ _ _ _
theorem c_S_firstOf (l : Launch) (G : GE) (z0 z1 z2 : Int) (h : AH) : Con l yX5_firstOf cX5_firstOf 5 (some .int) 0 0 0 0 G [(2, z0), (0, z1), (0, z2)] h (f_S_firstOf z0 z1 z2 h) :=
  con_of (by decide +kernel) (Nat.le_of_ble_eq_true rfl) fun X hX hS hi => b_S_firstOf hS z0 z1 z2 h
theorem ca_X5_103 {S : SX} {cc : ByteArray} {pc : Nat} {ls : List (Nat × Nat × Int)} {st : List (Nat × Int)} {k n : Nat} {h : AH} {q0 b : Int} {f : Int → AH → Option (Int × AH)} (hS : SO S RX5 cc) (hR : 0 + 1 ≤ S.2.2.2.2.2.2.1 ∧ 8 + (2 + 11) + 0 ≤ S.2.2.2.2.2.2.2) (hk : k + 0 ≤ S.2.2.2.1 ∧ n + 0 ≤ S.2.2.2.2.1) (hl : st.length ≤ 4) (d : decode cc pc = .ok (.invokevirtual 103, 3)) (kk : ∀ (r : Int) (h2 : AH), Sim S (pc + 3) ls ((0, r) :: st) (k + 0) (n + 0) h2 (f r h2)) : Sim S pc ls ((0, q0) :: (2, b) :: st) k n h (c_k h 6 b (bd_ (f_S_isPaper b q0 h) f)) := s_callV hS mo_X5_isPaper rfl rfl (c_S_isPaper _ _ _ _ h) tw_886 tw_753 tw_754 hR hk rfl rfl hl d kk
theorem ca_X5_107 {S : SX} {cc : ByteArray} {pc : Nat} {ls : List (Nat × Nat × Int)} {st : List (Nat × Int)} {k n : Nat} {h : AH} {q0 q1 q2 b : Int} {f : Int → AH → Option (Int × AH)} (hS : SO S RX5 cc) (hR : 1 + 1 ≤ S.2.2.2.2.2.2.1 ∧ 8 + (4 + 11) + 24 ≤ S.2.2.2.2.2.2.2) (hk : k + 0 ≤ S.2.2.2.1 ∧ n + 0 ≤ S.2.2.2.2.1) (hl : st.length ≤ 4) (d : decode cc pc = .ok (.invokevirtual 107, 3)) (kk : ∀ (r : Int) (h2 : AH), Sim S (pc + 3) ls (st) (k + 0) (n + 0) h2 (f r h2)) : Sim S pc ls ((0, q2) :: (0, q1) :: (0, q0) :: (2, b) :: st) k n h (c_k h 6 b (bd_ (f_S_put b q0 q1 q2 h) f)) := s_callV hS mo_X5_put rfl rfl (c_S_put _ _ _ _ _ _ h) tw_887 tw_609 tw_610 hR hk rfl rfl hl d kk
abbrev S_S_shift (G : GE) (X : SMw) : SX := (G, X, 6, 0, 0, none, 2, 47)
set_option maxRecDepth 100000 in
set_option maxHeartbeats 4000000 in
theorem b_S_shift {G : GE} {X : SMw} (hS : SO (S_S_shift G X) RX5 cX5_shift) (z0 z1 z2 z3 z4 : Int) (h : AH) : Sim (S_S_shift G X) 0 [(0, 2, z0), (1, 0, z1), (2, 0, z2), (3, 0, z3), (4, 0, z4)] [] 0 0 h (f_S_shift z0 z1 z2 z3 z4 h) := by
  unfold f_S_shift
  refine s_aload_n hS dX5_shift_0 rfl 0 rfl ?_
  refine s_iload_n hS dX5_shift_1 rfl 1 rfl ?_
  refine ca_X5_103 hS ⟨Nat.le_of_ble_eq_true rfl, Nat.le_of_ble_eq_true rfl⟩ ⟨Nat.le_of_ble_eq_true rfl, Nat.le_of_ble_eq_true rfl⟩ (Nat.le_of_ble_eq_true rfl) dX5_shift_2 fun v1 h2 => ?_
  refine s_if_ne hS dX5_shift_5 rfl ?_ ?_
  · refine s_aload_n hS dX5_shift_9 rfl 0 rfl ?_
    refine s_iload_n hS dX5_shift_10 rfl 1 rfl ?_
    refine s_iload_n hS dX5_shift_11 rfl 3 rfl ?_
    refine s_iload hS dX5_shift_12 4 rfl ?_
    refine ca_X5_107 hS ⟨Nat.le_of_ble_eq_true rfl, Nat.le_of_ble_eq_true rfl⟩ ⟨Nat.le_of_ble_eq_true rfl, Nat.le_of_ble_eq_true rfl⟩ (Nat.le_of_ble_eq_true rfl) dX5_shift_14 fun v3 h4 => ?_
    refine s_aload_n hS dX5_shift_17 rfl 0 rfl ?_
    refine gf_X5_32 hS dX5_shift_18 fun v5 => ?_
    refine s_iload_n hS dX5_shift_21 rfl 2 rfl ?_
    refine s_iconst hS dX5_shift_22 ?_
    refine s_imul hS dX5_shift_23 ?_
    refine s_iload_n hS dX5_shift_24 rfl 3 rfl ?_
    refine s_iadd hS dX5_shift_25 ?_
    refine s_dup2 hS dX5_shift_26 (by decide) (by decide) ?_
    refine s_iald hS dX5_shift_27 fun v6 => ?_
    refine s_iconst hS dX5_shift_28 ?_
    refine s_iadd hS dX5_shift_29 ?_
    refine s_iast hS dX5_shift_30 fun h7 => ?_
    refine s_aload_n hS dX5_shift_31 rfl 0 rfl ?_
    refine gf_X5_28 hS dX5_shift_32 fun v8 => ?_
    refine s_iload_n hS dX5_shift_35 rfl 1 rfl ?_
    refine s_lald hS dX5_shift_36 fun v9 => ?_
    refine s_ldc2 hS (z := 15) tw_888 (by decide +kernel) dX5_shift_37 ?_
    refine s_land hS dX5_shift_40 ?_
    refine s_l2i hS dX5_shift_41 ?_
    refine s_let fun v10 => ?_
    refine s_istore hS dX5_shift_42 (Nat.le_of_ble_eq_true rfl) (ls' := [(5, 0, v10), (0, 2, z0), (1, 0, z1), (2, 0, z2), (3, 0, z3), (4, 0, z4)]) rfl ?_
    refine s_iload hS dX5_shift_44 0 rfl ?_
    refine s_bipush hS dX5_shift_46 (by decide +kernel) ?_
    refine s_icmp_ge hS dX5_shift_48 rfl ?_ ?_
    · exact s_vret hS rfl (Nat.le_of_ble_eq_true rfl) (Nat.le_of_ble_eq_true rfl) dX5_shift_71
    · refine s_aload_n hS dX5_shift_51 rfl 1 rfl ?_
      refine gf_X5_28 hS dX5_shift_52 fun v11 => ?_
      refine s_iload_n hS dX5_shift_55 rfl 2 rfl ?_
      refine s_dup2 hS dX5_shift_56 (by decide) (by decide) ?_
      refine s_lald hS dX5_shift_57 fun v12 => ?_
      refine s_iload_n hS dX5_shift_58 rfl 4 rfl ?_
      refine s_i2l hS dX5_shift_59 ?_
      refine s_iconst hS dX5_shift_60 ?_
      refine s_iconst hS dX5_shift_61 ?_
      refine s_iload hS dX5_shift_62 0 rfl ?_
      refine s_imul hS dX5_shift_64 ?_
      refine s_iadd hS dX5_shift_65 ?_
      refine s_lshl hS dX5_shift_66 ?_
      refine s_lconst1 hS dX5_shift_67 ?_
      refine s_ladd hS dX5_shift_68 ?_
      refine s_ladd hS dX5_shift_69 ?_
      refine s_last hS dX5_shift_70 fun h13 => ?_
      exact s_vret hS rfl (Nat.le_of_ble_eq_true rfl) (Nat.le_of_ble_eq_true rfl) dX5_shift_71
  · exact s_vret hS rfl (Nat.le_of_ble_eq_true rfl) (Nat.le_of_ble_eq_true rfl) dX5_shift_8
theorem c_S_shift (l : Launch) (G : GE) (z0 z1 z2 z3 z4 : Int) (h : AH) : Con l yX5_shift cX5_shift 6 none 2 47 0 0 G [(2, z0), (0, z1), (0, z2), (0, z3), (0, z4)] h (f_S_shift z0 z1 z2 z3 z4 h) :=
  con_of (by decide +kernel) (Nat.le_of_ble_eq_true rfl) fun X hX hS hi => b_S_shift hS z0 z1 z2 z3 z4 h
abbrev S_S_stepOf (G : GE) (X : SMw) : SX := (G, X, 4, 0, 0, (some .int), 0, 0)
set_option maxRecDepth 100000 in
set_option maxHeartbeats 4000000 in
theorem b_S_stepOf {G : GE} {X : SMw} (hS : SO (S_S_stepOf G X) RX5 cX5_stepOf) (z0 z1 z2 : Int) (h : AH) : Sim (S_S_stepOf G X) 0 [(0, 2, z0), (1, 0, z1), (2, 0, z2)] [] 0 0 h (f_S_stepOf z0 z1 z2 h) := by
  unfold f_S_stepOf
  refine s_aload_n hS dX5_stepOf_0 rfl 0 rfl ?_
  refine gf_X5_28 hS dX5_stepOf_1 fun v1 => ?_
  refine s_iload_n hS dX5_stepOf_4 rfl 1 rfl ?_
  refine s_lald hS dX5_stepOf_5 fun v2 => ?_
  refine s_ldc2 hS (z := 15) tw_888 (by decide +kernel) dX5_stepOf_6 ?_
  refine s_land hS dX5_stepOf_9 ?_
  refine s_l2i hS dX5_stepOf_10 ?_
  refine s_let fun v3 => ?_
  refine s_istore_n hS dX5_stepOf_11 rfl (Nat.le_of_ble_eq_true rfl) (ls' := [(3, 0, v3), (0, 2, z0), (1, 0, z1), (2, 0, z2)]) rfl ?_
  refine s_iload_n hS dX5_stepOf_12 rfl 3 rfl ?_
  refine s_if_ne hS dX5_stepOf_13 rfl ?_ ?_
  · refine s_iload_n hS dX5_stepOf_18 rfl 3 rfl ?_
    refine s_iload_n hS dX5_stepOf_19 rfl 0 rfl ?_
    refine s_icmp_le hS dX5_stepOf_20 rfl ?_ ?_
    · refine s_aload_n hS dX5_stepOf_28 rfl 1 rfl ?_
      refine gf_X5_28 hS dX5_stepOf_29 fun v4 => ?_
      refine s_iload_n hS dX5_stepOf_32 rfl 2 rfl ?_
      refine s_lald hS dX5_stepOf_33 fun v5 => ?_
      refine s_iconst hS dX5_stepOf_34 ?_
      refine s_iconst hS dX5_stepOf_35 ?_
      refine s_iload_n hS dX5_stepOf_36 rfl 3 rfl ?_
      refine s_imul hS dX5_stepOf_37 ?_
      refine s_iadd hS dX5_stepOf_38 ?_
      refine s_lushr hS dX5_stepOf_39 ?_
      refine s_l2i hS dX5_stepOf_40 ?_
      refine s_bipush hS dX5_stepOf_41 (by decide +kernel) ?_
      refine s_iand hS dX5_stepOf_43 ?_
      exact s_iret hS rfl (Nat.le_of_ble_eq_true rfl) (Nat.le_of_ble_eq_true rfl) dX5_stepOf_44
    · refine s_bipush hS dX5_stepOf_23 (by decide +kernel) ?_
      refine s_goto hS dX5_stepOf_25 rfl ?_
      exact s_iret hS rfl (Nat.le_of_ble_eq_true rfl) (Nat.le_of_ble_eq_true rfl) dX5_stepOf_44
  · refine s_iload_n hS dX5_stepOf_16 rfl 0 rfl ?_
    exact s_iret hS rfl (Nat.le_of_ble_eq_true rfl) (Nat.le_of_ble_eq_true rfl) dX5_stepOf_17
theorem c_S_stepOf (l : Launch) (G : GE) (z0 z1 z2 : Int) (h : AH) : Con l yX5_stepOf cX5_stepOf 4 (some .int) 0 0 0 0 G [(2, z0), (0, z1), (0, z2)] h (f_S_stepOf z0 z1 z2 h) :=
  con_of (by decide +kernel) (Nat.le_of_ble_eq_true rfl) fun X hX hS hi => b_S_stepOf hS z0 z1 z2 h
theorem ca_X5_112 {S : SX} {cc : ByteArray} {pc : Nat} {ls : List (Nat × Nat × Int)} {st : List (Nat × Int)} {k n : Nat} {h : AH} {q0 b : Int} {f : Int → AH → Option (Int × AH)} (hS : SO S RX5 cc) (hR : 4 + 1 ≤ S.2.2.2.2.2.2.1 ∧ 8 + (8 + 11) + 91 ≤ S.2.2.2.2.2.2.2) (hk : k + 0 ≤ S.2.2.2.1 ∧ n + 0 ≤ S.2.2.2.2.1) (hl : st.length ≤ 4) (d : decode cc pc = .ok (.invokevirtual 112, 3)) (kk : ∀ (r : Int) (h2 : AH), Sim S (pc + 3) ls ((0, r) :: st) (k + 0) (n + 0) h2 (f r h2)) : Sim S pc ls ((2, q0) :: (2, b) :: st) k n h (c_k h 8 b (bd_ (f_T_choose b q0 h) f)) := s_callV hS mo_X7_choose rfl rfl (c_T_choose _ _ _ _ h) tw_830 tw_831 tw_832 hR hk rfl rfl hl d kk
theorem ca_X5_116 {S : SX} {cc : ByteArray} {pc : Nat} {ls : List (Nat × Nat × Int)} {st : List (Nat × Int)} {k n : Nat} {h : AH} {q0 b : Int} {f : Int → AH → Option (Int × AH)} (hS : SO S RX5 cc) (hR : 2 + 1 ≤ S.2.2.2.2.2.2.1 ∧ 8 + (4 + 11) + 43 ≤ S.2.2.2.2.2.2.2) (hk : k + 0 ≤ S.2.2.2.1 ∧ n + 0 ≤ S.2.2.2.2.1) (hl : st.length ≤ 4) (d : decode cc pc = .ok (.invokevirtual 116, 3)) (kk : ∀ (r : Int) (h2 : AH), Sim S (pc + 3) ls (st) (k + 0) (n + 0) h2 (f r h2)) : Sim S pc ls ((0, q0) :: (2, b) :: st) k n h (c_k h 8 b (bd_ (f_T_serve b q0 h) f)) := s_callV hS mo_X7_serve rfl rfl (c_T_serve _ _ _ _ h) tw_863 tw_864 tw_865 hR hk rfl rfl hl d kk
theorem ca_X5_120 {S : SX} {cc : ByteArray} {pc : Nat} {ls : List (Nat × Nat × Int)} {st : List (Nat × Int)} {k n : Nat} {h : AH} {q0 : Int} {f : Int → AH → Option (Int × AH)} (hS : SO S RX5 cc) (hR : 1 + 1 ≤ S.2.2.2.2.2.2.1 ∧ 8 + (3 + 11) + 21 ≤ S.2.2.2.2.2.2.2) (hk : k + 0 ≤ S.2.2.2.1 ∧ n + 0 ≤ S.2.2.2.2.1) (hl : st.length ≤ 4) (d : decode cc pc = .ok (.invokestatic 120, 3)) (kk : ∀ (r : Int) (h2 : AH), Sim S (pc + 3) ls ((0, r) :: st) (k + 0) (n + 0) h2 (f r h2)) : Sim S pc ls ((1, q0) :: st) k n h (bd_ (f_J13_numberOfTrailingZeros_95d88 q0 h) f) := s_callS hS mo_J13_numberOfTrailingZeros_95d88 (c_J13_numberOfTrailingZeros_95d88 _ _ _ h) tw_870 tw_782 hR hk rfl rfl hl d kk
theorem gf_X5_123 {S : SX} {cc : ByteArray} {pc : Nat} {ls : List (Nat × Nat × Int)} {st : List (Nat × Int)} {k n : Nat} {h : AH} {a : Int} {f : Int → Option (Int × AH)} (hS : SO S RX5 cc) (d : decode cc pc = .ok (.getfield 123, 3)) (kk : ∀ v : Int, Sim S (pc + 3) ls ((0, v) :: st) k n h (f v)) : Sim S pc ls ((2, a) :: st) k n h ((g_f h 8 a 5).bind f) := s_getf hS cx_7 5 (by decide) tw_263 rfl rfl rfl d kk
theorem pf_X5_123 {S : SX} {cc : ByteArray} {pc : Nat} {ls : List (Nat × Nat × Int)} {st : List (Nat × Int)} {k n : Nat} {h : AH} {a v : Int} {f : AH → Option (Int × AH)} (hS : SO S RX5 cc) (d : decode cc pc = .ok (.putfield 123, 3)) (kk : ∀ h2 : AH, Sim S (pc + 3) ls st k n h2 (f h2)) : Sim S pc ls ((0, v) :: (2, a) :: st) k n h ((s_f h 8 a 5 v).bind f) := s_putf hS cx_7 5 (by decide) tw_263 rfl rfl (Or.inl rfl) rfl rfl d kk
abbrev S_S_passHourByHand (G : GE) (X : SMw) : SX := (G, X, 6, 0, 0, (some .int), 5, 118)
set_option maxRecDepth 100000 in
set_option maxHeartbeats 4000000 in
theorem b_S_passHourByHand_107 {G : GE} {X : SMw} (hS : SO (S_S_passHourByHand G X) RX5 cX5_passHourByHand) (z0 z2 : Int) (h : AH) : Sim (S_S_passHourByHand G X) 107 [(0, 2, z0), (2, 0, z2)] [] 0 0 h (f_S_passHourByHand_107 z0 z2 h) := by
  unfold f_S_passHourByHand_107
  refine s_aload_n hS dX5_passHourByHand_107 rfl 0 rfl ?_
  refine gf_X5_12 hS dX5_passHourByHand_108 fun v1 => ?_
  refine s_dup hS dX5_passHourByHand_111 (by decide) ?_
  refine gf_X5_123 hS dX5_passHourByHand_112 fun v2 => ?_
  refine s_iconst hS dX5_passHourByHand_115 ?_
  refine s_iadd hS dX5_passHourByHand_116 ?_
  refine pf_X5_123 hS dX5_passHourByHand_117 fun h3 => ?_
  refine s_iload_n hS dX5_passHourByHand_120 rfl 1 rfl ?_
  exact s_iret hS rfl (Nat.le_of_ble_eq_true rfl) (Nat.le_of_ble_eq_true rfl) dX5_passHourByHand_121
set_option maxRecDepth 100000 in
set_option maxHeartbeats 4000000 in
theorem b_S_passHourByHand_91 {G : GE} {X : SMw} (hS : SO (S_S_passHourByHand G X) RX5 cX5_passHourByHand) (z0 z2 z3 : Int) (h : AH) : Sim (S_S_passHourByHand G X) 91 [(0, 2, z0), (2, 0, z2), (3, 1, z3)] [] 0 0 h (f_S_passHourByHand_91 z0 z2 z3 h) := by
  unfold f_S_passHourByHand_91
  refine s_lload_n hS dX5_passHourByHand_91 rfl 2 rfl ?_
  refine s_lconst0 hS dX5_passHourByHand_92 ?_
  refine s_lcmp hS dX5_passHourByHand_93 ?_
  refine s_if_eq hS dX5_passHourByHand_94 rfl ?_ ?_
  · refine s_ls [0, 1] rfl ?_
    exact b_S_passHourByHand_107 hS _ _ _
  · refine s_aload_n hS dX5_passHourByHand_97 rfl 0 rfl ?_
    refine s_lload_n hS dX5_passHourByHand_98 rfl 2 rfl ?_
    refine ca_X5_120 hS ⟨Nat.le_of_ble_eq_true rfl, Nat.le_of_ble_eq_true rfl⟩ ⟨Nat.le_of_ble_eq_true rfl, Nat.le_of_ble_eq_true rfl⟩ (Nat.le_of_ble_eq_true rfl) dX5_passHourByHand_99 fun v1 h2 => ?_
    refine s_iload_n hS dX5_passHourByHand_102 rfl 1 rfl ?_
    refine s_iconst hS dX5_passHourByHand_103 ?_
    refine ca_X5_93 hS ⟨Nat.le_of_ble_eq_true rfl, Nat.le_of_ble_eq_true rfl⟩ ⟨Nat.le_of_ble_eq_true rfl, Nat.le_of_ble_eq_true rfl⟩ (Nat.le_of_ble_eq_true rfl) dX5_passHourByHand_104 fun v3 h4 => ?_
    refine s_ls [0, 1] rfl ?_
    exact b_S_passHourByHand_107 hS _ _ _
set_option maxRecDepth 100000 in
set_option maxHeartbeats 4000000 in
theorem b_S_passHourByHand {G : GE} {X : SMw} (hS : SO (S_S_passHourByHand G X) RX5 cX5_passHourByHand) (z0 z1 : Int) (h : AH) : Sim (S_S_passHourByHand G X) 0 [(0, 2, z0), (1, 2, z1)] [] 0 0 h (f_S_passHourByHand z0 z1 h) := by
  unfold f_S_passHourByHand
  refine s_aload_n hS dX5_passHourByHand_0 rfl 0 rfl ?_
  refine gf_X5_12 hS dX5_passHourByHand_1 fun v1 => ?_
  refine s_aload_n hS dX5_passHourByHand_4 rfl 1 rfl ?_
  refine ca_X5_112 hS ⟨Nat.le_of_ble_eq_true rfl, Nat.le_of_ble_eq_true rfl⟩ ⟨Nat.le_of_ble_eq_true rfl, Nat.le_of_ble_eq_true rfl⟩ (Nat.le_of_ble_eq_true rfl) dX5_passHourByHand_5 fun v2 h3 => ?_
  refine s_istore_n hS dX5_passHourByHand_8 rfl (Nat.le_of_ble_eq_true rfl) (ls' := [(2, 0, v2), (0, 2, z0), (1, 2, z1)]) rfl ?_
  refine s_iload_n hS dX5_passHourByHand_9 rfl 0 rfl ?_
  refine s_iconst hS dX5_passHourByHand_10 ?_
  refine s_icmp_eq hS dX5_passHourByHand_11 rfl ?_ ?_
  · refine s_ls [1, 0] rfl ?_
    exact b_S_passHourByHand_107 hS _ _ _
  · refine s_aload_n hS dX5_passHourByHand_14 rfl 1 rfl ?_
    refine gf_X5_12 hS dX5_passHourByHand_15 fun v4 => ?_
    refine gf_X5_74 hS dX5_passHourByHand_18 fun v5 => ?_
    refine s_iload_n hS dX5_passHourByHand_21 rfl 0 rfl ?_
    refine s_lald hS dX5_passHourByHand_22 fun v6 => ?_
    refine s_lstore_n hS dX5_passHourByHand_23 rfl (Nat.le_of_ble_eq_true rfl) (ls' := [(3, 1, v6), (2, 0, v2), (0, 2, z0), (1, 2, z1)]) rfl ?_
    refine s_aload_n hS dX5_passHourByHand_24 rfl 2 rfl ?_
    refine gf_X5_12 hS dX5_passHourByHand_25 fun v7 => ?_
    refine gf_X5_100 hS dX5_passHourByHand_28 fun v8 => ?_
    refine s_iload_n hS dX5_passHourByHand_31 rfl 1 rfl ?_
    refine s_iald hS dX5_passHourByHand_32 fun v9 => ?_
    refine s_istore hS dX5_passHourByHand_33 (Nat.le_of_ble_eq_true rfl) (ls' := [(5, 0, v9), (3, 1, v6), (2, 0, v2), (0, 2, z0), (1, 2, z1)]) rfl ?_
    refine s_aload_n hS dX5_passHourByHand_35 rfl 3 rfl ?_
    refine gf_X5_12 hS dX5_passHourByHand_36 fun v10 => ?_
    refine s_iload_n hS dX5_passHourByHand_39 rfl 2 rfl ?_
    refine ca_X5_116 hS ⟨Nat.le_of_ble_eq_true rfl, Nat.le_of_ble_eq_true rfl⟩ ⟨Nat.le_of_ble_eq_true rfl, Nat.le_of_ble_eq_true rfl⟩ (Nat.le_of_ble_eq_true rfl) dX5_passHourByHand_40 fun v11 h12 => ?_
    refine s_lload_n hS dX5_passHourByHand_43 rfl 1 rfl ?_
    refine s_aload_n hS dX5_passHourByHand_44 rfl 3 rfl ?_
    refine gf_X5_12 hS dX5_passHourByHand_45 fun v13 => ?_
    refine gf_X5_74 hS dX5_passHourByHand_48 fun v14 => ?_
    refine s_iload_n hS dX5_passHourByHand_51 rfl 2 rfl ?_
    refine s_lald hS dX5_passHourByHand_52 fun v15 => ?_
    refine s_lxor hS dX5_passHourByHand_53 ?_
    refine s_let fun v16 => ?_
    refine s_lstore_n hS dX5_passHourByHand_54 rfl (Nat.le_of_ble_eq_true rfl) (ls' := [(3, 1, v16), (5, 0, v9), (2, 0, v2), (0, 2, z0), (1, 2, z1)]) rfl ?_
    refine s_lload_n hS dX5_passHourByHand_55 rfl 0 rfl ?_
    refine s_lconst0 hS dX5_passHourByHand_56 ?_
    refine s_lcmp hS dX5_passHourByHand_57 ?_
    refine s_if_eq hS dX5_passHourByHand_58 rfl ?_ ?_
    · refine s_ls [3, 2, 0] rfl ?_
      exact b_S_passHourByHand_91 hS _ _ _ _
    · refine s_aload_n hS dX5_passHourByHand_61 rfl 3 rfl ?_
      refine gf_X5_12 hS dX5_passHourByHand_62 fun v17 => ?_
      refine gf_X5_100 hS dX5_passHourByHand_65 fun v18 => ?_
      refine s_iload_n hS dX5_passHourByHand_68 rfl 2 rfl ?_
      refine s_iald hS dX5_passHourByHand_69 fun v19 => ?_
      refine s_iload hS dX5_passHourByHand_70 1 rfl ?_
      refine s_icmp_le hS dX5_passHourByHand_72 rfl ?_ ?_
      · refine s_ls [3, 2, 0] rfl ?_
        exact b_S_passHourByHand_91 hS _ _ _ _
      · refine s_aload_n hS dX5_passHourByHand_75 rfl 3 rfl ?_
        refine s_lload_n hS dX5_passHourByHand_76 rfl 0 rfl ?_
        refine ca_X5_120 hS ⟨Nat.le_of_ble_eq_true rfl, Nat.le_of_ble_eq_true rfl⟩ ⟨Nat.le_of_ble_eq_true rfl, Nat.le_of_ble_eq_true rfl⟩ (Nat.le_of_ble_eq_true rfl) dX5_passHourByHand_77 fun v20 h21 => ?_
        refine s_iload_n hS dX5_passHourByHand_80 rfl 2 rfl ?_
        refine s_iconst hS dX5_passHourByHand_81 ?_
        refine ca_X5_93 hS ⟨Nat.le_of_ble_eq_true rfl, Nat.le_of_ble_eq_true rfl⟩ ⟨Nat.le_of_ble_eq_true rfl, Nat.le_of_ble_eq_true rfl⟩ (Nat.le_of_ble_eq_true rfl) dX5_passHourByHand_82 fun v22 h23 => ?_
        refine s_lload_n hS dX5_passHourByHand_85 rfl 0 rfl ?_
        refine s_lload_n hS dX5_passHourByHand_86 rfl 0 rfl ?_
        refine s_lconst1 hS dX5_passHourByHand_87 ?_
        refine s_lsub hS dX5_passHourByHand_88 ?_
        refine s_land hS dX5_passHourByHand_89 ?_
        refine s_let fun v24 => ?_
        refine s_lstore_n hS dX5_passHourByHand_90 rfl (Nat.le_of_ble_eq_true rfl) (ls' := [(3, 1, v24), (5, 0, v9), (2, 0, v2), (0, 2, z0), (1, 2, z1)]) rfl ?_
        refine s_ls [3, 2, 0] rfl ?_
        exact b_S_passHourByHand_91 hS _ _ _ _
theorem c_S_passHourByHand (l : Launch) (G : GE) (z0 z1 : Int) (h : AH) : Con l yX5_passHourByHand cX5_passHourByHand 6 (some .int) 5 118 0 0 G [(2, z0), (2, z1)] h (f_S_passHourByHand z0 z1 h) :=
  con_of (by decide +kernel) (Nat.le_of_ble_eq_true rfl) fun X hX hS hi => b_S_passHourByHand hS z0 z1 h
abbrev S_S_isRecounted (G : GE) (X : SMw) : SX := (G, X, 2, 0, 0, (some .boolean), 0, 0)
set_option maxRecDepth 100000 in
set_option maxHeartbeats 4000000 in
theorem b_S_isRecounted {G : GE} {X : SMw} (hS : SO (S_S_isRecounted G X) RX5 cX5_isRecounted) (z0 z1 : Int) (h : AH) : Sim (S_S_isRecounted G X) 0 [(0, 2, z0), (1, 0, z1)] [] 0 0 h (f_S_isRecounted z0 z1 h) := by
  unfold f_S_isRecounted
  refine s_aload_n hS dX5_isRecounted_0 rfl 0 rfl ?_
  refine gf_X5_54 hS dX5_isRecounted_1 fun v1 => ?_
  refine s_iload_n hS dX5_isRecounted_4 rfl 1 rfl ?_
  refine s_ishr hS dX5_isRecounted_5 ?_
  refine s_iconst hS dX5_isRecounted_6 ?_
  refine s_iand hS dX5_isRecounted_7 ?_
  refine s_if_eq hS dX5_isRecounted_8 rfl ?_ ?_
  · refine s_iconst hS dX5_isRecounted_15 ?_
    exact s_zret hS rfl (Nat.le_of_ble_eq_true rfl) (Nat.le_of_ble_eq_true rfl) dX5_isRecounted_16
  · refine s_iconst hS dX5_isRecounted_11 ?_
    refine s_goto hS dX5_isRecounted_12 rfl ?_
    exact s_zret hS rfl (Nat.le_of_ble_eq_true rfl) (Nat.le_of_ble_eq_true rfl) dX5_isRecounted_16
theorem c_S_isRecounted (l : Launch) (G : GE) (z0 z1 : Int) (h : AH) : Con l yX5_isRecounted cX5_isRecounted 2 (some .boolean) 0 0 0 0 G [(2, z0), (0, z1)] h (f_S_isRecounted z0 z1 h) :=
  con_of (by decide +kernel) (Nat.le_of_ble_eq_true rfl) fun X hX hS hi => b_S_isRecounted hS z0 z1 h
abbrev S_S_saidCount (G : GE) (X : SMw) : SX := (G, X, 4, 0, 0, (some .int), 0, 0)
set_option maxRecDepth 100000 in
set_option maxHeartbeats 4000000 in
theorem B_S_saidCount_4 {G : GE} {X : SMw} (hS : SO (S_S_saidCount G X) RX5 cX5_saidCount) (z0 z1 : Int) {k4 : Int → Int → AH → Option (Int × AH)} (hk4 : ∀ (z2 z3 : Int) (h : AH), Sim (S_S_saidCount G X) 4 [(0, 2, z0), (1, 0, z1), (2, 0, z2), (3, 0, z3)] [] 0 0 h (k4 z2 z3 h)) (z2 z3 : Int) (h : AH) : Sim (S_S_saidCount G X) 4 [(0, 2, z0), (1, 0, z1), (2, 0, z2), (3, 0, z3)] [] 0 0 h (F_S_saidCount_4 z0 z1 k4 z2 z3 h) := by
  unfold F_S_saidCount_4
  refine s_iload_n hS dX5_saidCount_4 rfl 3 rfl ?_
  refine s_iconst hS dX5_saidCount_5 ?_
  refine s_icmp_gt hS dX5_saidCount_6 rfl ?_ ?_
  · refine s_iload_n hS dX5_saidCount_33 rfl 2 rfl ?_
    exact s_iret hS rfl (Nat.le_of_ble_eq_true rfl) (Nat.le_of_ble_eq_true rfl) dX5_saidCount_34
  · refine s_aload_n hS dX5_saidCount_9 rfl 0 rfl ?_
    refine gf_X5_35 hS dX5_saidCount_10 fun v1 => ?_
    refine s_iload_n hS dX5_saidCount_13 rfl 1 rfl ?_
    refine s_iconst hS dX5_saidCount_14 ?_
    refine s_imul hS dX5_saidCount_15 ?_
    refine s_iload_n hS dX5_saidCount_16 rfl 3 rfl ?_
    refine s_iadd hS dX5_saidCount_17 ?_
    refine s_iald hS dX5_saidCount_18 fun v2 => ?_
    refine s_bipush hS dX5_saidCount_19 (by decide +kernel) ?_
    refine s_icmp_eq hS dX5_saidCount_21 rfl ?_ ?_
    · refine s_iinc hS dX5_saidCount_27 3 rfl (Nat.le_of_ble_eq_true rfl) (ls' := [(3, 0, (z3 + 1)), (0, 2, z0), (1, 0, z1), (2, 0, z2)]) rfl ?_
      refine s_goto hS dX5_saidCount_30 rfl ?_
      refine s_ls [1, 2, 3, 0] rfl ?_
      exact hk4 _ _ _
    · refine s_iinc hS dX5_saidCount_24 2 rfl (Nat.le_of_ble_eq_true rfl) (ls' := [(2, 0, (z2 + 1)), (0, 2, z0), (1, 0, z1), (3, 0, z3)]) rfl ?_
      refine s_iinc hS dX5_saidCount_27 3 rfl (Nat.le_of_ble_eq_true rfl) (ls' := [(3, 0, (z3 + 1)), (2, 0, (z2 + 1)), (0, 2, z0), (1, 0, z1)]) rfl ?_
      refine s_goto hS dX5_saidCount_30 rfl ?_
      refine s_ls [2, 3, 1, 0] rfl ?_
      exact hk4 _ _ _
set_option maxRecDepth 100000 in
set_option maxHeartbeats 4000000 in
theorem b_S_saidCount_4 {G : GE} {X : SMw} (hS : SO (S_S_saidCount G X) RX5 cX5_saidCount) (z0 z1 : Int) (z2 z3 : Int) (h : AH) : Sim (S_S_saidCount G X) 4 [(0, 2, z0), (1, 0, z1), (2, 0, z2), (3, 0, z3)] [] 0 0 h (f_S_saidCount_4 z0 z1 z2 z3 h) := by
  exact s_loop (S := (S_S_saidCount G X)) (lsf := fun s : Int × Int × AH => [(0, 2, z0), (1, 0, z1), (2, 0, s.1), (3, 0, s.2.1)]) (hf := fun s => s.2.2) (fun kf hkf s => B_S_saidCount_4 hS z0 z1 (fun a0 a1 a2 => hkf (a0, a1, a2)) s.1 s.2.1 s.2.2) fu_ (z2, z3, h)
set_option maxRecDepth 100000 in
set_option maxHeartbeats 4000000 in
theorem b_S_saidCount {G : GE} {X : SMw} (hS : SO (S_S_saidCount G X) RX5 cX5_saidCount) (z0 z1 : Int) (h : AH) : Sim (S_S_saidCount G X) 0 [(0, 2, z0), (1, 0, z1)] [] 0 0 h (f_S_saidCount z0 z1 h) := by
  unfold f_S_saidCount
  refine s_iconst hS dX5_saidCount_0 ?_
  refine s_istore_n hS dX5_saidCount_1 rfl (Nat.le_of_ble_eq_true rfl) (ls' := [(2, 0, 0), (0, 2, z0), (1, 0, z1)]) rfl ?_
  refine s_iconst hS dX5_saidCount_2 ?_
  refine s_istore_n hS dX5_saidCount_3 rfl (Nat.le_of_ble_eq_true rfl) (ls' := [(3, 0, 0), (2, 0, 0), (0, 2, z0), (1, 0, z1)]) rfl ?_
  refine s_ls [2, 3, 1, 0] rfl ?_
  exact b_S_saidCount_4 hS _ _ _ _ _
theorem c_S_saidCount (l : Launch) (G : GE) (z0 z1 : Int) (h : AH) : Con l yX5_saidCount cX5_saidCount 4 (some .int) 0 0 0 0 G [(2, z0), (0, z1)] h (f_S_saidCount z0 z1 h) :=
  con_of (by decide +kernel) (Nat.le_of_ble_eq_true rfl) fun X hX hS hi => b_S_saidCount hS z0 z1 h
abbrev S_S_gapOf (G : GE) (X : SMw) : SX := (G, X, 4, 0, 0, (some .int), 0, 0)
set_option maxRecDepth 100000 in
set_option maxHeartbeats 4000000 in
theorem B_S_gapOf_46 {G : GE} {X : SMw} (hS : SO (S_S_gapOf G X) RX5 cX5_gapOf) (z0 z1 : Int) {k46 : Int → Int → AH → Option (Int × AH)} (hk46 : ∀ (z2 z3 : Int) (h : AH), Sim (S_S_gapOf G X) 46 [(0, 2, z0), (1, 0, z1), (2, 0, z2), (3, 0, z3)] [] 0 0 h (k46 z2 z3 h)) (z2 z3 : Int) (h : AH) : Sim (S_S_gapOf G X) 46 [(0, 2, z0), (1, 0, z1), (2, 0, z2), (3, 0, z3)] [] 0 0 h (F_S_gapOf_46 z0 z1 k46 z2 z3 h) := by
  unfold F_S_gapOf_46
  refine s_iload_n hS dX5_gapOf_46 rfl 3 rfl ?_
  refine s_iconst hS dX5_gapOf_47 ?_
  refine s_icmp_gt hS dX5_gapOf_48 rfl ?_ ?_
  · refine s_iload_n hS dX5_gapOf_70 rfl 2 rfl ?_
    exact s_iret hS rfl (Nat.le_of_ble_eq_true rfl) (Nat.le_of_ble_eq_true rfl) dX5_gapOf_71
  · refine s_iload_n hS dX5_gapOf_51 rfl 2 rfl ?_
    refine s_aload_n hS dX5_gapOf_52 rfl 0 rfl ?_
    refine gf_X5_35 hS dX5_gapOf_53 fun v1 => ?_
    refine s_iload_n hS dX5_gapOf_56 rfl 1 rfl ?_
    refine s_iconst hS dX5_gapOf_57 ?_
    refine s_imul hS dX5_gapOf_58 ?_
    refine s_iload_n hS dX5_gapOf_59 rfl 3 rfl ?_
    refine s_iadd hS dX5_gapOf_60 ?_
    refine s_iald hS dX5_gapOf_61 fun v2 => ?_
    refine s_isub hS dX5_gapOf_62 ?_
    refine s_let fun v3 => ?_
    refine s_istore_n hS dX5_gapOf_63 rfl (Nat.le_of_ble_eq_true rfl) (ls' := [(2, 0, v3), (0, 2, z0), (1, 0, z1), (3, 0, z3)]) rfl ?_
    refine s_iinc hS dX5_gapOf_64 3 rfl (Nat.le_of_ble_eq_true rfl) (ls' := [(3, 0, (z3 + 1)), (2, 0, v3), (0, 2, z0), (1, 0, z1)]) rfl ?_
    refine s_goto hS dX5_gapOf_67 rfl ?_
    refine s_ls [2, 3, 1, 0] rfl ?_
    exact hk46 _ _ _
set_option maxRecDepth 100000 in
set_option maxHeartbeats 4000000 in
theorem b_S_gapOf_46 {G : GE} {X : SMw} (hS : SO (S_S_gapOf G X) RX5 cX5_gapOf) (z0 z1 : Int) (z2 z3 : Int) (h : AH) : Sim (S_S_gapOf G X) 46 [(0, 2, z0), (1, 0, z1), (2, 0, z2), (3, 0, z3)] [] 0 0 h (f_S_gapOf_46 z0 z1 z2 z3 h) := by
  exact s_loop (S := (S_S_gapOf G X)) (lsf := fun s : Int × Int × AH => [(0, 2, z0), (1, 0, z1), (2, 0, s.1), (3, 0, s.2.1)]) (hf := fun s => s.2.2) (fun kf hkf s => B_S_gapOf_46 hS z0 z1 (fun a0 a1 a2 => hkf (a0, a1, a2)) s.1 s.2.1 s.2.2) fu_ (z2, z3, h)
set_option maxRecDepth 100000 in
set_option maxHeartbeats 4000000 in
theorem B_S_gapOf_9 {G : GE} {X : SMw} (hS : SO (S_S_gapOf G X) RX5 cX5_gapOf) (z0 z1 : Int) {k9 : Int → Int → AH → Option (Int × AH)} (hk9 : ∀ (z2 z3 : Int) (h : AH), Sim (S_S_gapOf G X) 9 [(0, 2, z0), (1, 0, z1), (2, 0, z2), (3, 0, z3)] [] 0 0 h (k9 z2 z3 h)) (z2 z3 : Int) (h : AH) : Sim (S_S_gapOf G X) 9 [(0, 2, z0), (1, 0, z1), (2, 0, z2), (3, 0, z3)] [] 0 0 h (F_S_gapOf_9 z0 z1 k9 z2 z3 h) := by
  unfold F_S_gapOf_9
  refine s_iload_n hS dX5_gapOf_9 rfl 3 rfl ?_
  refine s_iconst hS dX5_gapOf_10 ?_
  refine s_icmp_ge hS dX5_gapOf_11 rfl ?_ ?_
  · refine s_iconst hS dX5_gapOf_44 ?_
    refine s_istore_n hS dX5_gapOf_45 rfl (Nat.le_of_ble_eq_true rfl) (ls' := [(3, 0, 0), (0, 2, z0), (1, 0, z1), (2, 0, z2)]) rfl ?_
    refine s_ls [1, 2, 3, 0] rfl ?_
    exact b_S_gapOf_46 hS _ _ _ _ _
  · refine s_iload_n hS dX5_gapOf_14 rfl 2 rfl ?_
    refine s_aload_n hS dX5_gapOf_15 rfl 0 rfl ?_
    refine gf_X5_32 hS dX5_gapOf_16 fun v1 => ?_
    refine s_iload_n hS dX5_gapOf_19 rfl 3 rfl ?_
    refine s_iconst hS dX5_gapOf_20 ?_
    refine s_imul hS dX5_gapOf_21 ?_
    refine s_iload_n hS dX5_gapOf_22 rfl 1 rfl ?_
    refine s_iadd hS dX5_gapOf_23 ?_
    refine s_iald hS dX5_gapOf_24 fun v2 => ?_
    refine s_aload_n hS dX5_gapOf_25 rfl 0 rfl ?_
    refine gf_X5_32 hS dX5_gapOf_26 fun v3 => ?_
    refine s_iload_n hS dX5_gapOf_29 rfl 1 rfl ?_
    refine s_iconst hS dX5_gapOf_30 ?_
    refine s_imul hS dX5_gapOf_31 ?_
    refine s_iload_n hS dX5_gapOf_32 rfl 3 rfl ?_
    refine s_iadd hS dX5_gapOf_33 ?_
    refine s_iald hS dX5_gapOf_34 fun v4 => ?_
    refine s_isub hS dX5_gapOf_35 ?_
    refine s_iadd hS dX5_gapOf_36 ?_
    refine s_let fun v5 => ?_
    refine s_istore_n hS dX5_gapOf_37 rfl (Nat.le_of_ble_eq_true rfl) (ls' := [(2, 0, v5), (0, 2, z0), (1, 0, z1), (3, 0, z3)]) rfl ?_
    refine s_iinc hS dX5_gapOf_38 3 rfl (Nat.le_of_ble_eq_true rfl) (ls' := [(3, 0, (z3 + 1)), (2, 0, v5), (0, 2, z0), (1, 0, z1)]) rfl ?_
    refine s_goto hS dX5_gapOf_41 rfl ?_
    refine s_ls [2, 3, 1, 0] rfl ?_
    exact hk9 _ _ _
set_option maxRecDepth 100000 in
set_option maxHeartbeats 4000000 in
theorem b_S_gapOf_9 {G : GE} {X : SMw} (hS : SO (S_S_gapOf G X) RX5 cX5_gapOf) (z0 z1 : Int) (z2 z3 : Int) (h : AH) : Sim (S_S_gapOf G X) 9 [(0, 2, z0), (1, 0, z1), (2, 0, z2), (3, 0, z3)] [] 0 0 h (f_S_gapOf_9 z0 z1 z2 z3 h) := by
  exact s_loop (S := (S_S_gapOf G X)) (lsf := fun s : Int × Int × AH => [(0, 2, z0), (1, 0, z1), (2, 0, s.1), (3, 0, s.2.1)]) (hf := fun s => s.2.2) (fun kf hkf s => B_S_gapOf_9 hS z0 z1 (fun a0 a1 a2 => hkf (a0, a1, a2)) s.1 s.2.1 s.2.2) fu_ (z2, z3, h)
set_option maxRecDepth 100000 in
set_option maxHeartbeats 4000000 in
theorem b_S_gapOf {G : GE} {X : SMw} (hS : SO (S_S_gapOf G X) RX5 cX5_gapOf) (z0 z1 : Int) (h : AH) : Sim (S_S_gapOf G X) 0 [(0, 2, z0), (1, 0, z1)] [] 0 0 h (f_S_gapOf z0 z1 h) := by
  unfold f_S_gapOf
  refine s_aload_n hS dX5_gapOf_0 rfl 0 rfl ?_
  refine gf_X5_18 hS dX5_gapOf_1 fun v1 => ?_
  refine s_iload_n hS dX5_gapOf_4 rfl 1 rfl ?_
  refine s_iald hS dX5_gapOf_5 fun v2 => ?_
  refine s_istore_n hS dX5_gapOf_6 rfl (Nat.le_of_ble_eq_true rfl) (ls' := [(2, 0, v2), (0, 2, z0), (1, 0, z1)]) rfl ?_
  refine s_iconst hS dX5_gapOf_7 ?_
  refine s_istore_n hS dX5_gapOf_8 rfl (Nat.le_of_ble_eq_true rfl) (ls' := [(3, 0, 0), (2, 0, v2), (0, 2, z0), (1, 0, z1)]) rfl ?_
  refine s_ls [2, 3, 1, 0] rfl ?_
  exact b_S_gapOf_9 hS _ _ _ _ _
theorem c_S_gapOf (l : Launch) (G : GE) (z0 z1 : Int) (h : AH) : Con l yX5_gapOf cX5_gapOf 4 (some .int) 0 0 0 0 G [(2, z0), (0, z1)] h (f_S_gapOf z0 z1 h) :=
  con_of (by decide +kernel) (Nat.le_of_ble_eq_true rfl) fun X hX hS hi => b_S_gapOf hS z0 z1 h
theorem pf_X6_9 {S : SX} {cc : ByteArray} {pc : Nat} {ls : List (Nat × Nat × Int)} {st : List (Nat × Int)} {k n : Nat} {h : AH} {a v : Int} {f : AH → Option (Int × AH)} (hS : SO S RX6 cc) (hi : S.2.1.2.2.2.2.2.2.2.2.1.name = "<init>") (d : decode cc pc = .ok (.putfield 9, 3)) (kk : ∀ h2 : AH, Sim S (pc + 3) ls st k n h2 (f h2)) : Sim S pc ls ((2, v) :: (2, a) :: st) k n h ((s_f h 7 a 0 v).bind f) := s_putF hS hi cx_6 0 (by decide) tw_390 rfl rfl rfl (Or.inr (Or.inr (Or.inr ⟨_, rfl⟩))) rfl rfl d kk
theorem pf_X6_15 {S : SX} {cc : ByteArray} {pc : Nat} {ls : List (Nat × Nat × Int)} {st : List (Nat × Int)} {k n : Nat} {h : AH} {a v : Int} {f : AH → Option (Int × AH)} (hS : SO S RX6 cc) (hi : S.2.1.2.2.2.2.2.2.2.2.1.name = "<init>") (d : decode cc pc = .ok (.putfield 15, 3)) (kk : ∀ h2 : AH, Sim S (pc + 3) ls st k n h2 (f h2)) : Sim S pc ls ((2, v) :: (2, a) :: st) k n h ((s_f h 7 a 1 v).bind f) := s_putF hS hi cx_6 1 (by decide) tw_392 rfl rfl rfl (Or.inr (Or.inr (Or.inr ⟨_, rfl⟩))) rfl rfl d kk
theorem pf_X6_18 {S : SX} {cc : ByteArray} {pc : Nat} {ls : List (Nat × Nat × Int)} {st : List (Nat × Int)} {k n : Nat} {h : AH} {a v : Int} {f : AH → Option (Int × AH)} (hS : SO S RX6 cc) (hi : S.2.1.2.2.2.2.2.2.2.2.1.name = "<init>") (d : decode cc pc = .ok (.putfield 18, 3)) (kk : ∀ h2 : AH, Sim S (pc + 3) ls st k n h2 (f h2)) : Sim S pc ls ((2, v) :: (2, a) :: st) k n h ((s_f h 7 a 2 v).bind f) := s_putF hS hi cx_6 2 (by decide) tw_394 rfl rfl rfl (Or.inr (Or.inr (Or.inr ⟨_, rfl⟩))) rfl rfl d kk
abbrev S_Q_init (G : GE) (X : SMw) : SX := (G, X, 1, 3, 15, none, 1, 20)
set_option maxRecDepth 100000 in
set_option maxHeartbeats 4000000 in
theorem b_Q_init {G : GE} {X : SMw} (hS : SO (S_Q_init G X) RX6 cX6_init) (hi : X.2.2.2.2.2.2.2.2.1.name = "<init>") (z0 : Int) (h : AH) : Sim (S_Q_init G X) 0 [(0, 2, z0)] [] 0 0 h (f_Q_init z0 h) := by
  unfold f_Q_init
  refine s_aload_n hS dX6_init_0 rfl 0 rfl ?_
  refine s_obj hS (by decide) tw_389 tw_145 tw_146 ⟨Nat.le_of_ble_eq_true rfl, Nat.le_of_ble_eq_true rfl⟩ (Nat.le_of_ble_eq_true rfl) dX6_init_1 ?_
  refine s_aload_n hS dX6_init_4 rfl 0 rfl ?_
  refine s_iconst hS dX6_init_5 ?_
  refine s_newab hS (at_ := .int) (M := 5) rfl (by decide) (by decide) rfl (by decide) tw_176 (Nat.le_of_ble_eq_true rfl) (Nat.le_of_ble_eq_true rfl) dX6_init_6 fun x2 h1 => ?_
  refine pf_X6_9 hS hi dX6_init_8 fun h3 => ?_
  refine s_aload_n hS dX6_init_11 rfl 0 rfl ?_
  refine s_iconst hS dX6_init_12 ?_
  refine s_newab hS (at_ := .int) (M := 5) rfl (by decide) (by decide) rfl (by decide) tw_176 (Nat.le_of_ble_eq_true rfl) (Nat.le_of_ble_eq_true rfl) dX6_init_13 fun x5 h4 => ?_
  refine pf_X6_15 hS hi dX6_init_15 fun h6 => ?_
  refine s_aload_n hS dX6_init_18 rfl 0 rfl ?_
  refine s_iconst hS dX6_init_19 ?_
  refine s_newab hS (at_ := .int) (M := 5) rfl (by decide) (by decide) rfl (by decide) tw_176 (Nat.le_of_ble_eq_true rfl) (Nat.le_of_ble_eq_true rfl) dX6_init_20 fun x8 h7 => ?_
  refine pf_X6_18 hS hi dX6_init_22 fun h9 => ?_
  exact s_vret hS rfl (Nat.le_of_ble_eq_true rfl) (Nat.le_of_ble_eq_true rfl) dX6_init_25
theorem c_Q_init (l : Launch) (G : GE) (z0 : Int) (h : AH) : Con l yX6_init cX6_init 1 none 1 20 3 15 G [(2, z0)] h (f_Q_init z0 h) :=
  con_of (by decide +kernel) (Nat.le_of_ble_eq_true rfl) fun X hX hS hi => b_Q_init hS hi z0 h
theorem gf_X6_31 {S : SX} {cc : ByteArray} {pc : Nat} {ls : List (Nat × Nat × Int)} {st : List (Nat × Int)} {k n : Nat} {h : AH} {a : Int} {f : Int → Option (Int × AH)} (hS : SO S RX6 cc) (d : decode cc pc = .ok (.getfield 31, 3)) (kk : ∀ v : Int, Sim S (pc + 3) ls ((0, v) :: st) k n h (f v)) : Sim S pc ls ((2, a) :: st) k n h ((g_f h 7 a 4).bind f) := s_getf hS cx_6 4 (by decide) tw_396 rfl rfl rfl d kk
theorem gf_X6_27 {S : SX} {cc : ByteArray} {pc : Nat} {ls : List (Nat × Nat × Int)} {st : List (Nat × Int)} {k n : Nat} {h : AH} {a : Int} {f : Int → Option (Int × AH)} (hS : SO S RX6 cc) (d : decode cc pc = .ok (.getfield 27, 3)) (kk : ∀ v : Int, Sim S (pc + 3) ls ((0, v) :: st) k n h (f v)) : Sim S pc ls ((2, a) :: st) k n h ((g_f h 7 a 3).bind f) := s_getf hS cx_6 3 (by decide) tw_395 rfl rfl rfl d kk
theorem gf_X6_34 {S : SX} {cc : ByteArray} {pc : Nat} {ls : List (Nat × Nat × Int)} {st : List (Nat × Int)} {k n : Nat} {h : AH} {a : Int} {f : Int → Option (Int × AH)} (hS : SO S RX6 cc) (d : decode cc pc = .ok (.getfield 34, 3)) (kk : ∀ v : Int, Sim S (pc + 3) ls ((0, v) :: st) k n h (f v)) : Sim S pc ls ((2, a) :: st) k n h ((g_f h 7 a 6).bind f) := s_getf hS cx_6 6 (by decide) tw_398 rfl rfl rfl d kk
theorem gf_X6_37 {S : SX} {cc : ByteArray} {pc : Nat} {ls : List (Nat × Nat × Int)} {st : List (Nat × Int)} {k n : Nat} {h : AH} {a : Int} {f : Int → Option (Int × AH)} (hS : SO S RX6 cc) (d : decode cc pc = .ok (.getfield 37, 3)) (kk : ∀ v : Int, Sim S (pc + 3) ls ((0, v) :: st) k n h (f v)) : Sim S pc ls ((2, a) :: st) k n h ((g_f h 7 a 7).bind f) := s_getf hS cx_6 7 (by decide) tw_399 rfl rfl rfl d kk
theorem gf_X6_58 {S : SX} {cc : ByteArray} {pc : Nat} {ls : List (Nat × Nat × Int)} {st : List (Nat × Int)} {k n : Nat} {h : AH} {a : Int} {f : Int → Option (Int × AH)} (hS : SO S RX6 cc) (d : decode cc pc = .ok (.getfield 58, 3)) (kk : ∀ v : Int, Sim S (pc + 3) ls ((0, v) :: st) k n h (f v)) : Sim S pc ls ((2, a) :: st) k n h ((g_f h 7 a 8).bind f) := s_getf hS cx_6 8 (by decide) tw_401 rfl rfl rfl d kk
theorem pf_X6_34 {S : SX} {cc : ByteArray} {pc : Nat} {ls : List (Nat × Nat × Int)} {st : List (Nat × Int)} {k n : Nat} {h : AH} {a v : Int} {f : AH → Option (Int × AH)} (hS : SO S RX6 cc) (d : decode cc pc = .ok (.putfield 34, 3)) (kk : ∀ h2 : AH, Sim S (pc + 3) ls st k n h2 (f h2)) : Sim S pc ls ((0, v) :: (2, a) :: st) k n h ((s_f h 7 a 6 v).bind f) := s_putf hS cx_6 6 (by decide) tw_398 rfl rfl (Or.inl rfl) rfl rfl d kk
theorem pf_X6_37 {S : SX} {cc : ByteArray} {pc : Nat} {ls : List (Nat × Nat × Int)} {st : List (Nat × Int)} {k n : Nat} {h : AH} {a v : Int} {f : AH → Option (Int × AH)} (hS : SO S RX6 cc) (d : decode cc pc = .ok (.putfield 37, 3)) (kk : ∀ h2 : AH, Sim S (pc + 3) ls st k n h2 (f h2)) : Sim S pc ls ((0, v) :: (2, a) :: st) k n h ((s_f h 7 a 7 v).bind f) := s_putf hS cx_6 7 (by decide) tw_399 rfl rfl (Or.inl rfl) rfl rfl d kk
theorem pf_X6_58 {S : SX} {cc : ByteArray} {pc : Nat} {ls : List (Nat × Nat × Int)} {st : List (Nat × Int)} {k n : Nat} {h : AH} {a v : Int} {f : AH → Option (Int × AH)} (hS : SO S RX6 cc) (d : decode cc pc = .ok (.putfield 58, 3)) (kk : ∀ h2 : AH, Sim S (pc + 3) ls st k n h2 (f h2)) : Sim S pc ls ((0, v) :: (2, a) :: st) k n h ((s_f h 7 a 8 v).bind f) := s_putf hS cx_6 8 (by decide) tw_401 rfl rfl (Or.inl rfl) rfl rfl d kk
theorem pf_X6_61 {S : SX} {cc : ByteArray} {pc : Nat} {ls : List (Nat × Nat × Int)} {st : List (Nat × Int)} {k n : Nat} {h : AH} {a v : Int} {f : AH → Option (Int × AH)} (hS : SO S RX6 cc) (d : decode cc pc = .ok (.putfield 61, 3)) (kk : ∀ h2 : AH, Sim S (pc + 3) ls st k n h2 (f h2)) : Sim S pc ls ((0, v) :: (2, a) :: st) k n h ((s_f h 7 a 9 v).bind f) := s_putf hS cx_6 9 (by decide) tw_403 rfl rfl (Or.inl rfl) rfl rfl d kk
theorem gf_X6_18 {S : SX} {cc : ByteArray} {pc : Nat} {ls : List (Nat × Nat × Int)} {st : List (Nat × Int)} {k n : Nat} {h : AH} {a : Int} {f : Int → Option (Int × AH)} (hS : SO S RX6 cc) (d : decode cc pc = .ok (.getfield 18, 3)) (kk : ∀ v : Int, Sim S (pc + 3) ls ((2, v) :: st) k n h (f v)) : Sim S pc ls ((2, a) :: st) k n h ((g_f h 7 a 2).bind f) := s_getf hS cx_6 2 (by decide) tw_394 rfl rfl rfl d kk
theorem gf_X6_15 {S : SX} {cc : ByteArray} {pc : Nat} {ls : List (Nat × Nat × Int)} {st : List (Nat × Int)} {k n : Nat} {h : AH} {a : Int} {f : Int → Option (Int × AH)} (hS : SO S RX6 cc) (d : decode cc pc = .ok (.getfield 15, 3)) (kk : ∀ v : Int, Sim S (pc + 3) ls ((2, v) :: st) k n h (f v)) : Sim S pc ls ((2, a) :: st) k n h ((g_f h 7 a 1).bind f) := s_getf hS cx_6 1 (by decide) tw_392 rfl rfl rfl d kk
abbrev S_Q_weigh (G : GE) (X : SMw) : SX := (G, X, 10, 0, 0, none, 1, 60)
set_option maxRecDepth 100000 in
set_option maxHeartbeats 4000000 in
theorem b_Q_weigh_109 {G : GE} {X : SMw} (hS : SO (S_Q_weigh G X) RX6 cX6_weigh) (z0 z1 z8 z9 : Int) (h : AH) : Sim (S_Q_weigh G X) 109 [(0, 2, z0), (1, 0, z1), (8, 0, z8), (9, 0, z9)] [] 0 0 h (f_Q_weigh_109 z0 z1 z8 z9 h) := by
  unfold f_Q_weigh_109
  refine s_aload_n hS dX6_weigh_109 rfl 0 rfl ?_
  refine s_iload hS dX6_weigh_110 3 rfl ?_
  refine pf_X6_34 hS dX6_weigh_112 fun h1 => ?_
  refine s_aload_n hS dX6_weigh_115 rfl 0 rfl ?_
  refine s_iload hS dX6_weigh_116 3 rfl ?_
  refine pf_X6_37 hS dX6_weigh_118 fun h2 => ?_
  refine s_aload_n hS dX6_weigh_121 rfl 0 rfl ?_
  refine s_iload_n hS dX6_weigh_122 rfl 1 rfl ?_
  refine pf_X6_58 hS dX6_weigh_123 fun h3 => ?_
  refine s_aload_n hS dX6_weigh_126 rfl 0 rfl ?_
  refine s_iload hS dX6_weigh_127 2 rfl ?_
  refine pf_X6_61 hS dX6_weigh_129 fun h4 => ?_
  refine s_aload_n hS dX6_weigh_132 rfl 0 rfl ?_
  refine gf_X6_18 hS dX6_weigh_133 fun v5 => ?_
  refine s_iconst hS dX6_weigh_136 ?_
  refine s_aload_n hS dX6_weigh_137 rfl 0 rfl ?_
  refine gf_X6_15 hS dX6_weigh_138 fun v6 => ?_
  refine s_iconst hS dX6_weigh_141 ?_
  refine s_iconst hS dX6_weigh_142 ?_
  refine s_acopy hS (t := 20) (by decide) tw_984 tw_715 tw_714 tw_137 ⟨Nat.le_of_ble_eq_true rfl, Nat.le_of_ble_eq_true rfl⟩ (Nat.le_of_ble_eq_true rfl) dX6_weigh_143 fun h7 => ?_
  exact s_vret hS rfl (Nat.le_of_ble_eq_true rfl) (Nat.le_of_ble_eq_true rfl) dX6_weigh_146
set_option maxRecDepth 100000 in
set_option maxHeartbeats 4000000 in
theorem b_Q_weigh_68 {G : GE} {X : SMw} (hS : SO (S_Q_weigh G X) RX6 cX6_weigh) (z0 z1 z6 w0 : Int) (h : AH) : Sim (S_Q_weigh G X) 68 [(0, 2, z0), (1, 0, z1), (6, 0, z6)] [(0, w0)] 0 0 h (f_Q_weigh_68 z0 z1 z6 w0 h) := by
  unfold f_Q_weigh_68
  refine s_istore hS dX6_weigh_68 (Nat.le_of_ble_eq_true rfl) (ls' := [(8, 0, w0), (0, 2, z0), (1, 0, z1), (6, 0, z6)]) rfl ?_
  refine s_iload_n hS dX6_weigh_70 rfl 2 rfl ?_
  refine s_iload hS dX6_weigh_71 3 rfl ?_
  refine s_mabs hS tw_981 tw_982 tw_136 tw_983 ⟨Nat.le_of_ble_eq_true rfl, Nat.le_of_ble_eq_true rfl⟩ ⟨Nat.le_of_ble_eq_true rfl, Nat.le_of_ble_eq_true rfl⟩ (Nat.le_of_ble_eq_true rfl) dX6_weigh_73 ?_
  refine s_iadd hS dX6_weigh_76 ?_
  refine s_iload hS dX6_weigh_77 0 rfl ?_
  refine s_iadd hS dX6_weigh_79 ?_
  refine s_let fun v1 => ?_
  refine s_istore hS dX6_weigh_80 (Nat.le_of_ble_eq_true rfl) (ls' := [(9, 0, v1), (8, 0, w0), (0, 2, z0), (1, 0, z1), (6, 0, z6)]) rfl ?_
  refine s_iload hS dX6_weigh_82 0 rfl ?_
  refine s_aload_n hS dX6_weigh_84 rfl 2 rfl ?_
  refine gf_X6_34 hS dX6_weigh_85 fun v2 => ?_
  refine s_icmp_gt hS dX6_weigh_88 rfl ?_ ?_
  · exact s_vret hS rfl (Nat.le_of_ble_eq_true rfl) (Nat.le_of_ble_eq_true rfl) dX6_weigh_108
  · refine s_iload hS dX6_weigh_91 0 rfl ?_
    refine s_aload_n hS dX6_weigh_93 rfl 2 rfl ?_
    refine gf_X6_37 hS dX6_weigh_94 fun v3 => ?_
    refine s_icmp_ne hS dX6_weigh_97 rfl ?_ ?_
    · refine s_ls [2, 3, 1, 0] rfl ?_
      exact b_Q_weigh_109 hS _ _ _ _ _
    · refine s_iload_n hS dX6_weigh_100 rfl 3 rfl ?_
      refine s_aload_n hS dX6_weigh_101 rfl 2 rfl ?_
      refine gf_X6_58 hS dX6_weigh_102 fun v4 => ?_
      refine s_icmp_lt hS dX6_weigh_105 rfl ?_ ?_
      · refine s_ls [2, 3, 1, 0] rfl ?_
        exact b_Q_weigh_109 hS _ _ _ _ _
      · exact s_vret hS rfl (Nat.le_of_ble_eq_true rfl) (Nat.le_of_ble_eq_true rfl) dX6_weigh_108
set_option maxRecDepth 100000 in
set_option maxHeartbeats 4000000 in
theorem b_Q_weigh_41 {G : GE} {X : SMw} (hS : SO (S_Q_weigh G X) RX6 cX6_weigh) (z0 z1 z2 z3 z4 z5 z6 : Int) (h : AH) : Sim (S_Q_weigh G X) 41 [(0, 2, z0), (1, 0, z1), (2, 0, z2), (3, 0, z3), (4, 0, z4), (5, 0, z5), (6, 0, z6)] [] 0 0 h (f_Q_weigh_41 z0 z1 z2 z3 z4 z5 z6 h) := by
  unfold f_Q_weigh_41
  refine s_iload hS dX6_weigh_41 6 rfl ?_
  refine s_if_lt hS dX6_weigh_43 rfl ?_ ?_
  · refine s_iload_n hS dX6_weigh_58 rfl 3 rfl ?_
    refine s_iload hS dX6_weigh_59 6 rfl ?_
    refine s_ineg hS dX6_weigh_61 ?_
    refine s_iload hS dX6_weigh_62 5 rfl ?_
    refine s_mmin hS tw_970 tw_711 tw_136 tw_712 ⟨Nat.le_of_ble_eq_true rfl, Nat.le_of_ble_eq_true rfl⟩ ⟨Nat.le_of_ble_eq_true rfl, Nat.le_of_ble_eq_true rfl⟩ (Nat.le_of_ble_eq_true rfl) dX6_weigh_64 ?_
    refine s_isub hS dX6_weigh_67 ?_
    refine s_ls [0, 1, 6] rfl ?_
    exact b_Q_weigh_68 hS _ _ _ _ _
  · refine s_iload_n hS dX6_weigh_46 rfl 2 rfl ?_
    refine s_iload hS dX6_weigh_47 6 rfl ?_
    refine s_iload hS dX6_weigh_49 4 rfl ?_
    refine s_mmin hS tw_970 tw_711 tw_136 tw_712 ⟨Nat.le_of_ble_eq_true rfl, Nat.le_of_ble_eq_true rfl⟩ ⟨Nat.le_of_ble_eq_true rfl, Nat.le_of_ble_eq_true rfl⟩ (Nat.le_of_ble_eq_true rfl) dX6_weigh_51 ?_
    refine s_isub hS dX6_weigh_54 ?_
    refine s_goto hS dX6_weigh_55 rfl ?_
    refine s_ls [0, 1, 6] rfl ?_
    exact b_Q_weigh_68 hS _ _ _ _ _
set_option maxRecDepth 100000 in
set_option maxHeartbeats 4000000 in
theorem b_Q_weigh_28 {G : GE} {X : SMw} (hS : SO (S_Q_weigh G X) RX6 cX6_weigh) (z0 z1 z2 z3 z4 z5 z6 w0 : Int) (h : AH) : Sim (S_Q_weigh G X) 28 [(0, 2, z0), (1, 0, z1), (2, 0, z2), (3, 0, z3), (4, 0, z4), (5, 0, z5), (6, 0, z6)] [(0, w0)] 0 0 h (f_Q_weigh_28 z0 z1 z2 z3 z4 z5 z6 w0 h) := by
  unfold f_Q_weigh_28
  refine s_istore hS dX6_weigh_28 (Nat.le_of_ble_eq_true rfl) (ls' := [(7, 0, w0), (0, 2, z0), (1, 0, z1), (2, 0, z2), (3, 0, z3), (4, 0, z4), (5, 0, z5), (6, 0, z6)]) rfl ?_
  refine s_iload hS dX6_weigh_30 0 rfl ?_
  refine s_if_eq hS dX6_weigh_32 rfl ?_ ?_
  · refine s_ls [1, 2, 3, 4, 5, 6, 7] rfl ?_
    exact b_Q_weigh_41 hS _ _ _ _ _ _ _ _
  · refine s_iload hS dX6_weigh_35 7 rfl ?_
    refine s_if_eq hS dX6_weigh_37 rfl ?_ ?_
    · refine s_ls [1, 2, 3, 4, 5, 6, 7] rfl ?_
      exact b_Q_weigh_41 hS _ _ _ _ _ _ _ _
    · exact s_vret hS rfl (Nat.le_of_ble_eq_true rfl) (Nat.le_of_ble_eq_true rfl) dX6_weigh_40
set_option maxRecDepth 100000 in
set_option maxHeartbeats 4000000 in
theorem b_Q_weigh {G : GE} {X : SMw} (hS : SO (S_Q_weigh G X) RX6 cX6_weigh) (z0 z1 z2 z3 z4 z5 : Int) (h : AH) : Sim (S_Q_weigh G X) 0 [(0, 2, z0), (1, 0, z1), (2, 0, z2), (3, 0, z3), (4, 0, z4), (5, 0, z5)] [] 0 0 h (f_Q_weigh z0 z1 z2 z3 z4 z5 h) := by
  unfold f_Q_weigh
  refine s_iload_n hS dX6_weigh_0 rfl 2 rfl ?_
  refine s_iload_n hS dX6_weigh_1 rfl 3 rfl ?_
  refine s_isub hS dX6_weigh_2 ?_
  refine s_let fun v1 => ?_
  refine s_istore hS dX6_weigh_3 (Nat.le_of_ble_eq_true rfl) (ls' := [(6, 0, v1), (0, 2, z0), (1, 0, z1), (2, 0, z2), (3, 0, z3), (4, 0, z4), (5, 0, z5)]) rfl ?_
  refine s_aload_n hS dX6_weigh_5 rfl 1 rfl ?_
  refine gf_X6_31 hS dX6_weigh_6 fun v2 => ?_
  refine s_iconst hS dX6_weigh_9 ?_
  refine s_ixor hS dX6_weigh_10 ?_
  refine s_iconst hS dX6_weigh_11 ?_
  refine s_aload_n hS dX6_weigh_12 rfl 1 rfl ?_
  refine gf_X6_27 hS dX6_weigh_13 fun v3 => ?_
  refine s_ishl hS dX6_weigh_16 ?_
  refine s_iconst hS dX6_weigh_17 ?_
  refine s_isub hS dX6_weigh_18 ?_
  refine s_iand hS dX6_weigh_19 ?_
  refine s_if_ne hS dX6_weigh_20 rfl ?_ ?_
  · refine s_iconst hS dX6_weigh_27 ?_
    refine s_ls [1, 2, 3, 4, 5, 6, 0] rfl ?_
    exact b_Q_weigh_28 hS _ _ _ _ _ _ _ _ _
  · refine s_iconst hS dX6_weigh_23 ?_
    refine s_goto hS dX6_weigh_24 rfl ?_
    refine s_ls [1, 2, 3, 4, 5, 6, 0] rfl ?_
    exact b_Q_weigh_28 hS _ _ _ _ _ _ _ _ _
theorem c_Q_weigh (l : Launch) (G : GE) (z0 z1 z2 z3 z4 z5 : Int) (h : AH) : Con l yX6_weigh cX6_weigh 10 none 1 60 0 0 G [(2, z0), (0, z1), (0, z2), (0, z3), (0, z4), (0, z5)] h (f_Q_weigh z0 z1 z2 z3 z4 z5 h) :=
  con_of (by decide +kernel) (Nat.le_of_ble_eq_true rfl) fun X hX hS hi => b_Q_weigh hS z0 z1 z2 z3 z4 z5 h
theorem ca_X6_50 {S : SX} {cc : ByteArray} {pc : Nat} {ls : List (Nat × Nat × Int)} {st : List (Nat × Int)} {k n : Nat} {h : AH} {q0 q1 q2 q3 q4 b : Int} {f : Int → AH → Option (Int × AH)} (hS : SO S RX6 cc) (hR : 1 + 1 ≤ S.2.2.2.2.2.2.1 ∧ 8 + (10 + 11) + 60 ≤ S.2.2.2.2.2.2.2) (hk : k + 0 ≤ S.2.2.2.1 ∧ n + 0 ≤ S.2.2.2.2.1) (hl : st.length ≤ 4) (d : decode cc pc = .ok (.invokevirtual 50, 3)) (kk : ∀ (r : Int) (h2 : AH), Sim S (pc + 3) ls (st) (k + 0) (n + 0) h2 (f r h2)) : Sim S pc ls ((0, q4) :: (0, q3) :: (0, q2) :: (0, q1) :: (0, q0) :: (2, b) :: st) k n h (c_k h 7 b (bd_ (f_Q_weigh b q0 q1 q2 q3 q4 h) f)) := s_callV hS mo_X6_weigh rfl rfl (c_Q_weigh _ _ _ _ _ _ _ _ h) tw_977 tw_979 tw_22 hR hk rfl rfl hl d kk
theorem gf_X6_40 {S : SX} {cc : ByteArray} {pc : Nat} {ls : List (Nat × Nat × Int)} {st : List (Nat × Int)} {k n : Nat} {h : AH} {a : Int} {f : Int → Option (Int × AH)} (hS : SO S RX6 cc) (d : decode cc pc = .ok (.getfield 40, 3)) (kk : ∀ v : Int, Sim S (pc + 3) ls ((0, v) :: st) k n h (f v)) : Sim S pc ls ((2, a) :: st) k n h ((g_f h 7 a 5).bind f) := s_getf hS cx_6 5 (by decide) tw_397 rfl rfl rfl d kk
theorem gf_X6_9 {S : SX} {cc : ByteArray} {pc : Nat} {ls : List (Nat × Nat × Int)} {st : List (Nat × Int)} {k n : Nat} {h : AH} {a : Int} {f : Int → Option (Int × AH)} (hS : SO S RX6 cc) (d : decode cc pc = .ok (.getfield 9, 3)) (kk : ∀ v : Int, Sim S (pc + 3) ls ((2, v) :: st) k n h (f v)) : Sim S pc ls ((2, a) :: st) k n h ((g_f h 7 a 0).bind f) := s_getf hS cx_6 0 (by decide) tw_390 rfl rfl rfl d kk
abbrev S_Q_descend (G : GE) (X : SMw) (F L : Nat) : SX := (G, X, 13, 0, 0, none, (F + 1), (L + 60))
set_option maxRecDepth 100000 in
set_option maxHeartbeats 4000000 in
theorem b_Q_descend_171 {G : GE} {X : SMw} {F L : Nat} (hS : SO (S_Q_descend G X F L) RX6 cX6_descend) (hF : 2 ≤ F) (hL : 89 ≤ L) {rec : Int → Int → Int → Int → Int → Int → Int → Int → AH → Option (Int × AH)} (hr0 : ∀ (q0 q1 q2 q3 q4 q5 q6 : Int) (h : AH), Con X.2.1 yX6_descend cX6_descend 13 none F L 0 0 G [(2, q0), (0, q1), (0, q2), (0, q3), (0, q4), (0, q5), (0, q6)] h (rec 0 q0 q1 q2 q3 q4 q5 q6 h)) (z0 z1 z2 z3 z4 z5 z6 z7 z8 : Int) {k75 : Int → AH → Option (Int × AH)} (hk75 : ∀ (z9 : Int) (h : AH), Sim (S_Q_descend G X F L) 75 [(0, 2, z0), (1, 0, z1), (2, 0, z2), (3, 0, z3), (4, 0, z4), (5, 0, z5), (6, 0, z6), (7, 0, z7), (8, 0, z8), (9, 0, z9)] [] 0 0 h (k75 z9 h)) (z9 w0 w1 w2 w3 w4 w5 w6 : Int) (h : AH) : Sim (S_Q_descend G X F L) 171 [(0, 2, z0), (1, 0, z1), (2, 0, z2), (3, 0, z3), (4, 0, z4), (5, 0, z5), (6, 0, z6), (7, 0, z7), (8, 0, z8), (9, 0, z9)] [(0, w6), (0, w5), (0, w4), (0, w3), (0, w2), (0, w1), (2, w0)] 0 0 h (f_Q_descend_171 rec k75 z0 z1 z2 z3 z4 z5 z6 z7 z8 z9 w0 w1 w2 w3 w4 w5 w6 h) := by
  unfold f_Q_descend_171
  refine s_callS hS mo_X6_descend (hr0 _ _ _ _ _ _ _ _) tw_971 tw_972 ⟨by show _ ≤ F + 1; omega, by show _ ≤ L + 60; omega⟩ ⟨Nat.le_of_ble_eq_true rfl, Nat.le_of_ble_eq_true rfl⟩ rfl rfl (Nat.le_of_ble_eq_true rfl) dX6_descend_171 fun v1 h2 => ?_
  refine s_iinc hS dX6_descend_174 9 rfl (Nat.le_of_ble_eq_true rfl) (ls' := [(9, 0, (z9 + 1)), (0, 2, z0), (1, 0, z1), (2, 0, z2), (3, 0, z3), (4, 0, z4), (5, 0, z5), (6, 0, z6), (7, 0, z7), (8, 0, z8)]) rfl ?_
  refine s_goto hS dX6_descend_177 rfl ?_
  refine s_ls [1, 2, 3, 4, 5, 6, 7, 8, 9, 0] rfl ?_
  exact hk75 _ _
set_option maxRecDepth 100000 in
set_option maxHeartbeats 4000000 in
theorem b_Q_descend_156 {G : GE} {X : SMw} {F L : Nat} (hS : SO (S_Q_descend G X F L) RX6 cX6_descend) (hF : 2 ≤ F) (hL : 89 ≤ L) {rec : Int → Int → Int → Int → Int → Int → Int → Int → AH → Option (Int × AH)} (hr0 : ∀ (q0 q1 q2 q3 q4 q5 q6 : Int) (h : AH), Con X.2.1 yX6_descend cX6_descend 13 none F L 0 0 G [(2, q0), (0, q1), (0, q2), (0, q3), (0, q4), (0, q5), (0, q6)] h (rec 0 q0 q1 q2 q3 q4 q5 q6 h)) (z0 z1 z2 z3 z4 z5 z6 z7 z8 : Int) {k75 : Int → AH → Option (Int × AH)} (hk75 : ∀ (z9 : Int) (h : AH), Sim (S_Q_descend G X F L) 75 [(0, 2, z0), (1, 0, z1), (2, 0, z2), (3, 0, z3), (4, 0, z4), (5, 0, z5), (6, 0, z6), (7, 0, z7), (8, 0, z8), (9, 0, z9)] [] 0 0 h (k75 z9 h)) (z9 z12 w0 w1 w2 w3 w4 w5 : Int) (h : AH) : Sim (S_Q_descend G X F L) 156 [(0, 2, z0), (1, 0, z1), (2, 0, z2), (3, 0, z3), (4, 0, z4), (5, 0, z5), (6, 0, z6), (7, 0, z7), (8, 0, z8), (9, 0, z9), (12, 0, z12)] [(0, w5), (0, w4), (0, w3), (0, w2), (0, w1), (2, w0)] 0 0 h (f_Q_descend_156 rec k75 z0 z1 z2 z3 z4 z5 z6 z7 z8 z9 z12 w0 w1 w2 w3 w4 w5 h) := by
  unfold f_Q_descend_156
  refine s_iload hS dX6_descend_156 7 rfl ?_
  refine s_if_eq hS dX6_descend_158 rfl ?_ ?_
  · refine s_iload hS dX6_descend_169 6 rfl ?_
    refine s_ls [0, 1, 2, 3, 4, 5, 6, 7, 8, 9] rfl ?_
    exact b_Q_descend_171 hS hF hL hr0 _ _ _ _ _ _ _ _ _ hk75 _ _ _ _ _ _ _ _ _
  · refine s_iload hS dX6_descend_161 6 rfl ?_
    refine s_iload hS dX6_descend_163 10 rfl ?_
    refine s_iadd hS dX6_descend_165 ?_
    refine s_goto hS dX6_descend_166 rfl ?_
    refine s_ls [0, 1, 2, 3, 4, 5, 6, 7, 8, 9] rfl ?_
    exact b_Q_descend_171 hS hF hL hr0 _ _ _ _ _ _ _ _ _ hk75 _ _ _ _ _ _ _ _ _
set_option maxRecDepth 100000 in
set_option maxHeartbeats 4000000 in
theorem B_Q_descend_75 {G : GE} {X : SMw} {F L : Nat} (hS : SO (S_Q_descend G X F L) RX6 cX6_descend) (hF : 2 ≤ F) (hL : 89 ≤ L) {rec : Int → Int → Int → Int → Int → Int → Int → Int → AH → Option (Int × AH)} (hr0 : ∀ (q0 q1 q2 q3 q4 q5 q6 : Int) (h : AH), Con X.2.1 yX6_descend cX6_descend 13 none F L 0 0 G [(2, q0), (0, q1), (0, q2), (0, q3), (0, q4), (0, q5), (0, q6)] h (rec 0 q0 q1 q2 q3 q4 q5 q6 h)) (z0 z1 z2 z3 z4 z5 z6 z7 z8 : Int) {k75 : Int → AH → Option (Int × AH)} (hk75 : ∀ (z9 : Int) (h : AH), Sim (S_Q_descend G X F L) 75 [(0, 2, z0), (1, 0, z1), (2, 0, z2), (3, 0, z3), (4, 0, z4), (5, 0, z5), (6, 0, z6), (7, 0, z7), (8, 0, z8), (9, 0, z9)] [] 0 0 h (k75 z9 h)) (z9 : Int) (h : AH) : Sim (S_Q_descend G X F L) 75 [(0, 2, z0), (1, 0, z1), (2, 0, z2), (3, 0, z3), (4, 0, z4), (5, 0, z5), (6, 0, z6), (7, 0, z7), (8, 0, z8), (9, 0, z9)] [] 0 0 h (F_Q_descend_75 rec z0 z1 z2 z3 z4 z5 z6 z7 z8 k75 z9 h) := by
  unfold F_Q_descend_75
  refine s_iload hS dX6_descend_75 9 rfl ?_
  refine s_iload hS dX6_descend_77 8 rfl ?_
  refine s_icmp_gt hS dX6_descend_79 rfl ?_ ?_
  · exact s_vret hS rfl (Nat.le_of_ble_eq_true rfl) (Nat.le_of_ble_eq_true rfl) dX6_descend_180
  · refine s_aload_n hS dX6_descend_82 rfl 0 rfl ?_
    refine gf_X6_9 hS dX6_descend_83 fun v1 => ?_
    refine s_iload_n hS dX6_descend_86 rfl 1 rfl ?_
    refine s_iald hS dX6_descend_87 fun v2 => ?_
    refine s_bipush hS dX6_descend_88 (by decide +kernel) ?_
    refine s_iload hS dX6_descend_90 9 rfl ?_
    refine s_imul hS dX6_descend_92 ?_
    refine s_isub hS dX6_descend_93 ?_
    refine s_let fun v3 => ?_
    refine s_istore hS dX6_descend_94 (Nat.le_of_ble_eq_true rfl) (ls' := [(10, 0, v3), (0, 2, z0), (1, 0, z1), (2, 0, z2), (3, 0, z3), (4, 0, z4), (5, 0, z5), (6, 0, z6), (7, 0, z7), (8, 0, z8), (9, 0, z9)]) rfl ?_
    refine s_iload hS dX6_descend_96 0 rfl ?_
    refine s_iconst hS dX6_descend_98 ?_
    refine s_mmax hS tw_974 tw_975 tw_136 tw_976 ⟨by show _ ≤ F + 1; omega, by show _ ≤ L + 60; omega⟩ ⟨Nat.le_of_ble_eq_true rfl, Nat.le_of_ble_eq_true rfl⟩ (Nat.le_of_ble_eq_true rfl) dX6_descend_99 ?_
    refine s_let fun v4 => ?_
    refine s_istore hS dX6_descend_102 (Nat.le_of_ble_eq_true rfl) (ls' := [(11, 0, v4), (10, 0, v3), (0, 2, z0), (1, 0, z1), (2, 0, z2), (3, 0, z3), (4, 0, z4), (5, 0, z5), (6, 0, z6), (7, 0, z7), (8, 0, z8), (9, 0, z9)]) rfl ?_
    refine s_iload hS dX6_descend_104 1 rfl ?_
    refine s_ineg hS dX6_descend_106 ?_
    refine s_iconst hS dX6_descend_107 ?_
    refine s_mmax hS tw_974 tw_975 tw_136 tw_976 ⟨by show _ ≤ F + 1; omega, by show _ ≤ L + 60; omega⟩ ⟨Nat.le_of_ble_eq_true rfl, Nat.le_of_ble_eq_true rfl⟩ (Nat.le_of_ble_eq_true rfl) dX6_descend_108 ?_
    refine s_let fun v5 => ?_
    refine s_istore hS dX6_descend_111 (Nat.le_of_ble_eq_true rfl) (ls' := [(12, 0, v5), (11, 0, v4), (10, 0, v3), (0, 2, z0), (1, 0, z1), (2, 0, z2), (3, 0, z3), (4, 0, z4), (5, 0, z5), (6, 0, z6), (7, 0, z7), (8, 0, z8), (9, 0, z9)]) rfl ?_
    refine s_aload_n hS dX6_descend_113 rfl 3 rfl ?_
    refine gf_X6_18 hS dX6_descend_114 fun v6 => ?_
    refine s_iload_n hS dX6_descend_117 rfl 4 rfl ?_
    refine s_iload hS dX6_descend_118 12 rfl ?_
    refine s_iast hS dX6_descend_120 fun h7 => ?_
    refine s_aload_n hS dX6_descend_121 rfl 3 rfl ?_
    refine s_iload_n hS dX6_descend_122 rfl 4 rfl ?_
    refine s_iconst hS dX6_descend_123 ?_
    refine s_iadd hS dX6_descend_124 ?_
    refine s_iload_n hS dX6_descend_125 rfl 5 rfl ?_
    refine s_iload hS dX6_descend_126 12 rfl ?_
    refine s_mabs hS tw_981 tw_982 tw_136 tw_983 ⟨by show _ ≤ F + 1; omega, by show _ ≤ L + 60; omega⟩ ⟨Nat.le_of_ble_eq_true rfl, Nat.le_of_ble_eq_true rfl⟩ (Nat.le_of_ble_eq_true rfl) dX6_descend_128 ?_
    refine s_iadd hS dX6_descend_131 ?_
    refine s_iload_n hS dX6_descend_132 rfl 6 rfl ?_
    refine s_iload hS dX6_descend_133 1 rfl ?_
    refine s_iadd hS dX6_descend_135 ?_
    refine s_iload hS dX6_descend_136 7 rfl ?_
    refine s_iload hS dX6_descend_138 0 rfl ?_
    refine s_iadd hS dX6_descend_140 ?_
    refine s_iload hS dX6_descend_141 10 rfl ?_
    refine s_if_eq hS dX6_descend_143 rfl ?_ ?_
    · refine s_iload hS dX6_descend_154 8 rfl ?_
      refine s_ls [3, 4, 5, 6, 7, 8, 9, 10, 11, 12, 0] rfl ?_
      exact b_Q_descend_156 hS hF hL hr0 _ _ _ _ _ _ _ _ _ hk75 _ _ _ _ _ _ _ _ _
    · refine s_iload hS dX6_descend_146 8 rfl ?_
      refine s_iload hS dX6_descend_148 1 rfl ?_
      refine s_iadd hS dX6_descend_150 ?_
      refine s_goto hS dX6_descend_151 rfl ?_
      refine s_ls [3, 4, 5, 6, 7, 8, 9, 10, 11, 12, 0] rfl ?_
      exact b_Q_descend_156 hS hF hL hr0 _ _ _ _ _ _ _ _ _ hk75 _ _ _ _ _ _ _ _ _
set_option maxRecDepth 100000 in
set_option maxHeartbeats 4000000 in
theorem b_Q_descend_75 {G : GE} {X : SMw} {F L : Nat} (hS : SO (S_Q_descend G X F L) RX6 cX6_descend) (hF : 2 ≤ F) (hL : 89 ≤ L) {rec : Int → Int → Int → Int → Int → Int → Int → Int → AH → Option (Int × AH)} (hr0 : ∀ (q0 q1 q2 q3 q4 q5 q6 : Int) (h : AH), Con X.2.1 yX6_descend cX6_descend 13 none F L 0 0 G [(2, q0), (0, q1), (0, q2), (0, q3), (0, q4), (0, q5), (0, q6)] h (rec 0 q0 q1 q2 q3 q4 q5 q6 h)) (z0 z1 z2 z3 z4 z5 z6 z7 z8 : Int) (z9 : Int) (h : AH) : Sim (S_Q_descend G X F L) 75 [(0, 2, z0), (1, 0, z1), (2, 0, z2), (3, 0, z3), (4, 0, z4), (5, 0, z5), (6, 0, z6), (7, 0, z7), (8, 0, z8), (9, 0, z9)] [] 0 0 h (f_Q_descend_75 rec z0 z1 z2 z3 z4 z5 z6 z7 z8 z9 h) := by
  exact s_loop (S := (S_Q_descend G X F L)) (lsf := fun s : Int × AH => [(0, 2, z0), (1, 0, z1), (2, 0, z2), (3, 0, z3), (4, 0, z4), (5, 0, z5), (6, 0, z6), (7, 0, z7), (8, 0, z8), (9, 0, s.1)]) (hf := fun s => s.2) (fun kf hkf s => B_Q_descend_75 hS hF hL hr0 z0 z1 z2 z3 z4 z5 z6 z7 z8 (fun a0 a1 => hkf (a0, a1)) s.1 s.2) fu_ (z9, h)
set_option maxRecDepth 100000 in
set_option maxHeartbeats 4000000 in
theorem b_Q_descend_53 {G : GE} {X : SMw} {F L : Nat} (hS : SO (S_Q_descend G X F L) RX6 cX6_descend) (hF : 2 ≤ F) (hL : 89 ≤ L) {rec : Int → Int → Int → Int → Int → Int → Int → Int → AH → Option (Int × AH)} (hr0 : ∀ (q0 q1 q2 q3 q4 q5 q6 : Int) (h : AH), Con X.2.1 yX6_descend cX6_descend 13 none F L 0 0 G [(2, q0), (0, q1), (0, q2), (0, q3), (0, q4), (0, q5), (0, q6)] h (rec 0 q0 q1 q2 q3 q4 q5 q6 h)) (z0 z1 z2 z3 z4 z5 z6 w0 : Int) (h : AH) : Sim (S_Q_descend G X F L) 53 [(0, 2, z0), (1, 0, z1), (2, 0, z2), (3, 0, z3), (4, 0, z4), (5, 0, z5), (6, 0, z6)] [(0, w0)] 0 0 h (f_Q_descend_53 rec z0 z1 z2 z3 z4 z5 z6 w0 h) := by
  unfold f_Q_descend_53
  refine s_istore hS dX6_descend_53 (Nat.le_of_ble_eq_true rfl) (ls' := [(7, 0, w0), (0, 2, z0), (1, 0, z1), (2, 0, z2), (3, 0, z3), (4, 0, z4), (5, 0, z5), (6, 0, z6)]) rfl ?_
  refine s_iload hS dX6_descend_55 0 rfl ?_
  refine s_if_eq hS dX6_descend_57 rfl ?_ ?_
  · refine s_iconst hS dX6_descend_67 ?_
    refine s_istore hS dX6_descend_68 (Nat.le_of_ble_eq_true rfl) (ls' := [(8, 0, 0), (7, 0, w0), (0, 2, z0), (1, 0, z1), (2, 0, z2), (3, 0, z3), (4, 0, z4), (5, 0, z5), (6, 0, z6)]) rfl ?_
    refine s_iload hS dX6_descend_70 0 rfl ?_
    refine s_ineg hS dX6_descend_72 ?_
    refine s_let fun v1 => ?_
    refine s_istore hS dX6_descend_73 (Nat.le_of_ble_eq_true rfl) (ls' := [(9, 0, v1), (8, 0, 0), (7, 0, w0), (0, 2, z0), (1, 0, z1), (2, 0, z2), (3, 0, z3), (4, 0, z4), (5, 0, z5), (6, 0, z6)]) rfl ?_
    refine s_ls [3, 4, 5, 6, 7, 8, 9, 2, 1, 0] rfl ?_
    exact b_Q_descend_75 hS hF hL hr0 _ _ _ _ _ _ _ _ _ _ _
  · refine s_aload_n hS dX6_descend_60 rfl 1 rfl ?_
    refine gf_X6_40 hS dX6_descend_61 fun v2 => ?_
    refine s_goto hS dX6_descend_64 rfl ?_
    refine s_istore hS dX6_descend_68 (Nat.le_of_ble_eq_true rfl) (ls' := [(8, 0, v2), (7, 0, w0), (0, 2, z0), (1, 0, z1), (2, 0, z2), (3, 0, z3), (4, 0, z4), (5, 0, z5), (6, 0, z6)]) rfl ?_
    refine s_iload hS dX6_descend_70 0 rfl ?_
    refine s_ineg hS dX6_descend_72 ?_
    refine s_let fun v3 => ?_
    refine s_istore hS dX6_descend_73 (Nat.le_of_ble_eq_true rfl) (ls' := [(9, 0, v3), (8, 0, v2), (7, 0, w0), (0, 2, z0), (1, 0, z1), (2, 0, z2), (3, 0, z3), (4, 0, z4), (5, 0, z5), (6, 0, z6)]) rfl ?_
    refine s_ls [3, 4, 5, 6, 7, 8, 9, 2, 1, 0] rfl ?_
    exact b_Q_descend_75 hS hF hL hr0 _ _ _ _ _ _ _ _ _ _ _
set_option maxRecDepth 100000 in
set_option maxHeartbeats 4000000 in
theorem b_Q_descend {G : GE} {X : SMw} {F L : Nat} (hS : SO (S_Q_descend G X F L) RX6 cX6_descend) (hF : 2 ≤ F) (hL : 89 ≤ L) {rec : Int → Int → Int → Int → Int → Int → Int → Int → AH → Option (Int × AH)} (hr0 : ∀ (q0 q1 q2 q3 q4 q5 q6 : Int) (h : AH), Con X.2.1 yX6_descend cX6_descend 13 none F L 0 0 G [(2, q0), (0, q1), (0, q2), (0, q3), (0, q4), (0, q5), (0, q6)] h (rec 0 q0 q1 q2 q3 q4 q5 q6 h)) (z0 z1 z2 z3 z4 z5 z6 : Int) (h : AH) : Sim (S_Q_descend G X F L) 0 [(0, 2, z0), (1, 0, z1), (2, 0, z2), (3, 0, z3), (4, 0, z4), (5, 0, z5), (6, 0, z6)] [] 0 0 h (f_Q_descend rec z0 z1 z2 z3 z4 z5 z6 h) := by
  unfold f_Q_descend
  refine s_iload_n hS dX6_descend_0 rfl 2 rfl ?_
  refine s_iload_n hS dX6_descend_1 rfl 3 rfl ?_
  refine s_iload hS dX6_descend_2 4 rfl ?_
  refine s_mmax hS tw_974 tw_975 tw_136 tw_976 ⟨by show _ ≤ F + 1; omega, by show _ ≤ L + 60; omega⟩ ⟨Nat.le_of_ble_eq_true rfl, Nat.le_of_ble_eq_true rfl⟩ (Nat.le_of_ble_eq_true rfl) dX6_descend_4 ?_
  refine s_iadd hS dX6_descend_7 ?_
  refine s_aload_n hS dX6_descend_8 rfl 0 rfl ?_
  refine gf_X6_34 hS dX6_descend_9 fun v1 => ?_
  refine s_icmp_le hS dX6_descend_12 rfl ?_ ?_
  · refine s_iload_n hS dX6_descend_16 rfl 1 rfl ?_
    refine s_aload_n hS dX6_descend_17 rfl 0 rfl ?_
    refine gf_X6_27 hS dX6_descend_18 fun v2 => ?_
    refine s_icmp_lt hS dX6_descend_21 rfl ?_ ?_
    · refine s_aload_n hS dX6_descend_37 rfl 0 rfl ?_
      refine gf_X6_31 hS dX6_descend_38 fun v3 => ?_
      refine s_iload_n hS dX6_descend_41 rfl 1 rfl ?_
      refine s_ishr hS dX6_descend_42 ?_
      refine s_iconst hS dX6_descend_43 ?_
      refine s_iand hS dX6_descend_44 ?_
      refine s_if_ne hS dX6_descend_45 rfl ?_ ?_
      · refine s_iconst hS dX6_descend_52 ?_
        exact b_Q_descend_53 hS hF hL hr0 _ _ _ _ _ _ _ _ _
      · refine s_iconst hS dX6_descend_48 ?_
        refine s_goto hS dX6_descend_49 rfl ?_
        exact b_Q_descend_53 hS hF hL hr0 _ _ _ _ _ _ _ _ _
    · refine s_aload_n hS dX6_descend_24 rfl 0 rfl ?_
      refine s_iload_n hS dX6_descend_25 rfl 2 rfl ?_
      refine s_iload_n hS dX6_descend_26 rfl 3 rfl ?_
      refine s_iload hS dX6_descend_27 4 rfl ?_
      refine s_iload hS dX6_descend_29 5 rfl ?_
      refine s_iload hS dX6_descend_31 6 rfl ?_
      refine ca_X6_50 hS ⟨by show _ ≤ F + 1; omega, by show _ ≤ L + 60; omega⟩ ⟨Nat.le_of_ble_eq_true rfl, Nat.le_of_ble_eq_true rfl⟩ (Nat.le_of_ble_eq_true rfl) dX6_descend_33 fun v4 h5 => ?_
      exact s_vret hS rfl (Nat.le_of_ble_eq_true rfl) (Nat.le_of_ble_eq_true rfl) dX6_descend_36
  · exact s_vret hS rfl (Nat.le_of_ble_eq_true rfl) (Nat.le_of_ble_eq_true rfl) dX6_descend_15
theorem rc_r_Q (l : Launch) (G : GE) : ∀ n : Nat, (∀ (z0 z1 z2 z3 z4 z5 z6 : Int) (h : AH), Con l yX6_descend cX6_descend 13 none (2 + n) (89 + n * 60) 0 0 G [(2, z0), (0, z1), (0, z2), (0, z3), (0, z4), (0, z5), (0, z6)] h (r_Q n 0 z0 z1 z2 z3 z4 z5 z6 h)) := by
  intro n
  induction n with
  | zero => exact (fun _ _ _ _ _ _ _ h r h2 e => by cases e)
  | succ n ih => exact (fun z0 z1 z2 z3 z4 z5 z6 h => con_of (by decide +kernel) (Nat.le_of_ble_eq_true rfl) fun X hX hS hi => by rw [show 89 + (n + 1) * 60 = (89 + n * 60) + 60 by omega] at hS ⊢; exact b_Q_descend (F := 2 + n) (L := 89 + n * 60) (X := X) hS (by omega) (by omega) (by subst hX; exact ih) _ _ _ _ _ _ _ h)
theorem c_Q_descend (l : Launch) (G : GE) (z0 z1 z2 z3 z4 z5 z6 : Int) (h : AH) : Con l yX6_descend cX6_descend 13 none 14 809 0 0 G [(2, z0), (0, z1), (0, z2), (0, z3), (0, z4), (0, z5), (0, z6)] h (r_Q 12 0 z0 z1 z2 z3 z4 z5 z6 h) := (rc_r_Q l G 12) z0 z1 z2 z3 z4 z5 z6 h
theorem pf_X6_27 {S : SX} {cc : ByteArray} {pc : Nat} {ls : List (Nat × Nat × Int)} {st : List (Nat × Int)} {k n : Nat} {h : AH} {a v : Int} {f : AH → Option (Int × AH)} (hS : SO S RX6 cc) (d : decode cc pc = .ok (.putfield 27, 3)) (kk : ∀ h2 : AH, Sim S (pc + 3) ls st k n h2 (f h2)) : Sim S pc ls ((0, v) :: (2, a) :: st) k n h ((s_f h 7 a 3 v).bind f) := s_putf hS cx_6 3 (by decide) tw_395 rfl rfl (Or.inl rfl) rfl rfl d kk
theorem pf_X6_31 {S : SX} {cc : ByteArray} {pc : Nat} {ls : List (Nat × Nat × Int)} {st : List (Nat × Int)} {k n : Nat} {h : AH} {a v : Int} {f : AH → Option (Int × AH)} (hS : SO S RX6 cc) (d : decode cc pc = .ok (.putfield 31, 3)) (kk : ∀ h2 : AH, Sim S (pc + 3) ls st k n h2 (f h2)) : Sim S pc ls ((0, v) :: (2, a) :: st) k n h ((s_f h 7 a 4 v).bind f) := s_putf hS cx_6 4 (by decide) tw_396 rfl rfl (Or.inl rfl) rfl rfl d kk
theorem pf_X6_40 {S : SX} {cc : ByteArray} {pc : Nat} {ls : List (Nat × Nat × Int)} {st : List (Nat × Int)} {k n : Nat} {h : AH} {a v : Int} {f : AH → Option (Int × AH)} (hS : SO S RX6 cc) (d : decode cc pc = .ok (.putfield 40, 3)) (kk : ∀ h2 : AH, Sim S (pc + 3) ls st k n h2 (f h2)) : Sim S pc ls ((0, v) :: (2, a) :: st) k n h ((s_f h 7 a 5 v).bind f) := s_putf hS cx_6 5 (by decide) tw_397 rfl rfl (Or.inl rfl) rfl rfl d kk
theorem ca_X6_43 {S : SX} {cc : ByteArray} {pc : Nat} {ls : List (Nat × Nat × Int)} {st : List (Nat × Int)} {k n : Nat} {h : AH} {q0 q1 q2 q3 q4 q5 q6 : Int} {f : Int → AH → Option (Int × AH)} (hS : SO S RX6 cc) (hR : 14 + 1 ≤ S.2.2.2.2.2.2.1 ∧ 8 + (13 + 11) + 809 ≤ S.2.2.2.2.2.2.2) (hk : k + 0 ≤ S.2.2.2.1 ∧ n + 0 ≤ S.2.2.2.2.1) (hl : st.length ≤ 4) (d : decode cc pc = .ok (.invokestatic 43, 3)) (kk : ∀ (r : Int) (h2 : AH), Sim S (pc + 3) ls (st) (k + 0) (n + 0) h2 (f r h2)) : Sim S pc ls ((0, q6) :: (0, q5) :: (0, q4) :: (0, q3) :: (0, q2) :: (0, q1) :: (2, q0) :: st) k n h (bd_ (r_Q 12 0 q0 q1 q2 q3 q4 q5 q6 h) f) := s_callS hS mo_X6_descend (c_Q_descend _ _ _ _ _ _ _ _ _ h) tw_971 tw_972 hR hk rfl rfl hl d kk
abbrev S_Q_run (G : GE) (X : SMw) : SX := (G, X, 4, 0, 0, (some .boolean), 15, 841)
set_option maxRecDepth 100000 in
set_option maxHeartbeats 4000000 in
theorem b_Q_run {G : GE} {X : SMw} (hS : SO (S_Q_run G X) RX6 cX6_run) (z0 z1 z2 z3 : Int) (h : AH) : Sim (S_Q_run G X) 0 [(0, 2, z0), (1, 0, z1), (2, 0, z2), (3, 0, z3)] [] 0 0 h (f_Q_run z0 z1 z2 z3 h) := by
  unfold f_Q_run
  refine s_aload_n hS dX6_run_0 rfl 0 rfl ?_
  refine s_iload_n hS dX6_run_1 rfl 1 rfl ?_
  refine s_iconst hS dX6_run_2 ?_
  refine s_mmin hS tw_970 tw_711 tw_136 tw_712 ⟨Nat.le_of_ble_eq_true rfl, Nat.le_of_ble_eq_true rfl⟩ ⟨Nat.le_of_ble_eq_true rfl, Nat.le_of_ble_eq_true rfl⟩ (Nat.le_of_ble_eq_true rfl) dX6_run_3 ?_
  refine pf_X6_27 hS dX6_run_6 fun h1 => ?_
  refine s_aload_n hS dX6_run_9 rfl 0 rfl ?_
  refine s_iload_n hS dX6_run_10 rfl 2 rfl ?_
  refine pf_X6_31 hS dX6_run_11 fun h2 => ?_
  refine s_aload_n hS dX6_run_14 rfl 0 rfl ?_
  refine s_iload_n hS dX6_run_15 rfl 3 rfl ?_
  refine pf_X6_34 hS dX6_run_16 fun h3 => ?_
  refine s_aload_n hS dX6_run_19 rfl 0 rfl ?_
  refine s_iconst hS dX6_run_20 ?_
  refine pf_X6_37 hS dX6_run_21 fun h4 => ?_
  refine s_aload_n hS dX6_run_24 rfl 0 rfl ?_
  refine s_iconst hS dX6_run_25 ?_
  refine pf_X6_40 hS dX6_run_26 fun h5 => ?_
  refine s_aload_n hS dX6_run_29 rfl 0 rfl ?_
  refine s_iconst hS dX6_run_30 ?_
  refine s_iconst hS dX6_run_31 ?_
  refine s_iconst hS dX6_run_32 ?_
  refine s_iconst hS dX6_run_33 ?_
  refine s_iconst hS dX6_run_34 ?_
  refine s_iconst hS dX6_run_35 ?_
  refine ca_X6_43 hS ⟨Nat.le_of_ble_eq_true rfl, Nat.le_of_ble_eq_true rfl⟩ ⟨Nat.le_of_ble_eq_true rfl, Nat.le_of_ble_eq_true rfl⟩ (Nat.le_of_ble_eq_true rfl) dX6_run_36 fun v6 h7 => ?_
  refine s_aload_n hS dX6_run_39 rfl 0 rfl ?_
  refine s_iconst hS dX6_run_40 ?_
  refine pf_X6_40 hS dX6_run_41 fun h8 => ?_
  refine s_aload_n hS dX6_run_44 rfl 0 rfl ?_
  refine s_iconst hS dX6_run_45 ?_
  refine s_iconst hS dX6_run_46 ?_
  refine s_iconst hS dX6_run_47 ?_
  refine s_iconst hS dX6_run_48 ?_
  refine s_iconst hS dX6_run_49 ?_
  refine s_iconst hS dX6_run_50 ?_
  refine ca_X6_43 hS ⟨Nat.le_of_ble_eq_true rfl, Nat.le_of_ble_eq_true rfl⟩ ⟨Nat.le_of_ble_eq_true rfl, Nat.le_of_ble_eq_true rfl⟩ (Nat.le_of_ble_eq_true rfl) dX6_run_51 fun v9 h10 => ?_
  refine s_aload_n hS dX6_run_54 rfl 0 rfl ?_
  refine gf_X6_37 hS dX6_run_55 fun v11 => ?_
  refine s_iconst hS dX6_run_58 ?_
  refine s_icmp_eq hS dX6_run_59 rfl ?_ ?_
  · refine s_iconst hS dX6_run_66 ?_
    exact s_zret hS rfl (Nat.le_of_ble_eq_true rfl) (Nat.le_of_ble_eq_true rfl) dX6_run_67
  · refine s_iconst hS dX6_run_62 ?_
    refine s_goto hS dX6_run_63 rfl ?_
    exact s_zret hS rfl (Nat.le_of_ble_eq_true rfl) (Nat.le_of_ble_eq_true rfl) dX6_run_67
theorem c_Q_run (l : Launch) (G : GE) (z0 z1 z2 z3 : Int) (h : AH) : Con l yX6_run cX6_run 4 (some .boolean) 15 841 0 0 G [(2, z0), (0, z1), (0, z2), (0, z3)] h (f_Q_run z0 z1 z2 z3 h) :=
  con_of (by decide +kernel) (Nat.le_of_ble_eq_true rfl) fun X hX hS hi => b_Q_run hS z0 z1 z2 z3 h
theorem ca_X7_74 {S : SX} {cc : ByteArray} {pc : Nat} {ls : List (Nat × Nat × Int)} {st : List (Nat × Int)} {k n : Nat} {h : AH} {q0 b : Int} {f : Int → AH → Option (Int × AH)} (hS : SO S RX7 cc) (hR : 5 + 1 ≤ S.2.2.2.2.2.2.1 ∧ 8 + (3 + 11) + 118 ≤ S.2.2.2.2.2.2.2) (hk : k + 0 ≤ S.2.2.2.1 ∧ n + 0 ≤ S.2.2.2.2.1) (hl : st.length ≤ 4) (d : decode cc pc = .ok (.invokevirtual 74, 3)) (kk : ∀ (r : Int) (h2 : AH), Sim S (pc + 3) ls (st) (k + 0) (n + 0) h2 (f r h2)) : Sim S pc ls ((2, q0) :: (2, b) :: st) k n h (c_k h 8 b (bd_ (f_T_passHour b q0 h) f)) := s_callV hS mo_X7_passHour rfl rfl (c_T_passHour _ _ _ _ h) tw_1009 tw_1010 tw_1011 hR hk rfl rfl hl d kk
abbrev S_T_passHours (G : GE) (X : SMw) : SX := (G, X, 4, 0, 0, none, 6, 140)
set_option maxRecDepth 100000 in
set_option maxHeartbeats 4000000 in
theorem B_T_passHours_2 {G : GE} {X : SMw} (hS : SO (S_T_passHours G X) RX7 cX7_passHours) (z0 z1 z2 : Int) {k2 : Int → AH → Option (Int × AH)} (hk2 : ∀ (z3 : Int) (h : AH), Sim (S_T_passHours G X) 2 [(0, 2, z0), (1, 2, z1), (2, 0, z2), (3, 0, z3)] [] 0 0 h (k2 z3 h)) (z3 : Int) (h : AH) : Sim (S_T_passHours G X) 2 [(0, 2, z0), (1, 2, z1), (2, 0, z2), (3, 0, z3)] [] 0 0 h (F_T_passHours_2 z0 z1 z2 k2 z3 h) := by
  unfold F_T_passHours_2
  refine s_iload_n hS dX7_passHours_2 rfl 3 rfl ?_
  refine s_iload_n hS dX7_passHours_3 rfl 2 rfl ?_
  refine s_icmp_ge hS dX7_passHours_4 rfl ?_ ?_
  · exact s_vret hS rfl (Nat.le_of_ble_eq_true rfl) (Nat.le_of_ble_eq_true rfl) dX7_passHours_18
  · refine s_aload_n hS dX7_passHours_7 rfl 0 rfl ?_
    refine s_aload_n hS dX7_passHours_8 rfl 1 rfl ?_
    refine ca_X7_74 hS ⟨Nat.le_of_ble_eq_true rfl, Nat.le_of_ble_eq_true rfl⟩ ⟨Nat.le_of_ble_eq_true rfl, Nat.le_of_ble_eq_true rfl⟩ (Nat.le_of_ble_eq_true rfl) dX7_passHours_9 fun v1 h2 => ?_
    refine s_iinc hS dX7_passHours_12 3 rfl (Nat.le_of_ble_eq_true rfl) (ls' := [(3, 0, (z3 + 1)), (0, 2, z0), (1, 2, z1), (2, 0, z2)]) rfl ?_
    refine s_goto hS dX7_passHours_15 rfl ?_
    refine s_ls [1, 2, 3, 0] rfl ?_
    exact hk2 _ _
set_option maxRecDepth 100000 in
set_option maxHeartbeats 4000000 in
theorem b_T_passHours_2 {G : GE} {X : SMw} (hS : SO (S_T_passHours G X) RX7 cX7_passHours) (z0 z1 z2 : Int) (z3 : Int) (h : AH) : Sim (S_T_passHours G X) 2 [(0, 2, z0), (1, 2, z1), (2, 0, z2), (3, 0, z3)] [] 0 0 h (f_T_passHours_2 z0 z1 z2 z3 h) := by
  exact s_loop (S := (S_T_passHours G X)) (lsf := fun s : Int × AH => [(0, 2, z0), (1, 2, z1), (2, 0, z2), (3, 0, s.1)]) (hf := fun s => s.2) (fun kf hkf s => B_T_passHours_2 hS z0 z1 z2 (fun a0 a1 => hkf (a0, a1)) s.1 s.2) fu_ (z3, h)
set_option maxRecDepth 100000 in
set_option maxHeartbeats 4000000 in
theorem b_T_passHours {G : GE} {X : SMw} (hS : SO (S_T_passHours G X) RX7 cX7_passHours) (z0 z1 z2 : Int) (h : AH) : Sim (S_T_passHours G X) 0 [(0, 2, z0), (1, 2, z1), (2, 0, z2)] [] 0 0 h (f_T_passHours z0 z1 z2 h) := by
  unfold f_T_passHours
  refine s_iconst hS dX7_passHours_0 ?_
  refine s_istore_n hS dX7_passHours_1 rfl (Nat.le_of_ble_eq_true rfl) (ls' := [(3, 0, 0), (0, 2, z0), (1, 2, z1), (2, 0, z2)]) rfl ?_
  refine s_ls [1, 2, 3, 0] rfl ?_
  exact b_T_passHours_2 hS _ _ _ _ _
theorem c_T_passHours (l : Launch) (G : GE) (z0 z1 z2 : Int) (h : AH) : Con l yX7_passHours cX7_passHours 4 none 6 140 0 0 G [(2, z0), (2, z1), (0, z2)] h (f_T_passHours z0 z1 z2 h) :=
  con_of (by decide +kernel) (Nat.le_of_ble_eq_true rfl) fun X hX hS hi => b_T_passHours hS z0 z1 z2 h
abbrev S_J6_numberOfLeadingZeros_0f7a4 (G : GE) (X : SMw) : SX := (G, X, 2, 0, 0, (some .int), 0, 0)
set_option maxRecDepth 100000 in
set_option maxHeartbeats 4000000 in
theorem b_J6_numberOfLeadingZeros_0f7a4_61 {G : GE} {X : SMw} (hS : SO (S_J6_numberOfLeadingZeros_0f7a4 G X) RJ6 cJ6_numberOfLeadingZeros_0f7a4) (z0 z1 : Int) (h : AH) : Sim (S_J6_numberOfLeadingZeros_0f7a4 G X) 61 [(0, 0, z0), (1, 0, z1)] [] 0 0 h (f_J6_numberOfLeadingZeros_0f7a4_61 z0 z1 h) := by
  unfold f_J6_numberOfLeadingZeros_0f7a4_61
  refine s_iload_n hS dJ6_numberOfLeadingZeros_0f7a4_61 rfl 0 rfl ?_
  refine s_iconst hS dJ6_numberOfLeadingZeros_0f7a4_62 ?_
  refine s_icmp_lt hS dJ6_numberOfLeadingZeros_0f7a4_63 rfl ?_ ?_
  · refine s_iload_n hS dJ6_numberOfLeadingZeros_0f7a4_73 rfl 1 rfl ?_
    refine s_iload_n hS dJ6_numberOfLeadingZeros_0f7a4_74 rfl 0 rfl ?_
    refine s_iconst hS dJ6_numberOfLeadingZeros_0f7a4_75 ?_
    refine s_iushr hS dJ6_numberOfLeadingZeros_0f7a4_76 ?_
    refine s_isub hS dJ6_numberOfLeadingZeros_0f7a4_77 ?_
    exact s_iret hS rfl (Nat.le_of_ble_eq_true rfl) (Nat.le_of_ble_eq_true rfl) dJ6_numberOfLeadingZeros_0f7a4_78
  · refine s_iinc hS dJ6_numberOfLeadingZeros_0f7a4_66 1 rfl (Nat.le_of_ble_eq_true rfl) (ls' := [(1, 0, (z1 + (-2))), (0, 0, z0)]) rfl ?_
    refine s_iload_n hS dJ6_numberOfLeadingZeros_0f7a4_69 rfl 1 rfl ?_
    refine s_iconst hS dJ6_numberOfLeadingZeros_0f7a4_70 ?_
    refine s_iushr hS dJ6_numberOfLeadingZeros_0f7a4_71 ?_
    refine s_let fun v1 => ?_
    refine s_istore_n hS dJ6_numberOfLeadingZeros_0f7a4_72 rfl (Nat.le_of_ble_eq_true rfl) (ls' := [(0, 0, v1), (1, 0, (z1 + (-2)))]) rfl ?_
    refine s_iload_n hS dJ6_numberOfLeadingZeros_0f7a4_73 rfl 1 rfl ?_
    refine s_iload_n hS dJ6_numberOfLeadingZeros_0f7a4_74 rfl 0 rfl ?_
    refine s_iconst hS dJ6_numberOfLeadingZeros_0f7a4_75 ?_
    refine s_iushr hS dJ6_numberOfLeadingZeros_0f7a4_76 ?_
    refine s_isub hS dJ6_numberOfLeadingZeros_0f7a4_77 ?_
    exact s_iret hS rfl (Nat.le_of_ble_eq_true rfl) (Nat.le_of_ble_eq_true rfl) dJ6_numberOfLeadingZeros_0f7a4_78
set_option maxRecDepth 100000 in
set_option maxHeartbeats 4000000 in
theorem b_J6_numberOfLeadingZeros_0f7a4_48 {G : GE} {X : SMw} (hS : SO (S_J6_numberOfLeadingZeros_0f7a4 G X) RJ6 cJ6_numberOfLeadingZeros_0f7a4) (z0 z1 : Int) (h : AH) : Sim (S_J6_numberOfLeadingZeros_0f7a4 G X) 48 [(0, 0, z0), (1, 0, z1)] [] 0 0 h (f_J6_numberOfLeadingZeros_0f7a4_48 z0 z1 h) := by
  unfold f_J6_numberOfLeadingZeros_0f7a4_48
  refine s_iload_n hS dJ6_numberOfLeadingZeros_0f7a4_48 rfl 0 rfl ?_
  refine s_bipush hS dJ6_numberOfLeadingZeros_0f7a4_49 (by decide +kernel) ?_
  refine s_icmp_lt hS dJ6_numberOfLeadingZeros_0f7a4_51 rfl ?_ ?_
  · exact b_J6_numberOfLeadingZeros_0f7a4_61 hS _ _ _
  · refine s_iinc hS dJ6_numberOfLeadingZeros_0f7a4_54 1 rfl (Nat.le_of_ble_eq_true rfl) (ls' := [(1, 0, (z1 + (-4))), (0, 0, z0)]) rfl ?_
    refine s_iload_n hS dJ6_numberOfLeadingZeros_0f7a4_57 rfl 1 rfl ?_
    refine s_iconst hS dJ6_numberOfLeadingZeros_0f7a4_58 ?_
    refine s_iushr hS dJ6_numberOfLeadingZeros_0f7a4_59 ?_
    refine s_let fun v1 => ?_
    refine s_istore_n hS dJ6_numberOfLeadingZeros_0f7a4_60 rfl (Nat.le_of_ble_eq_true rfl) (ls' := [(0, 0, v1), (1, 0, (z1 + (-4)))]) rfl ?_
    exact b_J6_numberOfLeadingZeros_0f7a4_61 hS _ _ _
set_option maxRecDepth 100000 in
set_option maxHeartbeats 4000000 in
theorem b_J6_numberOfLeadingZeros_0f7a4_33 {G : GE} {X : SMw} (hS : SO (S_J6_numberOfLeadingZeros_0f7a4 G X) RJ6 cJ6_numberOfLeadingZeros_0f7a4) (z0 z1 : Int) (h : AH) : Sim (S_J6_numberOfLeadingZeros_0f7a4 G X) 33 [(0, 0, z0), (1, 0, z1)] [] 0 0 h (f_J6_numberOfLeadingZeros_0f7a4_33 z0 z1 h) := by
  unfold f_J6_numberOfLeadingZeros_0f7a4_33
  refine s_iload_n hS dJ6_numberOfLeadingZeros_0f7a4_33 rfl 0 rfl ?_
  refine s_sipush hS dJ6_numberOfLeadingZeros_0f7a4_34 (by decide +kernel) ?_
  refine s_icmp_lt hS dJ6_numberOfLeadingZeros_0f7a4_37 rfl ?_ ?_
  · exact b_J6_numberOfLeadingZeros_0f7a4_48 hS _ _ _
  · refine s_iinc hS dJ6_numberOfLeadingZeros_0f7a4_40 1 rfl (Nat.le_of_ble_eq_true rfl) (ls' := [(1, 0, (z1 + (-8))), (0, 0, z0)]) rfl ?_
    refine s_iload_n hS dJ6_numberOfLeadingZeros_0f7a4_43 rfl 1 rfl ?_
    refine s_bipush hS dJ6_numberOfLeadingZeros_0f7a4_44 (by decide +kernel) ?_
    refine s_iushr hS dJ6_numberOfLeadingZeros_0f7a4_46 ?_
    refine s_let fun v1 => ?_
    refine s_istore_n hS dJ6_numberOfLeadingZeros_0f7a4_47 rfl (Nat.le_of_ble_eq_true rfl) (ls' := [(0, 0, v1), (1, 0, (z1 + (-8)))]) rfl ?_
    exact b_J6_numberOfLeadingZeros_0f7a4_48 hS _ _ _
set_option maxRecDepth 100000 in
set_option maxHeartbeats 4000000 in
theorem b_J6_numberOfLeadingZeros_0f7a4 {G : GE} {X : SMw} (hS : SO (S_J6_numberOfLeadingZeros_0f7a4 G X) RJ6 cJ6_numberOfLeadingZeros_0f7a4) (z0 : Int) (h : AH) : Sim (S_J6_numberOfLeadingZeros_0f7a4 G X) 0 [(0, 0, z0)] [] 0 0 h (f_J6_numberOfLeadingZeros_0f7a4 z0 h) := by
  unfold f_J6_numberOfLeadingZeros_0f7a4
  refine s_iload_n hS dJ6_numberOfLeadingZeros_0f7a4_0 rfl 0 rfl ?_
  refine s_if_gt hS dJ6_numberOfLeadingZeros_0f7a4_1 rfl ?_ ?_
  · refine s_bipush hS dJ6_numberOfLeadingZeros_0f7a4_15 (by decide +kernel) ?_
    refine s_istore_n hS dJ6_numberOfLeadingZeros_0f7a4_17 rfl (Nat.le_of_ble_eq_true rfl) (ls' := [(1, 0, 31), (0, 0, z0)]) rfl ?_
    refine s_iload_n hS dJ6_numberOfLeadingZeros_0f7a4_18 rfl 1 rfl ?_
    refine s_ldcw hS (z := 65536) tw_787 (by decide +kernel) dJ6_numberOfLeadingZeros_0f7a4_19 ?_
    refine s_icmp_lt hS dJ6_numberOfLeadingZeros_0f7a4_22 rfl ?_ ?_
    · refine s_ls [1, 0] rfl ?_
      exact b_J6_numberOfLeadingZeros_0f7a4_33 hS _ _ _
    · refine s_iinc hS dJ6_numberOfLeadingZeros_0f7a4_25 0 rfl (Nat.le_of_ble_eq_true rfl) (ls' := [(1, 0, (31 + (-16))), (0, 0, z0)]) rfl ?_
      refine s_iload_n hS dJ6_numberOfLeadingZeros_0f7a4_28 rfl 1 rfl ?_
      refine s_bipush hS dJ6_numberOfLeadingZeros_0f7a4_29 (by decide +kernel) ?_
      refine s_iushr hS dJ6_numberOfLeadingZeros_0f7a4_31 ?_
      refine s_let fun v1 => ?_
      refine s_istore_n hS dJ6_numberOfLeadingZeros_0f7a4_32 rfl (Nat.le_of_ble_eq_true rfl) (ls' := [(0, 0, v1), (1, 0, (31 + (-16)))]) rfl ?_
      exact b_J6_numberOfLeadingZeros_0f7a4_33 hS _ _ _
  · refine s_iload_n hS dJ6_numberOfLeadingZeros_0f7a4_4 rfl 0 rfl ?_
    refine s_if_ne hS dJ6_numberOfLeadingZeros_0f7a4_5 rfl ?_ ?_
    · refine s_iconst hS dJ6_numberOfLeadingZeros_0f7a4_13 ?_
      exact s_iret hS rfl (Nat.le_of_ble_eq_true rfl) (Nat.le_of_ble_eq_true rfl) dJ6_numberOfLeadingZeros_0f7a4_14
    · refine s_bipush hS dJ6_numberOfLeadingZeros_0f7a4_8 (by decide +kernel) ?_
      refine s_goto hS dJ6_numberOfLeadingZeros_0f7a4_10 rfl ?_
      exact s_iret hS rfl (Nat.le_of_ble_eq_true rfl) (Nat.le_of_ble_eq_true rfl) dJ6_numberOfLeadingZeros_0f7a4_14
theorem c_J6_numberOfLeadingZeros_0f7a4 (l : Launch) (G : GE) (z0 : Int) (h : AH) : Con l yJ6_numberOfLeadingZeros_0f7a4 cJ6_numberOfLeadingZeros_0f7a4 2 (some .int) 0 0 0 0 G [(0, z0)] h (f_J6_numberOfLeadingZeros_0f7a4 z0 h) :=
  con_of (by decide +kernel) (Nat.le_of_ble_eq_true rfl) fun X hX hS hi => b_J6_numberOfLeadingZeros_0f7a4 hS z0 h
theorem ca_J13_308 {S : SX} {cc : ByteArray} {pc : Nat} {ls : List (Nat × Nat × Int)} {st : List (Nat × Int)} {k n : Nat} {h : AH} {q0 : Int} {f : Int → AH → Option (Int × AH)} (hS : SO S RJ13 cc) (hR : 0 + 1 ≤ S.2.2.2.2.2.2.1 ∧ 8 + (2 + 11) + 0 ≤ S.2.2.2.2.2.2.2) (hk : k + 0 ≤ S.2.2.2.1 ∧ n + 0 ≤ S.2.2.2.2.1) (hl : st.length ≤ 4) (d : decode cc pc = .ok (.invokestatic 308, 3)) (kk : ∀ (r : Int) (h2 : AH), Sim S (pc + 3) ls ((0, r) :: st) (k + 0) (n + 0) h2 (f r h2)) : Sim S pc ls ((0, q0) :: st) k n h (bd_ (f_J6_numberOfLeadingZeros_0f7a4 q0 h) f) := s_callS hS mo_J6_numberOfLeadingZeros_0f7a4 (c_J6_numberOfLeadingZeros_0f7a4 _ _ _ h) tw_899 tw_900 hR hk rfl rfl hl d kk
abbrev S_J13_numberOfLeadingZeros_95d88 (G : GE) (X : SMw) : SX := (G, X, 3, 0, 0, (some .int), 1, 21)
set_option maxRecDepth 100000 in
set_option maxHeartbeats 4000000 in
theorem b_J13_numberOfLeadingZeros_95d88 {G : GE} {X : SMw} (hS : SO (S_J13_numberOfLeadingZeros_95d88 G X) RJ13 cJ13_numberOfLeadingZeros_95d88) (z0 : Int) (h : AH) : Sim (S_J13_numberOfLeadingZeros_95d88 G X) 0 [(0, 1, z0)] [] 0 0 h (f_J13_numberOfLeadingZeros_95d88 z0 h) := by
  unfold f_J13_numberOfLeadingZeros_95d88
  refine s_lload_n hS dJ13_numberOfLeadingZeros_95d88_0 rfl 0 rfl ?_
  refine s_bipush hS dJ13_numberOfLeadingZeros_95d88_1 (by decide +kernel) ?_
  refine s_lushr hS dJ13_numberOfLeadingZeros_95d88_3 ?_
  refine s_l2i hS dJ13_numberOfLeadingZeros_95d88_4 ?_
  refine s_let fun v1 => ?_
  refine s_istore_n hS dJ13_numberOfLeadingZeros_95d88_5 rfl (Nat.le_of_ble_eq_true rfl) (ls' := [(2, 0, v1), (0, 1, z0)]) rfl ?_
  refine s_iload_n hS dJ13_numberOfLeadingZeros_95d88_6 rfl 0 rfl ?_
  refine s_if_ne hS dJ13_numberOfLeadingZeros_95d88_7 rfl ?_ ?_
  · refine s_iload_n hS dJ13_numberOfLeadingZeros_95d88_21 rfl 0 rfl ?_
    refine ca_J13_308 hS ⟨Nat.le_of_ble_eq_true rfl, Nat.le_of_ble_eq_true rfl⟩ ⟨Nat.le_of_ble_eq_true rfl, Nat.le_of_ble_eq_true rfl⟩ (Nat.le_of_ble_eq_true rfl) dJ13_numberOfLeadingZeros_95d88_22 fun v2 h3 => ?_
    exact s_iret hS rfl (Nat.le_of_ble_eq_true rfl) (Nat.le_of_ble_eq_true rfl) dJ13_numberOfLeadingZeros_95d88_25
  · refine s_bipush hS dJ13_numberOfLeadingZeros_95d88_10 (by decide +kernel) ?_
    refine s_lload_n hS dJ13_numberOfLeadingZeros_95d88_12 rfl 1 rfl ?_
    refine s_l2i hS dJ13_numberOfLeadingZeros_95d88_13 ?_
    refine ca_J13_308 hS ⟨Nat.le_of_ble_eq_true rfl, Nat.le_of_ble_eq_true rfl⟩ ⟨Nat.le_of_ble_eq_true rfl, Nat.le_of_ble_eq_true rfl⟩ (Nat.le_of_ble_eq_true rfl) dJ13_numberOfLeadingZeros_95d88_14 fun v4 h5 => ?_
    refine s_iadd hS dJ13_numberOfLeadingZeros_95d88_17 ?_
    refine s_goto hS dJ13_numberOfLeadingZeros_95d88_18 rfl ?_
    exact s_iret hS rfl (Nat.le_of_ble_eq_true rfl) (Nat.le_of_ble_eq_true rfl) dJ13_numberOfLeadingZeros_95d88_25
theorem c_J13_numberOfLeadingZeros_95d88 (l : Launch) (G : GE) (z0 : Int) (h : AH) : Con l yJ13_numberOfLeadingZeros_95d88 cJ13_numberOfLeadingZeros_95d88 3 (some .int) 1 21 0 0 G [(1, z0)] h (f_J13_numberOfLeadingZeros_95d88 z0 h) :=
  con_of (by decide +kernel) (Nat.le_of_ble_eq_true rfl) fun X hX hS hi => b_J13_numberOfLeadingZeros_95d88 hS z0 h
theorem ca_J13_98 {S : SX} {cc : ByteArray} {pc : Nat} {ls : List (Nat × Nat × Int)} {st : List (Nat × Int)} {k n : Nat} {h : AH} {q0 : Int} {f : Int → AH → Option (Int × AH)} (hS : SO S RJ13 cc) (hR : 1 + 1 ≤ S.2.2.2.2.2.2.1 ∧ 8 + (3 + 11) + 21 ≤ S.2.2.2.2.2.2.2) (hk : k + 0 ≤ S.2.2.2.1 ∧ n + 0 ≤ S.2.2.2.2.1) (hl : st.length ≤ 4) (d : decode cc pc = .ok (.invokestatic 98, 3)) (kk : ∀ (r : Int) (h2 : AH), Sim S (pc + 3) ls ((0, r) :: st) (k + 0) (n + 0) h2 (f r h2)) : Sim S pc ls ((1, q0) :: st) k n h (bd_ (f_J13_numberOfLeadingZeros_95d88 q0 h) f) := s_callS hS mo_J13_numberOfLeadingZeros_95d88 (c_J13_numberOfLeadingZeros_95d88 _ _ _ h) tw_1041 tw_897 hR hk rfl rfl hl d kk
abbrev S_J13_highestOneBit_067f4 (G : GE) (X : SMw) : SX := (G, X, 2, 0, 0, (some .long), 2, 43)
set_option maxRecDepth 100000 in
set_option maxHeartbeats 4000000 in
theorem b_J13_highestOneBit_067f4 {G : GE} {X : SMw} (hS : SO (S_J13_highestOneBit_067f4 G X) RJ13 cJ13_highestOneBit_067f4) (z0 : Int) (h : AH) : Sim (S_J13_highestOneBit_067f4 G X) 0 [(0, 1, z0)] [] 0 0 h (f_J13_highestOneBit_067f4 z0 h) := by
  unfold f_J13_highestOneBit_067f4
  refine s_lload_n hS dJ13_highestOneBit_067f4_0 rfl 0 rfl ?_
  refine s_ldc2 hS (z := (-9223372036854775808)) tw_1040 (by decide +kernel) dJ13_highestOneBit_067f4_1 ?_
  refine s_lload_n hS dJ13_highestOneBit_067f4_4 rfl 0 rfl ?_
  refine ca_J13_98 hS ⟨Nat.le_of_ble_eq_true rfl, Nat.le_of_ble_eq_true rfl⟩ ⟨Nat.le_of_ble_eq_true rfl, Nat.le_of_ble_eq_true rfl⟩ (Nat.le_of_ble_eq_true rfl) dJ13_highestOneBit_067f4_5 fun v1 h2 => ?_
  refine s_lushr hS dJ13_highestOneBit_067f4_8 ?_
  refine s_land hS dJ13_highestOneBit_067f4_9 ?_
  exact s_lret hS rfl (Nat.le_of_ble_eq_true rfl) (Nat.le_of_ble_eq_true rfl) dJ13_highestOneBit_067f4_10
theorem c_J13_highestOneBit_067f4 (l : Launch) (G : GE) (z0 : Int) (h : AH) : Con l yJ13_highestOneBit_067f4 cJ13_highestOneBit_067f4 2 (some .long) 2 43 0 0 G [(1, z0)] h (f_J13_highestOneBit_067f4 z0 h) :=
  con_of (by decide +kernel) (Nat.le_of_ble_eq_true rfl) fun X hX hS hi => b_J13_highestOneBit_067f4 hS z0 h
theorem ca_X7_100 {S : SX} {cc : ByteArray} {pc : Nat} {ls : List (Nat × Nat × Int)} {st : List (Nat × Int)} {k n : Nat} {h : AH} {q0 : Int} {f : Int → AH → Option (Int × AH)} (hS : SO S RX7 cc) (hR : 2 + 1 ≤ S.2.2.2.2.2.2.1 ∧ 8 + (2 + 11) + 43 ≤ S.2.2.2.2.2.2.2) (hk : k + 0 ≤ S.2.2.2.1 ∧ n + 0 ≤ S.2.2.2.2.1) (hl : st.length ≤ 4) (d : decode cc pc = .ok (.invokestatic 100, 3)) (kk : ∀ (r : Int) (h2 : AH), Sim S (pc + 3) ls ((1, r) :: st) (k + 0) (n + 0) h2 (f r h2)) : Sim S pc ls ((1, q0) :: st) k n h (bd_ (f_J13_highestOneBit_067f4 q0 h) f) := s_callS hS mo_J13_highestOneBit_067f4 (c_J13_highestOneBit_067f4 _ _ _ h) tw_1037 tw_1038 hR hk rfl rfl hl d kk
abbrev S_T_give (G : GE) (X : SMw) : SX := (G, X, 7, 0, 0, none, 3, 64)
set_option maxRecDepth 100000 in
set_option maxHeartbeats 4000000 in
theorem B_T_give_3 {G : GE} {X : SMw} (hS : SO (S_T_give G X) RX7 cX7_give) (z0 z1 z2 z3 : Int) {k3 : Int → AH → Option (Int × AH)} (hk3 : ∀ (z4 : Int) (h : AH), Sim (S_T_give G X) 3 [(0, 2, z0), (1, 0, z1), (2, 0, z2), (3, 0, z3), (4, 0, z4)] [] 0 0 h (k3 z4 h)) (z4 : Int) (h : AH) : Sim (S_T_give G X) 3 [(0, 2, z0), (1, 0, z1), (2, 0, z2), (3, 0, z3), (4, 0, z4)] [] 0 0 h (F_T_give_3 z0 z1 z2 z3 k3 z4 h) := by
  unfold F_T_give_3
  refine s_iload hS dX7_give_3 4 rfl ?_
  refine s_iload_n hS dX7_give_5 rfl 3 rfl ?_
  refine s_icmp_ge hS dX7_give_6 rfl ?_ ?_
  · exact s_vret hS rfl (Nat.le_of_ble_eq_true rfl) (Nat.le_of_ble_eq_true rfl) dX7_give_48
  · refine s_aload_n hS dX7_give_9 rfl 0 rfl ?_
    refine gf_X7_9 hS dX7_give_10 fun v1 => ?_
    refine s_iload_n hS dX7_give_13 rfl 1 rfl ?_
    refine s_lald hS dX7_give_14 fun v2 => ?_
    refine ca_X7_100 hS ⟨Nat.le_of_ble_eq_true rfl, Nat.le_of_ble_eq_true rfl⟩ ⟨Nat.le_of_ble_eq_true rfl, Nat.le_of_ble_eq_true rfl⟩ (Nat.le_of_ble_eq_true rfl) dX7_give_15 fun v3 h4 => ?_
    refine s_lstore hS dX7_give_18 (Nat.le_of_ble_eq_true rfl) (ls' := [(5, 1, v3), (0, 2, z0), (1, 0, z1), (2, 0, z2), (3, 0, z3), (4, 0, z4)]) rfl ?_
    refine s_aload_n hS dX7_give_20 rfl 1 rfl ?_
    refine gf_X7_9 hS dX7_give_21 fun v5 => ?_
    refine s_iload_n hS dX7_give_24 rfl 2 rfl ?_
    refine s_dup2 hS dX7_give_25 (by decide) (by decide) ?_
    refine s_lald hS dX7_give_26 fun v6 => ?_
    refine s_lload hS dX7_give_27 0 rfl ?_
    refine s_lxor hS dX7_give_29 ?_
    refine s_last hS dX7_give_30 fun h7 => ?_
    refine s_aload_n hS dX7_give_31 rfl 1 rfl ?_
    refine gf_X7_9 hS dX7_give_32 fun v8 => ?_
    refine s_iload_n hS dX7_give_35 rfl 3 rfl ?_
    refine s_dup2 hS dX7_give_36 (by decide) (by decide) ?_
    refine s_lald hS dX7_give_37 fun v9 => ?_
    refine s_lload hS dX7_give_38 0 rfl ?_
    refine s_lor hS dX7_give_40 ?_
    refine s_last hS dX7_give_41 fun h10 => ?_
    refine s_iinc hS dX7_give_42 5 rfl (Nat.le_of_ble_eq_true rfl) (ls' := [(4, 0, (z4 + 1)), (5, 1, v3), (0, 2, z0), (1, 0, z1), (2, 0, z2), (3, 0, z3)]) rfl ?_
    refine s_goto hS dX7_give_45 rfl ?_
    refine s_ls [2, 3, 4, 5, 0] rfl ?_
    exact hk3 _ _
set_option maxRecDepth 100000 in
set_option maxHeartbeats 4000000 in
theorem b_T_give_3 {G : GE} {X : SMw} (hS : SO (S_T_give G X) RX7 cX7_give) (z0 z1 z2 z3 : Int) (z4 : Int) (h : AH) : Sim (S_T_give G X) 3 [(0, 2, z0), (1, 0, z1), (2, 0, z2), (3, 0, z3), (4, 0, z4)] [] 0 0 h (f_T_give_3 z0 z1 z2 z3 z4 h) := by
  exact s_loop (S := (S_T_give G X)) (lsf := fun s : Int × AH => [(0, 2, z0), (1, 0, z1), (2, 0, z2), (3, 0, z3), (4, 0, s.1)]) (hf := fun s => s.2) (fun kf hkf s => B_T_give_3 hS z0 z1 z2 z3 (fun a0 a1 => hkf (a0, a1)) s.1 s.2) fu_ (z4, h)
set_option maxRecDepth 100000 in
set_option maxHeartbeats 4000000 in
theorem b_T_give {G : GE} {X : SMw} (hS : SO (S_T_give G X) RX7 cX7_give) (z0 z1 z2 z3 : Int) (h : AH) : Sim (S_T_give G X) 0 [(0, 2, z0), (1, 0, z1), (2, 0, z2), (3, 0, z3)] [] 0 0 h (f_T_give z0 z1 z2 z3 h) := by
  unfold f_T_give
  refine s_iconst hS dX7_give_0 ?_
  refine s_istore hS dX7_give_1 (Nat.le_of_ble_eq_true rfl) (ls' := [(4, 0, 0), (0, 2, z0), (1, 0, z1), (2, 0, z2), (3, 0, z3)]) rfl ?_
  refine s_ls [1, 2, 3, 4, 0] rfl ?_
  exact b_T_give_3 hS _ _ _ _ _ _
theorem c_T_give (l : Launch) (G : GE) (z0 z1 z2 z3 : Int) (h : AH) : Con l yX7_give cX7_give 7 none 3 64 0 0 G [(2, z0), (0, z1), (0, z2), (0, z3)] h (f_T_give z0 z1 z2 z3 h) :=
  con_of (by decide +kernel) (Nat.le_of_ble_eq_true rfl) fun X hX hS hi => b_T_give hS z0 z1 z2 z3 h
abbrev S_T_nextDrawn (G : GE) (X : SMw) : SX := (G, X, 1, 0, 0, (some .int), 0, 0)
set_option maxRecDepth 100000 in
set_option maxHeartbeats 4000000 in
theorem b_T_nextDrawn {G : GE} {X : SMw} (hS : SO (S_T_nextDrawn G X) RX7 cX7_nextDrawn) (z0 : Int) (h : AH) : Sim (S_T_nextDrawn G X) 0 [(0, 0, z0)] [] 0 0 h (f_T_nextDrawn z0 h) := by
  unfold f_T_nextDrawn
  refine s_iload_n hS dX7_nextDrawn_0 rfl 0 rfl ?_
  refine s_ldc hS (z := 1103515245) tw_1110 (by decide +kernel) dX7_nextDrawn_1 ?_
  refine s_imul hS dX7_nextDrawn_3 ?_
  refine s_sipush hS dX7_nextDrawn_4 (by decide +kernel) ?_
  refine s_iadd hS dX7_nextDrawn_7 ?_
  refine s_ldc hS (z := 2147483647) tw_1111 (by decide +kernel) dX7_nextDrawn_8 ?_
  refine s_iand hS dX7_nextDrawn_10 ?_
  exact s_iret hS rfl (Nat.le_of_ble_eq_true rfl) (Nat.le_of_ble_eq_true rfl) dX7_nextDrawn_11
theorem c_T_nextDrawn (l : Launch) (G : GE) (z0 : Int) (h : AH) : Con l yX7_nextDrawn cX7_nextDrawn 1 (some .int) 0 0 0 0 G [(0, z0)] h (f_T_nextDrawn z0 h) :=
  con_of (by decide +kernel) (Nat.le_of_ble_eq_true rfl) fun X hX hS hi => b_T_nextDrawn hS z0 h
theorem ca_X7_103 {S : SX} {cc : ByteArray} {pc : Nat} {ls : List (Nat × Nat × Int)} {st : List (Nat × Int)} {k n : Nat} {h : AH} {q0 : Int} {f : Int → AH → Option (Int × AH)} (hS : SO S RX7 cc) (hR : 0 + 1 ≤ S.2.2.2.2.2.2.1 ∧ 8 + (1 + 11) + 0 ≤ S.2.2.2.2.2.2.2) (hk : k + 0 ≤ S.2.2.2.1 ∧ n + 0 ≤ S.2.2.2.2.1) (hl : st.length ≤ 4) (d : decode cc pc = .ok (.invokestatic 103, 3)) (kk : ∀ (r : Int) (h2 : AH), Sim S (pc + 3) ls ((0, r) :: st) (k + 0) (n + 0) h2 (f r h2)) : Sim S pc ls ((0, q0) :: st) k n h (bd_ (f_T_nextDrawn q0 h) f) := s_callS hS mo_X7_nextDrawn (c_T_nextDrawn _ _ _ h) tw_1107 tw_1108 hR hk rfl rfl hl d kk
abbrev S_T_drawVoter (G : GE) (X : SMw) : SX := (G, X, 5, 0, 0, (some .int), 1, 20)
set_option maxRecDepth 100000 in
set_option maxHeartbeats 4000000 in
theorem b_T_drawVoter {G : GE} {X : SMw} (hS : SO (S_T_drawVoter G X) RX7 cX7_drawVoter) (z0 z1 z2 : Int) (h : AH) : Sim (S_T_drawVoter G X) 0 [(0, 2, z0), (1, 0, z1), (2, 0, z2)] [] 0 0 h (f_T_drawVoter z0 z1 z2 h) := by
  unfold f_T_drawVoter
  refine s_iload_n hS dX7_drawVoter_0 rfl 1 rfl ?_
  refine ca_X7_103 hS ⟨Nat.le_of_ble_eq_true rfl, Nat.le_of_ble_eq_true rfl⟩ ⟨Nat.le_of_ble_eq_true rfl, Nat.le_of_ble_eq_true rfl⟩ (Nat.le_of_ble_eq_true rfl) dX7_drawVoter_1 fun v1 h2 => ?_
  refine s_istore_n hS dX7_drawVoter_4 rfl (Nat.le_of_ble_eq_true rfl) (ls' := [(3, 0, v1), (0, 2, z0), (1, 0, z1), (2, 0, z2)]) rfl ?_
  refine s_iload_n hS dX7_drawVoter_5 rfl 0 rfl ?_
  refine s_bipush hS dX7_drawVoter_6 (by decide +kernel) ?_
  refine s_ishr hS dX7_drawVoter_8 ?_
  refine s_bipush hS dX7_drawVoter_9 (by decide +kernel) ?_
  refine s_irem hS dX7_drawVoter_11 fun v3 => ?_
  refine s_iload_n hS dX7_drawVoter_12 rfl 3 rfl ?_
  refine s_icmp_ge hS dX7_drawVoter_13 rfl ?_ ?_
  · refine s_iload_n hS dX7_drawVoter_23 rfl 0 rfl ?_
    exact s_iret hS rfl (Nat.le_of_ble_eq_true rfl) (Nat.le_of_ble_eq_true rfl) dX7_drawVoter_24
  · refine s_aload_n hS dX7_drawVoter_16 rfl 1 rfl ?_
    refine gf_X7_34 hS dX7_drawVoter_17 fun v4 => ?_
    refine s_if_ne hS dX7_drawVoter_20 rfl ?_ ?_
    · refine s_iload_n hS dX7_drawVoter_25 rfl 0 rfl ?_
      refine ca_X7_103 hS ⟨Nat.le_of_ble_eq_true rfl, Nat.le_of_ble_eq_true rfl⟩ ⟨Nat.le_of_ble_eq_true rfl, Nat.le_of_ble_eq_true rfl⟩ (Nat.le_of_ble_eq_true rfl) dX7_drawVoter_26 fun v5 h6 => ?_
      refine s_istore_n hS dX7_drawVoter_29 rfl (Nat.le_of_ble_eq_true rfl) (ls' := [(3, 0, v5), (0, 2, z0), (1, 0, z1), (2, 0, z2)]) rfl ?_
      refine s_iload_n hS dX7_drawVoter_30 rfl 0 rfl ?_
      refine s_bipush hS dX7_drawVoter_31 (by decide +kernel) ?_
      refine s_ishr hS dX7_drawVoter_33 ?_
      refine s_aload_n hS dX7_drawVoter_34 rfl 1 rfl ?_
      refine gf_X7_34 hS dX7_drawVoter_35 fun v7 => ?_
      refine s_irem hS dX7_drawVoter_38 fun v8 => ?_
      refine s_istore hS dX7_drawVoter_39 (Nat.le_of_ble_eq_true rfl) (ls' := [(4, 0, v8), (3, 0, v5), (0, 2, z0), (1, 0, z1), (2, 0, z2)]) rfl ?_
      refine s_aload_n hS dX7_drawVoter_41 rfl 2 rfl ?_
      refine gf_X7_22 hS dX7_drawVoter_42 fun v9 => ?_
      refine s_iload hS dX7_drawVoter_45 0 rfl ?_
      refine s_iald hS dX7_drawVoter_47 fun v10 => ?_
      refine s_bipush hS dX7_drawVoter_48 (by decide +kernel) ?_
      refine s_icmp_ge hS dX7_drawVoter_50 rfl ?_ ?_
      · refine s_iload_n hS dX7_drawVoter_64 rfl 1 rfl ?_
        exact s_iret hS rfl (Nat.le_of_ble_eq_true rfl) (Nat.le_of_ble_eq_true rfl) dX7_drawVoter_65
      · refine s_aload_n hS dX7_drawVoter_53 rfl 2 rfl ?_
        refine gf_X7_22 hS dX7_drawVoter_54 fun v11 => ?_
        refine s_iload hS dX7_drawVoter_57 0 rfl ?_
        refine s_dup2 hS dX7_drawVoter_59 (by decide) (by decide) ?_
        refine s_iald hS dX7_drawVoter_60 fun v12 => ?_
        refine s_iconst hS dX7_drawVoter_61 ?_
        refine s_iadd hS dX7_drawVoter_62 ?_
        refine s_iast hS dX7_drawVoter_63 fun h13 => ?_
        refine s_iload_n hS dX7_drawVoter_64 rfl 1 rfl ?_
        exact s_iret hS rfl (Nat.le_of_ble_eq_true rfl) (Nat.le_of_ble_eq_true rfl) dX7_drawVoter_65
    · refine s_iload_n hS dX7_drawVoter_23 rfl 0 rfl ?_
      exact s_iret hS rfl (Nat.le_of_ble_eq_true rfl) (Nat.le_of_ble_eq_true rfl) dX7_drawVoter_24
theorem c_T_drawVoter (l : Launch) (G : GE) (z0 z1 z2 : Int) (h : AH) : Con l yX7_drawVoter cX7_drawVoter 5 (some .int) 1 20 0 0 G [(2, z0), (0, z1), (0, z2)] h (f_T_drawVoter z0 z1 z2 h) :=
  con_of (by decide +kernel) (Nat.le_of_ble_eq_true rfl) fun X hX hS hi => b_T_drawVoter hS z0 z1 z2 h
theorem ca_X7_108 {S : SX} {cc : ByteArray} {pc : Nat} {ls : List (Nat × Nat × Int)} {st : List (Nat × Int)} {k n : Nat} {h : AH} {q0 : Int} {f : Int → AH → Option (Int × AH)} (hS : SO S RX7 cc) (hR : 1 + 1 ≤ S.2.2.2.2.2.2.1 ∧ 8 + (3 + 11) + 21 ≤ S.2.2.2.2.2.2.2) (hk : k + 0 ≤ S.2.2.2.1 ∧ n + 0 ≤ S.2.2.2.2.1) (hl : st.length ≤ 4) (d : decode cc pc = .ok (.invokestatic 108, 3)) (kk : ∀ (r : Int) (h2 : AH), Sim S (pc + 3) ls ((0, r) :: st) (k + 0) (n + 0) h2 (f r h2)) : Sim S pc ls ((1, q0) :: st) k n h (bd_ (f_J13_numberOfLeadingZeros_95d88 q0 h) f) := s_callS hS mo_J13_numberOfLeadingZeros_95d88 (c_J13_numberOfLeadingZeros_95d88 _ _ _ h) tw_896 tw_897 hR hk rfl rfl hl d kk
abbrev S_T_greatest (G : GE) (X : SMw) : SX := (G, X, 2, 0, 0, (some .int), 2, 43)
set_option maxRecDepth 100000 in
set_option maxHeartbeats 4000000 in
theorem b_T_greatest {G : GE} {X : SMw} (hS : SO (S_T_greatest G X) RX7 cX7_greatest) (z0 : Int) (h : AH) : Sim (S_T_greatest G X) 0 [(0, 1, z0)] [] 0 0 h (f_T_greatest z0 h) := by
  unfold f_T_greatest
  refine s_bipush hS dX7_greatest_0 (by decide +kernel) ?_
  refine s_lload_n hS dX7_greatest_2 rfl 0 rfl ?_
  refine ca_X7_108 hS ⟨Nat.le_of_ble_eq_true rfl, Nat.le_of_ble_eq_true rfl⟩ ⟨Nat.le_of_ble_eq_true rfl, Nat.le_of_ble_eq_true rfl⟩ (Nat.le_of_ble_eq_true rfl) dX7_greatest_3 fun v1 h2 => ?_
  refine s_isub hS dX7_greatest_6 ?_
  exact s_iret hS rfl (Nat.le_of_ble_eq_true rfl) (Nat.le_of_ble_eq_true rfl) dX7_greatest_7
theorem c_T_greatest (l : Launch) (G : GE) (z0 : Int) (h : AH) : Con l yX7_greatest cX7_greatest 2 (some .int) 2 43 0 0 G [(1, z0)] h (f_T_greatest z0 h) :=
  con_of (by decide +kernel) (Nat.le_of_ble_eq_true rfl) fun X hX hS hi => b_T_greatest hS z0 h
abbrev S_T_bitAt (G : GE) (X : SMw) : SX := (G, X, 6, 0, 0, (some .int), 2, 43)
set_option maxRecDepth 100000 in
set_option maxHeartbeats 4000000 in
theorem B_T_bitAt_5 {G : GE} {X : SMw} (hS : SO (S_T_bitAt G X) RX7 cX7_bitAt) (z2 : Int) {k5 : Int → Int → AH → Option (Int × AH)} (hk5 : ∀ (z3 z5 : Int) (h : AH), Sim (S_T_bitAt G X) 5 [(2, 0, z2), (3, 1, z3), (5, 0, z5)] [] 0 0 h (k5 z3 z5 h)) (z3 z5 : Int) (h : AH) : Sim (S_T_bitAt G X) 5 [(2, 0, z2), (3, 1, z3), (5, 0, z5)] [] 0 0 h (F_T_bitAt_5 z2 k5 z3 z5 h) := by
  unfold F_T_bitAt_5
  refine s_iload hS dX7_bitAt_5 2 rfl ?_
  refine s_iload_n hS dX7_bitAt_7 rfl 0 rfl ?_
  refine s_icmp_ge hS dX7_bitAt_8 rfl ?_ ?_
  · refine s_lload_n hS dX7_bitAt_23 rfl 1 rfl ?_
    refine ca_X7_51 hS ⟨Nat.le_of_ble_eq_true rfl, Nat.le_of_ble_eq_true rfl⟩ ⟨Nat.le_of_ble_eq_true rfl, Nat.le_of_ble_eq_true rfl⟩ (Nat.le_of_ble_eq_true rfl) dX7_bitAt_24 fun v1 h2 => ?_
    exact s_iret hS rfl (Nat.le_of_ble_eq_true rfl) (Nat.le_of_ble_eq_true rfl) dX7_bitAt_27
  · refine s_lload_n hS dX7_bitAt_11 rfl 1 rfl ?_
    refine s_lload_n hS dX7_bitAt_12 rfl 1 rfl ?_
    refine s_lconst1 hS dX7_bitAt_13 ?_
    refine s_lsub hS dX7_bitAt_14 ?_
    refine s_land hS dX7_bitAt_15 ?_
    refine s_let fun v3 => ?_
    refine s_lstore_n hS dX7_bitAt_16 rfl (Nat.le_of_ble_eq_true rfl) (ls' := [(3, 1, v3), (2, 0, z2), (5, 0, z5)]) rfl ?_
    refine s_iinc hS dX7_bitAt_17 2 rfl (Nat.le_of_ble_eq_true rfl) (ls' := [(5, 0, (z5 + 1)), (3, 1, v3), (2, 0, z2)]) rfl ?_
    refine s_goto hS dX7_bitAt_20 rfl ?_
    refine s_ls [2, 1, 0] rfl ?_
    exact hk5 _ _ _
set_option maxRecDepth 100000 in
set_option maxHeartbeats 4000000 in
theorem b_T_bitAt_5 {G : GE} {X : SMw} (hS : SO (S_T_bitAt G X) RX7 cX7_bitAt) (z2 : Int) (z3 z5 : Int) (h : AH) : Sim (S_T_bitAt G X) 5 [(2, 0, z2), (3, 1, z3), (5, 0, z5)] [] 0 0 h (f_T_bitAt_5 z2 z3 z5 h) := by
  exact s_loop (S := (S_T_bitAt G X)) (lsf := fun s : Int × Int × AH => [(2, 0, z2), (3, 1, s.1), (5, 0, s.2.1)]) (hf := fun s => s.2.2) (fun kf hkf s => B_T_bitAt_5 hS z2 (fun a0 a1 a2 => hkf (a0, a1, a2)) s.1 s.2.1 s.2.2) fu_ (z3, z5, h)
set_option maxRecDepth 100000 in
set_option maxHeartbeats 4000000 in
theorem b_T_bitAt {G : GE} {X : SMw} (hS : SO (S_T_bitAt G X) RX7 cX7_bitAt) (z0 z2 : Int) (h : AH) : Sim (S_T_bitAt G X) 0 [(0, 1, z0), (2, 0, z2)] [] 0 0 h (f_T_bitAt z0 z2 h) := by
  unfold f_T_bitAt
  refine s_lload_n hS dX7_bitAt_0 rfl 0 rfl ?_
  refine s_lstore_n hS dX7_bitAt_1 rfl (Nat.le_of_ble_eq_true rfl) (ls' := [(3, 1, z0), (0, 1, z0), (2, 0, z2)]) rfl ?_
  refine s_iconst hS dX7_bitAt_2 ?_
  refine s_istore hS dX7_bitAt_3 (Nat.le_of_ble_eq_true rfl) (ls' := [(5, 0, 0), (3, 1, z0), (0, 1, z0), (2, 0, z2)]) rfl ?_
  refine s_ls [3, 1, 0] rfl ?_
  exact b_T_bitAt_5 hS _ _ _ _
theorem c_T_bitAt (l : Launch) (G : GE) (z0 z2 : Int) (h : AH) : Con l yX7_bitAt cX7_bitAt 6 (some .int) 2 43 0 0 G [(1, z0), (0, z2)] h (f_T_bitAt z0 z2 h) :=
  con_of (by decide +kernel) (Nat.le_of_ble_eq_true rfl) fun X hX hS hi => b_T_bitAt hS z0 z2 h
theorem pf_X8_9 {S : SX} {cc : ByteArray} {pc : Nat} {ls : List (Nat × Nat × Int)} {st : List (Nat × Int)} {k n : Nat} {h : AH} {a v : Int} {f : AH → Option (Int × AH)} (hS : SO S RX8 cc) (hi : S.2.1.2.2.2.2.2.2.2.2.1.name = "<init>") (d : decode cc pc = .ok (.putfield 9, 3)) (kk : ∀ h2 : AH, Sim S (pc + 3) ls st k n h2 (f h2)) : Sim S pc ls ((2, v) :: (2, a) :: st) k n h ((s_f h 9 a 0 v).bind f) := s_putF hS hi cx_8 0 (by decide) tw_153 rfl rfl rfl (Or.inr (Or.inr (Or.inr ⟨_, rfl⟩))) rfl rfl d kk
abbrev S_P_init (G : GE) (X : SMw) : SX := (G, X, 1, 1, 400, none, 1, 20)
set_option maxRecDepth 100000 in
set_option maxHeartbeats 4000000 in
theorem b_P_init {G : GE} {X : SMw} (hS : SO (S_P_init G X) RX8 cX8_init) (hi : X.2.2.2.2.2.2.2.2.1.name = "<init>") (z0 : Int) (h : AH) : Sim (S_P_init G X) 0 [(0, 2, z0)] [] 0 0 h (f_P_init z0 h) := by
  unfold f_P_init
  refine s_aload_n hS dX8_init_0 rfl 0 rfl ?_
  refine s_obj hS (by decide) tw_152 tw_145 tw_146 ⟨Nat.le_of_ble_eq_true rfl, Nat.le_of_ble_eq_true rfl⟩ (Nat.le_of_ble_eq_true rfl) dX8_init_1 ?_
  refine s_aload_n hS dX8_init_4 rfl 0 rfl ?_
  refine s_sipush hS dX8_init_5 (by decide +kernel) ?_
  refine s_newab hS (at_ := .int) (M := 400) rfl (by decide) (by decide) rfl (by decide) tw_176 (Nat.le_of_ble_eq_true rfl) (Nat.le_of_ble_eq_true rfl) dX8_init_8 fun x2 h1 => ?_
  refine pf_X8_9 hS hi dX8_init_10 fun h3 => ?_
  exact s_vret hS rfl (Nat.le_of_ble_eq_true rfl) (Nat.le_of_ble_eq_true rfl) dX8_init_13
theorem c_P_init (l : Launch) (G : GE) (z0 : Int) (h : AH) : Con l yX8_init cX8_init 1 none 1 20 1 400 G [(2, z0)] h (f_P_init z0 h) :=
  con_of (by decide +kernel) (Nat.le_of_ble_eq_true rfl) fun X hX hS hi => b_P_init hS hi z0 h
theorem pf_X8_15 {S : SX} {cc : ByteArray} {pc : Nat} {ls : List (Nat × Nat × Int)} {st : List (Nat × Int)} {k n : Nat} {h : AH} {a v : Int} {f : AH → Option (Int × AH)} (hS : SO S RX8 cc) (d : decode cc pc = .ok (.putfield 15, 3)) (kk : ∀ h2 : AH, Sim S (pc + 3) ls st k n h2 (f h2)) : Sim S pc ls ((0, v) :: (2, a) :: st) k n h ((s_f h 9 a 1 v).bind f) := s_putf hS cx_8 1 (by decide) tw_156 rfl rfl (Or.inl rfl) rfl rfl d kk
abbrev S_P_addBytes (G : GE) (X : SMw) : SX := (G, X, 3, 0, 0, none, 0, 0)
set_option maxRecDepth 100000 in
set_option maxHeartbeats 4000000 in
theorem B_P_addBytes_3 {G : GE} {X : SMw} (hS : SO (S_P_addBytes G X) RX8 cX8_addBytes) (z0 z1 : Int) {k3 : Int → AH → Option (Int × AH)} (hk3 : ∀ (z2 : Int) (h : AH), Sim (S_P_addBytes G X) 3 [(0, 2, z0), (1, 0, z1), (2, 0, z2)] [] 0 0 h (k3 z2 h)) (z2 : Int) (h : AH) : Sim (S_P_addBytes G X) 3 [(0, 2, z0), (1, 0, z1), (2, 0, z2)] [] 0 0 h (F_P_addBytes_3 z0 z1 k3 z2 h) := by
  unfold F_P_addBytes_3
  refine s_iload_n hS dX8_addBytes_3 rfl 2 rfl ?_
  refine s_if_lt hS dX8_addBytes_4 rfl ?_ ?_
  · exact s_vret hS rfl (Nat.le_of_ble_eq_true rfl) (Nat.le_of_ble_eq_true rfl) dX8_addBytes_49
  · refine s_aload_n hS dX8_addBytes_7 rfl 0 rfl ?_
    refine gf_X8_15 hS dX8_addBytes_8 fun v1 => ?_
    refine s_sipush hS dX8_addBytes_11 (by decide +kernel) ?_
    refine s_icmp_ge hS dX8_addBytes_14 rfl ?_ ?_
    · refine s_iinc hS dX8_addBytes_43 2 rfl (Nat.le_of_ble_eq_true rfl) (ls' := [(2, 0, (z2 + (-8))), (0, 2, z0), (1, 0, z1)]) rfl ?_
      refine s_goto hS dX8_addBytes_46 rfl ?_
      refine s_ls [1, 2, 0] rfl ?_
      exact hk3 _ _
    · refine s_aload_n hS dX8_addBytes_17 rfl 0 rfl ?_
      refine gf_X8_9 hS dX8_addBytes_18 fun v2 => ?_
      refine s_aload_n hS dX8_addBytes_21 rfl 0 rfl ?_
      refine gf_X8_15 hS dX8_addBytes_22 fun v3 => ?_
      refine s_iload_n hS dX8_addBytes_25 rfl 1 rfl ?_
      refine s_iload_n hS dX8_addBytes_26 rfl 2 rfl ?_
      refine s_iushr hS dX8_addBytes_27 ?_
      refine s_sipush hS dX8_addBytes_28 (by decide +kernel) ?_
      refine s_iand hS dX8_addBytes_31 ?_
      refine s_iast hS dX8_addBytes_32 fun h4 => ?_
      refine s_aload_n hS dX8_addBytes_33 rfl 0 rfl ?_
      refine s_dup hS dX8_addBytes_34 (by decide) ?_
      refine gf_X8_15 hS dX8_addBytes_35 fun v5 => ?_
      refine s_iconst hS dX8_addBytes_38 ?_
      refine s_iadd hS dX8_addBytes_39 ?_
      refine pf_X8_15 hS dX8_addBytes_40 fun h6 => ?_
      refine s_iinc hS dX8_addBytes_43 2 rfl (Nat.le_of_ble_eq_true rfl) (ls' := [(2, 0, (z2 + (-8))), (0, 2, z0), (1, 0, z1)]) rfl ?_
      refine s_goto hS dX8_addBytes_46 rfl ?_
      refine s_ls [1, 2, 0] rfl ?_
      exact hk3 _ _
set_option maxRecDepth 100000 in
set_option maxHeartbeats 4000000 in
theorem b_P_addBytes_3 {G : GE} {X : SMw} (hS : SO (S_P_addBytes G X) RX8 cX8_addBytes) (z0 z1 : Int) (z2 : Int) (h : AH) : Sim (S_P_addBytes G X) 3 [(0, 2, z0), (1, 0, z1), (2, 0, z2)] [] 0 0 h (f_P_addBytes_3 z0 z1 z2 h) := by
  exact s_loop (S := (S_P_addBytes G X)) (lsf := fun s : Int × AH => [(0, 2, z0), (1, 0, z1), (2, 0, s.1)]) (hf := fun s => s.2) (fun kf hkf s => B_P_addBytes_3 hS z0 z1 (fun a0 a1 => hkf (a0, a1)) s.1 s.2) fu_ (z2, h)
set_option maxRecDepth 100000 in
set_option maxHeartbeats 4000000 in
theorem b_P_addBytes {G : GE} {X : SMw} (hS : SO (S_P_addBytes G X) RX8 cX8_addBytes) (z0 z1 : Int) (h : AH) : Sim (S_P_addBytes G X) 0 [(0, 2, z0), (1, 0, z1)] [] 0 0 h (f_P_addBytes z0 z1 h) := by
  unfold f_P_addBytes
  refine s_bipush hS dX8_addBytes_0 (by decide +kernel) ?_
  refine s_istore_n hS dX8_addBytes_2 rfl (Nat.le_of_ble_eq_true rfl) (ls' := [(2, 0, 24), (0, 2, z0), (1, 0, z1)]) rfl ?_
  refine s_ls [1, 2, 0] rfl ?_
  exact b_P_addBytes_3 hS _ _ _ _
theorem c_P_addBytes (l : Launch) (G : GE) (z0 z1 : Int) (h : AH) : Con l yX8_addBytes cX8_addBytes 3 none 0 0 0 0 G [(2, z0), (0, z1)] h (f_P_addBytes z0 z1 h) :=
  con_of (by decide +kernel) (Nat.le_of_ble_eq_true rfl) fun X hX hS hi => b_P_addBytes hS z0 z1 h
