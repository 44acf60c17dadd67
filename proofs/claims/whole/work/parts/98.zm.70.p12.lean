theorem gf_X10_80 {S : SX} {cc : ByteArray} {pc : Nat} {ls : List (Nat × Nat × Int)} {st : List (Nat × Int)} {k n : Nat} {h : AH} {a : Int} {f : Int → Option (Int × AH)} (hS : SO S RX10 cc) (d : decode cc pc = .ok (.getfield 80, 3)) (kk : ∀ v : Int, Sim S (pc + 3) ls ((2, v) :: st) k n h (f v)) : Sim S pc ls ((2, a) :: st) k n h ((g_f h 11 a 41).bind f) := s_getf hS cx_10 41 (by decide) tw_1179 rfl rfl rfl d kk
theorem gf_X10_74 {S : SX} {cc : ByteArray} {pc : Nat} {ls : List (Nat × Nat × Int)} {st : List (Nat × Int)} {k n : Nat} {h : AH} {a : Int} {f : Int → Option (Int × AH)} (hS : SO S RX10 cc) (d : decode cc pc = .ok (.getfield 74, 3)) (kk : ∀ v : Int, Sim S (pc + 3) ls ((2, v) :: st) k n h (f v)) : Sim S pc ls ((2, a) :: st) k n h ((g_f h 11 a 39).bind f) := s_getf hS cx_10 39 (by decide) tw_1177 rfl rfl rfl d kk
theorem gf_X10_77 {S : SX} {cc : ByteArray} {pc : Nat} {ls : List (Nat × Nat × Int)} {st : List (Nat × Int)} {k n : Nat} {h : AH} {a : Int} {f : Int → Option (Int × AH)} (hS : SO S RX10 cc) (d : decode cc pc = .ok (.getfield 77, 3)) (kk : ∀ v : Int, Sim S (pc + 3) ls ((2, v) :: st) k n h (f v)) : Sim S pc ls ((2, a) :: st) k n h ((g_f h 11 a 40).bind f) := s_getf hS cx_10 40 (by decide) tw_1178 rfl rfl rfl d kk
theorem gf_X10_71 {S : SX} {cc : ByteArray} {pc : Nat} {ls : List (Nat × Nat × Int)} {st : List (Nat × Int)} {k n : Nat} {h : AH} {a : Int} {f : Int → Option (Int × AH)} (hS : SO S RX10 cc) (d : decode cc pc = .ok (.getfield 71, 3)) (kk : ∀ v : Int, Sim S (pc + 3) ls ((2, v) :: st) k n h (f v)) : Sim S pc ls ((2, a) :: st) k n h ((g_f h 11 a 38).bind f) := s_getf hS cx_10 38 (by decide) tw_1176 rfl rfl rfl d kk
abbrev S_M_image (G : GE) (X : SMw) : SX := (G, X, 3, 0, 0, (some .int), 1, 25)
set_option maxRecDepth 100000 in
set_option maxHeartbeats 4000000 in
theorem B_M_image_43 {G : GE} {X : SMw} (hS : SO (S_M_image G X) RX10 cX10_image) (z0 z1 : Int) {k43 : Int → AH → Option (Int × AH)} (hk43 : ∀ (z2 : Int) (h : AH), Sim (S_M_image G X) 43 [(0, 2, z0), (1, 0, z1), (2, 0, z2)] [] 0 0 h (k43 z2 h)) (z2 : Int) (h : AH) : Sim (S_M_image G X) 43 [(0, 2, z0), (1, 0, z1), (2, 0, z2)] [] 0 0 h (F_M_image_43 z0 z1 k43 z2 h) := by
  unfold F_M_image_43
  refine s_iload_n hS dX10_image_43 rfl 2 rfl ?_
  refine s_sipush hS dX10_image_44 (by decide +kernel) ?_
  refine s_icmp_ge hS dX10_image_47 rfl ?_ ?_
  · refine s_aload_n hS dX10_image_74 rfl 0 rfl ?_
    refine gf_X10_39 hS dX10_image_75 fun v1 => ?_
    refine s_sipush hS dX10_image_78 (by decide +kernel) ?_
    refine s_iald hS dX10_image_81 fun v2 => ?_
    exact s_iret hS rfl (Nat.le_of_ble_eq_true rfl) (Nat.le_of_ble_eq_true rfl) dX10_image_82
  · refine s_aload_n hS dX10_image_50 rfl 0 rfl ?_
    refine gf_X10_71 hS dX10_image_51 fun v3 => ?_
    refine s_sipush hS dX10_image_54 (by decide +kernel) ?_
    refine s_iload_n hS dX10_image_57 rfl 1 rfl ?_
    refine s_imul hS dX10_image_58 ?_
    refine s_iload_n hS dX10_image_59 rfl 2 rfl ?_
    refine s_iadd hS dX10_image_60 ?_
    refine s_aload_n hS dX10_image_61 rfl 0 rfl ?_
    refine gf_X10_39 hS dX10_image_62 fun v4 => ?_
    refine s_iload_n hS dX10_image_65 rfl 2 rfl ?_
    refine s_iald hS dX10_image_66 fun v5 => ?_
    refine s_iast hS dX10_image_67 fun h6 => ?_
    refine s_iinc hS dX10_image_68 2 rfl (Nat.le_of_ble_eq_true rfl) (ls' := [(2, 0, (z2 + 1)), (0, 2, z0), (1, 0, z1)]) rfl ?_
    refine s_goto hS dX10_image_71 rfl ?_
    refine s_ls [1, 2, 0] rfl ?_
    exact hk43 _ _
set_option maxRecDepth 100000 in
set_option maxHeartbeats 4000000 in
theorem b_M_image_43 {G : GE} {X : SMw} (hS : SO (S_M_image G X) RX10 cX10_image) (z0 z1 : Int) (z2 : Int) (h : AH) : Sim (S_M_image G X) 43 [(0, 2, z0), (1, 0, z1), (2, 0, z2)] [] 0 0 h (f_M_image_43 z0 z1 z2 h) := by
  exact s_loop (S := (S_M_image G X)) (lsf := fun s : Int × AH => [(0, 2, z0), (1, 0, z1), (2, 0, s.1)]) (hf := fun s => s.2) (fun kf hkf s => B_M_image_43 hS z0 z1 (fun a0 a1 => hkf (a0, a1)) s.1 s.2) fu_ (z2, h)
set_option maxRecDepth 100000 in
set_option maxHeartbeats 4000000 in
theorem b_M_image {G : GE} {X : SMw} (hS : SO (S_M_image G X) RX10 cX10_image) (z0 z1 : Int) (h : AH) : Sim (S_M_image G X) 0 [(0, 2, z0), (1, 0, z1)] [] 0 0 h (f_M_image z0 z1 h) := by
  unfold f_M_image
  refine s_iload_n hS dX10_image_0 rfl 1 rfl ?_
  refine s_i2l hS dX10_image_1 ?_
  refine s_lconst0 hS dX10_image_2 ?_
  refine s_ldc2 hS (z := 3) tw_1723 (by decide +kernel) dX10_image_3 ?_
  refine ca_X10_121 hS ⟨Nat.le_of_ble_eq_true rfl, Nat.le_of_ble_eq_true rfl⟩ ⟨Nat.le_of_ble_eq_true rfl, Nat.le_of_ble_eq_true rfl⟩ (Nat.le_of_ble_eq_true rfl) dX10_image_6 fun v1 h2 => ?_
  refine s_if_ne hS dX10_image_9 rfl ?_ ?_
  · refine s_aload_n hS dX10_image_14 rfl 0 rfl ?_
    refine gf_X10_80 hS dX10_image_15 fun v3 => ?_
    refine s_iload_n hS dX10_image_18 rfl 1 rfl ?_
    refine s_iconst hS dX10_image_19 ?_
    refine s_zast hS dX10_image_20 fun h4 => ?_
    refine s_aload_n hS dX10_image_21 rfl 0 rfl ?_
    refine gf_X10_74 hS dX10_image_22 fun v5 => ?_
    refine s_iload_n hS dX10_image_25 rfl 1 rfl ?_
    refine s_aload_n hS dX10_image_26 rfl 0 rfl ?_
    refine gf_X10_42 hS dX10_image_27 fun v6 => ?_
    refine s_iast hS dX10_image_30 fun h7 => ?_
    refine s_aload_n hS dX10_image_31 rfl 0 rfl ?_
    refine gf_X10_77 hS dX10_image_32 fun v8 => ?_
    refine s_iload_n hS dX10_image_35 rfl 1 rfl ?_
    refine s_aload_n hS dX10_image_36 rfl 0 rfl ?_
    refine gf_X10_479 hS dX10_image_37 fun v9 => ?_
    refine s_iast hS dX10_image_40 fun h10 => ?_
    refine s_iconst hS dX10_image_41 ?_
    refine s_istore_n hS dX10_image_42 rfl (Nat.le_of_ble_eq_true rfl) (ls' := [(2, 0, 0), (0, 2, z0), (1, 0, z1)]) rfl ?_
    refine s_ls [1, 2, 0] rfl ?_
    exact b_M_image_43 hS _ _ _ _
  · refine s_iconst hS dX10_image_12 ?_
    exact s_iret hS rfl (Nat.le_of_ble_eq_true rfl) (Nat.le_of_ble_eq_true rfl) dX10_image_13
theorem c_M_image (l : Launch) (G : GE) (z0 z1 : Int) (h : AH) : Con l yX10_image cX10_image 3 (some .int) 1 25 0 0 G [(2, z0), (0, z1)] h (f_M_image z0 z1 h) :=
  con_of (by decide +kernel) (Nat.le_of_ble_eq_true rfl) fun X hX hS hi => b_M_image hS z0 z1 h
abbrev S_M_back (G : GE) (X : SMw) : SX := (G, X, 3, 0, 0, (some .int), 1, 25)
set_option maxRecDepth 100000 in
set_option maxHeartbeats 4000000 in
theorem B_M_back_50 {G : GE} {X : SMw} (hS : SO (S_M_back G X) RX10 cX10_back) (z0 z1 : Int) {k50 : Int → AH → Option (Int × AH)} (hk50 : ∀ (z2 : Int) (h : AH), Sim (S_M_back G X) 50 [(0, 2, z0), (1, 0, z1), (2, 0, z2)] [] 0 0 h (k50 z2 h)) (z2 : Int) (h : AH) : Sim (S_M_back G X) 50 [(0, 2, z0), (1, 0, z1), (2, 0, z2)] [] 0 0 h (F_M_back_50 z0 z1 k50 z2 h) := by
  unfold F_M_back_50
  refine s_iload_n hS dX10_back_50 rfl 2 rfl ?_
  refine s_sipush hS dX10_back_51 (by decide +kernel) ?_
  refine s_icmp_ge hS dX10_back_54 rfl ?_ ?_
  · refine s_aload_n hS dX10_back_81 rfl 0 rfl ?_
    refine gf_X10_39 hS dX10_back_82 fun v1 => ?_
    refine s_sipush hS dX10_back_85 (by decide +kernel) ?_
    refine s_iald hS dX10_back_88 fun v2 => ?_
    exact s_iret hS rfl (Nat.le_of_ble_eq_true rfl) (Nat.le_of_ble_eq_true rfl) dX10_back_89
  · refine s_aload_n hS dX10_back_57 rfl 0 rfl ?_
    refine gf_X10_39 hS dX10_back_58 fun v3 => ?_
    refine s_iload_n hS dX10_back_61 rfl 2 rfl ?_
    refine s_aload_n hS dX10_back_62 rfl 0 rfl ?_
    refine gf_X10_71 hS dX10_back_63 fun v4 => ?_
    refine s_sipush hS dX10_back_66 (by decide +kernel) ?_
    refine s_iload_n hS dX10_back_69 rfl 1 rfl ?_
    refine s_imul hS dX10_back_70 ?_
    refine s_iload_n hS dX10_back_71 rfl 2 rfl ?_
    refine s_iadd hS dX10_back_72 ?_
    refine s_iald hS dX10_back_73 fun v5 => ?_
    refine s_iast hS dX10_back_74 fun h6 => ?_
    refine s_iinc hS dX10_back_75 2 rfl (Nat.le_of_ble_eq_true rfl) (ls' := [(2, 0, (z2 + 1)), (0, 2, z0), (1, 0, z1)]) rfl ?_
    refine s_goto hS dX10_back_78 rfl ?_
    refine s_ls [1, 2, 0] rfl ?_
    exact hk50 _ _
set_option maxRecDepth 100000 in
set_option maxHeartbeats 4000000 in
theorem b_M_back_50 {G : GE} {X : SMw} (hS : SO (S_M_back G X) RX10 cX10_back) (z0 z1 : Int) (z2 : Int) (h : AH) : Sim (S_M_back G X) 50 [(0, 2, z0), (1, 0, z1), (2, 0, z2)] [] 0 0 h (f_M_back_50 z0 z1 z2 h) := by
  exact s_loop (S := (S_M_back G X)) (lsf := fun s : Int × AH => [(0, 2, z0), (1, 0, z1), (2, 0, s.1)]) (hf := fun s => s.2) (fun kf hkf s => B_M_back_50 hS z0 z1 (fun a0 a1 => hkf (a0, a1)) s.1 s.2) fu_ (z2, h)
set_option maxRecDepth 100000 in
set_option maxHeartbeats 4000000 in
theorem b_M_back {G : GE} {X : SMw} (hS : SO (S_M_back G X) RX10 cX10_back) (z0 z1 : Int) (h : AH) : Sim (S_M_back G X) 0 [(0, 2, z0), (1, 0, z1)] [] 0 0 h (f_M_back z0 z1 h) := by
  unfold f_M_back
  refine s_iload_n hS dX10_back_0 rfl 1 rfl ?_
  refine s_i2l hS dX10_back_1 ?_
  refine s_lconst0 hS dX10_back_2 ?_
  refine s_ldc2 hS (z := 3) tw_1723 (by decide +kernel) dX10_back_3 ?_
  refine ca_X10_121 hS ⟨Nat.le_of_ble_eq_true rfl, Nat.le_of_ble_eq_true rfl⟩ ⟨Nat.le_of_ble_eq_true rfl, Nat.le_of_ble_eq_true rfl⟩ (Nat.le_of_ble_eq_true rfl) dX10_back_6 fun v1 h2 => ?_
  refine s_if_eq hS dX10_back_9 rfl ?_ ?_
  · refine s_iconst hS dX10_back_21 ?_
    exact s_iret hS rfl (Nat.le_of_ble_eq_true rfl) (Nat.le_of_ble_eq_true rfl) dX10_back_22
  · refine s_aload_n hS dX10_back_12 rfl 0 rfl ?_
    refine gf_X10_80 hS dX10_back_13 fun v3 => ?_
    refine s_iload_n hS dX10_back_16 rfl 1 rfl ?_
    refine s_zald hS dX10_back_17 fun v4 => ?_
    refine s_if_ne hS dX10_back_18 rfl ?_ ?_
    · refine s_aload_n hS dX10_back_23 rfl 0 rfl ?_
      refine s_aload_n hS dX10_back_24 rfl 0 rfl ?_
      refine gf_X10_74 hS dX10_back_25 fun v5 => ?_
      refine s_iload_n hS dX10_back_28 rfl 1 rfl ?_
      refine s_iald hS dX10_back_29 fun v6 => ?_
      refine pf_X10_42 hS dX10_back_30 fun h7 => ?_
      refine s_aload_n hS dX10_back_33 rfl 0 rfl ?_
      refine s_aload_n hS dX10_back_34 rfl 0 rfl ?_
      refine gf_X10_77 hS dX10_back_35 fun v8 => ?_
      refine s_iload_n hS dX10_back_38 rfl 1 rfl ?_
      refine s_iald hS dX10_back_39 fun v9 => ?_
      refine pf_X10_479 hS dX10_back_40 fun h10 => ?_
      refine s_aload_n hS dX10_back_43 rfl 0 rfl ?_
      refine s_iconst hS dX10_back_44 ?_
      refine pf_X10_266 hS dX10_back_45 fun h11 => ?_
      refine s_iconst hS dX10_back_48 ?_
      refine s_istore_n hS dX10_back_49 rfl (Nat.le_of_ble_eq_true rfl) (ls' := [(2, 0, 0), (0, 2, z0), (1, 0, z1)]) rfl ?_
      refine s_ls [1, 2, 0] rfl ?_
      exact b_M_back_50 hS _ _ _ _
    · refine s_iconst hS dX10_back_21 ?_
      exact s_iret hS rfl (Nat.le_of_ble_eq_true rfl) (Nat.le_of_ble_eq_true rfl) dX10_back_22
theorem c_M_back (l : Launch) (G : GE) (z0 z1 : Int) (h : AH) : Con l yX10_back cX10_back 3 (some .int) 1 25 0 0 G [(2, z0), (0, z1)] h (f_M_back z0 z1 h) :=
  con_of (by decide +kernel) (Nat.le_of_ble_eq_true rfl) fun X hX hS hi => b_M_back hS z0 z1 h
