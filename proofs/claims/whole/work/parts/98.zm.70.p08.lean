theorem ca_X10_254 {S : SX} {cc : ByteArray} {pc : Nat} {ls : List (Nat × Nat × Int)} {st : List (Nat × Int)} {k n : Nat} {h : AH} {b : Int} {f : Int → AH → Option (Int × AH)} (hS : SO S RX10 cc) (hR : 10 + 1 ≤ S.2.2.2.2.2.2.1 ∧ 8 + (3 + 11) + 219 ≤ S.2.2.2.2.2.2.2) (hk : k + 0 ≤ S.2.2.2.1 ∧ n + 0 ≤ S.2.2.2.2.1) (hl : st.length ≤ 4) (d : decode cc pc = .ok (.invokevirtual 254, 3)) (kk : ∀ (r : Int) (h2 : AH), Sim S (pc + 3) ls ((0, r) :: st) (k + 0) (n + 0) h2 (f r h2)) : Sim S pc ls ((2, b) :: st) k n h (c_k h 11 b (bd_ (f_M_clauseHere b h) f)) := s_callV hS mo_X10_clauseHere rfl rfl (c_M_clauseHere _ _ _ h) tw_1286 tw_1288 tw_31 hR hk rfl rfl hl d kk
abbrev S_M_readsAll (G : GE) (X : SMw) : SX := (G, X, 2, 0, 0, (some .boolean), 11, 241)
set_option maxRecDepth 100000 in
set_option maxHeartbeats 4000000 in
theorem b_M_readsAll_88 {G : GE} {X : SMw} (hS : SO (S_M_readsAll G X) RX10 cX10_readsAll) (z0 : Int) (h : AH) : Sim (S_M_readsAll G X) 88 [(0, 2, z0)] [] 0 0 h (f_M_readsAll_88 z0 h) := by
  unfold f_M_readsAll_88
  refine s_aload_n hS dX10_readsAll_88 rfl 0 rfl ?_
  refine s_iconst hS dX10_readsAll_89 ?_
  refine pf_X10_83 hS dX10_readsAll_90 fun h1 => ?_
  refine s_aload_n hS dX10_readsAll_93 rfl 0 rfl ?_
  refine gf_X10_90 hS dX10_readsAll_94 fun v2 => ?_
  refine s_if_ne hS dX10_readsAll_97 rfl ?_ ?_
  · refine s_iconst hS dX10_readsAll_104 ?_
    exact s_zret hS rfl (Nat.le_of_ble_eq_true rfl) (Nat.le_of_ble_eq_true rfl) dX10_readsAll_105
  · refine s_iconst hS dX10_readsAll_100 ?_
    refine s_goto hS dX10_readsAll_101 rfl ?_
    exact s_zret hS rfl (Nat.le_of_ble_eq_true rfl) (Nat.le_of_ble_eq_true rfl) dX10_readsAll_105
set_option maxRecDepth 100000 in
set_option maxHeartbeats 4000000 in
theorem b_M_readsAll_66 {G : GE} {X : SMw} (hS : SO (S_M_readsAll G X) RX10 cX10_readsAll) (z0 z1 : Int) (h : AH) : Sim (S_M_readsAll G X) 66 [(0, 2, z0), (1, 0, z1)] [] 0 0 h (f_M_readsAll_66 z0 z1 h) := by
  unfold f_M_readsAll_66
  refine s_iload_n hS dX10_readsAll_66 rfl 1 rfl ?_
  refine s_if_eq hS dX10_readsAll_67 rfl ?_ ?_
  · refine s_ls [0] rfl ?_
    exact b_M_readsAll_88 hS _ _
  · refine s_aload_n hS dX10_readsAll_70 rfl 0 rfl ?_
    refine ca_X10_96 hS ⟨Nat.le_of_ble_eq_true rfl, Nat.le_of_ble_eq_true rfl⟩ ⟨Nat.le_of_ble_eq_true rfl, Nat.le_of_ble_eq_true rfl⟩ (Nat.le_of_ble_eq_true rfl) dX10_readsAll_71 fun v1 h2 => ?_
    refine s_iconst hS dX10_readsAll_74 ?_
    refine s_icmp_eq hS dX10_readsAll_75 rfl ?_ ?_
    · refine s_ls [0] rfl ?_
      exact b_M_readsAll_88 hS _ _
    · refine s_aload_n hS dX10_readsAll_78 rfl 0 rfl ?_
      refine s_iconst hS dX10_readsAll_79 ?_
      refine s_aload_n hS dX10_readsAll_80 rfl 0 rfl ?_
      refine gf_X10_93 hS dX10_readsAll_81 fun v3 => ?_
      refine ca_X10_114 hS ⟨Nat.le_of_ble_eq_true rfl, Nat.le_of_ble_eq_true rfl⟩ ⟨Nat.le_of_ble_eq_true rfl, Nat.le_of_ble_eq_true rfl⟩ (Nat.le_of_ble_eq_true rfl) dX10_readsAll_84 fun v4 h5 => ?_
      refine s_pop hS dX10_readsAll_87 (by decide) ?_
      refine s_ls [0] rfl ?_
      exact b_M_readsAll_88 hS _ _
set_option maxRecDepth 100000 in
set_option maxHeartbeats 4000000 in
theorem B_M_readsAll_35 {G : GE} {X : SMw} (hS : SO (S_M_readsAll G X) RX10 cX10_readsAll) (z0 : Int) {k35 : Int → AH → Option (Int × AH)} (hk35 : ∀ (z1 : Int) (h : AH), Sim (S_M_readsAll G X) 35 [(0, 2, z0), (1, 0, z1)] [] 0 0 h (k35 z1 h)) (z1 : Int) (h : AH) : Sim (S_M_readsAll G X) 35 [(0, 2, z0), (1, 0, z1)] [] 0 0 h (F_M_readsAll_35 z0 k35 z1 h) := by
  unfold F_M_readsAll_35
  refine s_iload_n hS dX10_readsAll_35 rfl 1 rfl ?_
  refine s_if_eq hS dX10_readsAll_36 rfl ?_ ?_
  · exact b_M_readsAll_66 hS _ _ _
  · refine s_aload_n hS dX10_readsAll_39 rfl 0 rfl ?_
    refine ca_X10_96 hS ⟨Nat.le_of_ble_eq_true rfl, Nat.le_of_ble_eq_true rfl⟩ ⟨Nat.le_of_ble_eq_true rfl, Nat.le_of_ble_eq_true rfl⟩ (Nat.le_of_ble_eq_true rfl) dX10_readsAll_40 fun v1 h2 => ?_
    refine s_bipush hS dX10_readsAll_43 (by decide +kernel) ?_
    refine s_icmp_ne hS dX10_readsAll_45 rfl ?_ ?_
    · exact b_M_readsAll_66 hS _ _ _
    · refine s_aload_n hS dX10_readsAll_48 rfl 0 rfl ?_
      refine s_dup hS dX10_readsAll_49 (by decide) ?_
      refine gf_X10_93 hS dX10_readsAll_50 fun v3 => ?_
      refine s_iconst hS dX10_readsAll_53 ?_
      refine s_iadd hS dX10_readsAll_54 ?_
      refine pf_X10_93 hS dX10_readsAll_55 fun h4 => ?_
      refine s_aload_n hS dX10_readsAll_58 rfl 0 rfl ?_
      refine ca_X10_254 hS ⟨Nat.le_of_ble_eq_true rfl, Nat.le_of_ble_eq_true rfl⟩ ⟨Nat.le_of_ble_eq_true rfl, Nat.le_of_ble_eq_true rfl⟩ (Nat.le_of_ble_eq_true rfl) dX10_readsAll_59 fun v5 h6 => ?_
      refine s_istore_n hS dX10_readsAll_62 rfl (Nat.le_of_ble_eq_true rfl) (ls' := [(1, 0, v5), (0, 2, z0)]) rfl ?_
      refine s_goto hS dX10_readsAll_63 rfl ?_
      refine s_ls [1, 0] rfl ?_
      exact hk35 _ _
set_option maxRecDepth 100000 in
set_option maxHeartbeats 4000000 in
theorem b_M_readsAll_35 {G : GE} {X : SMw} (hS : SO (S_M_readsAll G X) RX10 cX10_readsAll) (z0 : Int) (z1 : Int) (h : AH) : Sim (S_M_readsAll G X) 35 [(0, 2, z0), (1, 0, z1)] [] 0 0 h (f_M_readsAll_35 z0 z1 h) := by
  exact s_loop (S := (S_M_readsAll G X)) (lsf := fun s : Int × AH => [(0, 2, z0), (1, 0, s.1)]) (hf := fun s => s.2) (fun kf hkf s => B_M_readsAll_35 hS z0 (fun a0 a1 => hkf (a0, a1)) s.1 s.2) fu_ (z1, h)
set_option maxRecDepth 100000 in
set_option maxHeartbeats 4000000 in
theorem b_M_readsAll {G : GE} {X : SMw} (hS : SO (S_M_readsAll G X) RX10 cX10_readsAll) (z0 : Int) (h : AH) : Sim (S_M_readsAll G X) 0 [(0, 2, z0)] [] 0 0 h (f_M_readsAll z0 h) := by
  unfold f_M_readsAll
  refine s_aload_n hS dX10_readsAll_0 rfl 0 rfl ?_
  refine gf_X10_17 hS dX10_readsAll_1 fun v1 => ?_
  refine s_aload_n hS dX10_readsAll_4 rfl 0 rfl ?_
  refine gf_X10_145 hS dX10_readsAll_5 fun v2 => ?_
  refine s_iconst hS dX10_readsAll_8 ?_
  refine s_iast hS dX10_readsAll_9 fun h3 => ?_
  refine s_aload_n hS dX10_readsAll_10 rfl 0 rfl ?_
  refine s_iconst hS dX10_readsAll_11 ?_
  refine pf_X10_245 hS dX10_readsAll_12 fun h4 => ?_
  refine s_aload_n hS dX10_readsAll_15 rfl 0 rfl ?_
  refine s_iconst hS dX10_readsAll_16 ?_
  refine pf_X10_93 hS dX10_readsAll_17 fun h5 => ?_
  refine s_aload_n hS dX10_readsAll_20 rfl 0 rfl ?_
  refine s_iconst hS dX10_readsAll_21 ?_
  refine pf_X10_90 hS dX10_readsAll_22 fun h6 => ?_
  refine s_aload_n hS dX10_readsAll_25 rfl 0 rfl ?_
  refine s_iconst hS dX10_readsAll_26 ?_
  refine pf_X10_148 hS dX10_readsAll_27 fun h7 => ?_
  refine s_aload_n hS dX10_readsAll_30 rfl 0 rfl ?_
  refine ca_X10_254 hS ⟨Nat.le_of_ble_eq_true rfl, Nat.le_of_ble_eq_true rfl⟩ ⟨Nat.le_of_ble_eq_true rfl, Nat.le_of_ble_eq_true rfl⟩ (Nat.le_of_ble_eq_true rfl) dX10_readsAll_31 fun v8 h9 => ?_
  refine s_istore_n hS dX10_readsAll_34 rfl (Nat.le_of_ble_eq_true rfl) (ls' := [(1, 0, v8), (0, 2, z0)]) rfl ?_
  refine s_ls [1, 0] rfl ?_
  exact b_M_readsAll_35 hS _ _ _
theorem c_M_readsAll (l : Launch) (G : GE) (z0 : Int) (h : AH) : Con l yX10_readsAll cX10_readsAll 2 (some .boolean) 11 241 0 0 G [(2, z0)] h (f_M_readsAll z0 h) :=
  con_of (by decide +kernel) (Nat.le_of_ble_eq_true rfl) fun X hX hS hi => b_M_readsAll hS z0 h
theorem gf_X10_257 {S : SX} {cc : ByteArray} {pc : Nat} {ls : List (Nat × Nat × Int)} {st : List (Nat × Int)} {k n : Nat} {h : AH} {a : Int} {f : Int → Option (Int × AH)} (hS : SO S RX10 cc) (d : decode cc pc = .ok (.getfield 257, 3)) (kk : ∀ v : Int, Sim S (pc + 3) ls ((0, v) :: st) k n h (f v)) : Sim S pc ls ((2, a) :: st) k n h ((g_f h 11 a 2).bind f) := s_getf hS cx_10 2 (by decide) tw_1140 rfl rfl rfl d kk
theorem pf_X10_145 {S : SX} {cc : ByteArray} {pc : Nat} {ls : List (Nat × Nat × Int)} {st : List (Nat × Int)} {k n : Nat} {h : AH} {a v : Int} {f : AH → Option (Int × AH)} (hS : SO S RX10 cc) (d : decode cc pc = .ok (.putfield 145, 3)) (kk : ∀ h2 : AH, Sim S (pc + 3) ls st k n h2 (f h2)) : Sim S pc ls ((0, v) :: (2, a) :: st) k n h ((s_f h 11 a 11 v).bind f) := s_putf hS cx_10 11 (by decide) tw_1149 rfl rfl (Or.inl rfl) rfl rfl d kk
theorem ca_X10_260 {S : SX} {cc : ByteArray} {pc : Nat} {ls : List (Nat × Nat × Int)} {st : List (Nat × Int)} {k n : Nat} {h : AH} {b : Int} {f : Int → AH → Option (Int × AH)} (hS : SO S RX10 cc) (hR : 11 + 1 ≤ S.2.2.2.2.2.2.1 ∧ 8 + (2 + 11) + 241 ≤ S.2.2.2.2.2.2.2) (hk : k + 0 ≤ S.2.2.2.1 ∧ n + 0 ≤ S.2.2.2.2.1) (hl : st.length ≤ 4) (d : decode cc pc = .ok (.invokevirtual 260, 3)) (kk : ∀ (r : Int) (h2 : AH), Sim S (pc + 3) ls ((0, r) :: st) (k + 0) (n + 0) h2 (f r h2)) : Sim S pc ls ((2, b) :: st) k n h (c_k h 11 b (bd_ (f_M_readsAll b h) f)) := s_callV hS mo_X10_readsAll rfl rfl (c_M_readsAll _ _ _ h) tw_1282 tw_1284 tw_30 hR hk rfl rfl hl d kk
theorem pf_X10_257 {S : SX} {cc : ByteArray} {pc : Nat} {ls : List (Nat × Nat × Int)} {st : List (Nat × Int)} {k n : Nat} {h : AH} {a v : Int} {f : AH → Option (Int × AH)} (hS : SO S RX10 cc) (d : decode cc pc = .ok (.putfield 257, 3)) (kk : ∀ h2 : AH, Sim S (pc + 3) ls st k n h2 (f h2)) : Sim S pc ls ((0, v) :: (2, a) :: st) k n h ((s_f h 11 a 2 v).bind f) := s_putf hS cx_10 2 (by decide) tw_1140 rfl rfl (Or.inl rfl) rfl rfl d kk
abbrev S_M_rule (G : GE) (X : SMw) : SX := (G, X, 1, 0, 0, (some .int), 12, 262)
set_option maxRecDepth 100000 in
set_option maxHeartbeats 4000000 in
theorem b_M_rule {G : GE} {X : SMw} (hS : SO (S_M_rule G X) RX10 cX10_rule) (z0 : Int) (h : AH) : Sim (S_M_rule G X) 0 [(0, 2, z0)] [] 0 0 h (f_M_rule z0 h) := by
  unfold f_M_rule
  refine s_aload_n hS dX10_rule_0 rfl 0 rfl ?_
  refine gf_X10_257 hS dX10_rule_1 fun v1 => ?_
  refine s_bipush hS dX10_rule_4 (by decide +kernel) ?_
  refine s_icmp_ne hS dX10_rule_6 rfl ?_ ?_
  · refine s_aload_n hS dX10_rule_11 rfl 0 rfl ?_
    refine s_aload_n hS dX10_rule_12 rfl 0 rfl ?_
    refine gf_X10_257 hS dX10_rule_13 fun v2 => ?_
    refine pf_X10_145 hS dX10_rule_16 fun h3 => ?_
    refine s_aload_n hS dX10_rule_19 rfl 0 rfl ?_
    refine gf_X10_23 hS dX10_rule_20 fun v4 => ?_
    refine s_aload_n hS dX10_rule_23 rfl 0 rfl ?_
    refine gf_X10_145 hS dX10_rule_24 fun v5 => ?_
    refine s_iconst hS dX10_rule_27 ?_
    refine s_iast hS dX10_rule_28 fun h6 => ?_
    refine s_aload_n hS dX10_rule_29 rfl 0 rfl ?_
    refine ca_X10_260 hS ⟨Nat.le_of_ble_eq_true rfl, Nat.le_of_ble_eq_true rfl⟩ ⟨Nat.le_of_ble_eq_true rfl, Nat.le_of_ble_eq_true rfl⟩ (Nat.le_of_ble_eq_true rfl) dX10_rule_30 fun v7 h8 => ?_
    refine s_if_ne hS dX10_rule_33 rfl ?_ ?_
    · refine s_aload_n hS dX10_rule_44 rfl 0 rfl ?_
      refine s_dup hS dX10_rule_45 (by decide) ?_
      refine gf_X10_257 hS dX10_rule_46 fun v9 => ?_
      refine s_iconst hS dX10_rule_49 ?_
      refine s_iadd hS dX10_rule_50 ?_
      refine pf_X10_257 hS dX10_rule_51 fun h10 => ?_
      refine s_aload_n hS dX10_rule_54 rfl 0 rfl ?_
      refine gf_X10_257 hS dX10_rule_55 fun v11 => ?_
      refine s_iconst hS dX10_rule_58 ?_
      refine s_isub hS dX10_rule_59 ?_
      exact s_iret hS rfl (Nat.le_of_ble_eq_true rfl) (Nat.le_of_ble_eq_true rfl) dX10_rule_60
    · refine s_bipush hS dX10_rule_36 (by decide +kernel) ?_
      refine s_aload_n hS dX10_rule_38 rfl 0 rfl ?_
      refine gf_X10_90 hS dX10_rule_39 fun v12 => ?_
      refine s_isub hS dX10_rule_42 ?_
      exact s_iret hS rfl (Nat.le_of_ble_eq_true rfl) (Nat.le_of_ble_eq_true rfl) dX10_rule_43
  · refine s_iconst hS dX10_rule_9 ?_
    exact s_iret hS rfl (Nat.le_of_ble_eq_true rfl) (Nat.le_of_ble_eq_true rfl) dX10_rule_10
theorem c_M_rule (l : Launch) (G : GE) (z0 : Int) (h : AH) : Con l yX10_rule cX10_rule 1 (some .int) 12 262 0 0 G [(2, z0)] h (f_M_rule z0 h) :=
  con_of (by decide +kernel) (Nat.le_of_ble_eq_true rfl) fun X hX hS hi => b_M_rule hS z0 h
theorem gf_X10_39 {S : SX} {cc : ByteArray} {pc : Nat} {ls : List (Nat × Nat × Int)} {st : List (Nat × Int)} {k n : Nat} {h : AH} {a : Int} {f : Int → Option (Int × AH)} (hS : SO S RX10 cc) (d : decode cc pc = .ok (.getfield 39, 3)) (kk : ∀ v : Int, Sim S (pc + 3) ls ((2, v) :: st) k n h (f v)) : Sim S pc ls ((2, a) :: st) k n h ((g_f h 11 a 20).bind f) := s_getf hS cx_10 20 (by decide) tw_1158 rfl rfl rfl d kk
abbrev S_M_laysIn (G : GE) (X : SMw) : SX := (G, X, 4, 0, 0, none, 0, 0)
set_option maxRecDepth 100000 in
set_option maxHeartbeats 4000000 in
theorem b_M_laysIn {G : GE} {X : SMw} (hS : SO (S_M_laysIn G X) RX10 cX10_laysIn) (z0 z1 z2 z3 : Int) (h : AH) : Sim (S_M_laysIn G X) 0 [(0, 2, z0), (1, 0, z1), (2, 0, z2), (3, 0, z3)] [] 0 0 h (f_M_laysIn z0 z1 z2 z3 h) := by
  unfold f_M_laysIn
  refine s_aload_n hS dX10_laysIn_0 rfl 0 rfl ?_
  refine gf_X10_39 hS dX10_laysIn_1 fun v1 => ?_
  refine s_sipush hS dX10_laysIn_4 (by decide +kernel) ?_
  refine s_iload_n hS dX10_laysIn_7 rfl 1 rfl ?_
  refine s_iadd hS dX10_laysIn_8 ?_
  refine s_iload_n hS dX10_laysIn_9 rfl 2 rfl ?_
  refine s_iast hS dX10_laysIn_10 fun h2 => ?_
  refine s_aload_n hS dX10_laysIn_11 rfl 0 rfl ?_
  refine gf_X10_39 hS dX10_laysIn_12 fun v3 => ?_
  refine s_sipush hS dX10_laysIn_15 (by decide +kernel) ?_
  refine s_iload_n hS dX10_laysIn_18 rfl 1 rfl ?_
  refine s_iadd hS dX10_laysIn_19 ?_
  refine s_iload_n hS dX10_laysIn_20 rfl 3 rfl ?_
  refine s_iast hS dX10_laysIn_21 fun h4 => ?_
  refine s_aload_n hS dX10_laysIn_22 rfl 0 rfl ?_
  refine gf_X10_39 hS dX10_laysIn_23 fun v5 => ?_
  refine s_sipush hS dX10_laysIn_26 (by decide +kernel) ?_
  refine s_iload_n hS dX10_laysIn_29 rfl 1 rfl ?_
  refine s_iadd hS dX10_laysIn_30 ?_
  refine s_aload_n hS dX10_laysIn_31 rfl 0 rfl ?_
  refine gf_X10_39 hS dX10_laysIn_32 fun v6 => ?_
  refine s_sipush hS dX10_laysIn_35 (by decide +kernel) ?_
  refine s_iald hS dX10_laysIn_38 fun v7 => ?_
  refine s_iast hS dX10_laysIn_39 fun h8 => ?_
  refine s_aload_n hS dX10_laysIn_40 rfl 0 rfl ?_
  refine gf_X10_39 hS dX10_laysIn_41 fun v9 => ?_
  refine s_sipush hS dX10_laysIn_44 (by decide +kernel) ?_
  refine s_dup2 hS dX10_laysIn_47 (by decide) (by decide) ?_
  refine s_iald hS dX10_laysIn_48 fun v10 => ?_
  refine s_iconst hS dX10_laysIn_49 ?_
  refine s_iadd hS dX10_laysIn_50 ?_
  refine s_iast hS dX10_laysIn_51 fun h11 => ?_
  exact s_vret hS rfl (Nat.le_of_ble_eq_true rfl) (Nat.le_of_ble_eq_true rfl) dX10_laysIn_52
theorem c_M_laysIn (l : Launch) (G : GE) (z0 z1 z2 z3 : Int) (h : AH) : Con l yX10_laysIn cX10_laysIn 4 none 0 0 0 0 G [(2, z0), (0, z1), (0, z2), (0, z3)] h (f_M_laysIn z0 z1 z2 z3 h) :=
  con_of (by decide +kernel) (Nat.le_of_ble_eq_true rfl) fun X hX hS hi => b_M_laysIn hS z0 z1 z2 z3 h
theorem ca_X10_300 {S : SX} {cc : ByteArray} {pc : Nat} {ls : List (Nat × Nat × Int)} {st : List (Nat × Int)} {k n : Nat} {h : AH} {q0 q1 q2 b : Int} {f : Int → AH → Option (Int × AH)} (hS : SO S RX10 cc) (hR : 0 + 1 ≤ S.2.2.2.2.2.2.1 ∧ 8 + (4 + 11) + 0 ≤ S.2.2.2.2.2.2.2) (hk : k + 0 ≤ S.2.2.2.1 ∧ n + 0 ≤ S.2.2.2.2.1) (hl : st.length ≤ 4) (d : decode cc pc = .ok (.invokevirtual 300, 3)) (kk : ∀ (r : Int) (h2 : AH), Sim S (pc + 3) ls (st) (k + 0) (n + 0) h2 (f r h2)) : Sim S pc ls ((0, q2) :: (0, q1) :: (0, q0) :: (2, b) :: st) k n h (c_k h 11 b (bd_ (f_M_laysIn b q0 q1 q2 h) f)) := s_callV hS mo_X10_laysIn rfl rfl (c_M_laysIn _ _ _ _ _ _ h) tw_1442 tw_1444 tw_63 hR hk rfl rfl hl d kk
abbrev S_M_begins (G : GE) (X : SMw) : SX := (G, X, 3, 0, 0, none, 1, 23)
set_option maxRecDepth 100000 in
set_option maxHeartbeats 4000000 in
theorem B_M_begins_114 {G : GE} {X : SMw} (hS : SO (S_M_begins G X) RX10 cX10_begins) (z0 z1 : Int) {k88 : Int → AH → Option (Int × AH)} (hk88 : ∀ (z1 : Int) (h : AH), Sim (S_M_begins G X) 88 [(0, 2, z0), (1, 0, z1)] [] 0 0 h (k88 z1 h)) {k114 : Int → AH → Option (Int × AH)} (hk114 : ∀ (z2 : Int) (h : AH), Sim (S_M_begins G X) 114 [(0, 2, z0), (1, 0, z1), (2, 0, z2)] [] 0 0 h (k114 z2 h)) (z2 : Int) (h : AH) : Sim (S_M_begins G X) 114 [(0, 2, z0), (1, 0, z1), (2, 0, z2)] [] 0 0 h (F_M_begins_114 k88 z0 z1 k114 z2 h) := by
  unfold F_M_begins_114
  refine s_iload_n hS dX10_begins_114 rfl 2 rfl ?_
  refine s_iconst hS dX10_begins_115 ?_
  refine s_icmp_ge hS dX10_begins_116 rfl ?_ ?_
  · refine s_iinc hS dX10_begins_141 1 rfl (Nat.le_of_ble_eq_true rfl) (ls' := [(1, 0, (z1 + 1)), (0, 2, z0), (2, 0, z2)]) rfl ?_
    refine s_goto hS dX10_begins_144 rfl ?_
    refine s_ls [1, 0] rfl ?_
    exact hk88 _ _
  · refine s_aload_n hS dX10_begins_119 rfl 0 rfl ?_
    refine gf_X10_39 hS dX10_begins_120 fun v1 => ?_
    refine s_sipush hS dX10_begins_123 (by decide +kernel) ?_
    refine s_iconst hS dX10_begins_126 ?_
    refine s_iload_n hS dX10_begins_127 rfl 1 rfl ?_
    refine s_imul hS dX10_begins_128 ?_
    refine s_iadd hS dX10_begins_129 ?_
    refine s_iload_n hS dX10_begins_130 rfl 2 rfl ?_
    refine s_iadd hS dX10_begins_131 ?_
    refine s_bipush hS dX10_begins_132 (by decide +kernel) ?_
    refine s_iast hS dX10_begins_134 fun h2 => ?_
    refine s_iinc hS dX10_begins_135 2 rfl (Nat.le_of_ble_eq_true rfl) (ls' := [(2, 0, (z2 + 1)), (0, 2, z0), (1, 0, z1)]) rfl ?_
    refine s_goto hS dX10_begins_138 rfl ?_
    refine s_ls [1, 2, 0] rfl ?_
    exact hk114 _ _
set_option maxRecDepth 100000 in
set_option maxHeartbeats 4000000 in
theorem b_M_begins_114 {G : GE} {X : SMw} (hS : SO (S_M_begins G X) RX10 cX10_begins) (z0 z1 : Int) {k88 : Int → AH → Option (Int × AH)} (hk88 : ∀ (z1 : Int) (h : AH), Sim (S_M_begins G X) 88 [(0, 2, z0), (1, 0, z1)] [] 0 0 h (k88 z1 h)) (z2 : Int) (h : AH) : Sim (S_M_begins G X) 114 [(0, 2, z0), (1, 0, z1), (2, 0, z2)] [] 0 0 h (f_M_begins_114 k88 z0 z1 z2 h) := by
  exact s_loop (S := (S_M_begins G X)) (lsf := fun s : Int × AH => [(0, 2, z0), (1, 0, z1), (2, 0, s.1)]) (hf := fun s => s.2) (fun kf hkf s => B_M_begins_114 hS z0 z1 hk88 (fun a0 a1 => hkf (a0, a1)) s.1 s.2) fu_ (z2, h)
set_option maxRecDepth 100000 in
set_option maxHeartbeats 4000000 in
theorem B_M_begins_88 {G : GE} {X : SMw} (hS : SO (S_M_begins G X) RX10 cX10_begins) (z0 : Int) {k88 : Int → AH → Option (Int × AH)} (hk88 : ∀ (z1 : Int) (h : AH), Sim (S_M_begins G X) 88 [(0, 2, z0), (1, 0, z1)] [] 0 0 h (k88 z1 h)) (z1 : Int) (h : AH) : Sim (S_M_begins G X) 88 [(0, 2, z0), (1, 0, z1)] [] 0 0 h (F_M_begins_88 z0 k88 z1 h) := by
  unfold F_M_begins_88
  refine s_iload_n hS dX10_begins_88 rfl 1 rfl ?_
  refine s_iconst hS dX10_begins_89 ?_
  refine s_icmp_ge hS dX10_begins_90 rfl ?_ ?_
  · exact s_vret hS rfl (Nat.le_of_ble_eq_true rfl) (Nat.le_of_ble_eq_true rfl) dX10_begins_147
  · refine s_aload_n hS dX10_begins_93 rfl 0 rfl ?_
    refine gf_X10_39 hS dX10_begins_94 fun v1 => ?_
    refine s_sipush hS dX10_begins_97 (by decide +kernel) ?_
    refine s_iload_n hS dX10_begins_100 rfl 1 rfl ?_
    refine s_iadd hS dX10_begins_101 ?_
    refine s_aload_n hS dX10_begins_102 rfl 0 rfl ?_
    refine gf_X10_39 hS dX10_begins_103 fun v2 => ?_
    refine s_bipush hS dX10_begins_106 (by decide +kernel) ?_
    refine s_iload_n hS dX10_begins_108 rfl 1 rfl ?_
    refine s_iadd hS dX10_begins_109 ?_
    refine s_iald hS dX10_begins_110 fun v3 => ?_
    refine s_iast hS dX10_begins_111 fun h4 => ?_
    refine s_iconst hS dX10_begins_112 ?_
    refine s_istore_n hS dX10_begins_113 rfl (Nat.le_of_ble_eq_true rfl) (ls' := [(2, 0, 0), (0, 2, z0), (1, 0, z1)]) rfl ?_
    refine s_ls [1, 2, 0] rfl ?_
    exact b_M_begins_114 hS _ _ hk88 _ _
set_option maxRecDepth 100000 in
set_option maxHeartbeats 4000000 in
theorem b_M_begins_88 {G : GE} {X : SMw} (hS : SO (S_M_begins G X) RX10 cX10_begins) (z0 : Int) (z1 : Int) (h : AH) : Sim (S_M_begins G X) 88 [(0, 2, z0), (1, 0, z1)] [] 0 0 h (f_M_begins_88 z0 z1 h) := by
  exact s_loop (S := (S_M_begins G X)) (lsf := fun s : Int × AH => [(0, 2, z0), (1, 0, s.1)]) (hf := fun s => s.2) (fun kf hkf s => B_M_begins_88 hS z0 (fun a0 a1 => hkf (a0, a1)) s.1 s.2) fu_ (z1, h)
set_option maxRecDepth 100000 in
set_option maxHeartbeats 4000000 in
theorem b_M_begins_77 {G : GE} {X : SMw} (hS : SO (S_M_begins G X) RX10 cX10_begins) (z0 : Int) {k28 : Int → AH → Option (Int × AH)} (hk28 : ∀ (z1 : Int) (h : AH), Sim (S_M_begins G X) 28 [(0, 2, z0), (1, 0, z1)] [] 0 0 h (k28 z1 h)) (z1 w0 w1 w2 w3 : Int) (h : AH) : Sim (S_M_begins G X) 77 [(0, 2, z0), (1, 0, z1)] [(0, w3), (0, w2), (0, w1), (2, w0)] 0 0 h (f_M_begins_77 k28 z0 z1 w0 w1 w2 w3 h) := by
  unfold f_M_begins_77
  refine ca_X10_300 hS ⟨Nat.le_of_ble_eq_true rfl, Nat.le_of_ble_eq_true rfl⟩ ⟨Nat.le_of_ble_eq_true rfl, Nat.le_of_ble_eq_true rfl⟩ (Nat.le_of_ble_eq_true rfl) dX10_begins_77 fun v1 h2 => ?_
  refine s_iinc hS dX10_begins_80 1 rfl (Nat.le_of_ble_eq_true rfl) (ls' := [(1, 0, (z1 + 1)), (0, 2, z0)]) rfl ?_
  refine s_goto hS dX10_begins_83 rfl ?_
  refine s_ls [1, 0] rfl ?_
  exact hk28 _ _
set_option maxRecDepth 100000 in
set_option maxHeartbeats 4000000 in
theorem B_M_begins_28 {G : GE} {X : SMw} (hS : SO (S_M_begins G X) RX10 cX10_begins) (z0 : Int) {k28 : Int → AH → Option (Int × AH)} (hk28 : ∀ (z1 : Int) (h : AH), Sim (S_M_begins G X) 28 [(0, 2, z0), (1, 0, z1)] [] 0 0 h (k28 z1 h)) (z1 : Int) (h : AH) : Sim (S_M_begins G X) 28 [(0, 2, z0), (1, 0, z1)] [] 0 0 h (F_M_begins_28 z0 k28 z1 h) := by
  unfold F_M_begins_28
  refine s_iload_n hS dX10_begins_28 rfl 1 rfl ?_
  refine s_aload_n hS dX10_begins_29 rfl 0 rfl ?_
  refine gf_X10_39 hS dX10_begins_30 fun v1 => ?_
  refine s_iconst hS dX10_begins_33 ?_
  refine s_iald hS dX10_begins_34 fun v2 => ?_
  refine s_icmp_ge hS dX10_begins_35 rfl ?_ ?_
  · refine s_iconst hS dX10_begins_86 ?_
    refine s_istore_n hS dX10_begins_87 rfl (Nat.le_of_ble_eq_true rfl) (ls' := [(1, 0, 0), (0, 2, z0)]) rfl ?_
    refine s_ls [1, 0] rfl ?_
    exact b_M_begins_88 hS _ _ _
  · refine s_aload_n hS dX10_begins_38 rfl 0 rfl ?_
    refine gf_X10_39 hS dX10_begins_39 fun v3 => ?_
    refine s_iconst hS dX10_begins_42 ?_
    refine s_iload_n hS dX10_begins_43 rfl 1 rfl ?_
    refine s_iadd hS dX10_begins_44 ?_
    refine s_iald hS dX10_begins_45 fun v4 => ?_
    refine s_if_lt hS dX10_begins_46 rfl ?_ ?_
    · refine s_iinc hS dX10_begins_80 1 rfl (Nat.le_of_ble_eq_true rfl) (ls' := [(1, 0, (z1 + 1)), (0, 2, z0)]) rfl ?_
      refine s_goto hS dX10_begins_83 rfl ?_
      refine s_ls [1, 0] rfl ?_
      exact hk28 _ _
    · refine s_aload_n hS dX10_begins_49 rfl 0 rfl ?_
      refine s_iload_n hS dX10_begins_50 rfl 1 rfl ?_
      refine s_aload_n hS dX10_begins_51 rfl 0 rfl ?_
      refine gf_X10_39 hS dX10_begins_52 fun v5 => ?_
      refine s_iconst hS dX10_begins_55 ?_
      refine s_iload_n hS dX10_begins_56 rfl 1 rfl ?_
      refine s_iadd hS dX10_begins_57 ?_
      refine s_iald hS dX10_begins_58 fun v6 => ?_
      refine s_aload_n hS dX10_begins_59 rfl 0 rfl ?_
      refine gf_X10_39 hS dX10_begins_60 fun v7 => ?_
      refine s_bipush hS dX10_begins_63 (by decide +kernel) ?_
      refine s_iload_n hS dX10_begins_65 rfl 1 rfl ?_
      refine s_iadd hS dX10_begins_66 ?_
      refine s_iald hS dX10_begins_67 fun v8 => ?_
      refine s_iconst hS dX10_begins_68 ?_
      refine s_icmp_ne hS dX10_begins_69 rfl ?_ ?_
      · refine s_iconst hS dX10_begins_76 ?_
        exact b_M_begins_77 hS _ hk28 _ _ _ _ _ _
      · refine s_iconst hS dX10_begins_72 ?_
        refine s_goto hS dX10_begins_73 rfl ?_
        exact b_M_begins_77 hS _ hk28 _ _ _ _ _ _
set_option maxRecDepth 100000 in
set_option maxHeartbeats 4000000 in
theorem b_M_begins_28 {G : GE} {X : SMw} (hS : SO (S_M_begins G X) RX10 cX10_begins) (z0 : Int) (z1 : Int) (h : AH) : Sim (S_M_begins G X) 28 [(0, 2, z0), (1, 0, z1)] [] 0 0 h (f_M_begins_28 z0 z1 h) := by
  exact s_loop (S := (S_M_begins G X)) (lsf := fun s : Int × AH => [(0, 2, z0), (1, 0, s.1)]) (hf := fun s => s.2) (fun kf hkf s => B_M_begins_28 hS z0 (fun a0 a1 => hkf (a0, a1)) s.1 s.2) fu_ (z1, h)
set_option maxRecDepth 100000 in
set_option maxHeartbeats 4000000 in
theorem B_M_begins_2 {G : GE} {X : SMw} (hS : SO (S_M_begins G X) RX10 cX10_begins) (z0 : Int) {k2 : Int → AH → Option (Int × AH)} (hk2 : ∀ (z1 : Int) (h : AH), Sim (S_M_begins G X) 2 [(0, 2, z0), (1, 0, z1)] [] 0 0 h (k2 z1 h)) (z1 : Int) (h : AH) : Sim (S_M_begins G X) 2 [(0, 2, z0), (1, 0, z1)] [] 0 0 h (F_M_begins_2 z0 k2 z1 h) := by
  unfold F_M_begins_2
  refine s_iload_n hS dX10_begins_2 rfl 1 rfl ?_
  refine s_sipush hS dX10_begins_3 (by decide +kernel) ?_
  refine s_icmp_ge hS dX10_begins_6 rfl ?_ ?_
  · refine s_iconst hS dX10_begins_26 ?_
    refine s_istore_n hS dX10_begins_27 rfl (Nat.le_of_ble_eq_true rfl) (ls' := [(1, 0, 0), (0, 2, z0)]) rfl ?_
    refine s_ls [1, 0] rfl ?_
    exact b_M_begins_28 hS _ _ _
  · refine s_aload_n hS dX10_begins_9 rfl 0 rfl ?_
    refine gf_X10_39 hS dX10_begins_10 fun v1 => ?_
    refine s_sipush hS dX10_begins_13 (by decide +kernel) ?_
    refine s_iload_n hS dX10_begins_16 rfl 1 rfl ?_
    refine s_iadd hS dX10_begins_17 ?_
    refine s_iconst hS dX10_begins_18 ?_
    refine s_iast hS dX10_begins_19 fun h2 => ?_
    refine s_iinc hS dX10_begins_20 1 rfl (Nat.le_of_ble_eq_true rfl) (ls' := [(1, 0, (z1 + 1)), (0, 2, z0)]) rfl ?_
    refine s_goto hS dX10_begins_23 rfl ?_
    refine s_ls [1, 0] rfl ?_
    exact hk2 _ _
set_option maxRecDepth 100000 in
set_option maxHeartbeats 4000000 in
theorem b_M_begins_2 {G : GE} {X : SMw} (hS : SO (S_M_begins G X) RX10 cX10_begins) (z0 : Int) (z1 : Int) (h : AH) : Sim (S_M_begins G X) 2 [(0, 2, z0), (1, 0, z1)] [] 0 0 h (f_M_begins_2 z0 z1 h) := by
  exact s_loop (S := (S_M_begins G X)) (lsf := fun s : Int × AH => [(0, 2, z0), (1, 0, s.1)]) (hf := fun s => s.2) (fun kf hkf s => B_M_begins_2 hS z0 (fun a0 a1 => hkf (a0, a1)) s.1 s.2) fu_ (z1, h)
set_option maxRecDepth 100000 in
set_option maxHeartbeats 4000000 in
theorem b_M_begins {G : GE} {X : SMw} (hS : SO (S_M_begins G X) RX10 cX10_begins) (z0 : Int) (h : AH) : Sim (S_M_begins G X) 0 [(0, 2, z0)] [] 0 0 h (f_M_begins z0 h) := by
  unfold f_M_begins
  refine s_iconst hS dX10_begins_0 ?_
  refine s_istore_n hS dX10_begins_1 rfl (Nat.le_of_ble_eq_true rfl) (ls' := [(1, 0, 0), (0, 2, z0)]) rfl ?_
  refine s_ls [1, 0] rfl ?_
  exact b_M_begins_2 hS _ _ _
theorem c_M_begins (l : Launch) (G : GE) (z0 : Int) (h : AH) : Con l yX10_begins cX10_begins 3 none 1 23 0 0 G [(2, z0)] h (f_M_begins z0 h) :=
  con_of (by decide +kernel) (Nat.le_of_ble_eq_true rfl) fun X hX hS hi => b_M_begins hS z0 h
theorem ca_X10_263 {S : SX} {cc : ByteArray} {pc : Nat} {ls : List (Nat × Nat × Int)} {st : List (Nat × Int)} {k n : Nat} {h : AH} {b : Int} {f : Int → AH → Option (Int × AH)} (hS : SO S RX10 cc) (hR : 1 + 1 ≤ S.2.2.2.2.2.2.1 ∧ 8 + (3 + 11) + 23 ≤ S.2.2.2.2.2.2.2) (hk : k + 0 ≤ S.2.2.2.1 ∧ n + 0 ≤ S.2.2.2.2.1) (hl : st.length ≤ 4) (d : decode cc pc = .ok (.invokevirtual 263, 3)) (kk : ∀ (r : Int) (h2 : AH), Sim S (pc + 3) ls (st) (k + 0) (n + 0) h2 (f r h2)) : Sim S pc ls ((2, b) :: st) k n h (c_k h 11 b (bd_ (f_M_begins b h) f)) := s_callV hS mo_X10_begins rfl rfl (c_M_begins _ _ _ h) tw_1438 tw_1440 tw_62 hR hk rfl rfl hl d kk
theorem pf_X10_266 {S : SX} {cc : ByteArray} {pc : Nat} {ls : List (Nat × Nat × Int)} {st : List (Nat × Int)} {k n : Nat} {h : AH} {a v : Int} {f : AH → Option (Int × AH)} (hS : SO S RX10 cc) (d : decode cc pc = .ok (.putfield 266, 3)) (kk : ∀ h2 : AH, Sim S (pc + 3) ls st k n h2 (f h2)) : Sim S pc ls ((0, v) :: (2, a) :: st) k n h ((s_f h 11 a 24 v).bind f) := s_putf hS cx_10 24 (by decide) tw_1162 rfl rfl (Or.inl rfl) rfl rfl d kk
abbrev S_M_election (G : GE) (X : SMw) : SX := (G, X, 2, 0, 0, (some .int), 12, 262)
set_option maxRecDepth 100000 in
set_option maxHeartbeats 4000000 in
theorem B_M_election_45 {G : GE} {X : SMw} (hS : SO (S_M_election G X) RX10 cX10_election) (z0 : Int) {k45 : Int → AH → Option (Int × AH)} (hk45 : ∀ (z1 : Int) (h : AH), Sim (S_M_election G X) 45 [(0, 2, z0), (1, 0, z1)] [] 0 0 h (k45 z1 h)) (z1 : Int) (h : AH) : Sim (S_M_election G X) 45 [(0, 2, z0), (1, 0, z1)] [] 0 0 h (F_M_election_45 z0 k45 z1 h) := by
  unfold F_M_election_45
  refine s_iload_n hS dX10_election_45 rfl 1 rfl ?_
  refine s_sipush hS dX10_election_46 (by decide +kernel) ?_
  refine s_icmp_ge hS dX10_election_49 rfl ?_ ?_
  · refine s_aload_n hS dX10_election_81 rfl 0 rfl ?_
    refine ca_X10_263 hS ⟨Nat.le_of_ble_eq_true rfl, Nat.le_of_ble_eq_true rfl⟩ ⟨Nat.le_of_ble_eq_true rfl, Nat.le_of_ble_eq_true rfl⟩ (Nat.le_of_ble_eq_true rfl) dX10_election_82 fun v1 h2 => ?_
    refine s_aload_n hS dX10_election_85 rfl 0 rfl ?_
    refine s_iconst hS dX10_election_86 ?_
    refine pf_X10_266 hS dX10_election_87 fun h3 => ?_
    refine s_aload_n hS dX10_election_90 rfl 0 rfl ?_
    refine gf_X10_39 hS dX10_election_91 fun v4 => ?_
    refine s_iconst hS dX10_election_94 ?_
    refine s_iald hS dX10_election_95 fun v5 => ?_
    exact s_iret hS rfl (Nat.le_of_ble_eq_true rfl) (Nat.le_of_ble_eq_true rfl) dX10_election_96
  · refine s_aload_n hS dX10_election_52 rfl 0 rfl ?_
    refine gf_X10_39 hS dX10_election_53 fun v6 => ?_
    refine s_iload_n hS dX10_election_56 rfl 1 rfl ?_
    refine s_iload_n hS dX10_election_57 rfl 1 rfl ?_
    refine s_sipush hS dX10_election_58 (by decide +kernel) ?_
    refine s_icmp_ge hS dX10_election_61 rfl ?_ ?_
    · refine s_iconst hS dX10_election_73 ?_
      refine s_iast hS dX10_election_74 fun h7 => ?_
      refine s_iinc hS dX10_election_75 1 rfl (Nat.le_of_ble_eq_true rfl) (ls' := [(1, 0, (z1 + 1)), (0, 2, z0)]) rfl ?_
      refine s_goto hS dX10_election_78 rfl ?_
      refine s_ls [1, 0] rfl ?_
      exact hk45 _ _
    · refine s_aload_n hS dX10_election_64 rfl 0 rfl ?_
      refine gf_X10_26 hS dX10_election_65 fun v8 => ?_
      refine s_iload_n hS dX10_election_68 rfl 1 rfl ?_
      refine s_iald hS dX10_election_69 fun v9 => ?_
      refine s_goto hS dX10_election_70 rfl ?_
      refine s_iast hS dX10_election_74 fun h10 => ?_
      refine s_iinc hS dX10_election_75 1 rfl (Nat.le_of_ble_eq_true rfl) (ls' := [(1, 0, (z1 + 1)), (0, 2, z0)]) rfl ?_
      refine s_goto hS dX10_election_78 rfl ?_
      refine s_ls [1, 0] rfl ?_
      exact hk45 _ _
set_option maxRecDepth 100000 in
set_option maxHeartbeats 4000000 in
theorem b_M_election_45 {G : GE} {X : SMw} (hS : SO (S_M_election G X) RX10 cX10_election) (z0 : Int) (z1 : Int) (h : AH) : Sim (S_M_election G X) 45 [(0, 2, z0), (1, 0, z1)] [] 0 0 h (f_M_election_45 z0 z1 h) := by
  exact s_loop (S := (S_M_election G X)) (lsf := fun s : Int × AH => [(0, 2, z0), (1, 0, s.1)]) (hf := fun s => s.2) (fun kf hkf s => B_M_election_45 hS z0 (fun a0 a1 => hkf (a0, a1)) s.1 s.2) fu_ (z1, h)
set_option maxRecDepth 100000 in
set_option maxHeartbeats 4000000 in
theorem B_M_election_8 {G : GE} {X : SMw} (hS : SO (S_M_election G X) RX10 cX10_election) (z0 : Int) {k8 : Int → AH → Option (Int × AH)} (hk8 : ∀ (z1 : Int) (h : AH), Sim (S_M_election G X) 8 [(0, 2, z0), (1, 0, z1)] [] 0 0 h (k8 z1 h)) (z1 : Int) (h : AH) : Sim (S_M_election G X) 8 [(0, 2, z0), (1, 0, z1)] [] 0 0 h (F_M_election_8 z0 k8 z1 h) := by
  unfold F_M_election_8
  refine s_iload_n hS dX10_election_8 rfl 1 rfl ?_
  refine s_sipush hS dX10_election_9 (by decide +kernel) ?_
  refine s_icmp_ge hS dX10_election_12 rfl ?_ ?_
  · refine s_aload_n hS dX10_election_28 rfl 0 rfl ?_
    refine ca_X10_260 hS ⟨Nat.le_of_ble_eq_true rfl, Nat.le_of_ble_eq_true rfl⟩ ⟨Nat.le_of_ble_eq_true rfl, Nat.le_of_ble_eq_true rfl⟩ (Nat.le_of_ble_eq_true rfl) dX10_election_29 fun v1 h2 => ?_
    refine s_if_ne hS dX10_election_32 rfl ?_ ?_
    · refine s_iconst hS dX10_election_43 ?_
      refine s_istore_n hS dX10_election_44 rfl (Nat.le_of_ble_eq_true rfl) (ls' := [(1, 0, 0), (0, 2, z0)]) rfl ?_
      refine s_ls [1, 0] rfl ?_
      exact b_M_election_45 hS _ _ _
    · refine s_bipush hS dX10_election_35 (by decide +kernel) ?_
      refine s_aload_n hS dX10_election_37 rfl 0 rfl ?_
      refine gf_X10_90 hS dX10_election_38 fun v3 => ?_
      refine s_isub hS dX10_election_41 ?_
      exact s_iret hS rfl (Nat.le_of_ble_eq_true rfl) (Nat.le_of_ble_eq_true rfl) dX10_election_42
  · refine s_aload_n hS dX10_election_15 rfl 0 rfl ?_
    refine gf_X10_26 hS dX10_election_16 fun v4 => ?_
    refine s_iload_n hS dX10_election_19 rfl 1 rfl ?_
    refine s_iconst hS dX10_election_20 ?_
    refine s_iast hS dX10_election_21 fun h5 => ?_
    refine s_iinc hS dX10_election_22 1 rfl (Nat.le_of_ble_eq_true rfl) (ls' := [(1, 0, (z1 + 1)), (0, 2, z0)]) rfl ?_
    refine s_goto hS dX10_election_25 rfl ?_
    refine s_ls [1, 0] rfl ?_
    exact hk8 _ _
set_option maxRecDepth 100000 in
set_option maxHeartbeats 4000000 in
theorem b_M_election_8 {G : GE} {X : SMw} (hS : SO (S_M_election G X) RX10 cX10_election) (z0 : Int) (z1 : Int) (h : AH) : Sim (S_M_election G X) 8 [(0, 2, z0), (1, 0, z1)] [] 0 0 h (f_M_election_8 z0 z1 h) := by
  exact s_loop (S := (S_M_election G X)) (lsf := fun s : Int × AH => [(0, 2, z0), (1, 0, s.1)]) (hf := fun s => s.2) (fun kf hkf s => B_M_election_8 hS z0 (fun a0 a1 => hkf (a0, a1)) s.1 s.2) fu_ (z1, h)
set_option maxRecDepth 100000 in
set_option maxHeartbeats 4000000 in
theorem b_M_election {G : GE} {X : SMw} (hS : SO (S_M_election G X) RX10 cX10_election) (z0 : Int) (h : AH) : Sim (S_M_election G X) 0 [(0, 2, z0)] [] 0 0 h (f_M_election z0 h) := by
  unfold f_M_election
  refine s_aload_n hS dX10_election_0 rfl 0 rfl ?_
  refine s_bipush hS dX10_election_1 (by decide +kernel) ?_
  refine pf_X10_145 hS dX10_election_3 fun h1 => ?_
  refine s_iconst hS dX10_election_6 ?_
  refine s_istore_n hS dX10_election_7 rfl (Nat.le_of_ble_eq_true rfl) (ls' := [(1, 0, 0), (0, 2, z0)]) rfl ?_
  refine s_ls [1, 0] rfl ?_
  exact b_M_election_8 hS _ _ _
theorem c_M_election (l : Launch) (G : GE) (z0 : Int) (h : AH) : Con l yX10_election cX10_election 2 (some .int) 12 262 0 0 G [(2, z0)] h (f_M_election z0 h) :=
  con_of (by decide +kernel) (Nat.le_of_ble_eq_true rfl) fun X hX hS hi => b_M_election hS z0 h
abbrev S_M_isRule (G : GE) (X : SMw) : SX := (G, X, 2, 0, 0, (some .boolean), 0, 0)
set_option maxRecDepth 100000 in
set_option maxHeartbeats 4000000 in
theorem b_M_isRule {G : GE} {X : SMw} (hS : SO (S_M_isRule G X) RX10 cX10_isRule) (z0 z1 : Int) (h : AH) : Sim (S_M_isRule G X) 0 [(0, 2, z0), (1, 0, z1)] [] 0 0 h (f_M_isRule z0 z1 h) := by
  unfold f_M_isRule
  refine s_iload_n hS dX10_isRule_0 rfl 1 rfl ?_
  refine s_if_lt hS dX10_isRule_1 rfl ?_ ?_
  · refine s_iconst hS dX10_isRule_16 ?_
    exact s_zret hS rfl (Nat.le_of_ble_eq_true rfl) (Nat.le_of_ble_eq_true rfl) dX10_isRule_17
  · refine s_iload_n hS dX10_isRule_4 rfl 1 rfl ?_
    refine s_aload_n hS dX10_isRule_5 rfl 0 rfl ?_
    refine gf_X10_257 hS dX10_isRule_6 fun v1 => ?_
    refine s_icmp_ge hS dX10_isRule_9 rfl ?_ ?_
    · refine s_iconst hS dX10_isRule_16 ?_
      exact s_zret hS rfl (Nat.le_of_ble_eq_true rfl) (Nat.le_of_ble_eq_true rfl) dX10_isRule_17
    · refine s_iconst hS dX10_isRule_12 ?_
      refine s_goto hS dX10_isRule_13 rfl ?_
      exact s_zret hS rfl (Nat.le_of_ble_eq_true rfl) (Nat.le_of_ble_eq_true rfl) dX10_isRule_17
theorem c_M_isRule (l : Launch) (G : GE) (z0 z1 : Int) (h : AH) : Con l yX10_isRule cX10_isRule 2 (some .boolean) 0 0 0 0 G [(2, z0), (0, z1)] h (f_M_isRule z0 z1 h) :=
  con_of (by decide +kernel) (Nat.le_of_ble_eq_true rfl) fun X hX hS hi => b_M_isRule hS z0 z1 h
theorem gf_X10_32 {S : SX} {cc : ByteArray} {pc : Nat} {ls : List (Nat × Nat × Int)} {st : List (Nat × Int)} {k n : Nat} {h : AH} {a : Int} {f : Int → Option (Int × AH)} (hS : SO S RX10 cc) (d : decode cc pc = .ok (.getfield 32, 3)) (kk : ∀ v : Int, Sim S (pc + 3) ls ((2, v) :: st) k n h (f v)) : Sim S pc ls ((2, a) :: st) k n h ((g_f h 11 a 17).bind f) := s_getf hS cx_10 17 (by decide) tw_1155 rfl rfl rfl d kk
theorem gf_X10_269 {S : SX} {cc : ByteArray} {pc : Nat} {ls : List (Nat × Nat × Int)} {st : List (Nat × Int)} {k n : Nat} {h : AH} {a : Int} {f : Int → Option (Int × AH)} (hS : SO S RX10 cc) (d : decode cc pc = .ok (.getfield 269, 3)) (kk : ∀ v : Int, Sim S (pc + 3) ls ((0, v) :: st) k n h (f v)) : Sim S pc ls ((2, a) :: st) k n h ((g_f h 11 a 18).bind f) := s_getf hS cx_10 18 (by decide) tw_1156 rfl rfl rfl d kk
theorem pf_X10_269 {S : SX} {cc : ByteArray} {pc : Nat} {ls : List (Nat × Nat × Int)} {st : List (Nat × Int)} {k n : Nat} {h : AH} {a v : Int} {f : AH → Option (Int × AH)} (hS : SO S RX10 cc) (d : decode cc pc = .ok (.putfield 269, 3)) (kk : ∀ h2 : AH, Sim S (pc + 3) ls st k n h2 (f h2)) : Sim S pc ls ((0, v) :: (2, a) :: st) k n h ((s_f h 11 a 18 v).bind f) := s_putf hS cx_10 18 (by decide) tw_1156 rfl rfl (Or.inl rfl) rfl rfl d kk
abbrev S_M_push (G : GE) (X : SMw) : SX := (G, X, 3, 0, 0, none, 0, 0)
set_option maxRecDepth 100000 in
set_option maxHeartbeats 4000000 in
theorem b_M_push {G : GE} {X : SMw} (hS : SO (S_M_push G X) RX10 cX10_push) (z0 z1 : Int) (h : AH) : Sim (S_M_push G X) 0 [(0, 2, z0), (1, 1, z1)] [] 0 0 h (f_M_push z0 z1 h) := by
  unfold f_M_push
  refine s_aload_n hS dX10_push_0 rfl 0 rfl ?_
  refine gf_X10_32 hS dX10_push_1 fun v1 => ?_
  refine s_aload_n hS dX10_push_4 rfl 0 rfl ?_
  refine gf_X10_269 hS dX10_push_5 fun v2 => ?_
  refine s_lload_n hS dX10_push_8 rfl 1 rfl ?_
  refine s_last hS dX10_push_9 fun h3 => ?_
  refine s_aload_n hS dX10_push_10 rfl 0 rfl ?_
  refine s_dup hS dX10_push_11 (by decide) ?_
  refine gf_X10_269 hS dX10_push_12 fun v4 => ?_
  refine s_iconst hS dX10_push_15 ?_
  refine s_iadd hS dX10_push_16 ?_
  refine pf_X10_269 hS dX10_push_17 fun h5 => ?_
  exact s_vret hS rfl (Nat.le_of_ble_eq_true rfl) (Nat.le_of_ble_eq_true rfl) dX10_push_20
theorem c_M_push (l : Launch) (G : GE) (z0 z1 : Int) (h : AH) : Con l yX10_push cX10_push 3 none 0 0 0 0 G [(2, z0), (1, z1)] h (f_M_push z0 z1 h) :=
  con_of (by decide +kernel) (Nat.le_of_ble_eq_true rfl) fun X hX hS hi => b_M_push hS z0 z1 h
abbrev S_M_pop (G : GE) (X : SMw) : SX := (G, X, 1, 0, 0, (some .long), 0, 0)
set_option maxRecDepth 100000 in
set_option maxHeartbeats 4000000 in
theorem b_M_pop {G : GE} {X : SMw} (hS : SO (S_M_pop G X) RX10 cX10_pop) (z0 : Int) (h : AH) : Sim (S_M_pop G X) 0 [(0, 2, z0)] [] 0 0 h (f_M_pop z0 h) := by
  unfold f_M_pop
  refine s_aload_n hS dX10_pop_0 rfl 0 rfl ?_
  refine s_dup hS dX10_pop_1 (by decide) ?_
  refine gf_X10_269 hS dX10_pop_2 fun v1 => ?_
  refine s_iconst hS dX10_pop_5 ?_
  refine s_isub hS dX10_pop_6 ?_
  refine pf_X10_269 hS dX10_pop_7 fun h2 => ?_
  refine s_aload_n hS dX10_pop_10 rfl 0 rfl ?_
  refine gf_X10_32 hS dX10_pop_11 fun v3 => ?_
  refine s_aload_n hS dX10_pop_14 rfl 0 rfl ?_
  refine gf_X10_269 hS dX10_pop_15 fun v4 => ?_
  refine s_lald hS dX10_pop_18 fun v5 => ?_
  exact s_lret hS rfl (Nat.le_of_ble_eq_true rfl) (Nat.le_of_ble_eq_true rfl) dX10_pop_19
theorem c_M_pop (l : Launch) (G : GE) (z0 : Int) (h : AH) : Con l yX10_pop cX10_pop 1 (some .long) 0 0 0 0 G [(2, z0)] h (f_M_pop z0 h) :=
  con_of (by decide +kernel) (Nat.le_of_ble_eq_true rfl) fun X hX hS hi => b_M_pop hS z0 h
abbrev S_M_one (G : GE) (X : SMw) : SX := (G, X, 5, 0, 0, (some .long), 0, 0)
set_option maxRecDepth 100000 in
set_option maxHeartbeats 4000000 in
theorem b_M_one {G : GE} {X : SMw} (hS : SO (S_M_one G X) RX10 cX10_one) (z0 z1 z3 : Int) (h : AH) : Sim (S_M_one G X) 0 [(0, 0, z0), (1, 1, z1), (3, 1, z3)] [] 0 0 h (f_M_one z0 z1 z3 h) := by
  unfold f_M_one
  refine s_iload_n hS dX10_one_0 rfl 0 rfl ?_
  refine s_swI hS 2 dX10_one_1 (by decide) (by decide) rfl rfl ?_ fun e0 => ?_
  · refine s_lload_n hS dX10_one_68 rfl 1 rfl ?_
    refine s_lload_n hS dX10_one_69 rfl 2 rfl ?_
    refine s_ladd hS dX10_one_70 ?_
    exact s_lret hS rfl (Nat.le_of_ble_eq_true rfl) (Nat.le_of_ble_eq_true rfl) dX10_one_71
  refine s_swI hS 3 dX10_one_1 (by decide) (by decide) rfl rfl ?_ fun e1 => ?_
  · refine s_lload_n hS dX10_one_72 rfl 1 rfl ?_
    refine s_lload_n hS dX10_one_73 rfl 2 rfl ?_
    refine s_lsub hS dX10_one_74 ?_
    exact s_lret hS rfl (Nat.le_of_ble_eq_true rfl) (Nat.le_of_ble_eq_true rfl) dX10_one_75
  refine s_swI hS 4 dX10_one_1 (by decide) (by decide) rfl rfl ?_ fun e2 => ?_
  · refine s_lload_n hS dX10_one_76 rfl 1 rfl ?_
    refine s_lload_n hS dX10_one_77 rfl 2 rfl ?_
    refine s_lmul hS dX10_one_78 ?_
    exact s_lret hS rfl (Nat.le_of_ble_eq_true rfl) (Nat.le_of_ble_eq_true rfl) dX10_one_79
  refine s_swI hS 5 dX10_one_1 (by decide) (by decide) rfl rfl ?_ fun e3 => ?_
  · refine s_lload_n hS dX10_one_80 rfl 2 rfl ?_
    refine s_lconst0 hS dX10_one_81 ?_
    refine s_lcmp hS dX10_one_82 ?_
    refine s_if_ne hS dX10_one_83 rfl ?_ ?_
    · refine s_lload_n hS dX10_one_90 rfl 1 rfl ?_
      refine s_lload_n hS dX10_one_91 rfl 2 rfl ?_
      refine s_ldiv hS dX10_one_92 fun v1 => ?_
      exact s_lret hS rfl (Nat.le_of_ble_eq_true rfl) (Nat.le_of_ble_eq_true rfl) dX10_one_93
    · refine s_lconst0 hS dX10_one_86 ?_
      refine s_goto hS dX10_one_87 rfl ?_
      exact s_lret hS rfl (Nat.le_of_ble_eq_true rfl) (Nat.le_of_ble_eq_true rfl) dX10_one_93
  refine s_swI hS 6 dX10_one_1 (by decide) (by decide) rfl rfl ?_ fun e4 => ?_
  · refine s_lload_n hS dX10_one_108 rfl 1 rfl ?_
    refine s_lload_n hS dX10_one_109 rfl 2 rfl ?_
    refine s_lcmp hS dX10_one_110 ?_
    refine s_if_ge hS dX10_one_111 rfl ?_ ?_
    · refine s_lconst0 hS dX10_one_118 ?_
      exact s_lret hS rfl (Nat.le_of_ble_eq_true rfl) (Nat.le_of_ble_eq_true rfl) dX10_one_119
    · refine s_lconst1 hS dX10_one_114 ?_
      refine s_goto hS dX10_one_115 rfl ?_
      exact s_lret hS rfl (Nat.le_of_ble_eq_true rfl) (Nat.le_of_ble_eq_true rfl) dX10_one_119
  refine s_swI hS 7 dX10_one_1 (by decide) (by decide) rfl rfl ?_ fun e5 => ?_
  · refine s_lload_n hS dX10_one_120 rfl 1 rfl ?_
    refine s_lload_n hS dX10_one_121 rfl 2 rfl ?_
    refine s_lcmp hS dX10_one_122 ?_
    refine s_if_gt hS dX10_one_123 rfl ?_ ?_
    · refine s_lconst0 hS dX10_one_130 ?_
      exact s_lret hS rfl (Nat.le_of_ble_eq_true rfl) (Nat.le_of_ble_eq_true rfl) dX10_one_131
    · refine s_lconst1 hS dX10_one_126 ?_
      refine s_goto hS dX10_one_127 rfl ?_
      exact s_lret hS rfl (Nat.le_of_ble_eq_true rfl) (Nat.le_of_ble_eq_true rfl) dX10_one_131
  refine s_swI hS 8 dX10_one_1 (by decide) (by decide) rfl rfl ?_ fun e6 => ?_
  · refine s_lload_n hS dX10_one_132 rfl 1 rfl ?_
    refine s_lload_n hS dX10_one_133 rfl 2 rfl ?_
    refine s_lcmp hS dX10_one_134 ?_
    refine s_if_ne hS dX10_one_135 rfl ?_ ?_
    · refine s_lconst0 hS dX10_one_142 ?_
      exact s_lret hS rfl (Nat.le_of_ble_eq_true rfl) (Nat.le_of_ble_eq_true rfl) dX10_one_143
    · refine s_lconst1 hS dX10_one_138 ?_
      refine s_goto hS dX10_one_139 rfl ?_
      exact s_lret hS rfl (Nat.le_of_ble_eq_true rfl) (Nat.le_of_ble_eq_true rfl) dX10_one_143
  refine s_swI hS 9 dX10_one_1 (by decide) (by decide) rfl rfl ?_ fun e7 => ?_
  · refine s_lload_n hS dX10_one_144 rfl 1 rfl ?_
    refine s_lload_n hS dX10_one_145 rfl 2 rfl ?_
    refine s_lcmp hS dX10_one_146 ?_
    refine s_if_lt hS dX10_one_147 rfl ?_ ?_
    · refine s_lconst0 hS dX10_one_154 ?_
      exact s_lret hS rfl (Nat.le_of_ble_eq_true rfl) (Nat.le_of_ble_eq_true rfl) dX10_one_155
    · refine s_lconst1 hS dX10_one_150 ?_
      refine s_goto hS dX10_one_151 rfl ?_
      exact s_lret hS rfl (Nat.le_of_ble_eq_true rfl) (Nat.le_of_ble_eq_true rfl) dX10_one_155
  refine s_swI hS 10 dX10_one_1 (by decide) (by decide) rfl rfl ?_ fun e8 => ?_
  · refine s_lload_n hS dX10_one_156 rfl 1 rfl ?_
    refine s_lload_n hS dX10_one_157 rfl 2 rfl ?_
    refine s_lcmp hS dX10_one_158 ?_
    refine s_if_le hS dX10_one_159 rfl ?_ ?_
    · refine s_lconst0 hS dX10_one_166 ?_
      exact s_lret hS rfl (Nat.le_of_ble_eq_true rfl) (Nat.le_of_ble_eq_true rfl) dX10_one_167
    · refine s_lconst1 hS dX10_one_162 ?_
      refine s_goto hS dX10_one_163 rfl ?_
      exact s_lret hS rfl (Nat.le_of_ble_eq_true rfl) (Nat.le_of_ble_eq_true rfl) dX10_one_167
  refine s_swI hS 11 dX10_one_1 (by decide) (by decide) rfl rfl ?_ fun e9 => ?_
  · refine s_lload_n hS dX10_one_172 rfl 1 rfl ?_
    refine s_lload_n hS dX10_one_173 rfl 2 rfl ?_
    refine s_lor hS dX10_one_174 ?_
    exact s_lret hS rfl (Nat.le_of_ble_eq_true rfl) (Nat.le_of_ble_eq_true rfl) dX10_one_175
  refine s_swI hS 12 dX10_one_1 (by decide) (by decide) rfl rfl ?_ fun e10 => ?_
  · refine s_lload_n hS dX10_one_168 rfl 1 rfl ?_
    refine s_lload_n hS dX10_one_169 rfl 2 rfl ?_
    refine s_land hS dX10_one_170 ?_
    exact s_lret hS rfl (Nat.le_of_ble_eq_true rfl) (Nat.le_of_ble_eq_true rfl) dX10_one_171
  refine s_swI hS 13 dX10_one_1 (by decide) (by decide) rfl rfl ?_ fun e11 => ?_
  · refine s_lload_n hS dX10_one_172 rfl 1 rfl ?_
    refine s_lload_n hS dX10_one_173 rfl 2 rfl ?_
    refine s_lor hS dX10_one_174 ?_
    exact s_lret hS rfl (Nat.le_of_ble_eq_true rfl) (Nat.le_of_ble_eq_true rfl) dX10_one_175
  refine s_swI hS 14 dX10_one_1 (by decide) (by decide) rfl rfl ?_ fun e12 => ?_
  · refine s_lload_n hS dX10_one_94 rfl 2 rfl ?_
    refine s_lconst0 hS dX10_one_95 ?_
    refine s_lcmp hS dX10_one_96 ?_
    refine s_if_ne hS dX10_one_97 rfl ?_ ?_
    · refine s_lload_n hS dX10_one_104 rfl 1 rfl ?_
      refine s_lload_n hS dX10_one_105 rfl 2 rfl ?_
      refine s_lrem hS dX10_one_106 fun v2 => ?_
      exact s_lret hS rfl (Nat.le_of_ble_eq_true rfl) (Nat.le_of_ble_eq_true rfl) dX10_one_107
    · refine s_lconst0 hS dX10_one_100 ?_
      refine s_goto hS dX10_one_101 rfl ?_
      exact s_lret hS rfl (Nat.le_of_ble_eq_true rfl) (Nat.le_of_ble_eq_true rfl) dX10_one_107
  refine s_swO hS dX10_one_1 (by omega) rfl ?_
  refine s_lload_n hS dX10_one_172 rfl 1 rfl ?_
  refine s_lload_n hS dX10_one_173 rfl 2 rfl ?_
  refine s_lor hS dX10_one_174 ?_
  exact s_lret hS rfl (Nat.le_of_ble_eq_true rfl) (Nat.le_of_ble_eq_true rfl) dX10_one_175
theorem c_M_one (l : Launch) (G : GE) (z0 z1 z3 : Int) (h : AH) : Con l yX10_one cX10_one 5 (some .long) 0 0 0 0 G [(0, z0), (1, z1), (1, z3)] h (f_M_one z0 z1 z3 h) :=
  con_of (by decide +kernel) (Nat.le_of_ble_eq_true rfl) fun X hX hS hi => b_M_one hS z0 z1 z3 h
theorem ca_X10_276 {S : SX} {cc : ByteArray} {pc : Nat} {ls : List (Nat × Nat × Int)} {st : List (Nat × Int)} {k n : Nat} {h : AH} {b : Int} {f : Int → AH → Option (Int × AH)} (hS : SO S RX10 cc) (hR : 0 + 1 ≤ S.2.2.2.2.2.2.1 ∧ 8 + (1 + 11) + 0 ≤ S.2.2.2.2.2.2.2) (hk : k + 0 ≤ S.2.2.2.1 ∧ n + 0 ≤ S.2.2.2.2.1) (hl : st.length ≤ 4) (d : decode cc pc = .ok (.invokevirtual 276, 3)) (kk : ∀ (r : Int) (h2 : AH), Sim S (pc + 3) ls ((1, r) :: st) (k + 0) (n + 0) h2 (f r h2)) : Sim S pc ls ((2, b) :: st) k n h (c_k h 11 b (bd_ (f_M_pop b h) f)) := s_callV hS mo_X10_pop rfl rfl (c_M_pop _ _ _ h) tw_1571 tw_1573 tw_86 hR hk rfl rfl hl d kk
theorem ca_X10_280 {S : SX} {cc : ByteArray} {pc : Nat} {ls : List (Nat × Nat × Int)} {st : List (Nat × Int)} {k n : Nat} {h : AH} {q0 q1 q2 : Int} {f : Int → AH → Option (Int × AH)} (hS : SO S RX10 cc) (hR : 0 + 1 ≤ S.2.2.2.2.2.2.1 ∧ 8 + (5 + 11) + 0 ≤ S.2.2.2.2.2.2.2) (hk : k + 0 ≤ S.2.2.2.1 ∧ n + 0 ≤ S.2.2.2.2.1) (hl : st.length ≤ 4) (d : decode cc pc = .ok (.invokestatic 280, 3)) (kk : ∀ (r : Int) (h2 : AH), Sim S (pc + 3) ls ((1, r) :: st) (k + 0) (n + 0) h2 (f r h2)) : Sim S pc ls ((1, q2) :: (1, q1) :: (0, q0) :: st) k n h (bd_ (f_M_one q0 q1 q2 h) f) := s_callS hS mo_X10_one (c_M_one _ _ _ _ _ h) tw_1575 tw_1576 hR hk rfl rfl hl d kk
theorem ca_X10_272 {S : SX} {cc : ByteArray} {pc : Nat} {ls : List (Nat × Nat × Int)} {st : List (Nat × Int)} {k n : Nat} {h : AH} {q0 b : Int} {f : Int → AH → Option (Int × AH)} (hS : SO S RX10 cc) (hR : 0 + 1 ≤ S.2.2.2.2.2.2.1 ∧ 8 + (3 + 11) + 0 ≤ S.2.2.2.2.2.2.2) (hk : k + 0 ≤ S.2.2.2.1 ∧ n + 0 ≤ S.2.2.2.2.1) (hl : st.length ≤ 4) (d : decode cc pc = .ok (.invokevirtual 272, 3)) (kk : ∀ (r : Int) (h2 : AH), Sim S (pc + 3) ls (st) (k + 0) (n + 0) h2 (f r h2)) : Sim S pc ls ((1, q0) :: (2, b) :: st) k n h (c_k h 11 b (bd_ (f_M_push b q0 h) f)) := s_callV hS mo_X10_push rfl rfl (c_M_push _ _ _ _ h) tw_1567 tw_1569 tw_85 hR hk rfl rfl hl d kk
theorem gf_X10_36 {S : SX} {cc : ByteArray} {pc : Nat} {ls : List (Nat × Nat × Int)} {st : List (Nat × Int)} {k n : Nat} {h : AH} {a : Int} {f : Int → Option (Int × AH)} (hS : SO S RX10 cc) (d : decode cc pc = .ok (.getfield 36, 3)) (kk : ∀ v : Int, Sim S (pc + 3) ls ((2, v) :: st) k n h (f v)) : Sim S pc ls ((2, a) :: st) k n h ((g_f h 11 a 19).bind f) := s_getf hS cx_10 19 (by decide) tw_1157 rfl rfl rfl d kk
abbrev S_M_reckons (G : GE) (X : SMw) : SX := (G, X, 11, 0, 0, (some .long), 1, 24)
set_option maxRecDepth 100000 in
set_option maxHeartbeats 4000000 in
theorem B_M_reckons_8 {G : GE} {X : SMw} (hS : SO (S_M_reckons G X) RX10 cX10_reckons) (z0 z1 z3 : Int) {k8 : Int → AH → Option (Int × AH)} (hk8 : ∀ (z4 : Int) (h : AH), Sim (S_M_reckons G X) 8 [(0, 2, z0), (1, 0, z1), (3, 0, z3), (4, 0, z4)] [] 0 0 h (k8 z4 h)) (z4 : Int) (h : AH) : Sim (S_M_reckons G X) 8 [(0, 2, z0), (1, 0, z1), (3, 0, z3), (4, 0, z4)] [] 0 0 h (F_M_reckons_8 z0 z1 z3 k8 z4 h) := by
  unfold F_M_reckons_8
  refine s_iload hS dX10_reckons_8 3 rfl ?_
  refine s_iload_n hS dX10_reckons_10 rfl 2 rfl ?_
  refine s_icmp_ge hS dX10_reckons_11 rfl ?_ ?_
  · refine s_aload_n hS dX10_reckons_135 rfl 0 rfl ?_
    refine ca_X10_276 hS ⟨Nat.le_of_ble_eq_true rfl, Nat.le_of_ble_eq_true rfl⟩ ⟨Nat.le_of_ble_eq_true rfl, Nat.le_of_ble_eq_true rfl⟩ (Nat.le_of_ble_eq_true rfl) dX10_reckons_136 fun v1 h2 => ?_
    exact s_lret hS rfl (Nat.le_of_ble_eq_true rfl) (Nat.le_of_ble_eq_true rfl) dX10_reckons_139
  · refine s_aload_n hS dX10_reckons_14 rfl 0 rfl ?_
    refine gf_X10_13 hS dX10_reckons_15 fun v3 => ?_
    refine s_sipush hS dX10_reckons_18 (by decide +kernel) ?_
    refine s_iload_n hS dX10_reckons_21 rfl 1 rfl ?_
    refine s_imul hS dX10_reckons_22 ?_
    refine s_iload hS dX10_reckons_23 3 rfl ?_
    refine s_iadd hS dX10_reckons_25 ?_
    refine s_iald hS dX10_reckons_26 fun v4 => ?_
    refine s_bipush hS dX10_reckons_27 (by decide +kernel) ?_
    refine s_iand hS dX10_reckons_29 ?_
    refine s_let fun v5 => ?_
    refine s_istore hS dX10_reckons_30 (Nat.le_of_ble_eq_true rfl) (ls' := [(5, 0, v5), (0, 2, z0), (1, 0, z1), (3, 0, z3), (4, 0, z4)]) rfl ?_
    refine s_aload_n hS dX10_reckons_32 rfl 1 rfl ?_
    refine gf_X10_13 hS dX10_reckons_33 fun v6 => ?_
    refine s_sipush hS dX10_reckons_36 (by decide +kernel) ?_
    refine s_iload_n hS dX10_reckons_39 rfl 2 rfl ?_
    refine s_imul hS dX10_reckons_40 ?_
    refine s_iload hS dX10_reckons_41 4 rfl ?_
    refine s_iadd hS dX10_reckons_43 ?_
    refine s_iald hS dX10_reckons_44 fun v7 => ?_
    refine s_iconst hS dX10_reckons_45 ?_
    refine s_ishr hS dX10_reckons_46 ?_
    refine s_let fun v8 => ?_
    refine s_istore hS dX10_reckons_47 (Nat.le_of_ble_eq_true rfl) (ls' := [(6, 0, v8), (5, 0, v5), (0, 2, z0), (1, 0, z1), (3, 0, z3), (4, 0, z4)]) rfl ?_
    refine s_iload hS dX10_reckons_49 1 rfl ?_
    refine s_if_ne hS dX10_reckons_51 rfl ?_ ?_
    · refine s_iload hS dX10_reckons_64 1 rfl ?_
      refine s_iconst hS dX10_reckons_66 ?_
      refine s_icmp_ne hS dX10_reckons_67 rfl ?_ ?_
      · refine s_iload hS dX10_reckons_84 1 rfl ?_
        refine s_bipush hS dX10_reckons_86 (by decide +kernel) ?_
        refine s_icmp_ne hS dX10_reckons_88 rfl ?_ ?_
        · refine s_aload_n hS dX10_reckons_104 rfl 2 rfl ?_
          refine ca_X10_276 hS ⟨Nat.le_of_ble_eq_true rfl, Nat.le_of_ble_eq_true rfl⟩ ⟨Nat.le_of_ble_eq_true rfl, Nat.le_of_ble_eq_true rfl⟩ (Nat.le_of_ble_eq_true rfl) dX10_reckons_105 fun v9 h10 => ?_
          refine s_lstore hS dX10_reckons_108 (Nat.le_of_ble_eq_true rfl) (ls' := [(7, 1, v9), (6, 0, v8), (5, 0, v5), (0, 2, z0), (1, 0, z1), (3, 0, z3), (4, 0, z4)]) rfl ?_
          refine s_aload_n hS dX10_reckons_110 rfl 3 rfl ?_
          refine ca_X10_276 hS ⟨Nat.le_of_ble_eq_true rfl, Nat.le_of_ble_eq_true rfl⟩ ⟨Nat.le_of_ble_eq_true rfl, Nat.le_of_ble_eq_true rfl⟩ (Nat.le_of_ble_eq_true rfl) dX10_reckons_111 fun v11 h12 => ?_
          refine s_lstore hS dX10_reckons_114 (Nat.le_of_ble_eq_true rfl) (ls' := [(9, 1, v11), (7, 1, v9), (6, 0, v8), (5, 0, v5), (0, 2, z0), (1, 0, z1), (3, 0, z3), (4, 0, z4)]) rfl ?_
          refine s_aload_n hS dX10_reckons_116 rfl 4 rfl ?_
          refine s_iload hS dX10_reckons_117 3 rfl ?_
          refine s_lload hS dX10_reckons_119 0 rfl ?_
          refine s_lload hS dX10_reckons_121 1 rfl ?_
          refine ca_X10_280 hS ⟨Nat.le_of_ble_eq_true rfl, Nat.le_of_ble_eq_true rfl⟩ ⟨Nat.le_of_ble_eq_true rfl, Nat.le_of_ble_eq_true rfl⟩ (Nat.le_of_ble_eq_true rfl) dX10_reckons_123 fun v13 h14 => ?_
          refine ca_X10_272 hS ⟨Nat.le_of_ble_eq_true rfl, Nat.le_of_ble_eq_true rfl⟩ ⟨Nat.le_of_ble_eq_true rfl, Nat.le_of_ble_eq_true rfl⟩ (Nat.le_of_ble_eq_true rfl) dX10_reckons_126 fun v15 h16 => ?_
          refine s_iinc hS dX10_reckons_129 7 rfl (Nat.le_of_ble_eq_true rfl) (ls' := [(4, 0, (z4 + 1)), (9, 1, v11), (7, 1, v9), (6, 0, v8), (5, 0, v5), (0, 2, z0), (1, 0, z1), (3, 0, z3)]) rfl ?_
          refine s_goto hS dX10_reckons_132 rfl ?_
          refine s_ls [5, 6, 7, 0] rfl ?_
          exact hk8 _ _
        · refine s_aload_n hS dX10_reckons_91 rfl 2 rfl ?_
          refine s_lconst1 hS dX10_reckons_92 ?_
          refine s_aload_n hS dX10_reckons_93 rfl 2 rfl ?_
          refine ca_X10_276 hS ⟨Nat.le_of_ble_eq_true rfl, Nat.le_of_ble_eq_true rfl⟩ ⟨Nat.le_of_ble_eq_true rfl, Nat.le_of_ble_eq_true rfl⟩ (Nat.le_of_ble_eq_true rfl) dX10_reckons_94 fun v17 h18 => ?_
          refine s_lsub hS dX10_reckons_97 ?_
          refine ca_X10_272 hS ⟨Nat.le_of_ble_eq_true rfl, Nat.le_of_ble_eq_true rfl⟩ ⟨Nat.le_of_ble_eq_true rfl, Nat.le_of_ble_eq_true rfl⟩ (Nat.le_of_ble_eq_true rfl) dX10_reckons_98 fun v19 h20 => ?_
          refine s_goto hS dX10_reckons_101 rfl ?_
          refine s_iinc hS dX10_reckons_129 5 rfl (Nat.le_of_ble_eq_true rfl) (ls' := [(4, 0, (z4 + 1)), (6, 0, v8), (5, 0, v5), (0, 2, z0), (1, 0, z1), (3, 0, z3)]) rfl ?_
          refine s_goto hS dX10_reckons_132 rfl ?_
          refine s_ls [3, 4, 5, 0] rfl ?_
          exact hk8 _ _
      · refine s_aload_n hS dX10_reckons_70 rfl 2 rfl ?_
        refine s_aload_n hS dX10_reckons_71 rfl 2 rfl ?_
        refine gf_X10_36 hS dX10_reckons_72 fun v21 => ?_
        refine s_iload hS dX10_reckons_75 0 rfl ?_
        refine s_lald hS dX10_reckons_77 fun v22 => ?_
        refine ca_X10_272 hS ⟨Nat.le_of_ble_eq_true rfl, Nat.le_of_ble_eq_true rfl⟩ ⟨Nat.le_of_ble_eq_true rfl, Nat.le_of_ble_eq_true rfl⟩ (Nat.le_of_ble_eq_true rfl) dX10_reckons_78 fun v23 h24 => ?_
        refine s_goto hS dX10_reckons_81 rfl ?_
        refine s_iinc hS dX10_reckons_129 5 rfl (Nat.le_of_ble_eq_true rfl) (ls' := [(4, 0, (z4 + 1)), (6, 0, v8), (5, 0, v5), (0, 2, z0), (1, 0, z1), (3, 0, z3)]) rfl ?_
        refine s_goto hS dX10_reckons_132 rfl ?_
        refine s_ls [3, 4, 5, 0] rfl ?_
        exact hk8 _ _
    · refine s_aload_n hS dX10_reckons_54 rfl 2 rfl ?_
      refine s_iload hS dX10_reckons_55 0 rfl ?_
      refine s_i2l hS dX10_reckons_57 ?_
      refine ca_X10_272 hS ⟨Nat.le_of_ble_eq_true rfl, Nat.le_of_ble_eq_true rfl⟩ ⟨Nat.le_of_ble_eq_true rfl, Nat.le_of_ble_eq_true rfl⟩ (Nat.le_of_ble_eq_true rfl) dX10_reckons_58 fun v25 h26 => ?_
      refine s_goto hS dX10_reckons_61 rfl ?_
      refine s_iinc hS dX10_reckons_129 5 rfl (Nat.le_of_ble_eq_true rfl) (ls' := [(4, 0, (z4 + 1)), (6, 0, v8), (5, 0, v5), (0, 2, z0), (1, 0, z1), (3, 0, z3)]) rfl ?_
      refine s_goto hS dX10_reckons_132 rfl ?_
      refine s_ls [3, 4, 5, 0] rfl ?_
      exact hk8 _ _
set_option maxRecDepth 100000 in
set_option maxHeartbeats 4000000 in
theorem b_M_reckons_8 {G : GE} {X : SMw} (hS : SO (S_M_reckons G X) RX10 cX10_reckons) (z0 z1 z3 : Int) (z4 : Int) (h : AH) : Sim (S_M_reckons G X) 8 [(0, 2, z0), (1, 0, z1), (3, 0, z3), (4, 0, z4)] [] 0 0 h (f_M_reckons_8 z0 z1 z3 z4 h) := by
  exact s_loop (S := (S_M_reckons G X)) (lsf := fun s : Int × AH => [(0, 2, z0), (1, 0, z1), (3, 0, z3), (4, 0, s.1)]) (hf := fun s => s.2) (fun kf hkf s => B_M_reckons_8 hS z0 z1 z3 (fun a0 a1 => hkf (a0, a1)) s.1 s.2) fu_ (z4, h)
set_option maxRecDepth 100000 in
set_option maxHeartbeats 4000000 in
theorem b_M_reckons {G : GE} {X : SMw} (hS : SO (S_M_reckons G X) RX10 cX10_reckons) (z0 z1 z2 z3 : Int) (h : AH) : Sim (S_M_reckons G X) 0 [(0, 2, z0), (1, 0, z1), (2, 0, z2), (3, 0, z3)] [] 0 0 h (f_M_reckons z0 z1 z2 z3 h) := by
  unfold f_M_reckons
  refine s_aload_n hS dX10_reckons_0 rfl 0 rfl ?_
  refine s_iconst hS dX10_reckons_1 ?_
  refine pf_X10_269 hS dX10_reckons_2 fun h1 => ?_
  refine s_iload_n hS dX10_reckons_5 rfl 2 rfl ?_
  refine s_istore hS dX10_reckons_6 (Nat.le_of_ble_eq_true rfl) (ls' := [(4, 0, z2), (0, 2, z0), (1, 0, z1), (2, 0, z2), (3, 0, z3)]) rfl ?_
  refine s_ls [1, 2, 4, 0] rfl ?_
  exact b_M_reckons_8 hS _ _ _ _ _
theorem c_M_reckons (l : Launch) (G : GE) (z0 z1 z2 z3 : Int) (h : AH) : Con l yX10_reckons cX10_reckons 11 (some .long) 1 24 0 0 G [(2, z0), (0, z1), (0, z2), (0, z3)] h (f_M_reckons z0 z1 z2 z3 h) :=
  con_of (by decide +kernel) (Nat.le_of_ble_eq_true rfl) fun X hX hS hi => b_M_reckons hS z0 z1 z2 z3 h
abbrev S_M_isElection (G : GE) (X : SMw) : SX := (G, X, 1, 0, 0, (some .boolean), 0, 0)
set_option maxRecDepth 100000 in
set_option maxHeartbeats 4000000 in
theorem b_M_isElection {G : GE} {X : SMw} (hS : SO (S_M_isElection G X) RX10 cX10_isElection) (z0 : Int) (h : AH) : Sim (S_M_isElection G X) 0 [(0, 2, z0)] [] 0 0 h (f_M_isElection z0 h) := by
  unfold f_M_isElection
  refine s_aload_n hS dX10_isElection_0 rfl 0 rfl ?_
  refine gf_X10_39 hS dX10_isElection_1 fun v1 => ?_
  refine s_iconst hS dX10_isElection_4 ?_
  refine s_iald hS dX10_isElection_5 fun v2 => ?_
  refine s_iconst hS dX10_isElection_6 ?_
  refine s_icmp_ne hS dX10_isElection_7 rfl ?_ ?_
  · refine s_iconst hS dX10_isElection_14 ?_
    exact s_zret hS rfl (Nat.le_of_ble_eq_true rfl) (Nat.le_of_ble_eq_true rfl) dX10_isElection_15
  · refine s_iconst hS dX10_isElection_10 ?_
    refine s_goto hS dX10_isElection_11 rfl ?_
    exact s_zret hS rfl (Nat.le_of_ble_eq_true rfl) (Nat.le_of_ble_eq_true rfl) dX10_isElection_15
theorem c_M_isElection (l : Launch) (G : GE) (z0 : Int) (h : AH) : Con l yX10_isElection cX10_isElection 1 (some .boolean) 0 0 0 0 G [(2, z0)] h (f_M_isElection z0 h) :=
  con_of (by decide +kernel) (Nat.le_of_ble_eq_true rfl) fun X hX hS hi => b_M_isElection hS z0 h
abbrev S_M_isStation (G : GE) (X : SMw) : SX := (G, X, 2, 0, 0, (some .boolean), 0, 0)
set_option maxRecDepth 100000 in
set_option maxHeartbeats 4000000 in
theorem b_M_isStation {G : GE} {X : SMw} (hS : SO (S_M_isStation G X) RX10 cX10_isStation) (z0 z1 : Int) (h : AH) : Sim (S_M_isStation G X) 0 [(0, 2, z0), (1, 0, z1)] [] 0 0 h (f_M_isStation z0 z1 h) := by
  unfold f_M_isStation
  refine s_iload_n hS dX10_isStation_0 rfl 1 rfl ?_
  refine s_if_lt hS dX10_isStation_1 rfl ?_ ?_
  · refine s_iconst hS dX10_isStation_18 ?_
    exact s_zret hS rfl (Nat.le_of_ble_eq_true rfl) (Nat.le_of_ble_eq_true rfl) dX10_isStation_19
  · refine s_iload_n hS dX10_isStation_4 rfl 1 rfl ?_
    refine s_aload_n hS dX10_isStation_5 rfl 0 rfl ?_
    refine gf_X10_39 hS dX10_isStation_6 fun v1 => ?_
    refine s_iconst hS dX10_isStation_9 ?_
    refine s_iald hS dX10_isStation_10 fun v2 => ?_
    refine s_icmp_ge hS dX10_isStation_11 rfl ?_ ?_
    · refine s_iconst hS dX10_isStation_18 ?_
      exact s_zret hS rfl (Nat.le_of_ble_eq_true rfl) (Nat.le_of_ble_eq_true rfl) dX10_isStation_19
    · refine s_iconst hS dX10_isStation_14 ?_
      refine s_goto hS dX10_isStation_15 rfl ?_
      exact s_zret hS rfl (Nat.le_of_ble_eq_true rfl) (Nat.le_of_ble_eq_true rfl) dX10_isStation_19
theorem c_M_isStation (l : Launch) (G : GE) (z0 z1 : Int) (h : AH) : Con l yX10_isStation cX10_isStation 2 (some .boolean) 0 0 0 0 G [(2, z0), (0, z1)] h (f_M_isStation z0 z1 h) :=
  con_of (by decide +kernel) (Nat.le_of_ble_eq_true rfl) fun X hX hS hi => b_M_isStation hS z0 z1 h
abbrev S_M_isPaper (G : GE) (X : SMw) : SX := (G, X, 2, 0, 0, (some .boolean), 0, 0)
set_option maxRecDepth 100000 in
set_option maxHeartbeats 4000000 in
theorem b_M_isPaper {G : GE} {X : SMw} (hS : SO (S_M_isPaper G X) RX10 cX10_isPaper) (z0 z1 : Int) (h : AH) : Sim (S_M_isPaper G X) 0 [(0, 2, z0), (1, 0, z1)] [] 0 0 h (f_M_isPaper z0 z1 h) := by
  unfold f_M_isPaper
  refine s_iload_n hS dX10_isPaper_0 rfl 1 rfl ?_
  refine s_if_lt hS dX10_isPaper_1 rfl ?_ ?_
  · refine s_iconst hS dX10_isPaper_29 ?_
    exact s_zret hS rfl (Nat.le_of_ble_eq_true rfl) (Nat.le_of_ble_eq_true rfl) dX10_isPaper_30
  · refine s_iload_n hS dX10_isPaper_4 rfl 1 rfl ?_
    refine s_aload_n hS dX10_isPaper_5 rfl 0 rfl ?_
    refine gf_X10_39 hS dX10_isPaper_6 fun v1 => ?_
    refine s_iconst hS dX10_isPaper_9 ?_
    refine s_iald hS dX10_isPaper_10 fun v2 => ?_
    refine s_icmp_ge hS dX10_isPaper_11 rfl ?_ ?_
    · refine s_iconst hS dX10_isPaper_29 ?_
      exact s_zret hS rfl (Nat.le_of_ble_eq_true rfl) (Nat.le_of_ble_eq_true rfl) dX10_isPaper_30
    · refine s_aload_n hS dX10_isPaper_14 rfl 0 rfl ?_
      refine gf_X10_39 hS dX10_isPaper_15 fun v3 => ?_
      refine s_iconst hS dX10_isPaper_18 ?_
      refine s_iload_n hS dX10_isPaper_19 rfl 1 rfl ?_
      refine s_iadd hS dX10_isPaper_20 ?_
      refine s_iald hS dX10_isPaper_21 fun v4 => ?_
      refine s_if_lt hS dX10_isPaper_22 rfl ?_ ?_
      · refine s_iconst hS dX10_isPaper_29 ?_
        exact s_zret hS rfl (Nat.le_of_ble_eq_true rfl) (Nat.le_of_ble_eq_true rfl) dX10_isPaper_30
      · refine s_iconst hS dX10_isPaper_25 ?_
        refine s_goto hS dX10_isPaper_26 rfl ?_
        exact s_zret hS rfl (Nat.le_of_ble_eq_true rfl) (Nat.le_of_ble_eq_true rfl) dX10_isPaper_30
theorem c_M_isPaper (l : Launch) (G : GE) (z0 z1 : Int) (h : AH) : Con l yX10_isPaper cX10_isPaper 2 (some .boolean) 0 0 0 0 G [(2, z0), (0, z1)] h (f_M_isPaper z0 z1 h) :=
  con_of (by decide +kernel) (Nat.le_of_ble_eq_true rfl) fun X hX hS hi => b_M_isPaper hS z0 z1 h
theorem ca_X10_284 {S : SX} {cc : ByteArray} {pc : Nat} {ls : List (Nat × Nat × Int)} {st : List (Nat × Int)} {k n : Nat} {h : AH} {q0 b : Int} {f : Int → AH → Option (Int × AH)} (hS : SO S RX10 cc) (hR : 0 + 1 ≤ S.2.2.2.2.2.2.1 ∧ 8 + (2 + 11) + 0 ≤ S.2.2.2.2.2.2.2) (hk : k + 0 ≤ S.2.2.2.1 ∧ n + 0 ≤ S.2.2.2.2.1) (hl : st.length ≤ 4) (d : decode cc pc = .ok (.invokevirtual 284, 3)) (kk : ∀ (r : Int) (h2 : AH), Sim S (pc + 3) ls ((0, r) :: st) (k + 0) (n + 0) h2 (f r h2)) : Sim S pc ls ((0, q0) :: (2, b) :: st) k n h (c_k h 11 b (bd_ (f_M_isPaper b q0 h) f)) := s_callV hS mo_X10_isPaper rfl rfl (c_M_isPaper _ _ _ _ h) tw_1470 tw_1472 tw_68 hR hk rfl rfl hl d kk
abbrev S_M_isIn (G : GE) (X : SMw) : SX := (G, X, 4, 0, 0, (some .boolean), 1, 21)
set_option maxRecDepth 100000 in
set_option maxHeartbeats 4000000 in
theorem b_M_isIn {G : GE} {X : SMw} (hS : SO (S_M_isIn G X) RX10 cX10_isIn) (z0 z1 z2 z3 : Int) (h : AH) : Sim (S_M_isIn G X) 0 [(0, 2, z0), (1, 0, z1), (2, 0, z2), (3, 0, z3)] [] 0 0 h (f_M_isIn z0 z1 z2 z3 h) := by
  unfold f_M_isIn
  refine s_aload_n hS dX10_isIn_0 rfl 0 rfl ?_
  refine s_iload_n hS dX10_isIn_1 rfl 1 rfl ?_
  refine ca_X10_284 hS ⟨Nat.le_of_ble_eq_true rfl, Nat.le_of_ble_eq_true rfl⟩ ⟨Nat.le_of_ble_eq_true rfl, Nat.le_of_ble_eq_true rfl⟩ (Nat.le_of_ble_eq_true rfl) dX10_isIn_2 fun v1 h2 => ?_
  refine s_if_eq hS dX10_isIn_5 rfl ?_ ?_
  · refine s_iconst hS dX10_isIn_40 ?_
    exact s_zret hS rfl (Nat.le_of_ble_eq_true rfl) (Nat.le_of_ble_eq_true rfl) dX10_isIn_41
  · refine s_aload_n hS dX10_isIn_8 rfl 0 rfl ?_
    refine gf_X10_39 hS dX10_isIn_9 fun v3 => ?_
    refine s_sipush hS dX10_isIn_12 (by decide +kernel) ?_
    refine s_iload_n hS dX10_isIn_15 rfl 1 rfl ?_
    refine s_iadd hS dX10_isIn_16 ?_
    refine s_iald hS dX10_isIn_17 fun v4 => ?_
    refine s_iload_n hS dX10_isIn_18 rfl 2 rfl ?_
    refine s_icmp_ne hS dX10_isIn_19 rfl ?_ ?_
    · refine s_iconst hS dX10_isIn_40 ?_
      exact s_zret hS rfl (Nat.le_of_ble_eq_true rfl) (Nat.le_of_ble_eq_true rfl) dX10_isIn_41
    · refine s_aload_n hS dX10_isIn_22 rfl 0 rfl ?_
      refine gf_X10_39 hS dX10_isIn_23 fun v5 => ?_
      refine s_sipush hS dX10_isIn_26 (by decide +kernel) ?_
      refine s_iload_n hS dX10_isIn_29 rfl 1 rfl ?_
      refine s_iadd hS dX10_isIn_30 ?_
      refine s_iald hS dX10_isIn_31 fun v6 => ?_
      refine s_iload_n hS dX10_isIn_32 rfl 3 rfl ?_
      refine s_icmp_ne hS dX10_isIn_33 rfl ?_ ?_
      · refine s_iconst hS dX10_isIn_40 ?_
        exact s_zret hS rfl (Nat.le_of_ble_eq_true rfl) (Nat.le_of_ble_eq_true rfl) dX10_isIn_41
      · refine s_iconst hS dX10_isIn_36 ?_
        refine s_goto hS dX10_isIn_37 rfl ?_
        exact s_zret hS rfl (Nat.le_of_ble_eq_true rfl) (Nat.le_of_ble_eq_true rfl) dX10_isIn_41
theorem c_M_isIn (l : Launch) (G : GE) (z0 z1 z2 z3 : Int) (h : AH) : Con l yX10_isIn cX10_isIn 4 (some .boolean) 1 21 0 0 G [(2, z0), (0, z1), (0, z2), (0, z3)] h (f_M_isIn z0 z1 z2 z3 h) :=
  con_of (by decide +kernel) (Nat.le_of_ble_eq_true rfl) fun X hX hS hi => b_M_isIn hS z0 z1 z2 z3 h
theorem ca_X10_287 {S : SX} {cc : ByteArray} {pc : Nat} {ls : List (Nat × Nat × Int)} {st : List (Nat × Int)} {k n : Nat} {h : AH} {q0 q1 q2 b : Int} {f : Int → AH → Option (Int × AH)} (hS : SO S RX10 cc) (hR : 1 + 1 ≤ S.2.2.2.2.2.2.1 ∧ 8 + (4 + 11) + 21 ≤ S.2.2.2.2.2.2.2) (hk : k + 0 ≤ S.2.2.2.1 ∧ n + 0 ≤ S.2.2.2.2.1) (hl : st.length ≤ 4) (d : decode cc pc = .ok (.invokevirtual 287, 3)) (kk : ∀ (r : Int) (h2 : AH), Sim S (pc + 3) ls ((0, r) :: st) (k + 0) (n + 0) h2 (f r h2)) : Sim S pc ls ((0, q2) :: (0, q1) :: (0, q0) :: (2, b) :: st) k n h (c_k h 11 b (bd_ (f_M_isIn b q0 q1 q2 h) f)) := s_callV hS mo_X10_isIn rfl rfl (c_M_isIn _ _ _ _ _ _ h) tw_1466 tw_1468 tw_67 hR hk rfl rfl hl d kk
abbrev S_M_manyIn (G : GE) (X : SMw) : SX := (G, X, 5, 0, 0, (some .int), 2, 44)
set_option maxRecDepth 100000 in
set_option maxHeartbeats 4000000 in
theorem B_M_manyIn_5 {G : GE} {X : SMw} (hS : SO (S_M_manyIn G X) RX10 cX10_manyIn) (z0 z1 z2 : Int) {k5 : Int → Int → AH → Option (Int × AH)} (hk5 : ∀ (z3 z4 : Int) (h : AH), Sim (S_M_manyIn G X) 5 [(0, 2, z0), (1, 0, z1), (2, 0, z2), (3, 0, z3), (4, 0, z4)] [] 0 0 h (k5 z3 z4 h)) (z3 z4 : Int) (h : AH) : Sim (S_M_manyIn G X) 5 [(0, 2, z0), (1, 0, z1), (2, 0, z2), (3, 0, z3), (4, 0, z4)] [] 0 0 h (F_M_manyIn_5 z0 z1 z2 k5 z3 z4 h) := by
  unfold F_M_manyIn_5
  refine s_iload hS dX10_manyIn_5 4 rfl ?_
  refine s_aload_n hS dX10_manyIn_7 rfl 0 rfl ?_
  refine gf_X10_39 hS dX10_manyIn_8 fun v1 => ?_
  refine s_iconst hS dX10_manyIn_11 ?_
  refine s_iald hS dX10_manyIn_12 fun v2 => ?_
  refine s_icmp_ge hS dX10_manyIn_13 rfl ?_ ?_
  · refine s_iload_n hS dX10_manyIn_41 rfl 3 rfl ?_
    exact s_iret hS rfl (Nat.le_of_ble_eq_true rfl) (Nat.le_of_ble_eq_true rfl) dX10_manyIn_42
  · refine s_iload_n hS dX10_manyIn_16 rfl 3 rfl ?_
    refine s_aload_n hS dX10_manyIn_17 rfl 0 rfl ?_
    refine s_iload hS dX10_manyIn_18 4 rfl ?_
    refine s_iload_n hS dX10_manyIn_20 rfl 1 rfl ?_
    refine s_iload_n hS dX10_manyIn_21 rfl 2 rfl ?_
    refine ca_X10_287 hS ⟨Nat.le_of_ble_eq_true rfl, Nat.le_of_ble_eq_true rfl⟩ ⟨Nat.le_of_ble_eq_true rfl, Nat.le_of_ble_eq_true rfl⟩ (Nat.le_of_ble_eq_true rfl) dX10_manyIn_22 fun v3 h4 => ?_
    refine s_if_eq hS dX10_manyIn_25 rfl ?_ ?_
    · refine s_iconst hS dX10_manyIn_32 ?_
      refine s_iadd hS dX10_manyIn_33 ?_
      refine s_let fun v5 => ?_
      refine s_istore_n hS dX10_manyIn_34 rfl (Nat.le_of_ble_eq_true rfl) (ls' := [(3, 0, v5), (0, 2, z0), (1, 0, z1), (2, 0, z2), (4, 0, z4)]) rfl ?_
      refine s_iinc hS dX10_manyIn_35 4 rfl (Nat.le_of_ble_eq_true rfl) (ls' := [(4, 0, (z4 + 1)), (3, 0, v5), (0, 2, z0), (1, 0, z1), (2, 0, z2)]) rfl ?_
      refine s_goto hS dX10_manyIn_38 rfl ?_
      refine s_ls [2, 3, 4, 1, 0] rfl ?_
      exact hk5 _ _ _
    · refine s_iconst hS dX10_manyIn_28 ?_
      refine s_goto hS dX10_manyIn_29 rfl ?_
      refine s_iadd hS dX10_manyIn_33 ?_
      refine s_let fun v6 => ?_
      refine s_istore_n hS dX10_manyIn_34 rfl (Nat.le_of_ble_eq_true rfl) (ls' := [(3, 0, v6), (0, 2, z0), (1, 0, z1), (2, 0, z2), (4, 0, z4)]) rfl ?_
      refine s_iinc hS dX10_manyIn_35 4 rfl (Nat.le_of_ble_eq_true rfl) (ls' := [(4, 0, (z4 + 1)), (3, 0, v6), (0, 2, z0), (1, 0, z1), (2, 0, z2)]) rfl ?_
      refine s_goto hS dX10_manyIn_38 rfl ?_
      refine s_ls [2, 3, 4, 1, 0] rfl ?_
      exact hk5 _ _ _
set_option maxRecDepth 100000 in
set_option maxHeartbeats 4000000 in
theorem b_M_manyIn_5 {G : GE} {X : SMw} (hS : SO (S_M_manyIn G X) RX10 cX10_manyIn) (z0 z1 z2 : Int) (z3 z4 : Int) (h : AH) : Sim (S_M_manyIn G X) 5 [(0, 2, z0), (1, 0, z1), (2, 0, z2), (3, 0, z3), (4, 0, z4)] [] 0 0 h (f_M_manyIn_5 z0 z1 z2 z3 z4 h) := by
  exact s_loop (S := (S_M_manyIn G X)) (lsf := fun s : Int × Int × AH => [(0, 2, z0), (1, 0, z1), (2, 0, z2), (3, 0, s.1), (4, 0, s.2.1)]) (hf := fun s => s.2.2) (fun kf hkf s => B_M_manyIn_5 hS z0 z1 z2 (fun a0 a1 a2 => hkf (a0, a1, a2)) s.1 s.2.1 s.2.2) fu_ (z3, z4, h)
set_option maxRecDepth 100000 in
set_option maxHeartbeats 4000000 in
theorem b_M_manyIn {G : GE} {X : SMw} (hS : SO (S_M_manyIn G X) RX10 cX10_manyIn) (z0 z1 z2 : Int) (h : AH) : Sim (S_M_manyIn G X) 0 [(0, 2, z0), (1, 0, z1), (2, 0, z2)] [] 0 0 h (f_M_manyIn z0 z1 z2 h) := by
  unfold f_M_manyIn
  refine s_iconst hS dX10_manyIn_0 ?_
  refine s_istore_n hS dX10_manyIn_1 rfl (Nat.le_of_ble_eq_true rfl) (ls' := [(3, 0, 0), (0, 2, z0), (1, 0, z1), (2, 0, z2)]) rfl ?_
  refine s_iconst hS dX10_manyIn_2 ?_
  refine s_istore hS dX10_manyIn_3 (Nat.le_of_ble_eq_true rfl) (ls' := [(4, 0, 0), (3, 0, 0), (0, 2, z0), (1, 0, z1), (2, 0, z2)]) rfl ?_
  refine s_ls [2, 3, 4, 1, 0] rfl ?_
  exact b_M_manyIn_5 hS _ _ _ _ _ _
theorem c_M_manyIn (l : Launch) (G : GE) (z0 z1 z2 : Int) (h : AH) : Con l yX10_manyIn cX10_manyIn 5 (some .int) 2 44 0 0 G [(2, z0), (0, z1), (0, z2)] h (f_M_manyIn z0 z1 z2 h) :=
  con_of (by decide +kernel) (Nat.le_of_ble_eq_true rfl) fun X hX hS hi => b_M_manyIn hS z0 z1 z2 h
theorem ca_X10_290 {S : SX} {cc : ByteArray} {pc : Nat} {ls : List (Nat × Nat × Int)} {st : List (Nat × Int)} {k n : Nat} {h : AH} {q0 q1 b : Int} {f : Int → AH → Option (Int × AH)} (hS : SO S RX10 cc) (hR : 2 + 1 ≤ S.2.2.2.2.2.2.1 ∧ 8 + (5 + 11) + 44 ≤ S.2.2.2.2.2.2.2) (hk : k + 0 ≤ S.2.2.2.1 ∧ n + 0 ≤ S.2.2.2.2.1) (hl : st.length ≤ 4) (d : decode cc pc = .ok (.invokevirtual 290, 3)) (kk : ∀ (r : Int) (h2 : AH), Sim S (pc + 3) ls ((0, r) :: st) (k + 0) (n + 0) h2 (f r h2)) : Sim S pc ls ((0, q1) :: (0, q0) :: (2, b) :: st) k n h (c_k h 11 b (bd_ (f_M_manyIn b q0 q1 h) f)) := s_callV hS mo_X10_manyIn rfl rfl (c_M_manyIn _ _ _ _ _ h) tw_1462 tw_1464 tw_66 hR hk rfl rfl hl d kk
abbrev S_M_allIn (G : GE) (X : SMw) : SX := (G, X, 4, 0, 0, (some .int), 3, 68)
set_option maxRecDepth 100000 in
set_option maxHeartbeats 4000000 in
theorem B_M_allIn_4 {G : GE} {X : SMw} (hS : SO (S_M_allIn G X) RX10 cX10_allIn) (z0 z1 : Int) {k4 : Int → Int → AH → Option (Int × AH)} (hk4 : ∀ (z2 z3 : Int) (h : AH), Sim (S_M_allIn G X) 4 [(0, 2, z0), (1, 0, z1), (2, 0, z2), (3, 0, z3)] [] 0 0 h (k4 z2 z3 h)) (z2 z3 : Int) (h : AH) : Sim (S_M_allIn G X) 4 [(0, 2, z0), (1, 0, z1), (2, 0, z2), (3, 0, z3)] [] 0 0 h (F_M_allIn_4 z0 z1 k4 z2 z3 h) := by
  unfold F_M_allIn_4
  refine s_iload_n hS dX10_allIn_4 rfl 3 rfl ?_
  refine s_aload_n hS dX10_allIn_5 rfl 0 rfl ?_
  refine gf_X10_39 hS dX10_allIn_6 fun v1 => ?_
  refine s_iconst hS dX10_allIn_9 ?_
  refine s_iald hS dX10_allIn_10 fun v2 => ?_
  refine s_icmp_ge hS dX10_allIn_11 rfl ?_ ?_
  · refine s_iload_n hS dX10_allIn_29 rfl 2 rfl ?_
    exact s_iret hS rfl (Nat.le_of_ble_eq_true rfl) (Nat.le_of_ble_eq_true rfl) dX10_allIn_30
  · refine s_iload_n hS dX10_allIn_14 rfl 2 rfl ?_
    refine s_aload_n hS dX10_allIn_15 rfl 0 rfl ?_
    refine s_iload_n hS dX10_allIn_16 rfl 3 rfl ?_
    refine s_iload_n hS dX10_allIn_17 rfl 1 rfl ?_
    refine ca_X10_290 hS ⟨Nat.le_of_ble_eq_true rfl, Nat.le_of_ble_eq_true rfl⟩ ⟨Nat.le_of_ble_eq_true rfl, Nat.le_of_ble_eq_true rfl⟩ (Nat.le_of_ble_eq_true rfl) dX10_allIn_18 fun v3 h4 => ?_
    refine s_iadd hS dX10_allIn_21 ?_
    refine s_let fun v5 => ?_
    refine s_istore_n hS dX10_allIn_22 rfl (Nat.le_of_ble_eq_true rfl) (ls' := [(2, 0, v5), (0, 2, z0), (1, 0, z1), (3, 0, z3)]) rfl ?_
    refine s_iinc hS dX10_allIn_23 3 rfl (Nat.le_of_ble_eq_true rfl) (ls' := [(3, 0, (z3 + 1)), (2, 0, v5), (0, 2, z0), (1, 0, z1)]) rfl ?_
    refine s_goto hS dX10_allIn_26 rfl ?_
    refine s_ls [2, 3, 1, 0] rfl ?_
    exact hk4 _ _ _
set_option maxRecDepth 100000 in
set_option maxHeartbeats 4000000 in
theorem b_M_allIn_4 {G : GE} {X : SMw} (hS : SO (S_M_allIn G X) RX10 cX10_allIn) (z0 z1 : Int) (z2 z3 : Int) (h : AH) : Sim (S_M_allIn G X) 4 [(0, 2, z0), (1, 0, z1), (2, 0, z2), (3, 0, z3)] [] 0 0 h (f_M_allIn_4 z0 z1 z2 z3 h) := by
  exact s_loop (S := (S_M_allIn G X)) (lsf := fun s : Int × Int × AH => [(0, 2, z0), (1, 0, z1), (2, 0, s.1), (3, 0, s.2.1)]) (hf := fun s => s.2.2) (fun kf hkf s => B_M_allIn_4 hS z0 z1 (fun a0 a1 a2 => hkf (a0, a1, a2)) s.1 s.2.1 s.2.2) fu_ (z2, z3, h)
set_option maxRecDepth 100000 in
set_option maxHeartbeats 4000000 in
theorem b_M_allIn {G : GE} {X : SMw} (hS : SO (S_M_allIn G X) RX10 cX10_allIn) (z0 z1 : Int) (h : AH) : Sim (S_M_allIn G X) 0 [(0, 2, z0), (1, 0, z1)] [] 0 0 h (f_M_allIn z0 z1 h) := by
  unfold f_M_allIn
  refine s_iconst hS dX10_allIn_0 ?_
  refine s_istore_n hS dX10_allIn_1 rfl (Nat.le_of_ble_eq_true rfl) (ls' := [(2, 0, 0), (0, 2, z0), (1, 0, z1)]) rfl ?_
  refine s_iconst hS dX10_allIn_2 ?_
  refine s_istore_n hS dX10_allIn_3 rfl (Nat.le_of_ble_eq_true rfl) (ls' := [(3, 0, 0), (2, 0, 0), (0, 2, z0), (1, 0, z1)]) rfl ?_
  refine s_ls [2, 3, 1, 0] rfl ?_
  exact b_M_allIn_4 hS _ _ _ _ _
theorem c_M_allIn (l : Launch) (G : GE) (z0 z1 : Int) (h : AH) : Con l yX10_allIn cX10_allIn 4 (some .int) 3 68 0 0 G [(2, z0), (0, z1)] h (f_M_allIn z0 z1 h) :=
  con_of (by decide +kernel) (Nat.le_of_ble_eq_true rfl) fun X hX hS hi => b_M_allIn hS z0 z1 h
abbrev S_M_hadBy (G : GE) (X : SMw) : SX := (G, X, 4, 0, 0, (some .int), 0, 0)
set_option maxRecDepth 100000 in
set_option maxHeartbeats 4000000 in
theorem B_M_hadBy_4 {G : GE} {X : SMw} (hS : SO (S_M_hadBy G X) RX10 cX10_hadBy) (z0 z1 : Int) {k4 : Int → Int → AH → Option (Int × AH)} (hk4 : ∀ (z2 z3 : Int) (h : AH), Sim (S_M_hadBy G X) 4 [(0, 2, z0), (1, 0, z1), (2, 0, z2), (3, 0, z3)] [] 0 0 h (k4 z2 z3 h)) (z2 z3 : Int) (h : AH) : Sim (S_M_hadBy G X) 4 [(0, 2, z0), (1, 0, z1), (2, 0, z2), (3, 0, z3)] [] 0 0 h (F_M_hadBy_4 z0 z1 k4 z2 z3 h) := by
  unfold F_M_hadBy_4
  refine s_iload_n hS dX10_hadBy_4 rfl 3 rfl ?_
  refine s_aload_n hS dX10_hadBy_5 rfl 0 rfl ?_
  refine gf_X10_39 hS dX10_hadBy_6 fun v1 => ?_
  refine s_iconst hS dX10_hadBy_9 ?_
  refine s_iald hS dX10_hadBy_10 fun v2 => ?_
  refine s_icmp_ge hS dX10_hadBy_11 rfl ?_ ?_
  · refine s_iload_n hS dX10_hadBy_40 rfl 2 rfl ?_
    exact s_iret hS rfl (Nat.le_of_ble_eq_true rfl) (Nat.le_of_ble_eq_true rfl) dX10_hadBy_41
  · refine s_iload_n hS dX10_hadBy_14 rfl 2 rfl ?_
    refine s_aload_n hS dX10_hadBy_15 rfl 0 rfl ?_
    refine gf_X10_39 hS dX10_hadBy_16 fun v3 => ?_
    refine s_iconst hS dX10_hadBy_19 ?_
    refine s_iload_n hS dX10_hadBy_20 rfl 3 rfl ?_
    refine s_iadd hS dX10_hadBy_21 ?_
    refine s_iald hS dX10_hadBy_22 fun v4 => ?_
    refine s_iload_n hS dX10_hadBy_23 rfl 1 rfl ?_
    refine s_icmp_ne hS dX10_hadBy_24 rfl ?_ ?_
    · refine s_iconst hS dX10_hadBy_31 ?_
      refine s_iadd hS dX10_hadBy_32 ?_
      refine s_let fun v5 => ?_
      refine s_istore_n hS dX10_hadBy_33 rfl (Nat.le_of_ble_eq_true rfl) (ls' := [(2, 0, v5), (0, 2, z0), (1, 0, z1), (3, 0, z3)]) rfl ?_
      refine s_iinc hS dX10_hadBy_34 3 rfl (Nat.le_of_ble_eq_true rfl) (ls' := [(3, 0, (z3 + 1)), (2, 0, v5), (0, 2, z0), (1, 0, z1)]) rfl ?_
      refine s_goto hS dX10_hadBy_37 rfl ?_
      refine s_ls [2, 3, 1, 0] rfl ?_
      exact hk4 _ _ _
    · refine s_iconst hS dX10_hadBy_27 ?_
      refine s_goto hS dX10_hadBy_28 rfl ?_
      refine s_iadd hS dX10_hadBy_32 ?_
      refine s_let fun v6 => ?_
      refine s_istore_n hS dX10_hadBy_33 rfl (Nat.le_of_ble_eq_true rfl) (ls' := [(2, 0, v6), (0, 2, z0), (1, 0, z1), (3, 0, z3)]) rfl ?_
      refine s_iinc hS dX10_hadBy_34 3 rfl (Nat.le_of_ble_eq_true rfl) (ls' := [(3, 0, (z3 + 1)), (2, 0, v6), (0, 2, z0), (1, 0, z1)]) rfl ?_
      refine s_goto hS dX10_hadBy_37 rfl ?_
      refine s_ls [2, 3, 1, 0] rfl ?_
      exact hk4 _ _ _
set_option maxRecDepth 100000 in
set_option maxHeartbeats 4000000 in
theorem b_M_hadBy_4 {G : GE} {X : SMw} (hS : SO (S_M_hadBy G X) RX10 cX10_hadBy) (z0 z1 : Int) (z2 z3 : Int) (h : AH) : Sim (S_M_hadBy G X) 4 [(0, 2, z0), (1, 0, z1), (2, 0, z2), (3, 0, z3)] [] 0 0 h (f_M_hadBy_4 z0 z1 z2 z3 h) := by
  exact s_loop (S := (S_M_hadBy G X)) (lsf := fun s : Int × Int × AH => [(0, 2, z0), (1, 0, z1), (2, 0, s.1), (3, 0, s.2.1)]) (hf := fun s => s.2.2) (fun kf hkf s => B_M_hadBy_4 hS z0 z1 (fun a0 a1 a2 => hkf (a0, a1, a2)) s.1 s.2.1 s.2.2) fu_ (z2, z3, h)
set_option maxRecDepth 100000 in
set_option maxHeartbeats 4000000 in
theorem b_M_hadBy {G : GE} {X : SMw} (hS : SO (S_M_hadBy G X) RX10 cX10_hadBy) (z0 z1 : Int) (h : AH) : Sim (S_M_hadBy G X) 0 [(0, 2, z0), (1, 0, z1)] [] 0 0 h (f_M_hadBy z0 z1 h) := by
  unfold f_M_hadBy
  refine s_iconst hS dX10_hadBy_0 ?_
  refine s_istore_n hS dX10_hadBy_1 rfl (Nat.le_of_ble_eq_true rfl) (ls' := [(2, 0, 0), (0, 2, z0), (1, 0, z1)]) rfl ?_
  refine s_iconst hS dX10_hadBy_2 ?_
  refine s_istore_n hS dX10_hadBy_3 rfl (Nat.le_of_ble_eq_true rfl) (ls' := [(3, 0, 0), (2, 0, 0), (0, 2, z0), (1, 0, z1)]) rfl ?_
  refine s_ls [2, 3, 1, 0] rfl ?_
  exact b_M_hadBy_4 hS _ _ _ _ _
theorem c_M_hadBy (l : Launch) (G : GE) (z0 z1 : Int) (h : AH) : Con l yX10_hadBy cX10_hadBy 4 (some .int) 0 0 0 0 G [(2, z0), (0, z1)] h (f_M_hadBy z0 z1 h) :=
  con_of (by decide +kernel) (Nat.le_of_ble_eq_true rfl) fun X hX hS hi => b_M_hadBy hS z0 z1 h
abbrev S_M_waitAll (G : GE) (X : SMw) : SX := (G, X, 3, 0, 0, (some .int), 0, 0)
set_option maxRecDepth 100000 in
set_option maxHeartbeats 4000000 in
theorem B_M_waitAll_4 {G : GE} {X : SMw} (hS : SO (S_M_waitAll G X) RX10 cX10_waitAll) (z0 : Int) {k4 : Int → Int → AH → Option (Int × AH)} (hk4 : ∀ (z1 z2 : Int) (h : AH), Sim (S_M_waitAll G X) 4 [(0, 2, z0), (1, 0, z1), (2, 0, z2)] [] 0 0 h (k4 z1 z2 h)) (z1 z2 : Int) (h : AH) : Sim (S_M_waitAll G X) 4 [(0, 2, z0), (1, 0, z1), (2, 0, z2)] [] 0 0 h (F_M_waitAll_4 z0 k4 z1 z2 h) := by
  unfold F_M_waitAll_4
  refine s_iload_n hS dX10_waitAll_4 rfl 2 rfl ?_
  refine s_aload_n hS dX10_waitAll_5 rfl 0 rfl ?_
  refine gf_X10_39 hS dX10_waitAll_6 fun v1 => ?_
  refine s_iconst hS dX10_waitAll_9 ?_
  refine s_iald hS dX10_waitAll_10 fun v2 => ?_
  refine s_icmp_ge hS dX10_waitAll_11 rfl ?_ ?_
  · refine s_iload_n hS dX10_waitAll_33 rfl 1 rfl ?_
    exact s_iret hS rfl (Nat.le_of_ble_eq_true rfl) (Nat.le_of_ble_eq_true rfl) dX10_waitAll_34
  · refine s_iload_n hS dX10_waitAll_14 rfl 1 rfl ?_
    refine s_aload_n hS dX10_waitAll_15 rfl 0 rfl ?_
    refine gf_X10_39 hS dX10_waitAll_16 fun v3 => ?_
    refine s_sipush hS dX10_waitAll_19 (by decide +kernel) ?_
    refine s_iload_n hS dX10_waitAll_22 rfl 2 rfl ?_
    refine s_iadd hS dX10_waitAll_23 ?_
    refine s_iald hS dX10_waitAll_24 fun v4 => ?_
    refine s_iadd hS dX10_waitAll_25 ?_
    refine s_let fun v5 => ?_
    refine s_istore_n hS dX10_waitAll_26 rfl (Nat.le_of_ble_eq_true rfl) (ls' := [(1, 0, v5), (0, 2, z0), (2, 0, z2)]) rfl ?_
    refine s_iinc hS dX10_waitAll_27 2 rfl (Nat.le_of_ble_eq_true rfl) (ls' := [(2, 0, (z2 + 1)), (1, 0, v5), (0, 2, z0)]) rfl ?_
    refine s_goto hS dX10_waitAll_30 rfl ?_
    refine s_ls [2, 1, 0] rfl ?_
    exact hk4 _ _ _
set_option maxRecDepth 100000 in
set_option maxHeartbeats 4000000 in
theorem b_M_waitAll_4 {G : GE} {X : SMw} (hS : SO (S_M_waitAll G X) RX10 cX10_waitAll) (z0 : Int) (z1 z2 : Int) (h : AH) : Sim (S_M_waitAll G X) 4 [(0, 2, z0), (1, 0, z1), (2, 0, z2)] [] 0 0 h (f_M_waitAll_4 z0 z1 z2 h) := by
  exact s_loop (S := (S_M_waitAll G X)) (lsf := fun s : Int × Int × AH => [(0, 2, z0), (1, 0, s.1), (2, 0, s.2.1)]) (hf := fun s => s.2.2) (fun kf hkf s => B_M_waitAll_4 hS z0 (fun a0 a1 a2 => hkf (a0, a1, a2)) s.1 s.2.1 s.2.2) fu_ (z1, z2, h)
set_option maxRecDepth 100000 in
set_option maxHeartbeats 4000000 in
theorem b_M_waitAll {G : GE} {X : SMw} (hS : SO (S_M_waitAll G X) RX10 cX10_waitAll) (z0 : Int) (h : AH) : Sim (S_M_waitAll G X) 0 [(0, 2, z0)] [] 0 0 h (f_M_waitAll z0 h) := by
  unfold f_M_waitAll
  refine s_iconst hS dX10_waitAll_0 ?_
  refine s_istore_n hS dX10_waitAll_1 rfl (Nat.le_of_ble_eq_true rfl) (ls' := [(1, 0, 0), (0, 2, z0)]) rfl ?_
  refine s_iconst hS dX10_waitAll_2 ?_
  refine s_istore_n hS dX10_waitAll_3 rfl (Nat.le_of_ble_eq_true rfl) (ls' := [(2, 0, 0), (1, 0, 0), (0, 2, z0)]) rfl ?_
  refine s_ls [2, 1, 0] rfl ?_
  exact b_M_waitAll_4 hS _ _ _ _
theorem c_M_waitAll (l : Launch) (G : GE) (z0 : Int) (h : AH) : Con l yX10_waitAll cX10_waitAll 3 (some .int) 0 0 0 0 G [(2, z0)] h (f_M_waitAll z0 h) :=
  con_of (by decide +kernel) (Nat.le_of_ble_eq_true rfl) fun X hX hS hi => b_M_waitAll hS z0 h
abbrev S_M_leastOf (G : GE) (X : SMw) : SX := (G, X, 3, 0, 0, (some .int), 2, 44)
set_option maxRecDepth 100000 in
set_option maxHeartbeats 4000000 in
theorem B_M_leastOf_2 {G : GE} {X : SMw} (hS : SO (S_M_leastOf G X) RX10 cX10_leastOf) (z0 z1 : Int) {k2 : Int → AH → Option (Int × AH)} (hk2 : ∀ (z2 : Int) (h : AH), Sim (S_M_leastOf G X) 2 [(0, 2, z0), (1, 0, z1), (2, 0, z2)] [] 0 0 h (k2 z2 h)) (z2 : Int) (h : AH) : Sim (S_M_leastOf G X) 2 [(0, 2, z0), (1, 0, z1), (2, 0, z2)] [] 0 0 h (F_M_leastOf_2 z0 z1 k2 z2 h) := by
  unfold F_M_leastOf_2
  refine s_iload_n hS dX10_leastOf_2 rfl 2 rfl ?_
  refine s_aload_n hS dX10_leastOf_3 rfl 0 rfl ?_
  refine gf_X10_39 hS dX10_leastOf_4 fun v1 => ?_
  refine s_iconst hS dX10_leastOf_7 ?_
  refine s_iald hS dX10_leastOf_8 fun v2 => ?_
  refine s_icmp_ge hS dX10_leastOf_9 rfl ?_ ?_
  · refine s_iconst hS dX10_leastOf_30 ?_
    exact s_iret hS rfl (Nat.le_of_ble_eq_true rfl) (Nat.le_of_ble_eq_true rfl) dX10_leastOf_31
  · refine s_aload_n hS dX10_leastOf_12 rfl 0 rfl ?_
    refine s_iload_n hS dX10_leastOf_13 rfl 2 rfl ?_
    refine s_iload_n hS dX10_leastOf_14 rfl 1 rfl ?_
    refine s_iconst hS dX10_leastOf_15 ?_
    refine ca_X10_287 hS ⟨Nat.le_of_ble_eq_true rfl, Nat.le_of_ble_eq_true rfl⟩ ⟨Nat.le_of_ble_eq_true rfl, Nat.le_of_ble_eq_true rfl⟩ (Nat.le_of_ble_eq_true rfl) dX10_leastOf_16 fun v3 h4 => ?_
    refine s_if_eq hS dX10_leastOf_19 rfl ?_ ?_
    · refine s_iinc hS dX10_leastOf_24 2 rfl (Nat.le_of_ble_eq_true rfl) (ls' := [(2, 0, (z2 + 1)), (0, 2, z0), (1, 0, z1)]) rfl ?_
      refine s_goto hS dX10_leastOf_27 rfl ?_
      refine s_ls [1, 2, 0] rfl ?_
      exact hk2 _ _
    · refine s_iload_n hS dX10_leastOf_22 rfl 2 rfl ?_
      exact s_iret hS rfl (Nat.le_of_ble_eq_true rfl) (Nat.le_of_ble_eq_true rfl) dX10_leastOf_23
set_option maxRecDepth 100000 in
set_option maxHeartbeats 4000000 in
theorem b_M_leastOf_2 {G : GE} {X : SMw} (hS : SO (S_M_leastOf G X) RX10 cX10_leastOf) (z0 z1 : Int) (z2 : Int) (h : AH) : Sim (S_M_leastOf G X) 2 [(0, 2, z0), (1, 0, z1), (2, 0, z2)] [] 0 0 h (f_M_leastOf_2 z0 z1 z2 h) := by
  exact s_loop (S := (S_M_leastOf G X)) (lsf := fun s : Int × AH => [(0, 2, z0), (1, 0, z1), (2, 0, s.1)]) (hf := fun s => s.2) (fun kf hkf s => B_M_leastOf_2 hS z0 z1 (fun a0 a1 => hkf (a0, a1)) s.1 s.2) fu_ (z2, h)
set_option maxRecDepth 100000 in
set_option maxHeartbeats 4000000 in
theorem b_M_leastOf {G : GE} {X : SMw} (hS : SO (S_M_leastOf G X) RX10 cX10_leastOf) (z0 z1 : Int) (h : AH) : Sim (S_M_leastOf G X) 0 [(0, 2, z0), (1, 0, z1)] [] 0 0 h (f_M_leastOf z0 z1 h) := by
  unfold f_M_leastOf
  refine s_iconst hS dX10_leastOf_0 ?_
  refine s_istore_n hS dX10_leastOf_1 rfl (Nat.le_of_ble_eq_true rfl) (ls' := [(2, 0, 0), (0, 2, z0), (1, 0, z1)]) rfl ?_
  refine s_ls [1, 2, 0] rfl ?_
  exact b_M_leastOf_2 hS _ _ _ _
theorem c_M_leastOf (l : Launch) (G : GE) (z0 z1 : Int) (h : AH) : Con l yX10_leastOf cX10_leastOf 3 (some .int) 2 44 0 0 G [(2, z0), (0, z1)] h (f_M_leastOf z0 z1 h) :=
  con_of (by decide +kernel) (Nat.le_of_ble_eq_true rfl) fun X hX hS hi => b_M_leastOf hS z0 z1 h
abbrev S_M_greatestOf (G : GE) (X : SMw) : SX := (G, X, 3, 0, 0, (some .int), 2, 44)
set_option maxRecDepth 100000 in
set_option maxHeartbeats 4000000 in
theorem B_M_greatestOf_9 {G : GE} {X : SMw} (hS : SO (S_M_greatestOf G X) RX10 cX10_greatestOf) (z0 z1 : Int) {k9 : Int → AH → Option (Int × AH)} (hk9 : ∀ (z2 : Int) (h : AH), Sim (S_M_greatestOf G X) 9 [(0, 2, z0), (1, 0, z1), (2, 0, z2)] [] 0 0 h (k9 z2 h)) (z2 : Int) (h : AH) : Sim (S_M_greatestOf G X) 9 [(0, 2, z0), (1, 0, z1), (2, 0, z2)] [] 0 0 h (F_M_greatestOf_9 z0 z1 k9 z2 h) := by
  unfold F_M_greatestOf_9
  refine s_iload_n hS dX10_greatestOf_9 rfl 2 rfl ?_
  refine s_if_lt hS dX10_greatestOf_10 rfl ?_ ?_
  · refine s_iconst hS dX10_greatestOf_31 ?_
    exact s_iret hS rfl (Nat.le_of_ble_eq_true rfl) (Nat.le_of_ble_eq_true rfl) dX10_greatestOf_32
  · refine s_aload_n hS dX10_greatestOf_13 rfl 0 rfl ?_
    refine s_iload_n hS dX10_greatestOf_14 rfl 2 rfl ?_
    refine s_iload_n hS dX10_greatestOf_15 rfl 1 rfl ?_
    refine s_iconst hS dX10_greatestOf_16 ?_
    refine ca_X10_287 hS ⟨Nat.le_of_ble_eq_true rfl, Nat.le_of_ble_eq_true rfl⟩ ⟨Nat.le_of_ble_eq_true rfl, Nat.le_of_ble_eq_true rfl⟩ (Nat.le_of_ble_eq_true rfl) dX10_greatestOf_17 fun v1 h2 => ?_
    refine s_if_eq hS dX10_greatestOf_20 rfl ?_ ?_
    · refine s_iinc hS dX10_greatestOf_25 2 rfl (Nat.le_of_ble_eq_true rfl) (ls' := [(2, 0, (z2 + (-1))), (0, 2, z0), (1, 0, z1)]) rfl ?_
      refine s_goto hS dX10_greatestOf_28 rfl ?_
      refine s_ls [1, 2, 0] rfl ?_
      exact hk9 _ _
    · refine s_iload_n hS dX10_greatestOf_23 rfl 2 rfl ?_
      exact s_iret hS rfl (Nat.le_of_ble_eq_true rfl) (Nat.le_of_ble_eq_true rfl) dX10_greatestOf_24
set_option maxRecDepth 100000 in
set_option maxHeartbeats 4000000 in
theorem b_M_greatestOf_9 {G : GE} {X : SMw} (hS : SO (S_M_greatestOf G X) RX10 cX10_greatestOf) (z0 z1 : Int) (z2 : Int) (h : AH) : Sim (S_M_greatestOf G X) 9 [(0, 2, z0), (1, 0, z1), (2, 0, z2)] [] 0 0 h (f_M_greatestOf_9 z0 z1 z2 h) := by
  exact s_loop (S := (S_M_greatestOf G X)) (lsf := fun s : Int × AH => [(0, 2, z0), (1, 0, z1), (2, 0, s.1)]) (hf := fun s => s.2) (fun kf hkf s => B_M_greatestOf_9 hS z0 z1 (fun a0 a1 => hkf (a0, a1)) s.1 s.2) fu_ (z2, h)
set_option maxRecDepth 100000 in
set_option maxHeartbeats 4000000 in
theorem b_M_greatestOf {G : GE} {X : SMw} (hS : SO (S_M_greatestOf G X) RX10 cX10_greatestOf) (z0 z1 : Int) (h : AH) : Sim (S_M_greatestOf G X) 0 [(0, 2, z0), (1, 0, z1)] [] 0 0 h (f_M_greatestOf z0 z1 h) := by
  unfold f_M_greatestOf
  refine s_aload_n hS dX10_greatestOf_0 rfl 0 rfl ?_
  refine gf_X10_39 hS dX10_greatestOf_1 fun v1 => ?_
  refine s_iconst hS dX10_greatestOf_4 ?_
  refine s_iald hS dX10_greatestOf_5 fun v2 => ?_
  refine s_iconst hS dX10_greatestOf_6 ?_
  refine s_isub hS dX10_greatestOf_7 ?_
  refine s_let fun v3 => ?_
  refine s_istore_n hS dX10_greatestOf_8 rfl (Nat.le_of_ble_eq_true rfl) (ls' := [(2, 0, v3), (0, 2, z0), (1, 0, z1)]) rfl ?_
  refine s_ls [1, 2, 0] rfl ?_
  exact b_M_greatestOf_9 hS _ _ _ _
theorem c_M_greatestOf (l : Launch) (G : GE) (z0 z1 : Int) (h : AH) : Con l yX10_greatestOf cX10_greatestOf 3 (some .int) 2 44 0 0 G [(2, z0), (0, z1)] h (f_M_greatestOf z0 z1 h) :=
  con_of (by decide +kernel) (Nat.le_of_ble_eq_true rfl) fun X hX hS hi => b_M_greatestOf hS z0 z1 h
abbrev S_M_aheadOf (G : GE) (X : SMw) : SX := (G, X, 4, 0, 0, (some .int), 2, 44)
set_option maxRecDepth 100000 in
set_option maxHeartbeats 4000000 in
theorem B_M_aheadOf_4 {G : GE} {X : SMw} (hS : SO (S_M_aheadOf G X) RX10 cX10_aheadOf) (z0 z1 : Int) {k4 : Int → Int → AH → Option (Int × AH)} (hk4 : ∀ (z2 z3 : Int) (h : AH), Sim (S_M_aheadOf G X) 4 [(0, 2, z0), (1, 0, z1), (2, 0, z2), (3, 0, z3)] [] 0 0 h (k4 z2 z3 h)) (z2 z3 : Int) (h : AH) : Sim (S_M_aheadOf G X) 4 [(0, 2, z0), (1, 0, z1), (2, 0, z2), (3, 0, z3)] [] 0 0 h (F_M_aheadOf_4 z0 z1 k4 z2 z3 h) := by
  unfold F_M_aheadOf_4
  refine s_iload_n hS dX10_aheadOf_4 rfl 3 rfl ?_
  refine s_aload_n hS dX10_aheadOf_5 rfl 0 rfl ?_
  refine gf_X10_39 hS dX10_aheadOf_6 fun v1 => ?_
  refine s_iconst hS dX10_aheadOf_9 ?_
  refine s_iald hS dX10_aheadOf_10 fun v2 => ?_
  refine s_icmp_ge hS dX10_aheadOf_11 rfl ?_ ?_
  · refine s_iload_n hS dX10_aheadOf_108 rfl 2 rfl ?_
    exact s_iret hS rfl (Nat.le_of_ble_eq_true rfl) (Nat.le_of_ble_eq_true rfl) dX10_aheadOf_109
  · refine s_aload_n hS dX10_aheadOf_14 rfl 0 rfl ?_
    refine s_iload_n hS dX10_aheadOf_15 rfl 3 rfl ?_
    refine s_aload_n hS dX10_aheadOf_16 rfl 0 rfl ?_
    refine gf_X10_39 hS dX10_aheadOf_17 fun v3 => ?_
    refine s_sipush hS dX10_aheadOf_20 (by decide +kernel) ?_
    refine s_iload_n hS dX10_aheadOf_23 rfl 1 rfl ?_
    refine s_iadd hS dX10_aheadOf_24 ?_
    refine s_iald hS dX10_aheadOf_25 fun v4 => ?_
    refine s_aload_n hS dX10_aheadOf_26 rfl 0 rfl ?_
    refine gf_X10_39 hS dX10_aheadOf_27 fun v5 => ?_
    refine s_sipush hS dX10_aheadOf_30 (by decide +kernel) ?_
    refine s_iload_n hS dX10_aheadOf_33 rfl 1 rfl ?_
    refine s_iadd hS dX10_aheadOf_34 ?_
    refine s_iald hS dX10_aheadOf_35 fun v6 => ?_
    refine ca_X10_287 hS ⟨Nat.le_of_ble_eq_true rfl, Nat.le_of_ble_eq_true rfl⟩ ⟨Nat.le_of_ble_eq_true rfl, Nat.le_of_ble_eq_true rfl⟩ (Nat.le_of_ble_eq_true rfl) dX10_aheadOf_36 fun v7 h8 => ?_
    refine s_if_ne hS dX10_aheadOf_39 rfl ?_ ?_
    · refine s_iload_n hS dX10_aheadOf_45 rfl 2 rfl ?_
      refine s_aload_n hS dX10_aheadOf_46 rfl 0 rfl ?_
      refine gf_X10_39 hS dX10_aheadOf_47 fun v9 => ?_
      refine s_sipush hS dX10_aheadOf_50 (by decide +kernel) ?_
      refine s_iload_n hS dX10_aheadOf_53 rfl 1 rfl ?_
      refine s_iadd hS dX10_aheadOf_54 ?_
      refine s_iald hS dX10_aheadOf_55 fun v10 => ?_
      refine s_if_ne hS dX10_aheadOf_56 rfl ?_ ?_
      · refine s_aload_n hS dX10_aheadOf_72 rfl 0 rfl ?_
        refine gf_X10_39 hS dX10_aheadOf_73 fun v11 => ?_
        refine s_sipush hS dX10_aheadOf_76 (by decide +kernel) ?_
        refine s_iload_n hS dX10_aheadOf_79 rfl 3 rfl ?_
        refine s_iadd hS dX10_aheadOf_80 ?_
        refine s_iald hS dX10_aheadOf_81 fun v12 => ?_
        refine s_aload_n hS dX10_aheadOf_82 rfl 0 rfl ?_
        refine gf_X10_39 hS dX10_aheadOf_83 fun v13 => ?_
        refine s_sipush hS dX10_aheadOf_86 (by decide +kernel) ?_
        refine s_iload_n hS dX10_aheadOf_89 rfl 1 rfl ?_
        refine s_iadd hS dX10_aheadOf_90 ?_
        refine s_iald hS dX10_aheadOf_91 fun v14 => ?_
        refine s_icmp_ge hS dX10_aheadOf_92 rfl ?_ ?_
        · refine s_iconst hS dX10_aheadOf_99 ?_
          refine s_iadd hS dX10_aheadOf_100 ?_
          refine s_let fun v15 => ?_
          refine s_istore_n hS dX10_aheadOf_101 rfl (Nat.le_of_ble_eq_true rfl) (ls' := [(2, 0, v15), (0, 2, z0), (1, 0, z1), (3, 0, z3)]) rfl ?_
          refine s_iinc hS dX10_aheadOf_102 3 rfl (Nat.le_of_ble_eq_true rfl) (ls' := [(3, 0, (z3 + 1)), (2, 0, v15), (0, 2, z0), (1, 0, z1)]) rfl ?_
          refine s_goto hS dX10_aheadOf_105 rfl ?_
          refine s_ls [2, 3, 1, 0] rfl ?_
          exact hk4 _ _ _
        · refine s_iconst hS dX10_aheadOf_95 ?_
          refine s_goto hS dX10_aheadOf_96 rfl ?_
          refine s_iadd hS dX10_aheadOf_100 ?_
          refine s_let fun v16 => ?_
          refine s_istore_n hS dX10_aheadOf_101 rfl (Nat.le_of_ble_eq_true rfl) (ls' := [(2, 0, v16), (0, 2, z0), (1, 0, z1), (3, 0, z3)]) rfl ?_
          refine s_iinc hS dX10_aheadOf_102 3 rfl (Nat.le_of_ble_eq_true rfl) (ls' := [(3, 0, (z3 + 1)), (2, 0, v16), (0, 2, z0), (1, 0, z1)]) rfl ?_
          refine s_goto hS dX10_aheadOf_105 rfl ?_
          refine s_ls [2, 3, 1, 0] rfl ?_
          exact hk4 _ _ _
      · refine s_iload_n hS dX10_aheadOf_59 rfl 3 rfl ?_
        refine s_iload_n hS dX10_aheadOf_60 rfl 1 rfl ?_
        refine s_icmp_ge hS dX10_aheadOf_61 rfl ?_ ?_
        · refine s_iconst hS dX10_aheadOf_68 ?_
          refine s_goto hS dX10_aheadOf_69 rfl ?_
          refine s_iadd hS dX10_aheadOf_100 ?_
          refine s_let fun v17 => ?_
          refine s_istore_n hS dX10_aheadOf_101 rfl (Nat.le_of_ble_eq_true rfl) (ls' := [(2, 0, v17), (0, 2, z0), (1, 0, z1), (3, 0, z3)]) rfl ?_
          refine s_iinc hS dX10_aheadOf_102 3 rfl (Nat.le_of_ble_eq_true rfl) (ls' := [(3, 0, (z3 + 1)), (2, 0, v17), (0, 2, z0), (1, 0, z1)]) rfl ?_
          refine s_goto hS dX10_aheadOf_105 rfl ?_
          refine s_ls [2, 3, 1, 0] rfl ?_
          exact hk4 _ _ _
        · refine s_iconst hS dX10_aheadOf_64 ?_
          refine s_goto hS dX10_aheadOf_65 rfl ?_
          refine s_iadd hS dX10_aheadOf_100 ?_
          refine s_let fun v18 => ?_
          refine s_istore_n hS dX10_aheadOf_101 rfl (Nat.le_of_ble_eq_true rfl) (ls' := [(2, 0, v18), (0, 2, z0), (1, 0, z1), (3, 0, z3)]) rfl ?_
          refine s_iinc hS dX10_aheadOf_102 3 rfl (Nat.le_of_ble_eq_true rfl) (ls' := [(3, 0, (z3 + 1)), (2, 0, v18), (0, 2, z0), (1, 0, z1)]) rfl ?_
          refine s_goto hS dX10_aheadOf_105 rfl ?_
          refine s_ls [2, 3, 1, 0] rfl ?_
          exact hk4 _ _ _
    · refine s_goto hS dX10_aheadOf_42 rfl ?_
      refine s_iinc hS dX10_aheadOf_102 3 rfl (Nat.le_of_ble_eq_true rfl) (ls' := [(3, 0, (z3 + 1)), (0, 2, z0), (1, 0, z1), (2, 0, z2)]) rfl ?_
      refine s_goto hS dX10_aheadOf_105 rfl ?_
      refine s_ls [1, 2, 3, 0] rfl ?_
      exact hk4 _ _ _
set_option maxRecDepth 100000 in
set_option maxHeartbeats 4000000 in
theorem b_M_aheadOf_4 {G : GE} {X : SMw} (hS : SO (S_M_aheadOf G X) RX10 cX10_aheadOf) (z0 z1 : Int) (z2 z3 : Int) (h : AH) : Sim (S_M_aheadOf G X) 4 [(0, 2, z0), (1, 0, z1), (2, 0, z2), (3, 0, z3)] [] 0 0 h (f_M_aheadOf_4 z0 z1 z2 z3 h) := by
  exact s_loop (S := (S_M_aheadOf G X)) (lsf := fun s : Int × Int × AH => [(0, 2, z0), (1, 0, z1), (2, 0, s.1), (3, 0, s.2.1)]) (hf := fun s => s.2.2) (fun kf hkf s => B_M_aheadOf_4 hS z0 z1 (fun a0 a1 a2 => hkf (a0, a1, a2)) s.1 s.2.1 s.2.2) fu_ (z2, z3, h)
set_option maxRecDepth 100000 in
set_option maxHeartbeats 4000000 in
theorem b_M_aheadOf {G : GE} {X : SMw} (hS : SO (S_M_aheadOf G X) RX10 cX10_aheadOf) (z0 z1 : Int) (h : AH) : Sim (S_M_aheadOf G X) 0 [(0, 2, z0), (1, 0, z1)] [] 0 0 h (f_M_aheadOf z0 z1 h) := by
  unfold f_M_aheadOf
  refine s_iconst hS dX10_aheadOf_0 ?_
  refine s_istore_n hS dX10_aheadOf_1 rfl (Nat.le_of_ble_eq_true rfl) (ls' := [(2, 0, 0), (0, 2, z0), (1, 0, z1)]) rfl ?_
  refine s_iconst hS dX10_aheadOf_2 ?_
  refine s_istore_n hS dX10_aheadOf_3 rfl (Nat.le_of_ble_eq_true rfl) (ls' := [(3, 0, 0), (2, 0, 0), (0, 2, z0), (1, 0, z1)]) rfl ?_
  refine s_ls [2, 3, 1, 0] rfl ?_
  exact b_M_aheadOf_4 hS _ _ _ _ _
theorem c_M_aheadOf (l : Launch) (G : GE) (z0 z1 : Int) (h : AH) : Con l yX10_aheadOf cX10_aheadOf 4 (some .int) 2 44 0 0 G [(2, z0), (0, z1)] h (f_M_aheadOf z0 z1 h) :=
  con_of (by decide +kernel) (Nat.le_of_ble_eq_true rfl) fun X hX hS hi => b_M_aheadOf hS z0 z1 h
theorem ca_X10_294 {S : SX} {cc : ByteArray} {pc : Nat} {ls : List (Nat × Nat × Int)} {st : List (Nat × Int)} {k n : Nat} {h : AH} {q0 b : Int} {f : Int → AH → Option (Int × AH)} (hS : SO S RX10 cc) (hR : 2 + 1 ≤ S.2.2.2.2.2.2.1 ∧ 8 + (4 + 11) + 44 ≤ S.2.2.2.2.2.2.2) (hk : k + 0 ≤ S.2.2.2.1 ∧ n + 0 ≤ S.2.2.2.2.1) (hl : st.length ≤ 4) (d : decode cc pc = .ok (.invokevirtual 294, 3)) (kk : ∀ (r : Int) (h2 : AH), Sim S (pc + 3) ls ((0, r) :: st) (k + 0) (n + 0) h2 (f r h2)) : Sim S pc ls ((0, q0) :: (2, b) :: st) k n h (c_k h 11 b (bd_ (f_M_aheadOf b q0 h) f)) := s_callV hS mo_X10_aheadOf rfl rfl (c_M_aheadOf _ _ _ _ h) tw_1483 tw_1485 tw_70 hR hk rfl rfl hl d kk
abbrev S_M_atPlace (G : GE) (X : SMw) : SX := (G, X, 5, 0, 0, (some .int), 3, 67)
set_option maxRecDepth 100000 in
set_option maxHeartbeats 4000000 in
theorem B_M_atPlace_3 {G : GE} {X : SMw} (hS : SO (S_M_atPlace G X) RX10 cX10_atPlace) (z0 z1 z2 z3 : Int) {k3 : Int → AH → Option (Int × AH)} (hk3 : ∀ (z4 : Int) (h : AH), Sim (S_M_atPlace G X) 3 [(0, 2, z0), (1, 0, z1), (2, 0, z2), (3, 0, z3), (4, 0, z4)] [] 0 0 h (k3 z4 h)) (z4 : Int) (h : AH) : Sim (S_M_atPlace G X) 3 [(0, 2, z0), (1, 0, z1), (2, 0, z2), (3, 0, z3), (4, 0, z4)] [] 0 0 h (F_M_atPlace_3 z0 z1 z2 z3 k3 z4 h) := by
  unfold F_M_atPlace_3
  refine s_iload hS dX10_atPlace_3 4 rfl ?_
  refine s_aload_n hS dX10_atPlace_5 rfl 0 rfl ?_
  refine gf_X10_39 hS dX10_atPlace_6 fun v1 => ?_
  refine s_iconst hS dX10_atPlace_9 ?_
  refine s_iald hS dX10_atPlace_10 fun v2 => ?_
  refine s_icmp_ge hS dX10_atPlace_11 rfl ?_ ?_
  · refine s_iconst hS dX10_atPlace_44 ?_
    exact s_iret hS rfl (Nat.le_of_ble_eq_true rfl) (Nat.le_of_ble_eq_true rfl) dX10_atPlace_45
  · refine s_aload_n hS dX10_atPlace_14 rfl 0 rfl ?_
    refine s_iload hS dX10_atPlace_15 4 rfl ?_
    refine s_iload_n hS dX10_atPlace_17 rfl 1 rfl ?_
    refine s_iload_n hS dX10_atPlace_18 rfl 2 rfl ?_
    refine ca_X10_287 hS ⟨Nat.le_of_ble_eq_true rfl, Nat.le_of_ble_eq_true rfl⟩ ⟨Nat.le_of_ble_eq_true rfl, Nat.le_of_ble_eq_true rfl⟩ (Nat.le_of_ble_eq_true rfl) dX10_atPlace_19 fun v3 h4 => ?_
    refine s_if_eq hS dX10_atPlace_22 rfl ?_ ?_
    · refine s_iinc hS dX10_atPlace_38 4 rfl (Nat.le_of_ble_eq_true rfl) (ls' := [(4, 0, (z4 + 1)), (0, 2, z0), (1, 0, z1), (2, 0, z2), (3, 0, z3)]) rfl ?_
      refine s_goto hS dX10_atPlace_41 rfl ?_
      refine s_ls [1, 2, 3, 4, 0] rfl ?_
      exact hk3 _ _
    · refine s_aload_n hS dX10_atPlace_25 rfl 0 rfl ?_
      refine s_iload hS dX10_atPlace_26 4 rfl ?_
      refine ca_X10_294 hS ⟨Nat.le_of_ble_eq_true rfl, Nat.le_of_ble_eq_true rfl⟩ ⟨Nat.le_of_ble_eq_true rfl, Nat.le_of_ble_eq_true rfl⟩ (Nat.le_of_ble_eq_true rfl) dX10_atPlace_28 fun v5 h6 => ?_
      refine s_iload_n hS dX10_atPlace_31 rfl 3 rfl ?_
      refine s_icmp_ne hS dX10_atPlace_32 rfl ?_ ?_
      · refine s_iinc hS dX10_atPlace_38 4 rfl (Nat.le_of_ble_eq_true rfl) (ls' := [(4, 0, (z4 + 1)), (0, 2, z0), (1, 0, z1), (2, 0, z2), (3, 0, z3)]) rfl ?_
        refine s_goto hS dX10_atPlace_41 rfl ?_
        refine s_ls [1, 2, 3, 4, 0] rfl ?_
        exact hk3 _ _
      · refine s_iload hS dX10_atPlace_35 4 rfl ?_
        exact s_iret hS rfl (Nat.le_of_ble_eq_true rfl) (Nat.le_of_ble_eq_true rfl) dX10_atPlace_37
set_option maxRecDepth 100000 in
set_option maxHeartbeats 4000000 in
theorem b_M_atPlace_3 {G : GE} {X : SMw} (hS : SO (S_M_atPlace G X) RX10 cX10_atPlace) (z0 z1 z2 z3 : Int) (z4 : Int) (h : AH) : Sim (S_M_atPlace G X) 3 [(0, 2, z0), (1, 0, z1), (2, 0, z2), (3, 0, z3), (4, 0, z4)] [] 0 0 h (f_M_atPlace_3 z0 z1 z2 z3 z4 h) := by
  exact s_loop (S := (S_M_atPlace G X)) (lsf := fun s : Int × AH => [(0, 2, z0), (1, 0, z1), (2, 0, z2), (3, 0, z3), (4, 0, s.1)]) (hf := fun s => s.2) (fun kf hkf s => B_M_atPlace_3 hS z0 z1 z2 z3 (fun a0 a1 => hkf (a0, a1)) s.1 s.2) fu_ (z4, h)
set_option maxRecDepth 100000 in
set_option maxHeartbeats 4000000 in
theorem b_M_atPlace {G : GE} {X : SMw} (hS : SO (S_M_atPlace G X) RX10 cX10_atPlace) (z0 z1 z2 z3 : Int) (h : AH) : Sim (S_M_atPlace G X) 0 [(0, 2, z0), (1, 0, z1), (2, 0, z2), (3, 0, z3)] [] 0 0 h (f_M_atPlace z0 z1 z2 z3 h) := by
  unfold f_M_atPlace
  refine s_iconst hS dX10_atPlace_0 ?_
  refine s_istore hS dX10_atPlace_1 (Nat.le_of_ble_eq_true rfl) (ls' := [(4, 0, 0), (0, 2, z0), (1, 0, z1), (2, 0, z2), (3, 0, z3)]) rfl ?_
  refine s_ls [1, 2, 3, 4, 0] rfl ?_
  exact b_M_atPlace_3 hS _ _ _ _ _ _
theorem c_M_atPlace (l : Launch) (G : GE) (z0 z1 z2 z3 : Int) (h : AH) : Con l yX10_atPlace cX10_atPlace 5 (some .int) 3 67 0 0 G [(2, z0), (0, z1), (0, z2), (0, z3)] h (f_M_atPlace z0 z1 z2 z3 h) :=
  con_of (by decide +kernel) (Nat.le_of_ble_eq_true rfl) fun X hX hS hi => b_M_atPlace hS z0 z1 z2 z3 h
abbrev S_M_isFirstOfRun (G : GE) (X : SMw) : SX := (G, X, 3, 0, 0, (some .boolean), 2, 44)
set_option maxRecDepth 100000 in
set_option maxHeartbeats 4000000 in
theorem b_M_isFirstOfRun {G : GE} {X : SMw} (hS : SO (S_M_isFirstOfRun G X) RX10 cX10_isFirstOfRun) (z0 z1 z2 : Int) (h : AH) : Sim (S_M_isFirstOfRun G X) 0 [(0, 2, z0), (1, 0, z1), (2, 0, z2)] [] 0 0 h (f_M_isFirstOfRun z0 z1 z2 h) := by
  unfold f_M_isFirstOfRun
  refine s_aload_n hS dX10_isFirstOfRun_0 rfl 0 rfl ?_
  refine s_iload_n hS dX10_isFirstOfRun_1 rfl 1 rfl ?_
  refine s_iload_n hS dX10_isFirstOfRun_2 rfl 2 rfl ?_
  refine s_iconst hS dX10_isFirstOfRun_3 ?_
  refine ca_X10_287 hS ⟨Nat.le_of_ble_eq_true rfl, Nat.le_of_ble_eq_true rfl⟩ ⟨Nat.le_of_ble_eq_true rfl, Nat.le_of_ble_eq_true rfl⟩ (Nat.le_of_ble_eq_true rfl) dX10_isFirstOfRun_4 fun v1 h2 => ?_
  refine s_if_eq hS dX10_isFirstOfRun_7 rfl ?_ ?_
  · refine s_iconst hS dX10_isFirstOfRun_26 ?_
    exact s_zret hS rfl (Nat.le_of_ble_eq_true rfl) (Nat.le_of_ble_eq_true rfl) dX10_isFirstOfRun_27
  · refine s_aload_n hS dX10_isFirstOfRun_10 rfl 0 rfl ?_
    refine s_iload_n hS dX10_isFirstOfRun_11 rfl 1 rfl ?_
    refine s_iconst hS dX10_isFirstOfRun_12 ?_
    refine s_isub hS dX10_isFirstOfRun_13 ?_
    refine s_iload_n hS dX10_isFirstOfRun_14 rfl 2 rfl ?_
    refine s_iconst hS dX10_isFirstOfRun_15 ?_
    refine ca_X10_287 hS ⟨Nat.le_of_ble_eq_true rfl, Nat.le_of_ble_eq_true rfl⟩ ⟨Nat.le_of_ble_eq_true rfl, Nat.le_of_ble_eq_true rfl⟩ (Nat.le_of_ble_eq_true rfl) dX10_isFirstOfRun_16 fun v3 h4 => ?_
    refine s_if_ne hS dX10_isFirstOfRun_19 rfl ?_ ?_
    · refine s_iconst hS dX10_isFirstOfRun_26 ?_
      exact s_zret hS rfl (Nat.le_of_ble_eq_true rfl) (Nat.le_of_ble_eq_true rfl) dX10_isFirstOfRun_27
    · refine s_iconst hS dX10_isFirstOfRun_22 ?_
      refine s_goto hS dX10_isFirstOfRun_23 rfl ?_
      exact s_zret hS rfl (Nat.le_of_ble_eq_true rfl) (Nat.le_of_ble_eq_true rfl) dX10_isFirstOfRun_27
theorem c_M_isFirstOfRun (l : Launch) (G : GE) (z0 z1 z2 : Int) (h : AH) : Con l yX10_isFirstOfRun cX10_isFirstOfRun 3 (some .boolean) 2 44 0 0 G [(2, z0), (0, z1), (0, z2)] h (f_M_isFirstOfRun z0 z1 z2 h) :=
  con_of (by decide +kernel) (Nat.le_of_ble_eq_true rfl) fun X hX hS hi => b_M_isFirstOfRun hS z0 z1 z2 h
theorem ca_X10_297 {S : SX} {cc : ByteArray} {pc : Nat} {ls : List (Nat × Nat × Int)} {st : List (Nat × Int)} {k n : Nat} {h : AH} {q0 q1 b : Int} {f : Int → AH → Option (Int × AH)} (hS : SO S RX10 cc) (hR : 2 + 1 ≤ S.2.2.2.2.2.2.1 ∧ 8 + (3 + 11) + 44 ≤ S.2.2.2.2.2.2.2) (hk : k + 0 ≤ S.2.2.2.1 ∧ n + 0 ≤ S.2.2.2.2.1) (hl : st.length ≤ 4) (d : decode cc pc = .ok (.invokevirtual 297, 3)) (kk : ∀ (r : Int) (h2 : AH), Sim S (pc + 3) ls ((0, r) :: st) (k + 0) (n + 0) h2 (f r h2)) : Sim S pc ls ((0, q1) :: (0, q0) :: (2, b) :: st) k n h (c_k h 11 b (bd_ (f_M_isFirstOfRun b q0 q1 h) f)) := s_callV hS mo_X10_isFirstOfRun rfl rfl (c_M_isFirstOfRun _ _ _ _ _ h) tw_1503 tw_1505 tw_73 hR hk rfl rfl hl d kk
abbrev S_M_runsOf (G : GE) (X : SMw) : SX := (G, X, 4, 0, 0, (some .int), 3, 66)
set_option maxRecDepth 100000 in
set_option maxHeartbeats 4000000 in
theorem B_M_runsOf_4 {G : GE} {X : SMw} (hS : SO (S_M_runsOf G X) RX10 cX10_runsOf) (z0 z1 : Int) {k4 : Int → Int → AH → Option (Int × AH)} (hk4 : ∀ (z2 z3 : Int) (h : AH), Sim (S_M_runsOf G X) 4 [(0, 2, z0), (1, 0, z1), (2, 0, z2), (3, 0, z3)] [] 0 0 h (k4 z2 z3 h)) (z2 z3 : Int) (h : AH) : Sim (S_M_runsOf G X) 4 [(0, 2, z0), (1, 0, z1), (2, 0, z2), (3, 0, z3)] [] 0 0 h (F_M_runsOf_4 z0 z1 k4 z2 z3 h) := by
  unfold F_M_runsOf_4
  refine s_iload_n hS dX10_runsOf_4 rfl 3 rfl ?_
  refine s_aload_n hS dX10_runsOf_5 rfl 0 rfl ?_
  refine gf_X10_39 hS dX10_runsOf_6 fun v1 => ?_
  refine s_iconst hS dX10_runsOf_9 ?_
  refine s_iald hS dX10_runsOf_10 fun v2 => ?_
  refine s_icmp_ge hS dX10_runsOf_11 rfl ?_ ?_
  · refine s_iload_n hS dX10_runsOf_37 rfl 2 rfl ?_
    exact s_iret hS rfl (Nat.le_of_ble_eq_true rfl) (Nat.le_of_ble_eq_true rfl) dX10_runsOf_38
  · refine s_iload_n hS dX10_runsOf_14 rfl 2 rfl ?_
    refine s_aload_n hS dX10_runsOf_15 rfl 0 rfl ?_
    refine s_iload_n hS dX10_runsOf_16 rfl 3 rfl ?_
    refine s_iload_n hS dX10_runsOf_17 rfl 1 rfl ?_
    refine ca_X10_297 hS ⟨Nat.le_of_ble_eq_true rfl, Nat.le_of_ble_eq_true rfl⟩ ⟨Nat.le_of_ble_eq_true rfl, Nat.le_of_ble_eq_true rfl⟩ (Nat.le_of_ble_eq_true rfl) dX10_runsOf_18 fun v3 h4 => ?_
    refine s_if_eq hS dX10_runsOf_21 rfl ?_ ?_
    · refine s_iconst hS dX10_runsOf_28 ?_
      refine s_iadd hS dX10_runsOf_29 ?_
      refine s_let fun v5 => ?_
      refine s_istore_n hS dX10_runsOf_30 rfl (Nat.le_of_ble_eq_true rfl) (ls' := [(2, 0, v5), (0, 2, z0), (1, 0, z1), (3, 0, z3)]) rfl ?_
      refine s_iinc hS dX10_runsOf_31 3 rfl (Nat.le_of_ble_eq_true rfl) (ls' := [(3, 0, (z3 + 1)), (2, 0, v5), (0, 2, z0), (1, 0, z1)]) rfl ?_
      refine s_goto hS dX10_runsOf_34 rfl ?_
      refine s_ls [2, 3, 1, 0] rfl ?_
      exact hk4 _ _ _
    · refine s_iconst hS dX10_runsOf_24 ?_
      refine s_goto hS dX10_runsOf_25 rfl ?_
      refine s_iadd hS dX10_runsOf_29 ?_
      refine s_let fun v6 => ?_
      refine s_istore_n hS dX10_runsOf_30 rfl (Nat.le_of_ble_eq_true rfl) (ls' := [(2, 0, v6), (0, 2, z0), (1, 0, z1), (3, 0, z3)]) rfl ?_
      refine s_iinc hS dX10_runsOf_31 3 rfl (Nat.le_of_ble_eq_true rfl) (ls' := [(3, 0, (z3 + 1)), (2, 0, v6), (0, 2, z0), (1, 0, z1)]) rfl ?_
      refine s_goto hS dX10_runsOf_34 rfl ?_
      refine s_ls [2, 3, 1, 0] rfl ?_
      exact hk4 _ _ _
set_option maxRecDepth 100000 in
set_option maxHeartbeats 4000000 in
theorem b_M_runsOf_4 {G : GE} {X : SMw} (hS : SO (S_M_runsOf G X) RX10 cX10_runsOf) (z0 z1 : Int) (z2 z3 : Int) (h : AH) : Sim (S_M_runsOf G X) 4 [(0, 2, z0), (1, 0, z1), (2, 0, z2), (3, 0, z3)] [] 0 0 h (f_M_runsOf_4 z0 z1 z2 z3 h) := by
  exact s_loop (S := (S_M_runsOf G X)) (lsf := fun s : Int × Int × AH => [(0, 2, z0), (1, 0, z1), (2, 0, s.1), (3, 0, s.2.1)]) (hf := fun s => s.2.2) (fun kf hkf s => B_M_runsOf_4 hS z0 z1 (fun a0 a1 a2 => hkf (a0, a1, a2)) s.1 s.2.1 s.2.2) fu_ (z2, z3, h)
set_option maxRecDepth 100000 in
set_option maxHeartbeats 4000000 in
theorem b_M_runsOf {G : GE} {X : SMw} (hS : SO (S_M_runsOf G X) RX10 cX10_runsOf) (z0 z1 : Int) (h : AH) : Sim (S_M_runsOf G X) 0 [(0, 2, z0), (1, 0, z1)] [] 0 0 h (f_M_runsOf z0 z1 h) := by
  unfold f_M_runsOf
  refine s_iconst hS dX10_runsOf_0 ?_
  refine s_istore_n hS dX10_runsOf_1 rfl (Nat.le_of_ble_eq_true rfl) (ls' := [(2, 0, 0), (0, 2, z0), (1, 0, z1)]) rfl ?_
  refine s_iconst hS dX10_runsOf_2 ?_
  refine s_istore_n hS dX10_runsOf_3 rfl (Nat.le_of_ble_eq_true rfl) (ls' := [(3, 0, 0), (2, 0, 0), (0, 2, z0), (1, 0, z1)]) rfl ?_
  refine s_ls [2, 3, 1, 0] rfl ?_
  exact b_M_runsOf_4 hS _ _ _ _ _
theorem c_M_runsOf (l : Launch) (G : GE) (z0 z1 : Int) (h : AH) : Con l yX10_runsOf cX10_runsOf 4 (some .int) 3 66 0 0 G [(2, z0), (0, z1)] h (f_M_runsOf z0 z1 h) :=
  con_of (by decide +kernel) (Nat.le_of_ble_eq_true rfl) fun X hX hS hi => b_M_runsOf hS z0 z1 h
theorem ca_X10_304 {S : SX} {cc : ByteArray} {pc : Nat} {ls : List (Nat × Nat × Int)} {st : List (Nat × Int)} {k n : Nat} {h : AH} {q0 b : Int} {f : Int → AH → Option (Int × AH)} (hS : SO S RX10 cc) (hR : 0 + 1 ≤ S.2.2.2.2.2.2.1 ∧ 8 + (2 + 11) + 0 ≤ S.2.2.2.2.2.2.2) (hk : k + 0 ≤ S.2.2.2.1 ∧ n + 0 ≤ S.2.2.2.2.1) (hl : st.length ≤ 4) (d : decode cc pc = .ok (.invokevirtual 304, 3)) (kk : ∀ (r : Int) (h2 : AH), Sim S (pc + 3) ls ((0, r) :: st) (k + 0) (n + 0) h2 (f r h2)) : Sim S pc ls ((0, q0) :: (2, b) :: st) k n h (c_k h 11 b (bd_ (f_M_isRule b q0 h) f)) := s_callV hS mo_X10_isRule rfl rfl (c_M_isRule _ _ _ _ h) tw_1450 tw_1452 tw_64 hR hk rfl rfl hl d kk
theorem gf_X10_42 {S : SX} {cc : ByteArray} {pc : Nat} {ls : List (Nat × Nat × Int)} {st : List (Nat × Int)} {k n : Nat} {h : AH} {a : Int} {f : Int → Option (Int × AH)} (hS : SO S RX10 cc) (d : decode cc pc = .ok (.getfield 42, 3)) (kk : ∀ v : Int, Sim S (pc + 3) ls ((0, v) :: st) k n h (f v)) : Sim S pc ls ((2, a) :: st) k n h ((g_f h 11 a 21).bind f) := s_getf hS cx_10 21 (by decide) tw_1159 rfl rfl rfl d kk
abbrev S_M_force (G : GE) (X : SMw) : SX := (G, X, 3, 0, 0, (some .int), 1, 21)
set_option maxRecDepth 100000 in
set_option maxHeartbeats 4000000 in
theorem b_M_force_16 {G : GE} {X : SMw} (hS : SO (S_M_force G X) RX10 cX10_force) (z0 z1 : Int) (h : AH) : Sim (S_M_force G X) 16 [(0, 2, z0), (1, 0, z1)] [] 0 0 h (f_M_force_16 z0 z1 h) := by
  unfold f_M_force_16
  refine s_aload_n hS dX10_force_16 rfl 0 rfl ?_
  refine gf_X10_42 hS dX10_force_17 fun v1 => ?_
  refine s_istore_n hS dX10_force_20 rfl (Nat.le_of_ble_eq_true rfl) (ls' := [(2, 0, v1), (0, 2, z0), (1, 0, z1)]) rfl ?_
  refine s_aload_n hS dX10_force_21 rfl 1 rfl ?_
  refine s_iload_n hS dX10_force_22 rfl 2 rfl ?_
  refine pf_X10_42 hS dX10_force_23 fun h2 => ?_
  refine s_iload_n hS dX10_force_26 rfl 0 rfl ?_
  exact s_iret hS rfl (Nat.le_of_ble_eq_true rfl) (Nat.le_of_ble_eq_true rfl) dX10_force_27
set_option maxRecDepth 100000 in
set_option maxHeartbeats 4000000 in
theorem b_M_force {G : GE} {X : SMw} (hS : SO (S_M_force G X) RX10 cX10_force) (z0 z1 : Int) (h : AH) : Sim (S_M_force G X) 0 [(0, 2, z0), (1, 0, z1)] [] 0 0 h (f_M_force z0 z1 h) := by
  unfold f_M_force
  refine s_iload_n hS dX10_force_0 rfl 1 rfl ?_
  refine s_iconst hS dX10_force_1 ?_
  refine s_icmp_eq hS dX10_force_2 rfl ?_ ?_
  · exact b_M_force_16 hS _ _ _
  · refine s_aload_n hS dX10_force_5 rfl 0 rfl ?_
    refine s_iload_n hS dX10_force_6 rfl 1 rfl ?_
    refine ca_X10_304 hS ⟨Nat.le_of_ble_eq_true rfl, Nat.le_of_ble_eq_true rfl⟩ ⟨Nat.le_of_ble_eq_true rfl, Nat.le_of_ble_eq_true rfl⟩ (Nat.le_of_ble_eq_true rfl) dX10_force_7 fun v1 h2 => ?_
    refine s_if_ne hS dX10_force_10 rfl ?_ ?_
    · exact b_M_force_16 hS _ _ _
    · refine s_bipush hS dX10_force_13 (by decide +kernel) ?_
      exact s_iret hS rfl (Nat.le_of_ble_eq_true rfl) (Nat.le_of_ble_eq_true rfl) dX10_force_15
theorem c_M_force (l : Launch) (G : GE) (z0 z1 : Int) (h : AH) : Con l yX10_force cX10_force 3 (some .int) 1 21 0 0 G [(2, z0), (0, z1)] h (f_M_force z0 z1 h) :=
  con_of (by decide +kernel) (Nat.le_of_ble_eq_true rfl) fun X hX hS hi => b_M_force hS z0 z1 h
theorem ca_X10_307 {S : SX} {cc : ByteArray} {pc : Nat} {ls : List (Nat × Nat × Int)} {st : List (Nat × Int)} {k n : Nat} {h : AH} {q0 b : Int} {f : Int → AH → Option (Int × AH)} (hS : SO S RX10 cc) (hR : 0 + 1 ≤ S.2.2.2.2.2.2.1 ∧ 8 + (2 + 11) + 0 ≤ S.2.2.2.2.2.2.2) (hk : k + 0 ≤ S.2.2.2.1 ∧ n + 0 ≤ S.2.2.2.2.1) (hl : st.length ≤ 4) (d : decode cc pc = .ok (.invokevirtual 307, 3)) (kk : ∀ (r : Int) (h2 : AH), Sim S (pc + 3) ls ((0, r) :: st) (k + 0) (n + 0) h2 (f r h2)) : Sim S pc ls ((0, q0) :: (2, b) :: st) k n h (c_k h 11 b (bd_ (f_M_isStation b q0 h) f)) := s_callV hS mo_X10_isStation rfl rfl (c_M_isStation _ _ _ _ h) tw_1458 tw_1460 tw_65 hR hk rfl rfl hl d kk
theorem ca_X10_310 {S : SX} {cc : ByteArray} {pc : Nat} {ls : List (Nat × Nat × Int)} {st : List (Nat × Int)} {k n : Nat} {h : AH} {q0 b : Int} {f : Int → AH → Option (Int × AH)} (hS : SO S RX10 cc) (hR : 0 + 1 ≤ S.2.2.2.2.2.2.1 ∧ 8 + (4 + 11) + 0 ≤ S.2.2.2.2.2.2.2) (hk : k + 0 ≤ S.2.2.2.1 ∧ n + 0 ≤ S.2.2.2.2.1) (hl : st.length ≤ 4) (d : decode cc pc = .ok (.invokevirtual 310, 3)) (kk : ∀ (r : Int) (h2 : AH), Sim S (pc + 3) ls ((0, r) :: st) (k + 0) (n + 0) h2 (f r h2)) : Sim S pc ls ((0, q0) :: (2, b) :: st) k n h (c_k h 11 b (bd_ (f_M_hadBy b q0 h) f)) := s_callV hS mo_X10_hadBy rfl rfl (c_M_hadBy _ _ _ _ h) tw_1474 tw_1476 tw_69 hR hk rfl rfl hl d kk
abbrev S_M_station (G : GE) (X : SMw) : SX := (G, X, 3, 0, 0, (some .int), 3, 68)
set_option maxRecDepth 100000 in
set_option maxHeartbeats 4000000 in
theorem b_M_station {G : GE} {X : SMw} (hS : SO (S_M_station G X) RX10 cX10_station) (z0 z1 z2 : Int) (h : AH) : Sim (S_M_station G X) 0 [(0, 2, z0), (1, 0, z1), (2, 0, z2)] [] 0 0 h (f_M_station z0 z1 z2 h) := by
  unfold f_M_station
  refine s_aload_n hS dX10_station_0 rfl 0 rfl ?_
  refine s_iload_n hS dX10_station_1 rfl 1 rfl ?_
  refine ca_X10_307 hS ⟨Nat.le_of_ble_eq_true rfl, Nat.le_of_ble_eq_true rfl⟩ ⟨Nat.le_of_ble_eq_true rfl, Nat.le_of_ble_eq_true rfl⟩ (Nat.le_of_ble_eq_true rfl) dX10_station_2 fun v1 h2 => ?_
  refine s_if_ne hS dX10_station_5 rfl ?_ ?_
  · refine s_iload_n hS dX10_station_10 rfl 2 rfl ?_
    refine s_swI hS 0 dX10_station_11 (by decide) (by decide) rfl rfl ?_ fun e0 => ?_
    · refine s_aload_n hS dX10_station_48 rfl 0 rfl ?_
      refine s_iload_n hS dX10_station_49 rfl 1 rfl ?_
      refine s_iload_n hS dX10_station_50 rfl 2 rfl ?_
      refine ca_X10_290 hS ⟨Nat.le_of_ble_eq_true rfl, Nat.le_of_ble_eq_true rfl⟩ ⟨Nat.le_of_ble_eq_true rfl, Nat.le_of_ble_eq_true rfl⟩ (Nat.le_of_ble_eq_true rfl) dX10_station_51 fun v3 h4 => ?_
      exact s_iret hS rfl (Nat.le_of_ble_eq_true rfl) (Nat.le_of_ble_eq_true rfl) dX10_station_54
    refine s_swI hS 1 dX10_station_11 (by decide) (by decide) rfl rfl ?_ fun e1 => ?_
    · refine s_aload_n hS dX10_station_48 rfl 0 rfl ?_
      refine s_iload_n hS dX10_station_49 rfl 1 rfl ?_
      refine s_iload_n hS dX10_station_50 rfl 2 rfl ?_
      refine ca_X10_290 hS ⟨Nat.le_of_ble_eq_true rfl, Nat.le_of_ble_eq_true rfl⟩ ⟨Nat.le_of_ble_eq_true rfl, Nat.le_of_ble_eq_true rfl⟩ (Nat.le_of_ble_eq_true rfl) dX10_station_51 fun v5 h6 => ?_
      exact s_iret hS rfl (Nat.le_of_ble_eq_true rfl) (Nat.le_of_ble_eq_true rfl) dX10_station_54
    refine s_swI hS 2 dX10_station_11 (by decide) (by decide) rfl rfl ?_ fun e2 => ?_
    · refine s_aload_n hS dX10_station_48 rfl 0 rfl ?_
      refine s_iload_n hS dX10_station_49 rfl 1 rfl ?_
      refine s_iload_n hS dX10_station_50 rfl 2 rfl ?_
      refine ca_X10_290 hS ⟨Nat.le_of_ble_eq_true rfl, Nat.le_of_ble_eq_true rfl⟩ ⟨Nat.le_of_ble_eq_true rfl, Nat.le_of_ble_eq_true rfl⟩ (Nat.le_of_ble_eq_true rfl) dX10_station_51 fun v7 h8 => ?_
      exact s_iret hS rfl (Nat.le_of_ble_eq_true rfl) (Nat.le_of_ble_eq_true rfl) dX10_station_54
    refine s_swI hS 3 dX10_station_11 (by decide) (by decide) rfl rfl ?_ fun e3 => ?_
    · refine s_aload_n hS dX10_station_55 rfl 0 rfl ?_
      refine gf_X10_39 hS dX10_station_56 fun v9 => ?_
      refine s_sipush hS dX10_station_59 (by decide +kernel) ?_
      refine s_iload_n hS dX10_station_62 rfl 1 rfl ?_
      refine s_iadd hS dX10_station_63 ?_
      refine s_iald hS dX10_station_64 fun v10 => ?_
      exact s_iret hS rfl (Nat.le_of_ble_eq_true rfl) (Nat.le_of_ble_eq_true rfl) dX10_station_65
    refine s_swI hS 4 dX10_station_11 (by decide) (by decide) rfl rfl ?_ fun e4 => ?_
    · refine s_aload_n hS dX10_station_66 rfl 0 rfl ?_
      refine s_iload_n hS dX10_station_67 rfl 1 rfl ?_
      refine ca_X10_310 hS ⟨Nat.le_of_ble_eq_true rfl, Nat.le_of_ble_eq_true rfl⟩ ⟨Nat.le_of_ble_eq_true rfl, Nat.le_of_ble_eq_true rfl⟩ (Nat.le_of_ble_eq_true rfl) dX10_station_68 fun v11 h12 => ?_
      exact s_iret hS rfl (Nat.le_of_ble_eq_true rfl) (Nat.le_of_ble_eq_true rfl) dX10_station_71
    refine s_swI hS 5 dX10_station_11 (by decide) (by decide) rfl rfl ?_ fun e5 => ?_
    · refine s_aload_n hS dX10_station_72 rfl 0 rfl ?_
      refine gf_X10_39 hS dX10_station_73 fun v13 => ?_
      refine s_sipush hS dX10_station_76 (by decide +kernel) ?_
      refine s_iload_n hS dX10_station_79 rfl 1 rfl ?_
      refine s_iadd hS dX10_station_80 ?_
      refine s_iald hS dX10_station_81 fun v14 => ?_
      exact s_iret hS rfl (Nat.le_of_ble_eq_true rfl) (Nat.le_of_ble_eq_true rfl) dX10_station_82
    refine s_swO hS dX10_station_11 (by omega) rfl ?_
    refine s_iconst hS dX10_station_83 ?_
    exact s_iret hS rfl (Nat.le_of_ble_eq_true rfl) (Nat.le_of_ble_eq_true rfl) dX10_station_84
  · refine s_iconst hS dX10_station_8 ?_
    exact s_iret hS rfl (Nat.le_of_ble_eq_true rfl) (Nat.le_of_ble_eq_true rfl) dX10_station_9
theorem c_M_station (l : Launch) (G : GE) (z0 z1 z2 : Int) (h : AH) : Con l yX10_station cX10_station 3 (some .int) 3 68 0 0 G [(2, z0), (0, z1), (0, z2)] h (f_M_station z0 z1 z2 h) :=
  con_of (by decide +kernel) (Nat.le_of_ble_eq_true rfl) fun X hX hS hi => b_M_station hS z0 z1 z2 h
abbrev S_M_paper (G : GE) (X : SMw) : SX := (G, X, 3, 0, 0, (some .int), 3, 67)
set_option maxRecDepth 100000 in
set_option maxHeartbeats 4000000 in
theorem b_M_paper {G : GE} {X : SMw} (hS : SO (S_M_paper G X) RX10 cX10_paper) (z0 z1 z2 : Int) (h : AH) : Sim (S_M_paper G X) 0 [(0, 2, z0), (1, 0, z1), (2, 0, z2)] [] 0 0 h (f_M_paper z0 z1 z2 h) := by
  unfold f_M_paper
  refine s_aload_n hS dX10_paper_0 rfl 0 rfl ?_
  refine s_iload_n hS dX10_paper_1 rfl 1 rfl ?_
  refine ca_X10_284 hS ⟨Nat.le_of_ble_eq_true rfl, Nat.le_of_ble_eq_true rfl⟩ ⟨Nat.le_of_ble_eq_true rfl, Nat.le_of_ble_eq_true rfl⟩ (Nat.le_of_ble_eq_true rfl) dX10_paper_2 fun v1 h2 => ?_
  refine s_if_eq hS dX10_paper_5 rfl ?_ ?_
  · refine s_iconst hS dX10_paper_20 ?_
    exact s_iret hS rfl (Nat.le_of_ble_eq_true rfl) (Nat.le_of_ble_eq_true rfl) dX10_paper_21
  · refine s_iload_n hS dX10_paper_8 rfl 2 rfl ?_
    refine s_i2l hS dX10_paper_9 ?_
    refine s_lconst0 hS dX10_paper_10 ?_
    refine s_ldc2 hS (z := 2) tw_1482 (by decide +kernel) dX10_paper_11 ?_
    refine ca_X10_121 hS ⟨Nat.le_of_ble_eq_true rfl, Nat.le_of_ble_eq_true rfl⟩ ⟨Nat.le_of_ble_eq_true rfl, Nat.le_of_ble_eq_true rfl⟩ (Nat.le_of_ble_eq_true rfl) dX10_paper_14 fun v3 h4 => ?_
    refine s_if_ne hS dX10_paper_17 rfl ?_ ?_
    · refine s_iload_n hS dX10_paper_22 rfl 2 rfl ?_
      refine s_if_ne hS dX10_paper_23 rfl ?_ ?_
      · refine s_iload_n hS dX10_paper_39 rfl 2 rfl ?_
        refine s_iconst hS dX10_paper_40 ?_
        refine s_icmp_ne hS dX10_paper_41 rfl ?_ ?_
        · refine s_aload_n hS dX10_paper_57 rfl 0 rfl ?_
          refine s_iload_n hS dX10_paper_58 rfl 1 rfl ?_
          refine ca_X10_294 hS ⟨Nat.le_of_ble_eq_true rfl, Nat.le_of_ble_eq_true rfl⟩ ⟨Nat.le_of_ble_eq_true rfl, Nat.le_of_ble_eq_true rfl⟩ (Nat.le_of_ble_eq_true rfl) dX10_paper_59 fun v5 h6 => ?_
          exact s_iret hS rfl (Nat.le_of_ble_eq_true rfl) (Nat.le_of_ble_eq_true rfl) dX10_paper_62
        · refine s_aload_n hS dX10_paper_44 rfl 0 rfl ?_
          refine gf_X10_39 hS dX10_paper_45 fun v7 => ?_
          refine s_sipush hS dX10_paper_48 (by decide +kernel) ?_
          refine s_iload_n hS dX10_paper_51 rfl 1 rfl ?_
          refine s_iadd hS dX10_paper_52 ?_
          refine s_iald hS dX10_paper_53 fun v8 => ?_
          refine s_goto hS dX10_paper_54 rfl ?_
          exact s_iret hS rfl (Nat.le_of_ble_eq_true rfl) (Nat.le_of_ble_eq_true rfl) dX10_paper_62
      · refine s_aload_n hS dX10_paper_26 rfl 0 rfl ?_
        refine gf_X10_39 hS dX10_paper_27 fun v9 => ?_
        refine s_sipush hS dX10_paper_30 (by decide +kernel) ?_
        refine s_iload_n hS dX10_paper_33 rfl 1 rfl ?_
        refine s_iadd hS dX10_paper_34 ?_
        refine s_iald hS dX10_paper_35 fun v10 => ?_
        refine s_goto hS dX10_paper_36 rfl ?_
        exact s_iret hS rfl (Nat.le_of_ble_eq_true rfl) (Nat.le_of_ble_eq_true rfl) dX10_paper_62
    · refine s_iconst hS dX10_paper_20 ?_
      exact s_iret hS rfl (Nat.le_of_ble_eq_true rfl) (Nat.le_of_ble_eq_true rfl) dX10_paper_21
theorem c_M_paper (l : Launch) (G : GE) (z0 z1 z2 : Int) (h : AH) : Con l yX10_paper cX10_paper 3 (some .int) 3 67 0 0 G [(2, z0), (0, z1), (0, z2)] h (f_M_paper z0 z1 z2 h) :=
  con_of (by decide +kernel) (Nat.le_of_ble_eq_true rfl) fun X hX hS hi => b_M_paper hS z0 z1 z2 h
theorem ca_X10_315 {S : SX} {cc : ByteArray} {pc : Nat} {ls : List (Nat × Nat × Int)} {st : List (Nat × Int)} {k n : Nat} {h : AH} {q0 q1 q2 b : Int} {f : Int → AH → Option (Int × AH)} (hS : SO S RX10 cc) (hR : 3 + 1 ≤ S.2.2.2.2.2.2.1 ∧ 8 + (5 + 11) + 67 ≤ S.2.2.2.2.2.2.2) (hk : k + 0 ≤ S.2.2.2.1 ∧ n + 0 ≤ S.2.2.2.2.1) (hl : st.length ≤ 4) (d : decode cc pc = .ok (.invokevirtual 315, 3)) (kk : ∀ (r : Int) (h2 : AH), Sim S (pc + 3) ls ((0, r) :: st) (k + 0) (n + 0) h2 (f r h2)) : Sim S pc ls ((0, q2) :: (0, q1) :: (0, q0) :: (2, b) :: st) k n h (c_k h 11 b (bd_ (f_M_atPlace b q0 q1 q2 h) f)) := s_callV hS mo_X10_atPlace rfl rfl (c_M_atPlace _ _ _ _ _ _ h) tw_1491 tw_1493 tw_71 hR hk rfl rfl hl d kk
abbrev S_M_row (G : GE) (X : SMw) : SX := (G, X, 4, 0, 0, (some .int), 4, 91)
set_option maxRecDepth 100000 in
set_option maxHeartbeats 4000000 in
theorem b_M_row {G : GE} {X : SMw} (hS : SO (S_M_row G X) RX10 cX10_row) (z0 z1 z2 z3 : Int) (h : AH) : Sim (S_M_row G X) 0 [(0, 2, z0), (1, 0, z1), (2, 0, z2), (3, 0, z3)] [] 0 0 h (f_M_row z0 z1 z2 z3 h) := by
  unfold f_M_row
  refine s_aload_n hS dX10_row_0 rfl 0 rfl ?_
  refine s_iload_n hS dX10_row_1 rfl 1 rfl ?_
  refine ca_X10_307 hS ⟨Nat.le_of_ble_eq_true rfl, Nat.le_of_ble_eq_true rfl⟩ ⟨Nat.le_of_ble_eq_true rfl, Nat.le_of_ble_eq_true rfl⟩ (Nat.le_of_ble_eq_true rfl) dX10_row_2 fun v1 h2 => ?_
  refine s_if_eq hS dX10_row_5 rfl ?_ ?_
  · refine s_iconst hS dX10_row_30 ?_
    exact s_iret hS rfl (Nat.le_of_ble_eq_true rfl) (Nat.le_of_ble_eq_true rfl) dX10_row_31
  · refine s_iload_n hS dX10_row_8 rfl 2 rfl ?_
    refine s_i2l hS dX10_row_9 ?_
    refine s_lconst1 hS dX10_row_10 ?_
    refine s_ldc2 hS (z := 2) tw_1482 (by decide +kernel) dX10_row_11 ?_
    refine ca_X10_121 hS ⟨Nat.le_of_ble_eq_true rfl, Nat.le_of_ble_eq_true rfl⟩ ⟨Nat.le_of_ble_eq_true rfl, Nat.le_of_ble_eq_true rfl⟩ (Nat.le_of_ble_eq_true rfl) dX10_row_14 fun v3 h4 => ?_
    refine s_if_eq hS dX10_row_17 rfl ?_ ?_
    · refine s_iconst hS dX10_row_30 ?_
      exact s_iret hS rfl (Nat.le_of_ble_eq_true rfl) (Nat.le_of_ble_eq_true rfl) dX10_row_31
    · refine s_aload_n hS dX10_row_20 rfl 0 rfl ?_
      refine s_iload_n hS dX10_row_21 rfl 1 rfl ?_
      refine s_iload_n hS dX10_row_22 rfl 2 rfl ?_
      refine s_iload_n hS dX10_row_23 rfl 3 rfl ?_
      refine ca_X10_315 hS ⟨Nat.le_of_ble_eq_true rfl, Nat.le_of_ble_eq_true rfl⟩ ⟨Nat.le_of_ble_eq_true rfl, Nat.le_of_ble_eq_true rfl⟩ (Nat.le_of_ble_eq_true rfl) dX10_row_24 fun v5 h6 => ?_
      refine s_goto hS dX10_row_27 rfl ?_
      exact s_iret hS rfl (Nat.le_of_ble_eq_true rfl) (Nat.le_of_ble_eq_true rfl) dX10_row_31
theorem c_M_row (l : Launch) (G : GE) (z0 z1 z2 z3 : Int) (h : AH) : Con l yX10_row cX10_row 4 (some .int) 4 91 0 0 G [(2, z0), (0, z1), (0, z2), (0, z3)] h (f_M_row z0 z1 z2 z3 h) :=
  con_of (by decide +kernel) (Nat.le_of_ble_eq_true rfl) fun X hX hS hi => b_M_row hS z0 z1 z2 z3 h
