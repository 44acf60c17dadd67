abbrev S_B_mostAlike (G : GE) (X : SMw) : SX := (G, X, 7, 0, 0, (some .int), 1, 30)
set_option maxRecDepth 100000 in
set_option maxHeartbeats 4000000 in
theorem B_B_mostAlike_17 {G : GE} {X : SMw} (hS : SO (S_B_mostAlike G X) RX9 cX9_mostAlike) (z0 z1 z2 z3 z4 : Int) {k5 : Int → Int → AH → Option (Int × AH)} (hk5 : ∀ (z3 z4 : Int) (h : AH), Sim (S_B_mostAlike G X) 5 [(0, 2, z0), (1, 0, z1), (2, 0, z2), (3, 0, z3), (4, 0, z4)] [] 0 0 h (k5 z3 z4 h)) {k17 : Int → Int → AH → Option (Int × AH)} (hk17 : ∀ (z5 z6 : Int) (h : AH), Sim (S_B_mostAlike G X) 17 [(0, 2, z0), (1, 0, z1), (2, 0, z2), (3, 0, z3), (4, 0, z4), (5, 0, z5), (6, 0, z6)] [] 0 0 h (k17 z5 z6 h)) (z5 z6 : Int) (h : AH) : Sim (S_B_mostAlike G X) 17 [(0, 2, z0), (1, 0, z1), (2, 0, z2), (3, 0, z3), (4, 0, z4), (5, 0, z5), (6, 0, z6)] [] 0 0 h (F_B_mostAlike_17 k5 z0 z1 z2 z3 z4 k17 z5 z6 h) := by
  unfold F_B_mostAlike_17
  refine s_iload hS dX9_mostAlike_17 6 rfl ?_
  refine s_iload_n hS dX9_mostAlike_19 rfl 2 rfl ?_
  refine s_icmp_ge hS dX9_mostAlike_20 rfl ?_ ?_
  · refine s_iload_n hS dX9_mostAlike_57 rfl 3 rfl ?_
    refine s_iload hS dX9_mostAlike_58 5 rfl ?_
    refine s_mmax hS tw_1094 tw_975 tw_136 tw_976 ⟨Nat.le_of_ble_eq_true rfl, Nat.le_of_ble_eq_true rfl⟩ ⟨Nat.le_of_ble_eq_true rfl, Nat.le_of_ble_eq_true rfl⟩ (Nat.le_of_ble_eq_true rfl) dX9_mostAlike_60 ?_
    refine s_let fun v1 => ?_
    refine s_istore_n hS dX9_mostAlike_63 rfl (Nat.le_of_ble_eq_true rfl) (ls' := [(3, 0, v1), (0, 2, z0), (1, 0, z1), (2, 0, z2), (4, 0, z4), (5, 0, z5), (6, 0, z6)]) rfl ?_
    refine s_iinc hS dX9_mostAlike_64 4 rfl (Nat.le_of_ble_eq_true rfl) (ls' := [(4, 0, (z4 + 1)), (3, 0, v1), (0, 2, z0), (1, 0, z1), (2, 0, z2), (5, 0, z5), (6, 0, z6)]) rfl ?_
    refine s_goto hS dX9_mostAlike_67 rfl ?_
    refine s_ls [2, 3, 4, 1, 0] rfl ?_
    exact hk5 _ _ _
  · refine s_aload_n hS dX9_mostAlike_23 rfl 0 rfl ?_
    refine gf_X9_77 hS dX9_mostAlike_24 fun v2 => ?_
    refine s_iload hS dX9_mostAlike_27 4 rfl ?_
    refine s_iconst hS dX9_mostAlike_29 ?_
    refine s_imul hS dX9_mostAlike_30 ?_
    refine s_iload_n hS dX9_mostAlike_31 rfl 1 rfl ?_
    refine s_iadd hS dX9_mostAlike_32 ?_
    refine s_iald hS dX9_mostAlike_33 fun v3 => ?_
    refine s_aload_n hS dX9_mostAlike_34 rfl 0 rfl ?_
    refine gf_X9_77 hS dX9_mostAlike_35 fun v4 => ?_
    refine s_iload hS dX9_mostAlike_38 6 rfl ?_
    refine s_iconst hS dX9_mostAlike_40 ?_
    refine s_imul hS dX9_mostAlike_41 ?_
    refine s_iload_n hS dX9_mostAlike_42 rfl 1 rfl ?_
    refine s_iadd hS dX9_mostAlike_43 ?_
    refine s_iald hS dX9_mostAlike_44 fun v5 => ?_
    refine s_icmp_ne hS dX9_mostAlike_45 rfl ?_ ?_
    · refine s_iinc hS dX9_mostAlike_51 6 rfl (Nat.le_of_ble_eq_true rfl) (ls' := [(6, 0, (z6 + 1)), (0, 2, z0), (1, 0, z1), (2, 0, z2), (3, 0, z3), (4, 0, z4), (5, 0, z5)]) rfl ?_
      refine s_goto hS dX9_mostAlike_54 rfl ?_
      refine s_ls [1, 2, 3, 4, 5, 6, 0] rfl ?_
      exact hk17 _ _ _
    · refine s_iinc hS dX9_mostAlike_48 5 rfl (Nat.le_of_ble_eq_true rfl) (ls' := [(5, 0, (z5 + 1)), (0, 2, z0), (1, 0, z1), (2, 0, z2), (3, 0, z3), (4, 0, z4), (6, 0, z6)]) rfl ?_
      refine s_iinc hS dX9_mostAlike_51 6 rfl (Nat.le_of_ble_eq_true rfl) (ls' := [(6, 0, (z6 + 1)), (5, 0, (z5 + 1)), (0, 2, z0), (1, 0, z1), (2, 0, z2), (3, 0, z3), (4, 0, z4)]) rfl ?_
      refine s_goto hS dX9_mostAlike_54 rfl ?_
      refine s_ls [2, 3, 4, 5, 6, 1, 0] rfl ?_
      exact hk17 _ _ _
set_option maxRecDepth 100000 in
set_option maxHeartbeats 4000000 in
theorem b_B_mostAlike_17 {G : GE} {X : SMw} (hS : SO (S_B_mostAlike G X) RX9 cX9_mostAlike) (z0 z1 z2 z3 z4 : Int) {k5 : Int → Int → AH → Option (Int × AH)} (hk5 : ∀ (z3 z4 : Int) (h : AH), Sim (S_B_mostAlike G X) 5 [(0, 2, z0), (1, 0, z1), (2, 0, z2), (3, 0, z3), (4, 0, z4)] [] 0 0 h (k5 z3 z4 h)) (z5 z6 : Int) (h : AH) : Sim (S_B_mostAlike G X) 17 [(0, 2, z0), (1, 0, z1), (2, 0, z2), (3, 0, z3), (4, 0, z4), (5, 0, z5), (6, 0, z6)] [] 0 0 h (f_B_mostAlike_17 k5 z0 z1 z2 z3 z4 z5 z6 h) := by
  exact s_loop (S := (S_B_mostAlike G X)) (lsf := fun s : Int × Int × AH => [(0, 2, z0), (1, 0, z1), (2, 0, z2), (3, 0, z3), (4, 0, z4), (5, 0, s.1), (6, 0, s.2.1)]) (hf := fun s => s.2.2) (fun kf hkf s => B_B_mostAlike_17 hS z0 z1 z2 z3 z4 hk5 (fun a0 a1 a2 => hkf (a0, a1, a2)) s.1 s.2.1 s.2.2) fu_ (z5, z6, h)
set_option maxRecDepth 100000 in
set_option maxHeartbeats 4000000 in
theorem B_B_mostAlike_5 {G : GE} {X : SMw} (hS : SO (S_B_mostAlike G X) RX9 cX9_mostAlike) (z0 z1 z2 : Int) {k5 : Int → Int → AH → Option (Int × AH)} (hk5 : ∀ (z3 z4 : Int) (h : AH), Sim (S_B_mostAlike G X) 5 [(0, 2, z0), (1, 0, z1), (2, 0, z2), (3, 0, z3), (4, 0, z4)] [] 0 0 h (k5 z3 z4 h)) (z3 z4 : Int) (h : AH) : Sim (S_B_mostAlike G X) 5 [(0, 2, z0), (1, 0, z1), (2, 0, z2), (3, 0, z3), (4, 0, z4)] [] 0 0 h (F_B_mostAlike_5 z0 z1 z2 k5 z3 z4 h) := by
  unfold F_B_mostAlike_5
  refine s_iload hS dX9_mostAlike_5 4 rfl ?_
  refine s_iload_n hS dX9_mostAlike_7 rfl 2 rfl ?_
  refine s_icmp_ge hS dX9_mostAlike_8 rfl ?_ ?_
  · refine s_iload_n hS dX9_mostAlike_70 rfl 3 rfl ?_
    exact s_iret hS rfl (Nat.le_of_ble_eq_true rfl) (Nat.le_of_ble_eq_true rfl) dX9_mostAlike_71
  · refine s_iconst hS dX9_mostAlike_11 ?_
    refine s_istore hS dX9_mostAlike_12 (Nat.le_of_ble_eq_true rfl) (ls' := [(5, 0, 0), (0, 2, z0), (1, 0, z1), (2, 0, z2), (3, 0, z3), (4, 0, z4)]) rfl ?_
    refine s_iconst hS dX9_mostAlike_14 ?_
    refine s_istore hS dX9_mostAlike_15 (Nat.le_of_ble_eq_true rfl) (ls' := [(6, 0, 0), (5, 0, 0), (0, 2, z0), (1, 0, z1), (2, 0, z2), (3, 0, z3), (4, 0, z4)]) rfl ?_
    refine s_ls [2, 3, 4, 5, 6, 1, 0] rfl ?_
    exact b_B_mostAlike_17 hS _ _ _ _ _ hk5 _ _ _
set_option maxRecDepth 100000 in
set_option maxHeartbeats 4000000 in
theorem b_B_mostAlike_5 {G : GE} {X : SMw} (hS : SO (S_B_mostAlike G X) RX9 cX9_mostAlike) (z0 z1 z2 : Int) (z3 z4 : Int) (h : AH) : Sim (S_B_mostAlike G X) 5 [(0, 2, z0), (1, 0, z1), (2, 0, z2), (3, 0, z3), (4, 0, z4)] [] 0 0 h (f_B_mostAlike_5 z0 z1 z2 z3 z4 h) := by
  exact s_loop (S := (S_B_mostAlike G X)) (lsf := fun s : Int × Int × AH => [(0, 2, z0), (1, 0, z1), (2, 0, z2), (3, 0, s.1), (4, 0, s.2.1)]) (hf := fun s => s.2.2) (fun kf hkf s => B_B_mostAlike_5 hS z0 z1 z2 (fun a0 a1 a2 => hkf (a0, a1, a2)) s.1 s.2.1 s.2.2) fu_ (z3, z4, h)
set_option maxRecDepth 100000 in
set_option maxHeartbeats 4000000 in
theorem b_B_mostAlike {G : GE} {X : SMw} (hS : SO (S_B_mostAlike G X) RX9 cX9_mostAlike) (z0 z1 z2 : Int) (h : AH) : Sim (S_B_mostAlike G X) 0 [(0, 2, z0), (1, 0, z1), (2, 0, z2)] [] 0 0 h (f_B_mostAlike z0 z1 z2 h) := by
  unfold f_B_mostAlike
  refine s_iconst hS dX9_mostAlike_0 ?_
  refine s_istore_n hS dX9_mostAlike_1 rfl (Nat.le_of_ble_eq_true rfl) (ls' := [(3, 0, 0), (0, 2, z0), (1, 0, z1), (2, 0, z2)]) rfl ?_
  refine s_iconst hS dX9_mostAlike_2 ?_
  refine s_istore hS dX9_mostAlike_3 (Nat.le_of_ble_eq_true rfl) (ls' := [(4, 0, 0), (3, 0, 0), (0, 2, z0), (1, 0, z1), (2, 0, z2)]) rfl ?_
  refine s_ls [2, 3, 4, 1, 0] rfl ?_
  exact b_B_mostAlike_5 hS _ _ _ _ _ _
theorem c_B_mostAlike (l : Launch) (G : GE) (z0 z1 z2 : Int) (h : AH) : Con l yX9_mostAlike cX9_mostAlike 7 (some .int) 1 30 0 0 G [(2, z0), (0, z1), (0, z2)] h (f_B_mostAlike z0 z1 z2 h) :=
  con_of (by decide +kernel) (Nat.le_of_ble_eq_true rfl) fun X hX hS hi => b_B_mostAlike hS z0 z1 z2 h
theorem ca_X9_310 {S : SX} {cc : ByteArray} {pc : Nat} {ls : List (Nat × Nat × Int)} {st : List (Nat × Int)} {k n : Nat} {h : AH} {q0 b : Int} {f : Int → AH → Option (Int × AH)} (hS : SO S RX9 cc) (hR : 7 + 1 ≤ S.2.2.2.2.2.2.1 ∧ 8 + (4 + 11) + 165 ≤ S.2.2.2.2.2.2.2) (hk : k + 0 ≤ S.2.2.2.1 ∧ n + 0 ≤ S.2.2.2.2.1) (hl : st.length ≤ 4) (d : decode cc pc = .ok (.invokevirtual 310, 3)) (kk : ∀ (r : Int) (h2 : AH), Sim S (pc + 3) ls ((0, r) :: st) (k + 0) (n + 0) h2 (f r h2)) : Sim S pc ls ((0, q0) :: (2, b) :: st) k n h (c_k h 10 b (bd_ (f_B_fillBoxesBehind b q0 h) f)) := s_callV hS mo_X9_fillBoxesBehind rfl rfl (c_B_fillBoxesBehind _ _ _ _ h) tw_1085 tw_1087 tw_27 hR hk rfl rfl hl d kk
theorem ca_X9_313 {S : SX} {cc : ByteArray} {pc : Nat} {ls : List (Nat × Nat × Int)} {st : List (Nat × Int)} {k n : Nat} {h : AH} {q0 q1 b : Int} {f : Int → AH → Option (Int × AH)} (hS : SO S RX9 cc) (hR : 1 + 1 ≤ S.2.2.2.2.2.2.1 ∧ 8 + (7 + 11) + 30 ≤ S.2.2.2.2.2.2.2) (hk : k + 0 ≤ S.2.2.2.1 ∧ n + 0 ≤ S.2.2.2.2.1) (hl : st.length ≤ 4) (d : decode cc pc = .ok (.invokevirtual 313, 3)) (kk : ∀ (r : Int) (h2 : AH), Sim S (pc + 3) ls ((0, r) :: st) (k + 0) (n + 0) h2 (f r h2)) : Sim S pc ls ((0, q1) :: (0, q0) :: (2, b) :: st) k n h (c_k h 10 b (bd_ (f_B_mostAlike b q0 q1 h) f)) := s_callV hS mo_X9_mostAlike rfl rfl (c_B_mostAlike _ _ _ _ _ h) tw_1090 tw_1092 tw_28 hR hk rfl rfl hl d kk
abbrev S_B_look (G : GE) (X : SMw) : SX := (G, X, 8, 0, 0, (some .int), 8, 188)
set_option maxRecDepth 100000 in
set_option maxHeartbeats 4000000 in
theorem B_B_look_56 {G : GE} {X : SMw} (hS : SO (S_B_look G X) RX9 cX9_look) (z0 z2 z3 : Int) {k56 : Int → Int → Int → AH → Option (Int × AH)} (hk56 : ∀ (z4 z5 z6 : Int) (h : AH), Sim (S_B_look G X) 56 [(0, 2, z0), (2, 0, z2), (3, 0, z3), (4, 0, z4), (5, 0, z5), (6, 0, z6)] [] 0 0 h (k56 z4 z5 z6 h)) (z4 z5 z6 : Int) (h : AH) : Sim (S_B_look G X) 56 [(0, 2, z0), (2, 0, z2), (3, 0, z3), (4, 0, z4), (5, 0, z5), (6, 0, z6)] [] 0 0 h (F_B_look_56 z0 z2 z3 k56 z4 z5 z6 h) := by
  unfold F_B_look_56
  refine s_iload hS dX9_look_56 5 rfl ?_
  refine s_aload_n hS dX9_look_58 rfl 0 rfl ?_
  refine gf_X9_41 hS dX9_look_59 fun v1 => ?_
  refine gf_X9_103 hS dX9_look_62 fun v2 => ?_
  refine gf_X9_125 hS dX9_look_65 fun v3 => ?_
  refine s_icmp_ge hS dX9_look_68 rfl ?_ ?_
  · refine s_iload_n hS dX9_look_101 rfl 1 rfl ?_
    refine s_if_eq hS dX9_look_102 rfl ?_ ?_
    · refine s_iload hS dX9_look_112 3 rfl ?_
      refine s_goto hS dX9_look_114 rfl ?_
      exact s_iret hS rfl (Nat.le_of_ble_eq_true rfl) (Nat.le_of_ble_eq_true rfl) dX9_look_119
    · refine s_iload hS dX9_look_105 3 rfl ?_
      refine s_bipush hS dX9_look_107 (by decide +kernel) ?_
      refine s_icmp_ne hS dX9_look_109 rfl ?_ ?_
      · refine s_iload hS dX9_look_117 4 rfl ?_
        exact s_iret hS rfl (Nat.le_of_ble_eq_true rfl) (Nat.le_of_ble_eq_true rfl) dX9_look_119
      · refine s_iload hS dX9_look_112 3 rfl ?_
        refine s_goto hS dX9_look_114 rfl ?_
        exact s_iret hS rfl (Nat.le_of_ble_eq_true rfl) (Nat.le_of_ble_eq_true rfl) dX9_look_119
  · refine s_aload_n hS dX9_look_71 rfl 0 rfl ?_
    refine s_iload hS dX9_look_72 5 rfl ?_
    refine s_iload_n hS dX9_look_74 rfl 2 rfl ?_
    refine ca_X9_313 hS ⟨Nat.le_of_ble_eq_true rfl, Nat.le_of_ble_eq_true rfl⟩ ⟨Nat.le_of_ble_eq_true rfl, Nat.le_of_ble_eq_true rfl⟩ (Nat.le_of_ble_eq_true rfl) dX9_look_75 fun v4 h5 => ?_
    refine s_istore hS dX9_look_78 (Nat.le_of_ble_eq_true rfl) (ls' := [(7, 0, v4), (0, 2, z0), (2, 0, z2), (3, 0, z3), (4, 0, z4), (5, 0, z5), (6, 0, z6)]) rfl ?_
    refine s_iload hS dX9_look_80 0 rfl ?_
    refine s_iload hS dX9_look_82 5 rfl ?_
    refine s_icmp_ge hS dX9_look_84 rfl ?_ ?_
    · refine s_iinc hS dX9_look_95 6 rfl (Nat.le_of_ble_eq_true rfl) (ls' := [(6, 0, (z6 + 1)), (7, 0, v4), (0, 2, z0), (2, 0, z2), (3, 0, z3), (4, 0, z4), (5, 0, z5)]) rfl ?_
      refine s_goto hS dX9_look_98 rfl ?_
      refine s_ls [2, 3, 4, 5, 6, 0] rfl ?_
      exact hk56 _ _ _ _
    · refine s_iload hS dX9_look_87 0 rfl ?_
      refine s_istore hS dX9_look_89 (Nat.le_of_ble_eq_true rfl) (ls' := [(5, 0, v4), (7, 0, v4), (0, 2, z0), (2, 0, z2), (3, 0, z3), (4, 0, z4), (6, 0, z6)]) rfl ?_
      refine s_iload hS dX9_look_91 6 rfl ?_
      refine s_istore hS dX9_look_93 (Nat.le_of_ble_eq_true rfl) (ls' := [(4, 0, z6), (5, 0, v4), (7, 0, v4), (0, 2, z0), (2, 0, z2), (3, 0, z3), (6, 0, z6)]) rfl ?_
      refine s_iinc hS dX9_look_95 6 rfl (Nat.le_of_ble_eq_true rfl) (ls' := [(6, 0, (z6 + 1)), (4, 0, z6), (5, 0, v4), (7, 0, v4), (0, 2, z0), (2, 0, z2), (3, 0, z3)]) rfl ?_
      refine s_goto hS dX9_look_98 rfl ?_
      refine s_ls [4, 5, 6, 1, 2, 0] rfl ?_
      exact hk56 _ _ _ _
set_option maxRecDepth 100000 in
set_option maxHeartbeats 4000000 in
theorem b_B_look_56 {G : GE} {X : SMw} (hS : SO (S_B_look G X) RX9 cX9_look) (z0 z2 z3 : Int) (z4 z5 z6 : Int) (h : AH) : Sim (S_B_look G X) 56 [(0, 2, z0), (2, 0, z2), (3, 0, z3), (4, 0, z4), (5, 0, z5), (6, 0, z6)] [] 0 0 h (f_B_look_56 z0 z2 z3 z4 z5 z6 h) := by
  exact s_loop (S := (S_B_look G X)) (lsf := fun s : Int × Int × Int × AH => [(0, 2, z0), (2, 0, z2), (3, 0, z3), (4, 0, s.1), (5, 0, s.2.1), (6, 0, s.2.2.1)]) (hf := fun s => s.2.2.2) (fun kf hkf s => B_B_look_56 hS z0 z2 z3 (fun a0 a1 a2 a3 => hkf (a0, a1, a2, a3)) s.1 s.2.1 s.2.2.1 s.2.2.2) fu_ (z4, z5, z6, h)
set_option maxRecDepth 100000 in
set_option maxHeartbeats 4000000 in
theorem b_B_look {G : GE} {X : SMw} (hS : SO (S_B_look G X) RX9 cX9_look) (z0 z1 z2 : Int) (h : AH) : Sim (S_B_look G X) 0 [(0, 2, z0), (1, 0, z1), (2, 0, z2)] [] 0 0 h (f_B_look z0 z1 z2 h) := by
  unfold f_B_look
  refine s_aload_n hS dX9_look_0 rfl 0 rfl ?_
  refine gf_X9_41 hS dX9_look_1 fun v1 => ?_
  refine gf_X9_115 hS dX9_look_4 fun v2 => ?_
  refine s_if_eq hS dX9_look_7 rfl ?_ ?_
  · refine s_iconst hS dX9_look_29 ?_
    exact s_iret hS rfl (Nat.le_of_ble_eq_true rfl) (Nat.le_of_ble_eq_true rfl) dX9_look_30
  · refine s_iload_n hS dX9_look_10 rfl 1 rfl ?_
    refine s_if_lt hS dX9_look_11 rfl ?_ ?_
    · refine s_iconst hS dX9_look_29 ?_
      exact s_iret hS rfl (Nat.le_of_ble_eq_true rfl) (Nat.le_of_ble_eq_true rfl) dX9_look_30
    · refine s_iload_n hS dX9_look_14 rfl 1 rfl ?_
      refine s_bipush hS dX9_look_15 (by decide +kernel) ?_
      refine s_icmp_gt hS dX9_look_17 rfl ?_ ?_
      · refine s_iconst hS dX9_look_29 ?_
        exact s_iret hS rfl (Nat.le_of_ble_eq_true rfl) (Nat.le_of_ble_eq_true rfl) dX9_look_30
      · refine s_iload_n hS dX9_look_20 rfl 2 rfl ?_
        refine s_if_lt hS dX9_look_21 rfl ?_ ?_
        · refine s_iconst hS dX9_look_29 ?_
          exact s_iret hS rfl (Nat.le_of_ble_eq_true rfl) (Nat.le_of_ble_eq_true rfl) dX9_look_30
        · refine s_iload_n hS dX9_look_24 rfl 2 rfl ?_
          refine s_iconst hS dX9_look_25 ?_
          refine s_icmp_le hS dX9_look_26 rfl ?_ ?_
          · refine s_aload_n hS dX9_look_31 rfl 0 rfl ?_
            refine s_iload_n hS dX9_look_32 rfl 1 rfl ?_
            refine ca_X9_310 hS ⟨Nat.le_of_ble_eq_true rfl, Nat.le_of_ble_eq_true rfl⟩ ⟨Nat.le_of_ble_eq_true rfl, Nat.le_of_ble_eq_true rfl⟩ (Nat.le_of_ble_eq_true rfl) dX9_look_33 fun v3 h4 => ?_
            refine s_istore_n hS dX9_look_36 rfl (Nat.le_of_ble_eq_true rfl) (ls' := [(3, 0, v3), (0, 2, z0), (1, 0, z1), (2, 0, z2)]) rfl ?_
            refine s_iload_n hS dX9_look_37 rfl 0 rfl ?_
            refine s_if_ne hS dX9_look_38 rfl ?_ ?_
            · refine s_bipush hS dX9_look_44 (by decide +kernel) ?_
              refine s_istore hS dX9_look_46 (Nat.le_of_ble_eq_true rfl) (ls' := [(4, 0, (-2)), (3, 0, v3), (0, 2, z0), (1, 0, z1), (2, 0, z2)]) rfl ?_
              refine s_iload_n hS dX9_look_48 rfl 1 rfl ?_
              refine s_iconst hS dX9_look_49 ?_
              refine s_iadd hS dX9_look_50 ?_
              refine s_let fun v5 => ?_
              refine s_istore hS dX9_look_51 (Nat.le_of_ble_eq_true rfl) (ls' := [(5, 0, v5), (4, 0, (-2)), (3, 0, v3), (0, 2, z0), (1, 0, z1), (2, 0, z2)]) rfl ?_
              refine s_iconst hS dX9_look_53 ?_
              refine s_istore hS dX9_look_54 (Nat.le_of_ble_eq_true rfl) (ls' := [(6, 0, 0), (5, 0, v5), (4, 0, (-2)), (3, 0, v3), (0, 2, z0), (1, 0, z1), (2, 0, z2)]) rfl ?_
              refine s_ls [4, 6, 3, 2, 1, 0] rfl ?_
              exact b_B_look_56 hS _ _ _ _ _ _ _
            · refine s_bipush hS dX9_look_41 (by decide +kernel) ?_
              exact s_iret hS rfl (Nat.le_of_ble_eq_true rfl) (Nat.le_of_ble_eq_true rfl) dX9_look_43
          · refine s_iconst hS dX9_look_29 ?_
            exact s_iret hS rfl (Nat.le_of_ble_eq_true rfl) (Nat.le_of_ble_eq_true rfl) dX9_look_30
theorem c_B_look (l : Launch) (G : GE) (z0 z1 z2 : Int) (h : AH) : Con l yX9_look cX9_look 8 (some .int) 8 188 0 0 G [(2, z0), (0, z1), (0, z2)] h (f_B_look z0 z1 z2 h) :=
  con_of (by decide +kernel) (Nat.le_of_ble_eq_true rfl) fun X hX hS hi => b_B_look hS z0 z1 z2 h
theorem gf_X9_316 {S : SX} {cc : ByteArray} {pc : Nat} {ls : List (Nat × Nat × Int)} {st : List (Nat × Int)} {k n : Nat} {h : AH} {a : Int} {f : Int → Option (Int × AH)} (hS : SO S RX9 cc) (d : decode cc pc = .ok (.getfield 316, 3)) (kk : ∀ v : Int, Sim S (pc + 3) ls ((0, v) :: st) k n h (f v)) : Sim S pc ls ((2, a) :: st) k n h ((g_f h 1 a 6).bind f) := s_getf hS cx_0 6 (by decide) tw_338 rfl rfl rfl d kk
theorem pf_X9_316 {S : SX} {cc : ByteArray} {pc : Nat} {ls : List (Nat × Nat × Int)} {st : List (Nat × Int)} {k n : Nat} {h : AH} {a v : Int} {f : AH → Option (Int × AH)} (hS : SO S RX9 cc) (d : decode cc pc = .ok (.putfield 316, 3)) (kk : ∀ h2 : AH, Sim S (pc + 3) ls st k n h2 (f h2)) : Sim S pc ls ((0, v) :: (2, a) :: st) k n h ((s_f h 1 a 6 v).bind f) := s_putf hS cx_0 6 (by decide) tw_338 rfl rfl (Or.inl rfl) rfl rfl d kk
abbrev S_B_seed (G : GE) (X : SMw) : SX := (G, X, 3, 0, 0, (some .int), 0, 0)
set_option maxRecDepth 100000 in
set_option maxHeartbeats 4000000 in
theorem b_B_seed {G : GE} {X : SMw} (hS : SO (S_B_seed G X) RX9 cX9_seed) (z0 z1 : Int) (h : AH) : Sim (S_B_seed G X) 0 [(0, 2, z0), (1, 0, z1)] [] 0 0 h (f_B_seed z0 z1 h) := by
  unfold f_B_seed
  refine s_iload_n hS dX9_seed_0 rfl 1 rfl ?_
  refine s_if_ge hS dX9_seed_1 rfl ?_ ?_
  · refine s_aload_n hS dX9_seed_6 rfl 0 rfl ?_
    refine gf_X9_41 hS dX9_seed_7 fun v1 => ?_
    refine gf_X9_316 hS dX9_seed_10 fun v2 => ?_
    refine s_istore_n hS dX9_seed_13 rfl (Nat.le_of_ble_eq_true rfl) (ls' := [(2, 0, v2), (0, 2, z0), (1, 0, z1)]) rfl ?_
    refine s_aload_n hS dX9_seed_14 rfl 1 rfl ?_
    refine gf_X9_41 hS dX9_seed_15 fun v3 => ?_
    refine s_iload_n hS dX9_seed_18 rfl 2 rfl ?_
    refine pf_X9_316 hS dX9_seed_19 fun h4 => ?_
    refine s_iload_n hS dX9_seed_22 rfl 0 rfl ?_
    exact s_iret hS rfl (Nat.le_of_ble_eq_true rfl) (Nat.le_of_ble_eq_true rfl) dX9_seed_23
  · refine s_iconst hS dX9_seed_4 ?_
    exact s_iret hS rfl (Nat.le_of_ble_eq_true rfl) (Nat.le_of_ble_eq_true rfl) dX9_seed_5
theorem c_B_seed (l : Launch) (G : GE) (z0 z1 : Int) (h : AH) : Con l yX9_seed cX9_seed 3 (some .int) 0 0 0 0 G [(2, z0), (0, z1)] h (f_B_seed z0 z1 h) :=
  con_of (by decide +kernel) (Nat.le_of_ble_eq_true rfl) fun X hX hS hi => b_B_seed hS z0 z1 h
theorem ca_X9_319 {S : SX} {cc : ByteArray} {pc : Nat} {ls : List (Nat × Nat × Int)} {st : List (Nat × Int)} {k n : Nat} {h : AH} {q0 q1 b : Int} {f : Int → AH → Option (Int × AH)} (hS : SO S RX9 cc) (hR : 1 + 1 ≤ S.2.2.2.2.2.2.1 ∧ 8 + (5 + 11) + 20 ≤ S.2.2.2.2.2.2.2) (hk : k + 0 ≤ S.2.2.2.1 ∧ n + 0 ≤ S.2.2.2.2.1) (hl : st.length ≤ 4) (d : decode cc pc = .ok (.invokevirtual 319, 3)) (kk : ∀ (r : Int) (h2 : AH), Sim S (pc + 3) ls ((0, r) :: st) (k + 0) (n + 0) h2 (f r h2)) : Sim S pc ls ((0, q1) :: (0, q0) :: (2, b) :: st) k n h (c_k h 8 b (bd_ (f_T_drawVoter b q0 q1 h) f)) := s_callV hS mo_X7_drawVoter rfl rfl (c_T_drawVoter _ _ _ _ _ h) tw_1103 tw_1104 tw_1105 hR hk rfl rfl hl d kk
abbrev S_B_crowded (G : GE) (X : SMw) : SX := (G, X, 10, 0, 0, (some .int), 6, 140)
set_option maxRecDepth 100000 in
set_option maxHeartbeats 4000000 in
theorem b_B_crowded_151 {G : GE} {X : SMw} (hS : SO (S_B_crowded G X) RX9 cX9_crowded) (z0 z1 z2 z3 z4 z5 : Int) {k76 : Int → Int → Int → AH → Option (Int × AH)} (hk76 : ∀ (z6 z7 z8 : Int) (h : AH), Sim (S_B_crowded G X) 76 [(0, 2, z0), (1, 0, z1), (2, 0, z2), (3, 0, z3), (4, 0, z4), (5, 2, z5), (6, 0, z6), (7, 0, z7), (8, 0, z8)] [] 0 0 h (k76 z6 z7 z8 h)) (z6 z8 w0 w1 w2 : Int) (h : AH) : Sim (S_B_crowded G X) 151 [(0, 2, z0), (1, 0, z1), (2, 0, z2), (3, 0, z3), (4, 0, z4), (5, 2, z5), (6, 0, z6), (8, 0, z8)] [(0, w2), (2, w1), (0, w0)] 0 0 h (f_B_crowded_151 k76 z0 z1 z2 z3 z4 z5 z6 z8 w0 w1 w2 h) := by
  unfold f_B_crowded_151
  refine ca_X9_286 hS ⟨Nat.le_of_ble_eq_true rfl, Nat.le_of_ble_eq_true rfl⟩ ⟨Nat.le_of_ble_eq_true rfl, Nat.le_of_ble_eq_true rfl⟩ (Nat.le_of_ble_eq_true rfl) dX9_crowded_151 fun v1 h2 => ?_
  refine s_iadd hS dX9_crowded_154 ?_
  refine s_let fun v3 => ?_
  refine s_istore hS dX9_crowded_155 (Nat.le_of_ble_eq_true rfl) (ls' := [(7, 0, v3), (0, 2, z0), (1, 0, z1), (2, 0, z2), (3, 0, z3), (4, 0, z4), (5, 2, z5), (6, 0, z6), (8, 0, z8)]) rfl ?_
  refine s_iinc hS dX9_crowded_157 8 rfl (Nat.le_of_ble_eq_true rfl) (ls' := [(8, 0, (z8 + 1)), (7, 0, v3), (0, 2, z0), (1, 0, z1), (2, 0, z2), (3, 0, z3), (4, 0, z4), (5, 2, z5), (6, 0, z6)]) rfl ?_
  refine s_goto hS dX9_crowded_160 rfl ?_
  refine s_ls [2, 3, 4, 5, 6, 7, 8, 1, 0] rfl ?_
  exact hk76 _ _ _ _
set_option maxRecDepth 100000 in
set_option maxHeartbeats 4000000 in
theorem B_B_crowded_102 {G : GE} {X : SMw} (hS : SO (S_B_crowded G X) RX9 cX9_crowded) (z0 z1 z2 z3 z4 z5 z7 z8 : Int) {k76 : Int → Int → Int → AH → Option (Int × AH)} (hk76 : ∀ (z6 z7 z8 : Int) (h : AH), Sim (S_B_crowded G X) 76 [(0, 2, z0), (1, 0, z1), (2, 0, z2), (3, 0, z3), (4, 0, z4), (5, 2, z5), (6, 0, z6), (7, 0, z7), (8, 0, z8)] [] 0 0 h (k76 z6 z7 z8 h)) {k102 : Int → Int → AH → Option (Int × AH)} (hk102 : ∀ (z6 z9 : Int) (h : AH), Sim (S_B_crowded G X) 102 [(0, 2, z0), (1, 0, z1), (2, 0, z2), (3, 0, z3), (4, 0, z4), (5, 2, z5), (6, 0, z6), (7, 0, z7), (8, 0, z8), (9, 0, z9)] [] 0 0 h (k102 z6 z9 h)) (z6 z9 : Int) (h : AH) : Sim (S_B_crowded G X) 102 [(0, 2, z0), (1, 0, z1), (2, 0, z2), (3, 0, z3), (4, 0, z4), (5, 2, z5), (6, 0, z6), (7, 0, z7), (8, 0, z8), (9, 0, z9)] [] 0 0 h (F_B_crowded_102 k76 z0 z1 z2 z3 z4 z5 z7 z8 k102 z6 z9 h) := by
  unfold F_B_crowded_102
  refine s_iload hS dX9_crowded_102 9 rfl ?_
  refine s_iload_n hS dX9_crowded_104 rfl 2 rfl ?_
  refine s_icmp_ge hS dX9_crowded_105 rfl ?_ ?_
  · refine s_iload hS dX9_crowded_135 7 rfl ?_
    refine s_aload_n hS dX9_crowded_137 rfl 0 rfl ?_
    refine gf_X9_59 hS dX9_crowded_138 fun v1 => ?_
    refine s_iload hS dX9_crowded_141 4 rfl ?_
    refine s_if_ne hS dX9_crowded_143 rfl ?_ ?_
    · refine s_iconst hS dX9_crowded_150 ?_
      refine s_ls [0, 1, 2, 3, 4, 5, 6, 8] rfl ?_
      exact b_B_crowded_151 hS _ _ _ _ _ _ hk76 _ _ _ _ _ _
    · refine s_iconst hS dX9_crowded_146 ?_
      refine s_goto hS dX9_crowded_147 rfl ?_
      refine s_ls [0, 1, 2, 3, 4, 5, 6, 8] rfl ?_
      exact b_B_crowded_151 hS _ _ _ _ _ _ hk76 _ _ _ _ _ _
  · refine s_aload_n hS dX9_crowded_108 rfl 0 rfl ?_
    refine gf_X9_59 hS dX9_crowded_109 fun v2 => ?_
    refine s_iload hS dX9_crowded_112 6 rfl ?_
    refine s_iload_n hS dX9_crowded_114 rfl 3 rfl ?_
    refine ca_X9_319 hS ⟨Nat.le_of_ble_eq_true rfl, Nat.le_of_ble_eq_true rfl⟩ ⟨Nat.le_of_ble_eq_true rfl, Nat.le_of_ble_eq_true rfl⟩ (Nat.le_of_ble_eq_true rfl) dX9_crowded_115 fun v3 h4 => ?_
    refine s_istore hS dX9_crowded_118 (Nat.le_of_ble_eq_true rfl) (ls' := [(6, 0, v3), (0, 2, z0), (1, 0, z1), (2, 0, z2), (3, 0, z3), (4, 0, z4), (5, 2, z5), (7, 0, z7), (8, 0, z8), (9, 0, z9)]) rfl ?_
    refine s_aload_n hS dX9_crowded_120 rfl 1 rfl ?_
    refine gf_X9_59 hS dX9_crowded_121 fun v5 => ?_
    refine s_aload hS dX9_crowded_124 6 rfl ?_
    refine ca_X9_282 hS ⟨Nat.le_of_ble_eq_true rfl, Nat.le_of_ble_eq_true rfl⟩ ⟨Nat.le_of_ble_eq_true rfl, Nat.le_of_ble_eq_true rfl⟩ (Nat.le_of_ble_eq_true rfl) dX9_crowded_126 fun v6 h7 => ?_
    refine s_iinc hS dX9_crowded_129 9 rfl (Nat.le_of_ble_eq_true rfl) (ls' := [(9, 0, (z9 + 1)), (6, 0, v3), (0, 2, z0), (1, 0, z1), (2, 0, z2), (3, 0, z3), (4, 0, z4), (5, 2, z5), (7, 0, z7), (8, 0, z8)]) rfl ?_
    refine s_goto hS dX9_crowded_132 rfl ?_
    refine s_ls [2, 3, 4, 5, 6, 7, 1, 8, 9, 0] rfl ?_
    exact hk102 _ _ _
set_option maxRecDepth 100000 in
set_option maxHeartbeats 4000000 in
theorem b_B_crowded_102 {G : GE} {X : SMw} (hS : SO (S_B_crowded G X) RX9 cX9_crowded) (z0 z1 z2 z3 z4 z5 z7 z8 : Int) {k76 : Int → Int → Int → AH → Option (Int × AH)} (hk76 : ∀ (z6 z7 z8 : Int) (h : AH), Sim (S_B_crowded G X) 76 [(0, 2, z0), (1, 0, z1), (2, 0, z2), (3, 0, z3), (4, 0, z4), (5, 2, z5), (6, 0, z6), (7, 0, z7), (8, 0, z8)] [] 0 0 h (k76 z6 z7 z8 h)) (z6 z9 : Int) (h : AH) : Sim (S_B_crowded G X) 102 [(0, 2, z0), (1, 0, z1), (2, 0, z2), (3, 0, z3), (4, 0, z4), (5, 2, z5), (6, 0, z6), (7, 0, z7), (8, 0, z8), (9, 0, z9)] [] 0 0 h (f_B_crowded_102 k76 z0 z1 z2 z3 z4 z5 z6 z7 z8 z9 h) := by
  exact s_loop (S := (S_B_crowded G X)) (lsf := fun s : Int × Int × AH => [(0, 2, z0), (1, 0, z1), (2, 0, z2), (3, 0, z3), (4, 0, z4), (5, 2, z5), (6, 0, s.1), (7, 0, z7), (8, 0, z8), (9, 0, s.2.1)]) (hf := fun s => s.2.2) (fun kf hkf s => B_B_crowded_102 hS z0 z1 z2 z3 z4 z5 z7 z8 hk76 (fun a0 a1 a2 => hkf (a0, a1, a2)) s.1 s.2.1 s.2.2) fu_ (z6, z9, h)
set_option maxRecDepth 100000 in
set_option maxHeartbeats 4000000 in
theorem B_B_crowded_76 {G : GE} {X : SMw} (hS : SO (S_B_crowded G X) RX9 cX9_crowded) (z0 z1 z2 z3 z4 z5 : Int) {k76 : Int → Int → Int → AH → Option (Int × AH)} (hk76 : ∀ (z6 z7 z8 : Int) (h : AH), Sim (S_B_crowded G X) 76 [(0, 2, z0), (1, 0, z1), (2, 0, z2), (3, 0, z3), (4, 0, z4), (5, 2, z5), (6, 0, z6), (7, 0, z7), (8, 0, z8)] [] 0 0 h (k76 z6 z7 z8 h)) (z6 z7 z8 : Int) (h : AH) : Sim (S_B_crowded G X) 76 [(0, 2, z0), (1, 0, z1), (2, 0, z2), (3, 0, z3), (4, 0, z4), (5, 2, z5), (6, 0, z6), (7, 0, z7), (8, 0, z8)] [] 0 0 h (F_B_crowded_76 z0 z1 z2 z3 z4 z5 k76 z6 z7 z8 h) := by
  unfold F_B_crowded_76
  refine s_iload hS dX9_crowded_76 8 rfl ?_
  refine s_iload_n hS dX9_crowded_78 rfl 1 rfl ?_
  refine s_icmp_ge hS dX9_crowded_79 rfl ?_ ?_
  · refine s_iload hS dX9_crowded_163 7 rfl ?_
    exact s_iret hS rfl (Nat.le_of_ble_eq_true rfl) (Nat.le_of_ble_eq_true rfl) dX9_crowded_165
  · refine s_aload_n hS dX9_crowded_82 rfl 0 rfl ?_
    refine gf_X9_59 hS dX9_crowded_83 fun v1 => ?_
    refine s_aload_n hS dX9_crowded_86 rfl 0 rfl ?_
    refine gf_X9_41 hS dX9_crowded_87 fun v2 => ?_
    refine gf_X9_95 hS dX9_crowded_90 fun v3 => ?_
    refine gf_X9_106 hS dX9_crowded_93 fun v4 => ?_
    refine ca_X9_111 hS ⟨Nat.le_of_ble_eq_true rfl, Nat.le_of_ble_eq_true rfl⟩ ⟨Nat.le_of_ble_eq_true rfl, Nat.le_of_ble_eq_true rfl⟩ (Nat.le_of_ble_eq_true rfl) dX9_crowded_96 fun v5 h6 => ?_
    refine s_iconst hS dX9_crowded_99 ?_
    refine s_istore hS dX9_crowded_100 (Nat.le_of_ble_eq_true rfl) (ls' := [(9, 0, 0), (0, 2, z0), (1, 0, z1), (2, 0, z2), (3, 0, z3), (4, 0, z4), (5, 2, z5), (6, 0, z6), (7, 0, z7), (8, 0, z8)]) rfl ?_
    refine s_ls [1, 2, 3, 4, 5, 6, 7, 8, 9, 0] rfl ?_
    exact b_B_crowded_102 hS _ _ _ _ _ _ _ _ hk76 _ _ _
set_option maxRecDepth 100000 in
set_option maxHeartbeats 4000000 in
theorem b_B_crowded_76 {G : GE} {X : SMw} (hS : SO (S_B_crowded G X) RX9 cX9_crowded) (z0 z1 z2 z3 z4 z5 : Int) (z6 z7 z8 : Int) (h : AH) : Sim (S_B_crowded G X) 76 [(0, 2, z0), (1, 0, z1), (2, 0, z2), (3, 0, z3), (4, 0, z4), (5, 2, z5), (6, 0, z6), (7, 0, z7), (8, 0, z8)] [] 0 0 h (f_B_crowded_76 z0 z1 z2 z3 z4 z5 z6 z7 z8 h) := by
  exact s_loop (S := (S_B_crowded G X)) (lsf := fun s : Int × Int × Int × AH => [(0, 2, z0), (1, 0, z1), (2, 0, z2), (3, 0, z3), (4, 0, z4), (5, 2, z5), (6, 0, s.1), (7, 0, s.2.1), (8, 0, s.2.2.1)]) (hf := fun s => s.2.2.2) (fun kf hkf s => B_B_crowded_76 hS z0 z1 z2 z3 z4 z5 (fun a0 a1 a2 a3 => hkf (a0, a1, a2, a3)) s.1 s.2.1 s.2.2.1 s.2.2.2) fu_ (z6, z7, z8, h)
set_option maxRecDepth 100000 in
set_option maxHeartbeats 4000000 in
theorem b_B_crowded {G : GE} {X : SMw} (hS : SO (S_B_crowded G X) RX9 cX9_crowded) (z0 z1 z2 z3 z4 : Int) (h : AH) : Sim (S_B_crowded G X) 0 [(0, 2, z0), (1, 0, z1), (2, 0, z2), (3, 0, z3), (4, 0, z4)] [] 0 0 h (f_B_crowded z0 z1 z2 z3 z4 h) := by
  unfold f_B_crowded
  refine s_aload_n hS dX9_crowded_0 rfl 0 rfl ?_
  refine gf_X9_41 hS dX9_crowded_1 fun v1 => ?_
  refine gf_X9_115 hS dX9_crowded_4 fun v2 => ?_
  refine s_if_eq hS dX9_crowded_7 rfl ?_ ?_
  · refine s_iconst hS dX9_crowded_53 ?_
    exact s_iret hS rfl (Nat.le_of_ble_eq_true rfl) (Nat.le_of_ble_eq_true rfl) dX9_crowded_54
  · refine s_iload_n hS dX9_crowded_10 rfl 1 rfl ?_
    refine s_iconst hS dX9_crowded_11 ?_
    refine s_icmp_lt hS dX9_crowded_12 rfl ?_ ?_
    · refine s_iconst hS dX9_crowded_53 ?_
      exact s_iret hS rfl (Nat.le_of_ble_eq_true rfl) (Nat.le_of_ble_eq_true rfl) dX9_crowded_54
    · refine s_iload_n hS dX9_crowded_15 rfl 1 rfl ?_
      refine s_bipush hS dX9_crowded_16 (by decide +kernel) ?_
      refine s_icmp_gt hS dX9_crowded_18 rfl ?_ ?_
      · refine s_iconst hS dX9_crowded_53 ?_
        exact s_iret hS rfl (Nat.le_of_ble_eq_true rfl) (Nat.le_of_ble_eq_true rfl) dX9_crowded_54
      · refine s_iload_n hS dX9_crowded_21 rfl 2 rfl ?_
        refine s_iconst hS dX9_crowded_22 ?_
        refine s_icmp_lt hS dX9_crowded_23 rfl ?_ ?_
        · refine s_iconst hS dX9_crowded_53 ?_
          exact s_iret hS rfl (Nat.le_of_ble_eq_true rfl) (Nat.le_of_ble_eq_true rfl) dX9_crowded_54
        · refine s_iload_n hS dX9_crowded_26 rfl 2 rfl ?_
          refine s_bipush hS dX9_crowded_27 (by decide +kernel) ?_
          refine s_icmp_gt hS dX9_crowded_29 rfl ?_ ?_
          · refine s_iconst hS dX9_crowded_53 ?_
            exact s_iret hS rfl (Nat.le_of_ble_eq_true rfl) (Nat.le_of_ble_eq_true rfl) dX9_crowded_54
          · refine s_iload_n hS dX9_crowded_32 rfl 3 rfl ?_
            refine s_if_lt hS dX9_crowded_33 rfl ?_ ?_
            · refine s_iconst hS dX9_crowded_53 ?_
              exact s_iret hS rfl (Nat.le_of_ble_eq_true rfl) (Nat.le_of_ble_eq_true rfl) dX9_crowded_54
            · refine s_iload_n hS dX9_crowded_36 rfl 3 rfl ?_
              refine s_bipush hS dX9_crowded_37 (by decide +kernel) ?_
              refine s_icmp_gt hS dX9_crowded_39 rfl ?_ ?_
              · refine s_iconst hS dX9_crowded_53 ?_
                exact s_iret hS rfl (Nat.le_of_ble_eq_true rfl) (Nat.le_of_ble_eq_true rfl) dX9_crowded_54
              · refine s_iload hS dX9_crowded_42 4 rfl ?_
                refine s_if_lt hS dX9_crowded_44 rfl ?_ ?_
                · refine s_iconst hS dX9_crowded_53 ?_
                  exact s_iret hS rfl (Nat.le_of_ble_eq_true rfl) (Nat.le_of_ble_eq_true rfl) dX9_crowded_54
                · refine s_iload hS dX9_crowded_47 4 rfl ?_
                  refine s_iconst hS dX9_crowded_49 ?_
                  refine s_icmp_le hS dX9_crowded_50 rfl ?_ ?_
                  · refine s_aload_n hS dX9_crowded_55 rfl 0 rfl ?_
                    refine ca_X9_203 hS ⟨Nat.le_of_ble_eq_true rfl, Nat.le_of_ble_eq_true rfl⟩ ⟨Nat.le_of_ble_eq_true rfl, Nat.le_of_ble_eq_true rfl⟩ (Nat.le_of_ble_eq_true rfl) dX9_crowded_56 fun v3 h4 => ?_
                    refine s_astore hS dX9_crowded_59 (Nat.le_of_ble_eq_true rfl) (ls' := [(5, 2, v3), (0, 2, z0), (1, 0, z1), (2, 0, z2), (3, 0, z3), (4, 0, z4)]) rfl ?_
                    refine s_aload_n hS dX9_crowded_61 rfl 1 rfl ?_
                    refine gf_X9_41 hS dX9_crowded_62 fun v5 => ?_
                    refine gf_X9_316 hS dX9_crowded_65 fun v6 => ?_
                    refine s_istore hS dX9_crowded_68 (Nat.le_of_ble_eq_true rfl) (ls' := [(6, 0, v6), (5, 2, v3), (0, 2, z0), (1, 0, z1), (2, 0, z2), (3, 0, z3), (4, 0, z4)]) rfl ?_
                    refine s_iconst hS dX9_crowded_70 ?_
                    refine s_istore hS dX9_crowded_71 (Nat.le_of_ble_eq_true rfl) (ls' := [(7, 0, 0), (6, 0, v6), (5, 2, v3), (0, 2, z0), (1, 0, z1), (2, 0, z2), (3, 0, z3), (4, 0, z4)]) rfl ?_
                    refine s_iconst hS dX9_crowded_73 ?_
                    refine s_istore hS dX9_crowded_74 (Nat.le_of_ble_eq_true rfl) (ls' := [(8, 0, 0), (7, 0, 0), (6, 0, v6), (5, 2, v3), (0, 2, z0), (1, 0, z1), (2, 0, z2), (3, 0, z3), (4, 0, z4)]) rfl ?_
                    refine s_ls [4, 5, 6, 7, 8, 3, 2, 1, 0] rfl ?_
                    exact b_B_crowded_76 hS _ _ _ _ _ _ _ _ _ _
                  · refine s_iconst hS dX9_crowded_53 ?_
                    exact s_iret hS rfl (Nat.le_of_ble_eq_true rfl) (Nat.le_of_ble_eq_true rfl) dX9_crowded_54
theorem c_B_crowded (l : Launch) (G : GE) (z0 z1 z2 z3 z4 : Int) (h : AH) : Con l yX9_crowded cX9_crowded 10 (some .int) 6 140 0 0 G [(2, z0), (0, z1), (0, z2), (0, z3), (0, z4)] h (f_B_crowded z0 z1 z2 z3 z4 h) :=
  con_of (by decide +kernel) (Nat.le_of_ble_eq_true rfl) fun X hX hS hi => b_B_crowded hS z0 z1 z2 z3 z4 h
theorem gf_X9_322 {S : SX} {cc : ByteArray} {pc : Nat} {ls : List (Nat × Nat × Int)} {st : List (Nat × Int)} {k n : Nat} {h : AH} {a : Int} {f : Int → Option (Int × AH)} (hS : SO S RX9 cc) (d : decode cc pc = .ok (.getfield 322, 3)) (kk : ∀ v : Int, Sim S (pc + 3) ls ((0, v) :: st) k n h (f v)) : Sim S pc ls ((2, a) :: st) k n h ((g_f h 6 a 7).bind f) := s_getf hS cx_5 7 (by decide) tw_301 rfl rfl rfl d kk
theorem ca_X9_325 {S : SX} {cc : ByteArray} {pc : Nat} {ls : List (Nat × Nat × Int)} {st : List (Nat × Int)} {k n : Nat} {h : AH} {b : Int} {f : Int → AH → Option (Int × AH)} (hS : SO S RX9 cc) (hR : 1 + 1 ≤ S.2.2.2.2.2.2.1 ∧ 8 + (3 + 11) + 21 ≤ S.2.2.2.2.2.2.2) (hk : k + 0 ≤ S.2.2.2.1 ∧ n + 0 ≤ S.2.2.2.2.1) (hl : st.length ≤ 4) (d : decode cc pc = .ok (.invokevirtual 325, 3)) (kk : ∀ (r : Int) (h2 : AH), Sim S (pc + 3) ls ((0, r) :: st) (k + 0) (n + 0) h2 (f r h2)) : Sim S pc ls ((2, b) :: st) k n h (c_k h 8 b (bd_ (f_T_serverBits b h) f)) := s_callV hS mo_X7_serverBits rfl rfl (c_T_serverBits _ _ _ h) tw_1116 tw_835 tw_836 hR hk rfl rfl hl d kk
abbrev S_B_count (G : GE) (X : SMw) : SX := (G, X, 3, 0, 0, (some .int), 3, 66)
set_option maxRecDepth 100000 in
set_option maxHeartbeats 4000000 in
theorem b_B_count {G : GE} {X : SMw} (hS : SO (S_B_count G X) RX9 cX9_count) (z0 z1 : Int) (h : AH) : Sim (S_B_count G X) 0 [(0, 2, z0), (1, 0, z1)] [] 0 0 h (f_B_count z0 z1 h) := by
  unfold f_B_count
  refine s_aload_n hS dX9_count_0 rfl 0 rfl ?_
  refine gf_X9_41 hS dX9_count_1 fun v1 => ?_
  refine gf_X9_95 hS dX9_count_4 fun v2 => ?_
  refine gf_X9_106 hS dX9_count_7 fun v3 => ?_
  refine s_astore_n hS dX9_count_10 rfl (Nat.le_of_ble_eq_true rfl) (ls' := [(2, 2, v3), (0, 2, z0), (1, 0, z1)]) rfl ?_
  refine s_iload_n hS dX9_count_11 rfl 2 rfl ?_
  refine s_swI hS 0 dX9_count_12 (by decide) (by decide) rfl rfl ?_ fun e0 => ?_
  · refine s_aload_n hS dX9_count_84 rfl 1 rfl ?_
    refine gf_X9_41 hS dX9_count_85 fun v4 => ?_
    refine gf_X9_95 hS dX9_count_88 fun v5 => ?_
    refine gf_X9_322 hS dX9_count_91 fun v6 => ?_
    exact s_iret hS rfl (Nat.le_of_ble_eq_true rfl) (Nat.le_of_ble_eq_true rfl) dX9_count_94
  refine s_swI hS 1 dX9_count_12 (by decide) (by decide) rfl rfl ?_ fun e1 => ?_
  · refine s_aload_n hS dX9_count_95 rfl 0 rfl ?_
    refine gf_X9_125 hS dX9_count_96 fun v7 => ?_
    exact s_iret hS rfl (Nat.le_of_ble_eq_true rfl) (Nat.le_of_ble_eq_true rfl) dX9_count_99
  refine s_swI hS 2 dX9_count_12 (by decide) (by decide) rfl rfl ?_ fun e2 => ?_
  · refine s_aload_n hS dX9_count_100 rfl 1 rfl ?_
    refine gf_X9_128 hS dX9_count_101 fun v8 => ?_
    exact s_iret hS rfl (Nat.le_of_ble_eq_true rfl) (Nat.le_of_ble_eq_true rfl) dX9_count_104
  refine s_swI hS 3 dX9_count_12 (by decide) (by decide) rfl rfl ?_ fun e3 => ?_
  · refine s_aload_n hS dX9_count_105 rfl 1 rfl ?_
    refine gf_X9_41 hS dX9_count_106 fun v9 => ?_
    refine gf_X9_134 hS dX9_count_109 fun v10 => ?_
    exact s_iret hS rfl (Nat.le_of_ble_eq_true rfl) (Nat.le_of_ble_eq_true rfl) dX9_count_112
  refine s_swI hS 4 dX9_count_12 (by decide) (by decide) rfl rfl ?_ fun e4 => ?_
  · refine s_aload_n hS dX9_count_113 rfl 0 rfl ?_
    refine gf_X9_197 hS dX9_count_114 fun v11 => ?_
    exact s_iret hS rfl (Nat.le_of_ble_eq_true rfl) (Nat.le_of_ble_eq_true rfl) dX9_count_117
  refine s_swI hS 5 dX9_count_12 (by decide) (by decide) rfl rfl ?_ fun e5 => ?_
  · refine s_aload_n hS dX9_count_118 rfl 0 rfl ?_
    refine s_iconst hS dX9_count_119 ?_
    refine ca_X9_286 hS ⟨Nat.le_of_ble_eq_true rfl, Nat.le_of_ble_eq_true rfl⟩ ⟨Nat.le_of_ble_eq_true rfl, Nat.le_of_ble_eq_true rfl⟩ (Nat.le_of_ble_eq_true rfl) dX9_count_120 fun v12 h13 => ?_
    exact s_iret hS rfl (Nat.le_of_ble_eq_true rfl) (Nat.le_of_ble_eq_true rfl) dX9_count_123
  refine s_swI hS 6 dX9_count_12 (by decide) (by decide) rfl rfl ?_ fun e6 => ?_
  · refine s_aload_n hS dX9_count_124 rfl 0 rfl ?_
    refine s_iconst hS dX9_count_125 ?_
    refine ca_X9_286 hS ⟨Nat.le_of_ble_eq_true rfl, Nat.le_of_ble_eq_true rfl⟩ ⟨Nat.le_of_ble_eq_true rfl, Nat.le_of_ble_eq_true rfl⟩ (Nat.le_of_ble_eq_true rfl) dX9_count_126 fun v14 h15 => ?_
    exact s_iret hS rfl (Nat.le_of_ble_eq_true rfl) (Nat.le_of_ble_eq_true rfl) dX9_count_129
  refine s_swI hS 7 dX9_count_12 (by decide) (by decide) rfl rfl ?_ fun e7 => ?_
  · refine s_aload_n hS dX9_count_130 rfl 0 rfl ?_
    refine s_iconst hS dX9_count_131 ?_
    refine ca_X9_286 hS ⟨Nat.le_of_ble_eq_true rfl, Nat.le_of_ble_eq_true rfl⟩ ⟨Nat.le_of_ble_eq_true rfl, Nat.le_of_ble_eq_true rfl⟩ (Nat.le_of_ble_eq_true rfl) dX9_count_132 fun v16 h17 => ?_
    exact s_iret hS rfl (Nat.le_of_ble_eq_true rfl) (Nat.le_of_ble_eq_true rfl) dX9_count_135
  refine s_swI hS 8 dX9_count_12 (by decide) (by decide) rfl rfl ?_ fun e8 => ?_
  · refine s_aload_n hS dX9_count_136 rfl 0 rfl ?_
    refine s_iconst hS dX9_count_137 ?_
    refine ca_X9_286 hS ⟨Nat.le_of_ble_eq_true rfl, Nat.le_of_ble_eq_true rfl⟩ ⟨Nat.le_of_ble_eq_true rfl, Nat.le_of_ble_eq_true rfl⟩ (Nat.le_of_ble_eq_true rfl) dX9_count_138 fun v18 h19 => ?_
    exact s_iret hS rfl (Nat.le_of_ble_eq_true rfl) (Nat.le_of_ble_eq_true rfl) dX9_count_141
  refine s_swI hS 9 dX9_count_12 (by decide) (by decide) rfl rfl ?_ fun e9 => ?_
  · refine s_aload_n hS dX9_count_142 rfl 0 rfl ?_
    refine ca_X9_325 hS ⟨Nat.le_of_ble_eq_true rfl, Nat.le_of_ble_eq_true rfl⟩ ⟨Nat.le_of_ble_eq_true rfl, Nat.le_of_ble_eq_true rfl⟩ (Nat.le_of_ble_eq_true rfl) dX9_count_143 fun v20 h21 => ?_
    exact s_iret hS rfl (Nat.le_of_ble_eq_true rfl) (Nat.le_of_ble_eq_true rfl) dX9_count_146
  refine s_swI hS 10 dX9_count_12 (by decide) (by decide) rfl rfl ?_ fun e10 => ?_
  · refine s_aload_n hS dX9_count_147 rfl 1 rfl ?_
    refine gf_X9_41 hS dX9_count_148 fun v22 => ?_
    refine gf_X9_119 hS dX9_count_151 fun v23 => ?_
    exact s_iret hS rfl (Nat.le_of_ble_eq_true rfl) (Nat.le_of_ble_eq_true rfl) dX9_count_154
  refine s_swI hS 11 dX9_count_12 (by decide) (by decide) rfl rfl ?_ fun e11 => ?_
  · refine s_aload_n hS dX9_count_155 rfl 1 rfl ?_
    refine gf_X9_52 hS dX9_count_156 fun v24 => ?_
    refine gf_X9_250 hS dX9_count_159 fun v25 => ?_
    exact s_iret hS rfl (Nat.le_of_ble_eq_true rfl) (Nat.le_of_ble_eq_true rfl) dX9_count_162
  refine s_swI hS 12 dX9_count_12 (by decide) (by decide) rfl rfl ?_ fun e12 => ?_
  · refine s_aload_n hS dX9_count_163 rfl 1 rfl ?_
    refine gf_X9_41 hS dX9_count_164 fun v26 => ?_
    refine gf_X9_316 hS dX9_count_167 fun v27 => ?_
    exact s_iret hS rfl (Nat.le_of_ble_eq_true rfl) (Nat.le_of_ble_eq_true rfl) dX9_count_170
  refine s_swI hS 13 dX9_count_12 (by decide) (by decide) rfl rfl ?_ fun e13 => ?_
  · refine s_aload_n hS dX9_count_171 rfl 1 rfl ?_
    refine gf_X9_10 hS dX9_count_172 fun v28 => ?_
    refine gf_X9_80 hS dX9_count_175 fun v29 => ?_
    exact s_iret hS rfl (Nat.le_of_ble_eq_true rfl) (Nat.le_of_ble_eq_true rfl) dX9_count_178
  refine s_swO hS dX9_count_12 (by omega) rfl ?_
  refine s_iconst hS dX9_count_179 ?_
  exact s_iret hS rfl (Nat.le_of_ble_eq_true rfl) (Nat.le_of_ble_eq_true rfl) dX9_count_180
theorem c_B_count (l : Launch) (G : GE) (z0 z1 : Int) (h : AH) : Con l yX9_count cX9_count 3 (some .int) 3 66 0 0 G [(2, z0), (0, z1)] h (f_B_count z0 z1 h) :=
  con_of (by decide +kernel) (Nat.le_of_ble_eq_true rfl) fun X hX hS hi => b_B_count hS z0 z1 h
theorem gf_X9_45 {S : SX} {cc : ByteArray} {pc : Nat} {ls : List (Nat × Nat × Int)} {st : List (Nat × Int)} {k n : Nat} {h : AH} {a : Int} {f : Int → Option (Int × AH)} (hS : SO S RX9 cc) (d : decode cc pc = .ok (.getfield 45, 3)) (kk : ∀ v : Int, Sim S (pc + 3) ls ((2, v) :: st) k n h (f v)) : Sim S pc ls ((2, a) :: st) k n h ((g_f h 10 a 6).bind f) := s_getf hS cx_9 6 (by decide) tw_432 rfl rfl rfl d kk
theorem ca_X9_328 {S : SX} {cc : ByteArray} {pc : Nat} {ls : List (Nat × Nat × Int)} {st : List (Nat × Int)} {k n : Nat} {h : AH} {q0 b : Int} {f : Int → AH → Option (Int × AH)} (hS : SO S RX9 cc) (hR : 2 + 1 ≤ S.2.2.2.2.2.2.1 ∧ 8 + (2 + 11) + 81 ≤ S.2.2.2.2.2.2.2) (hk : k + 0 ≤ S.2.2.2.1 ∧ n + 0 ≤ S.2.2.2.2.1) (hl : st.length ≤ 4) (d : decode cc pc = .ok (.invokevirtual 328, 3)) (kk : ∀ (r : Int) (h2 : AH), Sim S (pc + 3) ls (st) (k + 0) (n + 0) h2 (f r h2)) : Sim S pc ls ((2, q0) :: (2, b) :: st) k n h (c_k h 1 b (bd_ (f_A_copyFrom b q0 h) f)) := s_callV hS mo_X0_copyFrom rfl rfl (c_A_copyFrom _ _ _ _ h) tw_1121 tw_1122 tw_1123 hR hk rfl rfl hl d kk
abbrev S_B_image (G : GE) (X : SMw) : SX := (G, X, 2, 21, 330, (some .int), 4, 102)
set_option maxRecDepth 100000 in
set_option maxHeartbeats 4000000 in
theorem b_B_image_33 {G : GE} {X : SMw} (hS : SO (S_B_image G X) RX9 cX9_image) (z0 z1 : Int) (h : AH) : Sim (S_B_image G X) 33 [(0, 2, z0), (1, 0, z1)] [] 21 330 h (f_B_image_33 z0 z1 h) := by
  unfold f_B_image_33
  refine s_aload_n hS dX9_image_33 rfl 0 rfl ?_
  refine gf_X9_45 hS dX9_image_34 fun v1 => ?_
  refine s_iload_n hS dX9_image_37 rfl 1 rfl ?_
  refine s_aald hS (by decide) (by decide) dX9_image_38 fun v2 => ?_
  refine s_aload_n hS dX9_image_39 rfl 0 rfl ?_
  refine gf_X9_41 hS dX9_image_40 fun v3 => ?_
  refine ca_X9_328 hS ⟨Nat.le_of_ble_eq_true rfl, Nat.le_of_ble_eq_true rfl⟩ ⟨Nat.le_of_ble_eq_true rfl, Nat.le_of_ble_eq_true rfl⟩ (Nat.le_of_ble_eq_true rfl) dX9_image_43 fun v4 h5 => ?_
  refine s_aload_n hS dX9_image_46 rfl 0 rfl ?_
  refine gf_X9_41 hS dX9_image_47 fun v6 => ?_
  refine gf_X9_95 hS dX9_image_50 fun v7 => ?_
  refine gf_X9_106 hS dX9_image_53 fun v8 => ?_
  refine gf_X9_197 hS dX9_image_56 fun v9 => ?_
  exact s_iret hS rfl (Nat.le_of_ble_eq_true rfl) (Nat.le_of_ble_eq_true rfl) dX9_image_59
set_option maxRecDepth 100000 in
set_option maxHeartbeats 4000000 in
theorem b_B_image {G : GE} {X : SMw} (hS : SO (S_B_image G X) RX9 cX9_image) (z0 z1 : Int) (h : AH) : Sim (S_B_image G X) 0 [(0, 2, z0), (1, 0, z1)] [] 0 0 h (f_B_image z0 z1 h) := by
  unfold f_B_image
  refine s_iload_n hS dX9_image_0 rfl 1 rfl ?_
  refine s_if_lt hS dX9_image_1 rfl ?_ ?_
  · refine s_iconst hS dX9_image_9 ?_
    exact s_iret hS rfl (Nat.le_of_ble_eq_true rfl) (Nat.le_of_ble_eq_true rfl) dX9_image_10
  · refine s_iload_n hS dX9_image_4 rfl 1 rfl ?_
    refine s_iconst hS dX9_image_5 ?_
    refine s_icmp_lt hS dX9_image_6 rfl ?_ ?_
    · refine s_aload_n hS dX9_image_11 rfl 0 rfl ?_
      refine gf_X9_45 hS dX9_image_12 fun v1 => ?_
      refine s_iload_n hS dX9_image_15 rfl 1 rfl ?_
      refine s_aald hS (by decide) (by decide) dX9_image_16 fun v2 => ?_
      refine s_ifnonnull hS dX9_image_17 rfl ?_ ?_
      · refine s_wd (k' := 21) (n' := 330) (Nat.le_of_ble_eq_true rfl) (Nat.le_of_ble_eq_true rfl) ?_
        exact b_B_image_33 hS _ _ _
      · refine s_aload_n hS dX9_image_20 rfl 0 rfl ?_
        refine gf_X9_45 hS dX9_image_21 fun v3 => ?_
        refine s_iload_n hS dX9_image_24 rfl 1 rfl ?_
        refine s_newb hS cx_0 rfl tw_227 tw_228 tw_122 (Nat.le_of_ble_eq_true rfl) (Nat.le_of_ble_eq_true rfl) dX9_image_25 fun x5 h4 => ?_
        refine s_dup hS dX9_image_28 (by decide) ?_
        refine ca_X9_40 hS ⟨Nat.le_of_ble_eq_true rfl, Nat.le_of_ble_eq_true rfl⟩ ⟨Nat.le_of_ble_eq_true rfl, Nat.le_of_ble_eq_true rfl⟩ (Nat.le_of_ble_eq_true rfl) dX9_image_29 fun v6 h7 => ?_
        refine s_aast hS (ci := 0) rfl rfl rfl (by decide) (by decide) dX9_image_32 fun h8 => ?_
        exact b_B_image_33 hS _ _ _
    · refine s_iconst hS dX9_image_9 ?_
      exact s_iret hS rfl (Nat.le_of_ble_eq_true rfl) (Nat.le_of_ble_eq_true rfl) dX9_image_10
theorem c_B_image (l : Launch) (G : GE) (z0 z1 : Int) (h : AH) : Con l yX9_image cX9_image 2 (some .int) 4 102 21 330 G [(2, z0), (0, z1)] h (f_B_image z0 z1 h) :=
  con_of (by decide +kernel) (Nat.le_of_ble_eq_true rfl) fun X hX hS hi => b_B_image hS z0 z1 h
abbrev S_B_back (G : GE) (X : SMw) : SX := (G, X, 2, 0, 0, (some .int), 3, 102)
set_option maxRecDepth 100000 in
set_option maxHeartbeats 4000000 in
theorem b_B_back {G : GE} {X : SMw} (hS : SO (S_B_back G X) RX9 cX9_back) (z0 z1 : Int) (h : AH) : Sim (S_B_back G X) 0 [(0, 2, z0), (1, 0, z1)] [] 0 0 h (f_B_back z0 z1 h) := by
  unfold f_B_back
  refine s_iload_n hS dX9_back_0 rfl 1 rfl ?_
  refine s_if_lt hS dX9_back_1 rfl ?_ ?_
  · refine s_iconst hS dX9_back_18 ?_
    exact s_iret hS rfl (Nat.le_of_ble_eq_true rfl) (Nat.le_of_ble_eq_true rfl) dX9_back_19
  · refine s_iload_n hS dX9_back_4 rfl 1 rfl ?_
    refine s_iconst hS dX9_back_5 ?_
    refine s_icmp_ge hS dX9_back_6 rfl ?_ ?_
    · refine s_iconst hS dX9_back_18 ?_
      exact s_iret hS rfl (Nat.le_of_ble_eq_true rfl) (Nat.le_of_ble_eq_true rfl) dX9_back_19
    · refine s_aload_n hS dX9_back_9 rfl 0 rfl ?_
      refine gf_X9_45 hS dX9_back_10 fun v1 => ?_
      refine s_iload_n hS dX9_back_13 rfl 1 rfl ?_
      refine s_aald hS (by decide) (by decide) dX9_back_14 fun v2 => ?_
      refine s_ifnonnull hS dX9_back_15 rfl ?_ ?_
      · refine s_aload_n hS dX9_back_20 rfl 0 rfl ?_
        refine gf_X9_41 hS dX9_back_21 fun v3 => ?_
        refine s_aload_n hS dX9_back_24 rfl 0 rfl ?_
        refine gf_X9_45 hS dX9_back_25 fun v4 => ?_
        refine s_iload_n hS dX9_back_28 rfl 1 rfl ?_
        refine s_aald hS (by decide) (by decide) dX9_back_29 fun v5 => ?_
        refine ca_X9_328 hS ⟨Nat.le_of_ble_eq_true rfl, Nat.le_of_ble_eq_true rfl⟩ ⟨Nat.le_of_ble_eq_true rfl, Nat.le_of_ble_eq_true rfl⟩ (Nat.le_of_ble_eq_true rfl) dX9_back_30 fun v6 h7 => ?_
        refine s_aload_n hS dX9_back_33 rfl 0 rfl ?_
        refine gf_X9_52 hS dX9_back_34 fun v8 => ?_
        refine ca_X9_122 hS ⟨Nat.le_of_ble_eq_true rfl, Nat.le_of_ble_eq_true rfl⟩ ⟨Nat.le_of_ble_eq_true rfl, Nat.le_of_ble_eq_true rfl⟩ (Nat.le_of_ble_eq_true rfl) dX9_back_37 fun v9 h10 => ?_
        refine s_aload_n hS dX9_back_40 rfl 0 rfl ?_
        refine gf_X9_41 hS dX9_back_41 fun v11 => ?_
        refine gf_X9_95 hS dX9_back_44 fun v12 => ?_
        refine gf_X9_106 hS dX9_back_47 fun v13 => ?_
        refine gf_X9_197 hS dX9_back_50 fun v14 => ?_
        exact s_iret hS rfl (Nat.le_of_ble_eq_true rfl) (Nat.le_of_ble_eq_true rfl) dX9_back_53
      · refine s_iconst hS dX9_back_18 ?_
        exact s_iret hS rfl (Nat.le_of_ble_eq_true rfl) (Nat.le_of_ble_eq_true rfl) dX9_back_19
theorem c_B_back (l : Launch) (G : GE) (z0 z1 : Int) (h : AH) : Con l yX9_back cX9_back 2 (some .int) 3 102 0 0 G [(2, z0), (0, z1)] h (f_B_back z0 z1 h) :=
  con_of (by decide +kernel) (Nat.le_of_ble_eq_true rfl) fun X hX hS hi => b_B_back hS z0 z1 h
theorem pf_X10_7 {S : SX} {cc : ByteArray} {pc : Nat} {ls : List (Nat × Nat × Int)} {st : List (Nat × Int)} {k n : Nat} {h : AH} {a v : Int} {f : AH → Option (Int × AH)} (hS : SO S RX10 cc) (hi : S.2.1.2.2.2.2.2.2.2.2.1.name = "<init>") (d : decode cc pc = .ok (.putfield 7, 3)) (kk : ∀ h2 : AH, Sim S (pc + 3) ls st k n h2 (f h2)) : Sim S pc ls ((2, v) :: (2, a) :: st) k n h ((s_f h 11 a 0 v).bind f) := s_putF hS hi cx_10 0 (by decide) tw_1138 rfl rfl rfl (Or.inr (Or.inr (Or.inr ⟨_, rfl⟩))) rfl rfl d kk
theorem pf_X10_13 {S : SX} {cc : ByteArray} {pc : Nat} {ls : List (Nat × Nat × Int)} {st : List (Nat × Int)} {k n : Nat} {h : AH} {a v : Int} {f : AH → Option (Int × AH)} (hS : SO S RX10 cc) (hi : S.2.1.2.2.2.2.2.2.2.2.1.name = "<init>") (d : decode cc pc = .ok (.putfield 13, 3)) (kk : ∀ h2 : AH, Sim S (pc + 3) ls st k n h2 (f h2)) : Sim S pc ls ((2, v) :: (2, a) :: st) k n h ((s_f h 11 a 3 v).bind f) := s_putF hS hi cx_10 3 (by decide) tw_1141 rfl rfl rfl (Or.inr (Or.inr (Or.inr ⟨_, rfl⟩))) rfl rfl d kk
theorem pf_X10_17 {S : SX} {cc : ByteArray} {pc : Nat} {ls : List (Nat × Nat × Int)} {st : List (Nat × Int)} {k n : Nat} {h : AH} {a v : Int} {f : AH → Option (Int × AH)} (hS : SO S RX10 cc) (hi : S.2.1.2.2.2.2.2.2.2.2.1.name = "<init>") (d : decode cc pc = .ok (.putfield 17, 3)) (kk : ∀ h2 : AH, Sim S (pc + 3) ls st k n h2 (f h2)) : Sim S pc ls ((2, v) :: (2, a) :: st) k n h ((s_f h 11 a 4 v).bind f) := s_putF hS hi cx_10 4 (by decide) tw_1142 rfl rfl rfl (Or.inr (Or.inr (Or.inr ⟨_, rfl⟩))) rfl rfl d kk
theorem pf_X10_20 {S : SX} {cc : ByteArray} {pc : Nat} {ls : List (Nat × Nat × Int)} {st : List (Nat × Int)} {k n : Nat} {h : AH} {a v : Int} {f : AH → Option (Int × AH)} (hS : SO S RX10 cc) (hi : S.2.1.2.2.2.2.2.2.2.2.1.name = "<init>") (d : decode cc pc = .ok (.putfield 20, 3)) (kk : ∀ h2 : AH, Sim S (pc + 3) ls st k n h2 (f h2)) : Sim S pc ls ((2, v) :: (2, a) :: st) k n h ((s_f h 11 a 5 v).bind f) := s_putF hS hi cx_10 5 (by decide) tw_1143 rfl rfl rfl (Or.inr (Or.inr (Or.inr ⟨_, rfl⟩))) rfl rfl d kk
theorem pf_X10_23 {S : SX} {cc : ByteArray} {pc : Nat} {ls : List (Nat × Nat × Int)} {st : List (Nat × Int)} {k n : Nat} {h : AH} {a v : Int} {f : AH → Option (Int × AH)} (hS : SO S RX10 cc) (hi : S.2.1.2.2.2.2.2.2.2.2.1.name = "<init>") (d : decode cc pc = .ok (.putfield 23, 3)) (kk : ∀ h2 : AH, Sim S (pc + 3) ls st k n h2 (f h2)) : Sim S pc ls ((2, v) :: (2, a) :: st) k n h ((s_f h 11 a 6 v).bind f) := s_putF hS hi cx_10 6 (by decide) tw_1144 rfl rfl rfl (Or.inr (Or.inr (Or.inr ⟨_, rfl⟩))) rfl rfl d kk
theorem pf_X10_26 {S : SX} {cc : ByteArray} {pc : Nat} {ls : List (Nat × Nat × Int)} {st : List (Nat × Int)} {k n : Nat} {h : AH} {a v : Int} {f : AH → Option (Int × AH)} (hS : SO S RX10 cc) (hi : S.2.1.2.2.2.2.2.2.2.2.1.name = "<init>") (d : decode cc pc = .ok (.putfield 26, 3)) (kk : ∀ h2 : AH, Sim S (pc + 3) ls st k n h2 (f h2)) : Sim S pc ls ((2, v) :: (2, a) :: st) k n h ((s_f h 11 a 7 v).bind f) := s_putF hS hi cx_10 7 (by decide) tw_1145 rfl rfl rfl (Or.inr (Or.inr (Or.inr ⟨_, rfl⟩))) rfl rfl d kk
theorem pf_X10_29 {S : SX} {cc : ByteArray} {pc : Nat} {ls : List (Nat × Nat × Int)} {st : List (Nat × Int)} {k n : Nat} {h : AH} {a v : Int} {f : AH → Option (Int × AH)} (hS : SO S RX10 cc) (hi : S.2.1.2.2.2.2.2.2.2.2.1.name = "<init>") (d : decode cc pc = .ok (.putfield 29, 3)) (kk : ∀ h2 : AH, Sim S (pc + 3) ls st k n h2 (f h2)) : Sim S pc ls ((2, v) :: (2, a) :: st) k n h ((s_f h 11 a 15 v).bind f) := s_putF hS hi cx_10 15 (by decide) tw_1153 rfl rfl rfl (Or.inr (Or.inr (Or.inr ⟨_, rfl⟩))) rfl rfl d kk
theorem pf_X10_32 {S : SX} {cc : ByteArray} {pc : Nat} {ls : List (Nat × Nat × Int)} {st : List (Nat × Int)} {k n : Nat} {h : AH} {a v : Int} {f : AH → Option (Int × AH)} (hS : SO S RX10 cc) (hi : S.2.1.2.2.2.2.2.2.2.2.1.name = "<init>") (d : decode cc pc = .ok (.putfield 32, 3)) (kk : ∀ h2 : AH, Sim S (pc + 3) ls st k n h2 (f h2)) : Sim S pc ls ((2, v) :: (2, a) :: st) k n h ((s_f h 11 a 17 v).bind f) := s_putF hS hi cx_10 17 (by decide) tw_1155 rfl rfl rfl (Or.inr (Or.inr (Or.inr ⟨_, rfl⟩))) rfl rfl d kk
theorem pf_X10_36 {S : SX} {cc : ByteArray} {pc : Nat} {ls : List (Nat × Nat × Int)} {st : List (Nat × Int)} {k n : Nat} {h : AH} {a v : Int} {f : AH → Option (Int × AH)} (hS : SO S RX10 cc) (hi : S.2.1.2.2.2.2.2.2.2.2.1.name = "<init>") (d : decode cc pc = .ok (.putfield 36, 3)) (kk : ∀ h2 : AH, Sim S (pc + 3) ls st k n h2 (f h2)) : Sim S pc ls ((2, v) :: (2, a) :: st) k n h ((s_f h 11 a 19 v).bind f) := s_putF hS hi cx_10 19 (by decide) tw_1157 rfl rfl rfl (Or.inr (Or.inr (Or.inr ⟨_, rfl⟩))) rfl rfl d kk
theorem pf_X10_39 {S : SX} {cc : ByteArray} {pc : Nat} {ls : List (Nat × Nat × Int)} {st : List (Nat × Int)} {k n : Nat} {h : AH} {a v : Int} {f : AH → Option (Int × AH)} (hS : SO S RX10 cc) (hi : S.2.1.2.2.2.2.2.2.2.2.1.name = "<init>") (d : decode cc pc = .ok (.putfield 39, 3)) (kk : ∀ h2 : AH, Sim S (pc + 3) ls st k n h2 (f h2)) : Sim S pc ls ((2, v) :: (2, a) :: st) k n h ((s_f h 11 a 20 v).bind f) := s_putF hS hi cx_10 20 (by decide) tw_1158 rfl rfl rfl (Or.inr (Or.inr (Or.inr ⟨_, rfl⟩))) rfl rfl d kk
theorem pf_X10_42 {S : SX} {cc : ByteArray} {pc : Nat} {ls : List (Nat × Nat × Int)} {st : List (Nat × Int)} {k n : Nat} {h : AH} {a v : Int} {f : AH → Option (Int × AH)} (hS : SO S RX10 cc) (d : decode cc pc = .ok (.putfield 42, 3)) (kk : ∀ h2 : AH, Sim S (pc + 3) ls st k n h2 (f h2)) : Sim S pc ls ((0, v) :: (2, a) :: st) k n h ((s_f h 11 a 21 v).bind f) := s_putf hS cx_10 21 (by decide) tw_1159 rfl rfl (Or.inl rfl) rfl rfl d kk
theorem pf_X10_46 {S : SX} {cc : ByteArray} {pc : Nat} {ls : List (Nat × Nat × Int)} {st : List (Nat × Int)} {k n : Nat} {h : AH} {a v : Int} {f : AH → Option (Int × AH)} (hS : SO S RX10 cc) (hi : S.2.1.2.2.2.2.2.2.2.2.1.name = "<init>") (d : decode cc pc = .ok (.putfield 46, 3)) (kk : ∀ h2 : AH, Sim S (pc + 3) ls st k n h2 (f h2)) : Sim S pc ls ((2, v) :: (2, a) :: st) k n h ((s_f h 11 a 23 v).bind f) := s_putF hS hi cx_10 23 (by decide) tw_1161 rfl rfl rfl (Or.inr (Or.inr (Or.inr ⟨_, rfl⟩))) rfl rfl d kk
theorem pf_X10_49 {S : SX} {cc : ByteArray} {pc : Nat} {ls : List (Nat × Nat × Int)} {st : List (Nat × Int)} {k n : Nat} {h : AH} {a v : Int} {f : AH → Option (Int × AH)} (hS : SO S RX10 cc) (hi : S.2.1.2.2.2.2.2.2.2.2.1.name = "<init>") (d : decode cc pc = .ok (.putfield 49, 3)) (kk : ∀ h2 : AH, Sim S (pc + 3) ls st k n h2 (f h2)) : Sim S pc ls ((2, v) :: (2, a) :: st) k n h ((s_f h 11 a 25 v).bind f) := s_putF hS hi cx_10 25 (by decide) tw_1163 rfl rfl rfl (Or.inr (Or.inr (Or.inr ⟨_, rfl⟩))) rfl rfl d kk
theorem pf_X10_52 {S : SX} {cc : ByteArray} {pc : Nat} {ls : List (Nat × Nat × Int)} {st : List (Nat × Int)} {k n : Nat} {h : AH} {a v : Int} {f : AH → Option (Int × AH)} (hS : SO S RX10 cc) (hi : S.2.1.2.2.2.2.2.2.2.2.1.name = "<init>") (d : decode cc pc = .ok (.putfield 52, 3)) (kk : ∀ h2 : AH, Sim S (pc + 3) ls st k n h2 (f h2)) : Sim S pc ls ((2, v) :: (2, a) :: st) k n h ((s_f h 11 a 26 v).bind f) := s_putF hS hi cx_10 26 (by decide) tw_1164 rfl rfl rfl (Or.inr (Or.inr (Or.inr ⟨_, rfl⟩))) rfl rfl d kk
theorem pf_X10_55 {S : SX} {cc : ByteArray} {pc : Nat} {ls : List (Nat × Nat × Int)} {st : List (Nat × Int)} {k n : Nat} {h : AH} {a v : Int} {f : AH → Option (Int × AH)} (hS : SO S RX10 cc) (hi : S.2.1.2.2.2.2.2.2.2.2.1.name = "<init>") (d : decode cc pc = .ok (.putfield 55, 3)) (kk : ∀ h2 : AH, Sim S (pc + 3) ls st k n h2 (f h2)) : Sim S pc ls ((2, v) :: (2, a) :: st) k n h ((s_f h 11 a 27 v).bind f) := s_putF hS hi cx_10 27 (by decide) tw_1165 rfl rfl rfl (Or.inr (Or.inr (Or.inr ⟨_, rfl⟩))) rfl rfl d kk
theorem pf_X10_58 {S : SX} {cc : ByteArray} {pc : Nat} {ls : List (Nat × Nat × Int)} {st : List (Nat × Int)} {k n : Nat} {h : AH} {a v : Int} {f : AH → Option (Int × AH)} (hS : SO S RX10 cc) (hi : S.2.1.2.2.2.2.2.2.2.2.1.name = "<init>") (d : decode cc pc = .ok (.putfield 58, 3)) (kk : ∀ h2 : AH, Sim S (pc + 3) ls st k n h2 (f h2)) : Sim S pc ls ((2, v) :: (2, a) :: st) k n h ((s_f h 11 a 33 v).bind f) := s_putF hS hi cx_10 33 (by decide) tw_1171 rfl rfl rfl (Or.inr (Or.inr (Or.inr ⟨_, rfl⟩))) rfl rfl d kk
theorem pf_X10_61 {S : SX} {cc : ByteArray} {pc : Nat} {ls : List (Nat × Nat × Int)} {st : List (Nat × Int)} {k n : Nat} {h : AH} {a v : Int} {f : AH → Option (Int × AH)} (hS : SO S RX10 cc) (hi : S.2.1.2.2.2.2.2.2.2.2.1.name = "<init>") (d : decode cc pc = .ok (.putfield 61, 3)) (kk : ∀ h2 : AH, Sim S (pc + 3) ls st k n h2 (f h2)) : Sim S pc ls ((2, v) :: (2, a) :: st) k n h ((s_f h 11 a 34 v).bind f) := s_putF hS hi cx_10 34 (by decide) tw_1172 rfl rfl rfl (Or.inr (Or.inr (Or.inr ⟨_, rfl⟩))) rfl rfl d kk
theorem pf_X10_64 {S : SX} {cc : ByteArray} {pc : Nat} {ls : List (Nat × Nat × Int)} {st : List (Nat × Int)} {k n : Nat} {h : AH} {a v : Int} {f : AH → Option (Int × AH)} (hS : SO S RX10 cc) (hi : S.2.1.2.2.2.2.2.2.2.2.1.name = "<init>") (d : decode cc pc = .ok (.putfield 64, 3)) (kk : ∀ h2 : AH, Sim S (pc + 3) ls st k n h2 (f h2)) : Sim S pc ls ((2, v) :: (2, a) :: st) k n h ((s_f h 11 a 35 v).bind f) := s_putF hS hi cx_10 35 (by decide) tw_1173 rfl rfl rfl (Or.inr (Or.inr (Or.inr ⟨_, rfl⟩))) rfl rfl d kk
theorem pf_X10_68 {S : SX} {cc : ByteArray} {pc : Nat} {ls : List (Nat × Nat × Int)} {st : List (Nat × Int)} {k n : Nat} {h : AH} {a v : Int} {f : AH → Option (Int × AH)} (hS : SO S RX10 cc) (hi : S.2.1.2.2.2.2.2.2.2.2.1.name = "<init>") (d : decode cc pc = .ok (.putfield 68, 3)) (kk : ∀ h2 : AH, Sim S (pc + 3) ls st k n h2 (f h2)) : Sim S pc ls ((2, v) :: (2, a) :: st) k n h ((s_f h 11 a 36 v).bind f) := s_putF hS hi cx_10 36 (by decide) tw_1174 rfl rfl rfl (Or.inr (Or.inr (Or.inr ⟨_, rfl⟩))) rfl rfl d kk
theorem pf_X10_71 {S : SX} {cc : ByteArray} {pc : Nat} {ls : List (Nat × Nat × Int)} {st : List (Nat × Int)} {k n : Nat} {h : AH} {a v : Int} {f : AH → Option (Int × AH)} (hS : SO S RX10 cc) (hi : S.2.1.2.2.2.2.2.2.2.2.1.name = "<init>") (d : decode cc pc = .ok (.putfield 71, 3)) (kk : ∀ h2 : AH, Sim S (pc + 3) ls st k n h2 (f h2)) : Sim S pc ls ((2, v) :: (2, a) :: st) k n h ((s_f h 11 a 38 v).bind f) := s_putF hS hi cx_10 38 (by decide) tw_1176 rfl rfl rfl (Or.inr (Or.inr (Or.inr ⟨_, rfl⟩))) rfl rfl d kk
theorem pf_X10_74 {S : SX} {cc : ByteArray} {pc : Nat} {ls : List (Nat × Nat × Int)} {st : List (Nat × Int)} {k n : Nat} {h : AH} {a v : Int} {f : AH → Option (Int × AH)} (hS : SO S RX10 cc) (hi : S.2.1.2.2.2.2.2.2.2.2.1.name = "<init>") (d : decode cc pc = .ok (.putfield 74, 3)) (kk : ∀ h2 : AH, Sim S (pc + 3) ls st k n h2 (f h2)) : Sim S pc ls ((2, v) :: (2, a) :: st) k n h ((s_f h 11 a 39 v).bind f) := s_putF hS hi cx_10 39 (by decide) tw_1177 rfl rfl rfl (Or.inr (Or.inr (Or.inr ⟨_, rfl⟩))) rfl rfl d kk
theorem pf_X10_77 {S : SX} {cc : ByteArray} {pc : Nat} {ls : List (Nat × Nat × Int)} {st : List (Nat × Int)} {k n : Nat} {h : AH} {a v : Int} {f : AH → Option (Int × AH)} (hS : SO S RX10 cc) (hi : S.2.1.2.2.2.2.2.2.2.2.1.name = "<init>") (d : decode cc pc = .ok (.putfield 77, 3)) (kk : ∀ h2 : AH, Sim S (pc + 3) ls st k n h2 (f h2)) : Sim S pc ls ((2, v) :: (2, a) :: st) k n h ((s_f h 11 a 40 v).bind f) := s_putF hS hi cx_10 40 (by decide) tw_1178 rfl rfl rfl (Or.inr (Or.inr (Or.inr ⟨_, rfl⟩))) rfl rfl d kk
theorem pf_X10_80 {S : SX} {cc : ByteArray} {pc : Nat} {ls : List (Nat × Nat × Int)} {st : List (Nat × Int)} {k n : Nat} {h : AH} {a v : Int} {f : AH → Option (Int × AH)} (hS : SO S RX10 cc) (hi : S.2.1.2.2.2.2.2.2.2.2.1.name = "<init>") (d : decode cc pc = .ok (.putfield 80, 3)) (kk : ∀ h2 : AH, Sim S (pc + 3) ls st k n h2 (f h2)) : Sim S pc ls ((2, v) :: (2, a) :: st) k n h ((s_f h 11 a 41 v).bind f) := s_putF hS hi cx_10 41 (by decide) tw_1179 rfl rfl rfl (Or.inr (Or.inr (Or.inr ⟨_, rfl⟩))) rfl rfl d kk
abbrev S_M_init (G : GE) (X : SMw) : SX := (G, X, 1, 22, 30916, none, 1, 20)
set_option maxRecDepth 100000 in
set_option maxHeartbeats 4000000 in
theorem b_M_init {G : GE} {X : SMw} (hS : SO (S_M_init G X) RX10 cX10_init) (hi : X.2.2.2.2.2.2.2.2.1.name = "<init>") (z0 : Int) (h : AH) : Sim (S_M_init G X) 0 [(0, 2, z0)] [] 0 0 h (f_M_init z0 h) := by
  unfold f_M_init
  refine s_aload_n hS dX10_init_0 rfl 0 rfl ?_
  refine s_obj hS (by decide) tw_1137 tw_145 tw_146 ⟨Nat.le_of_ble_eq_true rfl, Nat.le_of_ble_eq_true rfl⟩ (Nat.le_of_ble_eq_true rfl) dX10_init_1 ?_
  refine s_aload_n hS dX10_init_4 rfl 0 rfl ?_
  refine s_sipush hS dX10_init_5 (by decide +kernel) ?_
  refine s_newab hS (at_ := .byte) (M := 400) rfl (by decide) (by decide) rfl (by decide) tw_636 (Nat.le_of_ble_eq_true rfl) (Nat.le_of_ble_eq_true rfl) dX10_init_8 fun x2 h1 => ?_
  refine pf_X10_7 hS hi dX10_init_10 fun h3 => ?_
  refine s_aload_n hS dX10_init_13 rfl 0 rfl ?_
  refine s_sipush hS dX10_init_14 (by decide +kernel) ?_
  refine s_newab hS (at_ := .int) (M := 2400) rfl (by decide) (by decide) rfl (by decide) tw_176 (Nat.le_of_ble_eq_true rfl) (Nat.le_of_ble_eq_true rfl) dX10_init_17 fun x5 h4 => ?_
  refine pf_X10_13 hS hi dX10_init_19 fun h6 => ?_
  refine s_aload_n hS dX10_init_22 rfl 0 rfl ?_
  refine s_bipush hS dX10_init_23 (by decide +kernel) ?_
  refine s_newab hS (at_ := .int) (M := 7) rfl (by decide) (by decide) rfl (by decide) tw_176 (Nat.le_of_ble_eq_true rfl) (Nat.le_of_ble_eq_true rfl) dX10_init_25 fun x8 h7 => ?_
  refine pf_X10_17 hS hi dX10_init_27 fun h9 => ?_
  refine s_aload_n hS dX10_init_30 rfl 0 rfl ?_
  refine s_sipush hS dX10_init_31 (by decide +kernel) ?_
  refine s_newab hS (at_ := .int) (M := 288) rfl (by decide) (by decide) rfl (by decide) tw_176 (Nat.le_of_ble_eq_true rfl) (Nat.le_of_ble_eq_true rfl) dX10_init_34 fun x11 h10 => ?_
  refine pf_X10_20 hS hi dX10_init_36 fun h12 => ?_
  refine s_aload_n hS dX10_init_39 rfl 0 rfl ?_
  refine s_bipush hS dX10_init_40 (by decide +kernel) ?_
  refine s_newab hS (at_ := .int) (M := 6) rfl (by decide) (by decide) rfl (by decide) tw_176 (Nat.le_of_ble_eq_true rfl) (Nat.le_of_ble_eq_true rfl) dX10_init_42 fun x14 h13 => ?_
  refine pf_X10_23 hS hi dX10_init_44 fun h15 => ?_
  refine s_aload_n hS dX10_init_47 rfl 0 rfl ?_
  refine s_sipush hS dX10_init_48 (by decide +kernel) ?_
  refine s_newab hS (at_ := .int) (M := 133) rfl (by decide) (by decide) rfl (by decide) tw_176 (Nat.le_of_ble_eq_true rfl) (Nat.le_of_ble_eq_true rfl) dX10_init_51 fun x17 h16 => ?_
  refine pf_X10_26 hS hi dX10_init_53 fun h18 => ?_
  refine s_aload_n hS dX10_init_56 rfl 0 rfl ?_
  refine s_sipush hS dX10_init_57 (by decide +kernel) ?_
  refine s_newab hS (at_ := .int) (M := 400) rfl (by decide) (by decide) rfl (by decide) tw_176 (Nat.le_of_ble_eq_true rfl) (Nat.le_of_ble_eq_true rfl) dX10_init_60 fun x20 h19 => ?_
  refine pf_X10_29 hS hi dX10_init_62 fun h21 => ?_
  refine s_aload_n hS dX10_init_65 rfl 0 rfl ?_
  refine s_bipush hS dX10_init_66 (by decide +kernel) ?_
  refine s_newab hS (at_ := .long) (M := 64) rfl (by decide) (by decide) rfl (by decide) tw_205 (Nat.le_of_ble_eq_true rfl) (Nat.le_of_ble_eq_true rfl) dX10_init_68 fun x23 h22 => ?_
  refine pf_X10_32 hS hi dX10_init_70 fun h24 => ?_
  refine s_aload_n hS dX10_init_73 rfl 0 rfl ?_
  refine s_bipush hS dX10_init_74 (by decide +kernel) ?_
  refine s_newab hS (at_ := .long) (M := 10) rfl (by decide) (by decide) rfl (by decide) tw_205 (Nat.le_of_ble_eq_true rfl) (Nat.le_of_ble_eq_true rfl) dX10_init_76 fun x26 h25 => ?_
  refine pf_X10_36 hS hi dX10_init_78 fun h27 => ?_
  refine s_aload_n hS dX10_init_81 rfl 0 rfl ?_
  refine s_sipush hS dX10_init_82 (by decide +kernel) ?_
  refine s_newab hS (at_ := .int) (M := 1171) rfl (by decide) (by decide) rfl (by decide) tw_176 (Nat.le_of_ble_eq_true rfl) (Nat.le_of_ble_eq_true rfl) dX10_init_85 fun x29 h28 => ?_
  refine pf_X10_39 hS hi dX10_init_87 fun h30 => ?_
  refine s_aload_n hS dX10_init_90 rfl 0 rfl ?_
  refine s_iconst hS dX10_init_91 ?_
  refine pf_X10_42 hS dX10_init_92 fun h31 => ?_
  refine s_aload_n hS dX10_init_95 rfl 0 rfl ?_
  refine s_sipush hS dX10_init_96 (by decide +kernel) ?_
  refine s_newab hS (at_ := .int) (M := 20240) rfl (by decide) (by decide) rfl (by decide) tw_176 (Nat.le_of_ble_eq_true rfl) (Nat.le_of_ble_eq_true rfl) dX10_init_99 fun x33 h32 => ?_
  refine pf_X10_46 hS hi dX10_init_101 fun h34 => ?_
  refine s_aload_n hS dX10_init_104 rfl 0 rfl ?_
  refine s_iconst hS dX10_init_105 ?_
  refine s_newab hS (at_ := .int) (M := 5) rfl (by decide) (by decide) rfl (by decide) tw_176 (Nat.le_of_ble_eq_true rfl) (Nat.le_of_ble_eq_true rfl) dX10_init_106 fun x36 h35 => ?_
  refine pf_X10_49 hS hi dX10_init_108 fun h37 => ?_
  refine s_aload_n hS dX10_init_111 rfl 0 rfl ?_
  refine s_iconst hS dX10_init_112 ?_
  refine s_newab hS (at_ := .int) (M := 5) rfl (by decide) (by decide) rfl (by decide) tw_176 (Nat.le_of_ble_eq_true rfl) (Nat.le_of_ble_eq_true rfl) dX10_init_113 fun x39 h38 => ?_
  refine pf_X10_52 hS hi dX10_init_115 fun h40 => ?_
  refine s_aload_n hS dX10_init_118 rfl 0 rfl ?_
  refine s_iconst hS dX10_init_119 ?_
  refine s_newab hS (at_ := .int) (M := 5) rfl (by decide) (by decide) rfl (by decide) tw_176 (Nat.le_of_ble_eq_true rfl) (Nat.le_of_ble_eq_true rfl) dX10_init_120 fun x42 h41 => ?_
  refine pf_X10_55 hS hi dX10_init_122 fun h43 => ?_
  refine s_aload_n hS dX10_init_125 rfl 0 rfl ?_
  refine s_sipush hS dX10_init_126 (by decide +kernel) ?_
  refine s_newab hS (at_ := .int) (M := 1012) rfl (by decide) (by decide) rfl (by decide) tw_176 (Nat.le_of_ble_eq_true rfl) (Nat.le_of_ble_eq_true rfl) dX10_init_129 fun x45 h44 => ?_
  refine pf_X10_58 hS hi dX10_init_131 fun h46 => ?_
  refine s_aload_n hS dX10_init_134 rfl 0 rfl ?_
  refine s_bipush hS dX10_init_135 (by decide +kernel) ?_
  refine s_newab hS (at_ := .int) (M := 32) rfl (by decide) (by decide) rfl (by decide) tw_176 (Nat.le_of_ble_eq_true rfl) (Nat.le_of_ble_eq_true rfl) dX10_init_137 fun x48 h47 => ?_
  refine pf_X10_61 hS hi dX10_init_139 fun h49 => ?_
  refine s_aload_n hS dX10_init_142 rfl 0 rfl ?_
  refine s_bipush hS dX10_init_143 (by decide +kernel) ?_
  refine s_newab hS (at_ := .boolean) (M := 7) rfl (by decide) (by decide) rfl (by decide) tw_1265 (Nat.le_of_ble_eq_true rfl) (Nat.le_of_ble_eq_true rfl) dX10_init_145 fun x51 h50 => ?_
  refine pf_X10_64 hS hi dX10_init_147 fun h52 => ?_
  refine s_aload_n hS dX10_init_150 rfl 0 rfl ?_
  refine s_bipush hS dX10_init_151 (by decide +kernel) ?_
  refine s_newab hS (at_ := .int) (M := 35) rfl (by decide) (by decide) rfl (by decide) tw_176 (Nat.le_of_ble_eq_true rfl) (Nat.le_of_ble_eq_true rfl) dX10_init_153 fun x54 h53 => ?_
  refine pf_X10_68 hS hi dX10_init_155 fun h55 => ?_
  refine s_aload_n hS dX10_init_158 rfl 0 rfl ?_
  refine s_sipush hS dX10_init_159 (by decide +kernel) ?_
  refine s_newab hS (at_ := .int) (M := 4684) rfl (by decide) (by decide) rfl (by decide) tw_176 (Nat.le_of_ble_eq_true rfl) (Nat.le_of_ble_eq_true rfl) dX10_init_162 fun x57 h56 => ?_
  refine pf_X10_71 hS hi dX10_init_164 fun h58 => ?_
  refine s_aload_n hS dX10_init_167 rfl 0 rfl ?_
  refine s_iconst hS dX10_init_168 ?_
  refine s_newab hS (at_ := .int) (M := 4) rfl (by decide) (by decide) rfl (by decide) tw_176 (Nat.le_of_ble_eq_true rfl) (Nat.le_of_ble_eq_true rfl) dX10_init_169 fun x60 h59 => ?_
  refine pf_X10_74 hS hi dX10_init_171 fun h61 => ?_
  refine s_aload_n hS dX10_init_174 rfl 0 rfl ?_
  refine s_iconst hS dX10_init_175 ?_
  refine s_newab hS (at_ := .int) (M := 4) rfl (by decide) (by decide) rfl (by decide) tw_176 (Nat.le_of_ble_eq_true rfl) (Nat.le_of_ble_eq_true rfl) dX10_init_176 fun x63 h62 => ?_
  refine pf_X10_77 hS hi dX10_init_178 fun h64 => ?_
  refine s_aload_n hS dX10_init_181 rfl 0 rfl ?_
  refine s_iconst hS dX10_init_182 ?_
  refine s_newab hS (at_ := .boolean) (M := 4) rfl (by decide) (by decide) rfl (by decide) tw_1265 (Nat.le_of_ble_eq_true rfl) (Nat.le_of_ble_eq_true rfl) dX10_init_183 fun x66 h65 => ?_
  refine pf_X10_80 hS hi dX10_init_185 fun h67 => ?_
  exact s_vret hS rfl (Nat.le_of_ble_eq_true rfl) (Nat.le_of_ble_eq_true rfl) dX10_init_188
theorem c_M_init (l : Launch) (G : GE) (z0 : Int) (h : AH) : Con l yX10_init cX10_init 1 none 1 20 22 30916 G [(2, z0)] h (f_M_init z0 h) :=
  con_of (by decide +kernel) (Nat.le_of_ble_eq_true rfl) fun X hX hS hi => b_M_init hS hi z0 h
abbrev S_M_in (G : GE) (X : SMw) : SX := (G, X, 6, 0, 0, (some .boolean), 0, 0)
set_option maxRecDepth 100000 in
set_option maxHeartbeats 4000000 in
theorem b_M_in {G : GE} {X : SMw} (hS : SO (S_M_in G X) RX10 cX10_in) (z0 z2 z4 : Int) (h : AH) : Sim (S_M_in G X) 0 [(0, 1, z0), (2, 1, z2), (4, 1, z4)] [] 0 0 h (f_M_in z0 z2 z4 h) := by
  unfold f_M_in
  refine s_lload_n hS dX10_in_0 rfl 0 rfl ?_
  refine s_lload_n hS dX10_in_1 rfl 1 rfl ?_
  refine s_lcmp hS dX10_in_2 ?_
  refine s_if_lt hS dX10_in_3 rfl ?_ ?_
  · refine s_iconst hS dX10_in_17 ?_
    exact s_zret hS rfl (Nat.le_of_ble_eq_true rfl) (Nat.le_of_ble_eq_true rfl) dX10_in_18
  · refine s_lload_n hS dX10_in_6 rfl 0 rfl ?_
    refine s_lload hS dX10_in_7 2 rfl ?_
    refine s_lcmp hS dX10_in_9 ?_
    refine s_if_gt hS dX10_in_10 rfl ?_ ?_
    · refine s_iconst hS dX10_in_17 ?_
      exact s_zret hS rfl (Nat.le_of_ble_eq_true rfl) (Nat.le_of_ble_eq_true rfl) dX10_in_18
    · refine s_iconst hS dX10_in_13 ?_
      refine s_goto hS dX10_in_14 rfl ?_
      exact s_zret hS rfl (Nat.le_of_ble_eq_true rfl) (Nat.le_of_ble_eq_true rfl) dX10_in_18
theorem c_M_in (l : Launch) (G : GE) (z0 z2 z4 : Int) (h : AH) : Con l yX10_in cX10_in 6 (some .boolean) 0 0 0 0 G [(1, z0), (1, z2), (1, z4)] h (f_M_in z0 z2 z4 h) :=
  con_of (by decide +kernel) (Nat.le_of_ble_eq_true rfl) fun X hX hS hi => b_M_in hS z0 z2 z4 h
abbrev S_M_isOf (G : GE) (X : SMw) : SX := (G, X, 2, 0, 0, (some .boolean), 0, 0)
set_option maxRecDepth 100000 in
set_option maxHeartbeats 4000000 in
theorem b_M_isOf {G : GE} {X : SMw} (hS : SO (S_M_isOf G X) RX10 cX10_isOf) (z0 z1 : Int) (h : AH) : Sim (S_M_isOf G X) 0 [(0, 0, z0), (1, 0, z1)] [] 0 0 h (f_M_isOf z0 z1 h) := by
  unfold f_M_isOf
  refine s_iload_n hS dX10_isOf_0 rfl 0 rfl ?_
  refine s_iload_n hS dX10_isOf_1 rfl 1 rfl ?_
  refine s_ishr hS dX10_isOf_2 ?_
  refine s_iconst hS dX10_isOf_3 ?_
  refine s_iand hS dX10_isOf_4 ?_
  refine s_iconst hS dX10_isOf_5 ?_
  refine s_icmp_ne hS dX10_isOf_6 rfl ?_ ?_
  · refine s_iconst hS dX10_isOf_13 ?_
    exact s_zret hS rfl (Nat.le_of_ble_eq_true rfl) (Nat.le_of_ble_eq_true rfl) dX10_isOf_14
  · refine s_iconst hS dX10_isOf_9 ?_
    refine s_goto hS dX10_isOf_10 rfl ?_
    exact s_zret hS rfl (Nat.le_of_ble_eq_true rfl) (Nat.le_of_ble_eq_true rfl) dX10_isOf_14
theorem c_M_isOf (l : Launch) (G : GE) (z0 z1 : Int) (h : AH) : Con l yX10_isOf cX10_isOf 2 (some .boolean) 0 0 0 0 G [(0, z0), (0, z1)] h (f_M_isOf z0 z1 h) :=
  con_of (by decide +kernel) (Nat.le_of_ble_eq_true rfl) fun X hX hS hi => b_M_isOf hS z0 z1 h
theorem gf_X10_7 {S : SX} {cc : ByteArray} {pc : Nat} {ls : List (Nat × Nat × Int)} {st : List (Nat × Int)} {k n : Nat} {h : AH} {a : Int} {f : Int → Option (Int × AH)} (hS : SO S RX10 cc) (d : decode cc pc = .ok (.getfield 7, 3)) (kk : ∀ v : Int, Sim S (pc + 3) ls ((2, v) :: st) k n h (f v)) : Sim S pc ls ((2, a) :: st) k n h ((g_f h 11 a 0).bind f) := s_getf hS cx_10 0 (by decide) tw_1138 rfl rfl rfl d kk
theorem gf_X10_83 {S : SX} {cc : ByteArray} {pc : Nat} {ls : List (Nat × Nat × Int)} {st : List (Nat × Int)} {k n : Nat} {h : AH} {a : Int} {f : Int → Option (Int × AH)} (hS : SO S RX10 cc) (d : decode cc pc = .ok (.getfield 83, 3)) (kk : ∀ v : Int, Sim S (pc + 3) ls ((0, v) :: st) k n h (f v)) : Sim S pc ls ((2, a) :: st) k n h ((g_f h 11 a 1).bind f) := s_getf hS cx_10 1 (by decide) tw_1139 rfl rfl rfl d kk
theorem pf_X10_83 {S : SX} {cc : ByteArray} {pc : Nat} {ls : List (Nat × Nat × Int)} {st : List (Nat × Int)} {k n : Nat} {h : AH} {a v : Int} {f : AH → Option (Int × AH)} (hS : SO S RX10 cc) (d : decode cc pc = .ok (.putfield 83, 3)) (kk : ∀ h2 : AH, Sim S (pc + 3) ls st k n h2 (f h2)) : Sim S pc ls ((0, v) :: (2, a) :: st) k n h ((s_f h 11 a 1 v).bind f) := s_putf hS cx_10 1 (by decide) tw_1139 rfl rfl (Or.inl rfl) rfl rfl d kk
abbrev S_M_four (G : GE) (X : SMw) : SX := (G, X, 3, 0, 0, none, 0, 0)
set_option maxRecDepth 100000 in
set_option maxHeartbeats 4000000 in
theorem B_M_four_3 {G : GE} {X : SMw} (hS : SO (S_M_four G X) RX10 cX10_four) (z0 z1 : Int) {k3 : Int → AH → Option (Int × AH)} (hk3 : ∀ (z2 : Int) (h : AH), Sim (S_M_four G X) 3 [(0, 2, z0), (1, 0, z1), (2, 0, z2)] [] 0 0 h (k3 z2 h)) (z2 : Int) (h : AH) : Sim (S_M_four G X) 3 [(0, 2, z0), (1, 0, z1), (2, 0, z2)] [] 0 0 h (F_M_four_3 z0 z1 k3 z2 h) := by
  unfold F_M_four_3
  refine s_iload_n hS dX10_four_3 rfl 2 rfl ?_
  refine s_if_lt hS dX10_four_4 rfl ?_ ?_
  · exact s_vret hS rfl (Nat.le_of_ble_eq_true rfl) (Nat.le_of_ble_eq_true rfl) dX10_four_36
  · refine s_aload_n hS dX10_four_7 rfl 0 rfl ?_
    refine gf_X10_7 hS dX10_four_8 fun v1 => ?_
    refine s_aload_n hS dX10_four_11 rfl 0 rfl ?_
    refine gf_X10_83 hS dX10_four_12 fun v2 => ?_
    refine s_iload_n hS dX10_four_15 rfl 1 rfl ?_
    refine s_iload_n hS dX10_four_16 rfl 2 rfl ?_
    refine s_ishr hS dX10_four_17 ?_
    refine s_i2b hS dX10_four_18 ?_
    refine s_bast hS dX10_four_19 fun h3 => ?_
    refine s_aload_n hS dX10_four_20 rfl 0 rfl ?_
    refine s_dup hS dX10_four_21 (by decide) ?_
    refine gf_X10_83 hS dX10_four_22 fun v4 => ?_
    refine s_iconst hS dX10_four_25 ?_
    refine s_iadd hS dX10_four_26 ?_
    refine pf_X10_83 hS dX10_four_27 fun h5 => ?_
    refine s_iinc hS dX10_four_30 2 rfl (Nat.le_of_ble_eq_true rfl) (ls' := [(2, 0, (z2 + (-8))), (0, 2, z0), (1, 0, z1)]) rfl ?_
    refine s_goto hS dX10_four_33 rfl ?_
    refine s_ls [1, 2, 0] rfl ?_
    exact hk3 _ _
set_option maxRecDepth 100000 in
set_option maxHeartbeats 4000000 in
theorem b_M_four_3 {G : GE} {X : SMw} (hS : SO (S_M_four G X) RX10 cX10_four) (z0 z1 : Int) (z2 : Int) (h : AH) : Sim (S_M_four G X) 3 [(0, 2, z0), (1, 0, z1), (2, 0, z2)] [] 0 0 h (f_M_four_3 z0 z1 z2 h) := by
  exact s_loop (S := (S_M_four G X)) (lsf := fun s : Int × AH => [(0, 2, z0), (1, 0, z1), (2, 0, s.1)]) (hf := fun s => s.2) (fun kf hkf s => B_M_four_3 hS z0 z1 (fun a0 a1 => hkf (a0, a1)) s.1 s.2) fu_ (z2, h)
set_option maxRecDepth 100000 in
set_option maxHeartbeats 4000000 in
theorem b_M_four {G : GE} {X : SMw} (hS : SO (S_M_four G X) RX10 cX10_four) (z0 z1 : Int) (h : AH) : Sim (S_M_four G X) 0 [(0, 2, z0), (1, 0, z1)] [] 0 0 h (f_M_four z0 z1 h) := by
  unfold f_M_four
  refine s_bipush hS dX10_four_0 (by decide +kernel) ?_
  refine s_istore_n hS dX10_four_2 rfl (Nat.le_of_ble_eq_true rfl) (ls' := [(2, 0, 24), (0, 2, z0), (1, 0, z1)]) rfl ?_
  refine s_ls [1, 2, 0] rfl ?_
  exact b_M_four_3 hS _ _ _ _
theorem c_M_four (l : Launch) (G : GE) (z0 z1 : Int) (h : AH) : Con l yX10_four cX10_four 3 none 0 0 0 0 G [(2, z0), (0, z1)] h (f_M_four z0 z1 h) :=
  con_of (by decide +kernel) (Nat.le_of_ble_eq_true rfl) fun X hX hS hi => b_M_four hS z0 z1 h
theorem ca_X10_86 {S : SX} {cc : ByteArray} {pc : Nat} {ls : List (Nat × Nat × Int)} {st : List (Nat × Int)} {k n : Nat} {h : AH} {q0 b : Int} {f : Int → AH → Option (Int × AH)} (hS : SO S RX10 cc) (hR : 0 + 1 ≤ S.2.2.2.2.2.2.1 ∧ 8 + (3 + 11) + 0 ≤ S.2.2.2.2.2.2.2) (hk : k + 0 ≤ S.2.2.2.1 ∧ n + 0 ≤ S.2.2.2.2.1) (hl : st.length ≤ 4) (d : decode cc pc = .ok (.invokevirtual 86, 3)) (kk : ∀ (r : Int) (h2 : AH), Sim S (pc + 3) ls (st) (k + 0) (n + 0) h2 (f r h2)) : Sim S pc ls ((0, q0) :: (2, b) :: st) k n h (c_k h 11 b (bd_ (f_M_four b q0 h) f)) := s_callV hS mo_X10_four rfl rfl (c_M_four _ _ _ _ h) tw_1270 tw_1272 tw_29 hR hk rfl rfl hl d kk
abbrev S_M_feed (G : GE) (X : SMw) : SX := (G, X, 6, 0, 0, (some .int), 1, 22)
set_option maxRecDepth 100000 in
set_option maxHeartbeats 4000000 in
theorem b_M_feed {G : GE} {X : SMw} (hS : SO (S_M_feed G X) RX10 cX10_feed) (z0 z1 z2 z3 z4 z5 : Int) (h : AH) : Sim (S_M_feed G X) 0 [(0, 2, z0), (1, 0, z1), (2, 0, z2), (3, 0, z3), (4, 0, z4), (5, 0, z5)] [] 0 0 h (f_M_feed z0 z1 z2 z3 z4 z5 h) := by
  unfold f_M_feed
  refine s_aload_n hS dX10_feed_0 rfl 0 rfl ?_
  refine gf_X10_83 hS dX10_feed_1 fun v1 => ?_
  refine s_bipush hS dX10_feed_4 (by decide +kernel) ?_
  refine s_iadd hS dX10_feed_6 ?_
  refine s_sipush hS dX10_feed_7 (by decide +kernel) ?_
  refine s_icmp_le hS dX10_feed_10 rfl ?_ ?_
  · refine s_aload_n hS dX10_feed_15 rfl 0 rfl ?_
    refine s_iload_n hS dX10_feed_16 rfl 1 rfl ?_
    refine ca_X10_86 hS ⟨Nat.le_of_ble_eq_true rfl, Nat.le_of_ble_eq_true rfl⟩ ⟨Nat.le_of_ble_eq_true rfl, Nat.le_of_ble_eq_true rfl⟩ (Nat.le_of_ble_eq_true rfl) dX10_feed_17 fun v2 h3 => ?_
    refine s_aload_n hS dX10_feed_20 rfl 0 rfl ?_
    refine s_iload_n hS dX10_feed_21 rfl 2 rfl ?_
    refine ca_X10_86 hS ⟨Nat.le_of_ble_eq_true rfl, Nat.le_of_ble_eq_true rfl⟩ ⟨Nat.le_of_ble_eq_true rfl, Nat.le_of_ble_eq_true rfl⟩ (Nat.le_of_ble_eq_true rfl) dX10_feed_22 fun v4 h5 => ?_
    refine s_aload_n hS dX10_feed_25 rfl 0 rfl ?_
    refine s_iload_n hS dX10_feed_26 rfl 3 rfl ?_
    refine ca_X10_86 hS ⟨Nat.le_of_ble_eq_true rfl, Nat.le_of_ble_eq_true rfl⟩ ⟨Nat.le_of_ble_eq_true rfl, Nat.le_of_ble_eq_true rfl⟩ (Nat.le_of_ble_eq_true rfl) dX10_feed_27 fun v6 h7 => ?_
    refine s_aload_n hS dX10_feed_30 rfl 0 rfl ?_
    refine s_iload hS dX10_feed_31 4 rfl ?_
    refine ca_X10_86 hS ⟨Nat.le_of_ble_eq_true rfl, Nat.le_of_ble_eq_true rfl⟩ ⟨Nat.le_of_ble_eq_true rfl, Nat.le_of_ble_eq_true rfl⟩ (Nat.le_of_ble_eq_true rfl) dX10_feed_33 fun v8 h9 => ?_
    refine s_aload_n hS dX10_feed_36 rfl 0 rfl ?_
    refine s_iload hS dX10_feed_37 5 rfl ?_
    refine ca_X10_86 hS ⟨Nat.le_of_ble_eq_true rfl, Nat.le_of_ble_eq_true rfl⟩ ⟨Nat.le_of_ble_eq_true rfl, Nat.le_of_ble_eq_true rfl⟩ (Nat.le_of_ble_eq_true rfl) dX10_feed_39 fun v10 h11 => ?_
    refine s_aload_n hS dX10_feed_42 rfl 0 rfl ?_
    refine gf_X10_83 hS dX10_feed_43 fun v12 => ?_
    exact s_iret hS rfl (Nat.le_of_ble_eq_true rfl) (Nat.le_of_ble_eq_true rfl) dX10_feed_46
  · refine s_iconst hS dX10_feed_13 ?_
    exact s_iret hS rfl (Nat.le_of_ble_eq_true rfl) (Nat.le_of_ble_eq_true rfl) dX10_feed_14
theorem c_M_feed (l : Launch) (G : GE) (z0 z1 z2 z3 z4 z5 : Int) (h : AH) : Con l yX10_feed cX10_feed 6 (some .int) 1 22 0 0 G [(2, z0), (0, z1), (0, z2), (0, z3), (0, z4), (0, z5)] h (f_M_feed z0 z1 z2 z3 z4 z5 h) :=
  con_of (by decide +kernel) (Nat.le_of_ble_eq_true rfl) fun X hX hS hi => b_M_feed hS z0 z1 z2 z3 z4 z5 h
abbrev S_M_end (G : GE) (X : SMw) : SX := (G, X, 2, 0, 0, (some .int), 0, 0)
set_option maxRecDepth 100000 in
set_option maxHeartbeats 4000000 in
theorem b_M_end {G : GE} {X : SMw} (hS : SO (S_M_end G X) RX10 cX10_end) (z0 z1 : Int) (h : AH) : Sim (S_M_end G X) 0 [(0, 2, z0), (1, 0, z1)] [] 0 0 h (f_M_end z0 z1 h) := by
  unfold f_M_end
  refine s_iload_n hS dX10_end_0 rfl 1 rfl ?_
  refine s_if_lt hS dX10_end_1 rfl ?_ ?_
  · refine s_iconst hS dX10_end_12 ?_
    exact s_iret hS rfl (Nat.le_of_ble_eq_true rfl) (Nat.le_of_ble_eq_true rfl) dX10_end_13
  · refine s_iload_n hS dX10_end_4 rfl 1 rfl ?_
    refine s_aload_n hS dX10_end_5 rfl 0 rfl ?_
    refine gf_X10_83 hS dX10_end_6 fun v1 => ?_
    refine s_icmp_le hS dX10_end_9 rfl ?_ ?_
    · refine s_aload_n hS dX10_end_14 rfl 0 rfl ?_
      refine s_iload_n hS dX10_end_15 rfl 1 rfl ?_
      refine pf_X10_83 hS dX10_end_16 fun h2 => ?_
      refine s_iload_n hS dX10_end_19 rfl 1 rfl ?_
      exact s_iret hS rfl (Nat.le_of_ble_eq_true rfl) (Nat.le_of_ble_eq_true rfl) dX10_end_20
    · refine s_iconst hS dX10_end_12 ?_
      exact s_iret hS rfl (Nat.le_of_ble_eq_true rfl) (Nat.le_of_ble_eq_true rfl) dX10_end_13
theorem c_M_end (l : Launch) (G : GE) (z0 z1 : Int) (h : AH) : Con l yX10_end cX10_end 2 (some .int) 0 0 0 0 G [(2, z0), (0, z1)] h (f_M_end z0 z1 h) :=
  con_of (by decide +kernel) (Nat.le_of_ble_eq_true rfl) fun X hX hS hi => b_M_end hS z0 z1 h
theorem gf_X10_90 {S : SX} {cc : ByteArray} {pc : Nat} {ls : List (Nat × Nat × Int)} {st : List (Nat × Int)} {k n : Nat} {h : AH} {a : Int} {f : Int → Option (Int × AH)} (hS : SO S RX10 cc) (d : decode cc pc = .ok (.getfield 90, 3)) (kk : ∀ v : Int, Sim S (pc + 3) ls ((0, v) :: st) k n h (f v)) : Sim S pc ls ((2, a) :: st) k n h ((g_f h 11 a 9).bind f) := s_getf hS cx_10 9 (by decide) tw_1147 rfl rfl rfl d kk
theorem pf_X10_90 {S : SX} {cc : ByteArray} {pc : Nat} {ls : List (Nat × Nat × Int)} {st : List (Nat × Int)} {k n : Nat} {h : AH} {a v : Int} {f : AH → Option (Int × AH)} (hS : SO S RX10 cc) (d : decode cc pc = .ok (.putfield 90, 3)) (kk : ∀ h2 : AH, Sim S (pc + 3) ls st k n h2 (f h2)) : Sim S pc ls ((0, v) :: (2, a) :: st) k n h ((s_f h 11 a 9 v).bind f) := s_putf hS cx_10 9 (by decide) tw_1147 rfl rfl (Or.inl rfl) rfl rfl d kk
abbrev S_M_fails (G : GE) (X : SMw) : SX := (G, X, 3, 0, 0, (some .boolean), 0, 0)
set_option maxRecDepth 100000 in
set_option maxHeartbeats 4000000 in
theorem b_M_fails {G : GE} {X : SMw} (hS : SO (S_M_fails G X) RX10 cX10_fails) (z0 z1 z2 : Int) (h : AH) : Sim (S_M_fails G X) 0 [(0, 2, z0), (1, 0, z1), (2, 0, z2)] [] 0 0 h (f_M_fails z0 z1 z2 h) := by
  unfold f_M_fails
  refine s_aload_n hS dX10_fails_0 rfl 0 rfl ?_
  refine gf_X10_90 hS dX10_fails_1 fun v1 => ?_
  refine s_if_ne hS dX10_fails_4 rfl ?_ ?_
  · refine s_iconst hS dX10_fails_19 ?_
    exact s_zret hS rfl (Nat.le_of_ble_eq_true rfl) (Nat.le_of_ble_eq_true rfl) dX10_fails_20
  · refine s_aload_n hS dX10_fails_7 rfl 0 rfl ?_
    refine s_iconst hS dX10_fails_8 ?_
    refine s_bipush hS dX10_fails_9 (by decide +kernel) ?_
    refine s_iload_n hS dX10_fails_11 rfl 2 rfl ?_
    refine s_imul hS dX10_fails_12 ?_
    refine s_iadd hS dX10_fails_13 ?_
    refine s_iload_n hS dX10_fails_14 rfl 1 rfl ?_
    refine s_iadd hS dX10_fails_15 ?_
    refine pf_X10_90 hS dX10_fails_16 fun h2 => ?_
    refine s_iconst hS dX10_fails_19 ?_
    exact s_zret hS rfl (Nat.le_of_ble_eq_true rfl) (Nat.le_of_ble_eq_true rfl) dX10_fails_20
theorem c_M_fails (l : Launch) (G : GE) (z0 z1 z2 : Int) (h : AH) : Con l yX10_fails cX10_fails 3 (some .boolean) 0 0 0 0 G [(2, z0), (0, z1), (0, z2)] h (f_M_fails z0 z1 z2 h) :=
  con_of (by decide +kernel) (Nat.le_of_ble_eq_true rfl) fun X hX hS hi => b_M_fails hS z0 z1 z2 h
theorem gf_X10_93 {S : SX} {cc : ByteArray} {pc : Nat} {ls : List (Nat × Nat × Int)} {st : List (Nat × Int)} {k n : Nat} {h : AH} {a : Int} {f : Int → Option (Int × AH)} (hS : SO S RX10 cc) (d : decode cc pc = .ok (.getfield 93, 3)) (kk : ∀ v : Int, Sim S (pc + 3) ls ((0, v) :: st) k n h (f v)) : Sim S pc ls ((2, a) :: st) k n h ((g_f h 11 a 8).bind f) := s_getf hS cx_10 8 (by decide) tw_1146 rfl rfl rfl d kk
theorem pf_X10_93 {S : SX} {cc : ByteArray} {pc : Nat} {ls : List (Nat × Nat × Int)} {st : List (Nat × Int)} {k n : Nat} {h : AH} {a v : Int} {f : AH → Option (Int × AH)} (hS : SO S RX10 cc) (d : decode cc pc = .ok (.putfield 93, 3)) (kk : ∀ h2 : AH, Sim S (pc + 3) ls st k n h2 (f h2)) : Sim S pc ls ((0, v) :: (2, a) :: st) k n h ((s_f h 11 a 8 v).bind f) := s_putf hS cx_10 8 (by decide) tw_1146 rfl rfl (Or.inl rfl) rfl rfl d kk
abbrev S_M_see (G : GE) (X : SMw) : SX := (G, X, 1, 0, 0, (some .int), 0, 0)
set_option maxRecDepth 100000 in
set_option maxHeartbeats 4000000 in
theorem b_M_see_38 {G : GE} {X : SMw} (hS : SO (S_M_see G X) RX10 cX10_see) (z0 : Int) (h : AH) : Sim (S_M_see G X) 38 [(0, 2, z0)] [] 0 0 h (f_M_see_38 z0 h) := by
  unfold f_M_see_38
  refine s_aload_n hS dX10_see_38 rfl 0 rfl ?_
  refine gf_X10_93 hS dX10_see_39 fun v1 => ?_
  refine s_aload_n hS dX10_see_42 rfl 0 rfl ?_
  refine gf_X10_83 hS dX10_see_43 fun v2 => ?_
  refine s_icmp_ge hS dX10_see_46 rfl ?_ ?_
  · refine s_iconst hS dX10_see_65 ?_
    exact s_iret hS rfl (Nat.le_of_ble_eq_true rfl) (Nat.le_of_ble_eq_true rfl) dX10_see_66
  · refine s_aload_n hS dX10_see_49 rfl 0 rfl ?_
    refine gf_X10_7 hS dX10_see_50 fun v3 => ?_
    refine s_aload_n hS dX10_see_53 rfl 0 rfl ?_
    refine gf_X10_93 hS dX10_see_54 fun v4 => ?_
    refine s_bald hS dX10_see_57 fun v5 => ?_
    refine s_sipush hS dX10_see_58 (by decide +kernel) ?_
    refine s_iand hS dX10_see_61 ?_
    refine s_goto hS dX10_see_62 rfl ?_
    exact s_iret hS rfl (Nat.le_of_ble_eq_true rfl) (Nat.le_of_ble_eq_true rfl) dX10_see_66
set_option maxRecDepth 100000 in
set_option maxHeartbeats 4000000 in
theorem B_M_see_0 {G : GE} {X : SMw} (hS : SO (S_M_see G X) RX10 cX10_see) (z0 : Int) {k0 : AH → Option (Int × AH)} (hk0 : ∀ (h : AH), Sim (S_M_see G X) 0 [(0, 2, z0)] [] 0 0 h (k0 h)) (h : AH) : Sim (S_M_see G X) 0 [(0, 2, z0)] [] 0 0 h (F_M_see_0 z0 k0 h) := by
  unfold F_M_see_0
  refine s_aload_n hS dX10_see_0 rfl 0 rfl ?_
  refine gf_X10_93 hS dX10_see_1 fun v1 => ?_
  refine s_aload_n hS dX10_see_4 rfl 0 rfl ?_
  refine gf_X10_83 hS dX10_see_5 fun v2 => ?_
  refine s_icmp_ge hS dX10_see_8 rfl ?_ ?_
  · exact b_M_see_38 hS _ _
  · refine s_aload_n hS dX10_see_11 rfl 0 rfl ?_
    refine gf_X10_7 hS dX10_see_12 fun v3 => ?_
    refine s_aload_n hS dX10_see_15 rfl 0 rfl ?_
    refine gf_X10_93 hS dX10_see_16 fun v4 => ?_
    refine s_bald hS dX10_see_19 fun v5 => ?_
    refine s_bipush hS dX10_see_20 (by decide +kernel) ?_
    refine s_icmp_ne hS dX10_see_22 rfl ?_ ?_
    · exact b_M_see_38 hS _ _
    · refine s_aload_n hS dX10_see_25 rfl 0 rfl ?_
      refine s_dup hS dX10_see_26 (by decide) ?_
      refine gf_X10_93 hS dX10_see_27 fun v6 => ?_
      refine s_iconst hS dX10_see_30 ?_
      refine s_iadd hS dX10_see_31 ?_
      refine pf_X10_93 hS dX10_see_32 fun h7 => ?_
      refine s_goto hS dX10_see_35 rfl ?_
      exact hk0 _
set_option maxRecDepth 100000 in
set_option maxHeartbeats 4000000 in
theorem b_M_see_0 {G : GE} {X : SMw} (hS : SO (S_M_see G X) RX10 cX10_see) (z0 : Int) (h : AH) : Sim (S_M_see G X) 0 [(0, 2, z0)] [] 0 0 h (f_M_see_0 z0 h) := by
  exact s_loop (S := (S_M_see G X)) (lsf := fun s : AH => [(0, 2, z0)]) (hf := fun s => s) (fun kf hkf s => B_M_see_0 hS z0 (fun a0 => hkf (a0))  s) fu_ (h)
set_option maxRecDepth 100000 in
set_option maxHeartbeats 4000000 in
theorem b_M_see {G : GE} {X : SMw} (hS : SO (S_M_see G X) RX10 cX10_see) (z0 : Int) (h : AH) : Sim (S_M_see G X) 0 [(0, 2, z0)] [] 0 0 h (f_M_see z0 h) := by
  unfold f_M_see
  refine s_ls [0] rfl ?_
  exact b_M_see_0 hS _ _
theorem c_M_see (l : Launch) (G : GE) (z0 : Int) (h : AH) : Con l yX10_see cX10_see 1 (some .int) 0 0 0 0 G [(2, z0)] h (f_M_see z0 h) :=
  con_of (by decide +kernel) (Nat.le_of_ble_eq_true rfl) fun X hX hS hi => b_M_see hS z0 h
abbrev S_M_isDigit (G : GE) (X : SMw) : SX := (G, X, 2, 0, 0, (some .boolean), 0, 0)
set_option maxRecDepth 100000 in
set_option maxHeartbeats 4000000 in
theorem b_M_isDigit {G : GE} {X : SMw} (hS : SO (S_M_isDigit G X) RX10 cX10_isDigit) (z0 z1 : Int) (h : AH) : Sim (S_M_isDigit G X) 0 [(0, 2, z0), (1, 0, z1)] [] 0 0 h (f_M_isDigit z0 z1 h) := by
  unfold f_M_isDigit
  refine s_iload_n hS dX10_isDigit_0 rfl 1 rfl ?_
  refine s_aload_n hS dX10_isDigit_1 rfl 0 rfl ?_
  refine gf_X10_83 hS dX10_isDigit_2 fun v1 => ?_
  refine s_icmp_ge hS dX10_isDigit_5 rfl ?_ ?_
  · refine s_iconst hS dX10_isDigit_34 ?_
    exact s_zret hS rfl (Nat.le_of_ble_eq_true rfl) (Nat.le_of_ble_eq_true rfl) dX10_isDigit_35
  · refine s_aload_n hS dX10_isDigit_8 rfl 0 rfl ?_
    refine gf_X10_7 hS dX10_isDigit_9 fun v2 => ?_
    refine s_iload_n hS dX10_isDigit_12 rfl 1 rfl ?_
    refine s_bald hS dX10_isDigit_13 fun v3 => ?_
    refine s_bipush hS dX10_isDigit_14 (by decide +kernel) ?_
    refine s_icmp_lt hS dX10_isDigit_16 rfl ?_ ?_
    · refine s_iconst hS dX10_isDigit_34 ?_
      exact s_zret hS rfl (Nat.le_of_ble_eq_true rfl) (Nat.le_of_ble_eq_true rfl) dX10_isDigit_35
    · refine s_aload_n hS dX10_isDigit_19 rfl 0 rfl ?_
      refine gf_X10_7 hS dX10_isDigit_20 fun v4 => ?_
      refine s_iload_n hS dX10_isDigit_23 rfl 1 rfl ?_
      refine s_bald hS dX10_isDigit_24 fun v5 => ?_
      refine s_bipush hS dX10_isDigit_25 (by decide +kernel) ?_
      refine s_icmp_gt hS dX10_isDigit_27 rfl ?_ ?_
      · refine s_iconst hS dX10_isDigit_34 ?_
        exact s_zret hS rfl (Nat.le_of_ble_eq_true rfl) (Nat.le_of_ble_eq_true rfl) dX10_isDigit_35
      · refine s_iconst hS dX10_isDigit_30 ?_
        refine s_goto hS dX10_isDigit_31 rfl ?_
        exact s_zret hS rfl (Nat.le_of_ble_eq_true rfl) (Nat.le_of_ble_eq_true rfl) dX10_isDigit_35
theorem c_M_isDigit (l : Launch) (G : GE) (z0 z1 : Int) (h : AH) : Con l yX10_isDigit cX10_isDigit 2 (some .boolean) 0 0 0 0 G [(2, z0), (0, z1)] h (f_M_isDigit z0 z1 h) :=
  con_of (by decide +kernel) (Nat.le_of_ble_eq_true rfl) fun X hX hS hi => b_M_isDigit hS z0 z1 h
abbrev S_M_isLetter (G : GE) (X : SMw) : SX := (G, X, 2, 0, 0, (some .boolean), 0, 0)
set_option maxRecDepth 100000 in
set_option maxHeartbeats 4000000 in
theorem b_M_isLetter {G : GE} {X : SMw} (hS : SO (S_M_isLetter G X) RX10 cX10_isLetter) (z0 z1 : Int) (h : AH) : Sim (S_M_isLetter G X) 0 [(0, 2, z0), (1, 0, z1)] [] 0 0 h (f_M_isLetter z0 z1 h) := by
  unfold f_M_isLetter
  refine s_iload_n hS dX10_isLetter_0 rfl 1 rfl ?_
  refine s_aload_n hS dX10_isLetter_1 rfl 0 rfl ?_
  refine gf_X10_83 hS dX10_isLetter_2 fun v1 => ?_
  refine s_icmp_ge hS dX10_isLetter_5 rfl ?_ ?_
  · refine s_iconst hS dX10_isLetter_34 ?_
    exact s_zret hS rfl (Nat.le_of_ble_eq_true rfl) (Nat.le_of_ble_eq_true rfl) dX10_isLetter_35
  · refine s_aload_n hS dX10_isLetter_8 rfl 0 rfl ?_
    refine gf_X10_7 hS dX10_isLetter_9 fun v2 => ?_
    refine s_iload_n hS dX10_isLetter_12 rfl 1 rfl ?_
    refine s_bald hS dX10_isLetter_13 fun v3 => ?_
    refine s_bipush hS dX10_isLetter_14 (by decide +kernel) ?_
    refine s_icmp_lt hS dX10_isLetter_16 rfl ?_ ?_
    · refine s_iconst hS dX10_isLetter_34 ?_
      exact s_zret hS rfl (Nat.le_of_ble_eq_true rfl) (Nat.le_of_ble_eq_true rfl) dX10_isLetter_35
    · refine s_aload_n hS dX10_isLetter_19 rfl 0 rfl ?_
      refine gf_X10_7 hS dX10_isLetter_20 fun v4 => ?_
      refine s_iload_n hS dX10_isLetter_23 rfl 1 rfl ?_
      refine s_bald hS dX10_isLetter_24 fun v5 => ?_
      refine s_bipush hS dX10_isLetter_25 (by decide +kernel) ?_
      refine s_icmp_gt hS dX10_isLetter_27 rfl ?_ ?_
      · refine s_iconst hS dX10_isLetter_34 ?_
        exact s_zret hS rfl (Nat.le_of_ble_eq_true rfl) (Nat.le_of_ble_eq_true rfl) dX10_isLetter_35
      · refine s_iconst hS dX10_isLetter_30 ?_
        refine s_goto hS dX10_isLetter_31 rfl ?_
        exact s_zret hS rfl (Nat.le_of_ble_eq_true rfl) (Nat.le_of_ble_eq_true rfl) dX10_isLetter_35
theorem c_M_isLetter (l : Launch) (G : GE) (z0 z1 : Int) (h : AH) : Con l yX10_isLetter cX10_isLetter 2 (some .boolean) 0 0 0 0 G [(2, z0), (0, z1)] h (f_M_isLetter z0 z1 h) :=
  con_of (by decide +kernel) (Nat.le_of_ble_eq_true rfl) fun X hX hS hi => b_M_isLetter hS z0 z1 h
theorem ca_X10_96 {S : SX} {cc : ByteArray} {pc : Nat} {ls : List (Nat × Nat × Int)} {st : List (Nat × Int)} {k n : Nat} {h : AH} {b : Int} {f : Int → AH → Option (Int × AH)} (hS : SO S RX10 cc) (hR : 0 + 1 ≤ S.2.2.2.2.2.2.1 ∧ 8 + (1 + 11) + 0 ≤ S.2.2.2.2.2.2.2) (hk : k + 0 ≤ S.2.2.2.1 ∧ n + 0 ≤ S.2.2.2.2.1) (hl : st.length ≤ 4) (d : decode cc pc = .ok (.invokevirtual 96, 3)) (kk : ∀ (r : Int) (h2 : AH), Sim S (pc + 3) ls ((0, r) :: st) (k + 0) (n + 0) h2 (f r h2)) : Sim S pc ls ((2, b) :: st) k n h (c_k h 11 b (bd_ (f_M_see b h) f)) := s_callV hS mo_X10_see rfl rfl (c_M_see _ _ _ h) tw_1290 tw_1292 tw_32 hR hk rfl rfl hl d kk
theorem ca_X10_100 {S : SX} {cc : ByteArray} {pc : Nat} {ls : List (Nat × Nat × Int)} {st : List (Nat × Int)} {k n : Nat} {h : AH} {q0 b : Int} {f : Int → AH → Option (Int × AH)} (hS : SO S RX10 cc) (hR : 0 + 1 ≤ S.2.2.2.2.2.2.1 ∧ 8 + (2 + 11) + 0 ≤ S.2.2.2.2.2.2.2) (hk : k + 0 ≤ S.2.2.2.1 ∧ n + 0 ≤ S.2.2.2.2.1) (hl : st.length ≤ 4) (d : decode cc pc = .ok (.invokevirtual 100, 3)) (kk : ∀ (r : Int) (h2 : AH), Sim S (pc + 3) ls ((0, r) :: st) (k + 0) (n + 0) h2 (f r h2)) : Sim S pc ls ((0, q0) :: (2, b) :: st) k n h (c_k h 11 b (bd_ (f_M_isLetter b q0 h) f)) := s_callV hS mo_X10_isLetter rfl rfl (c_M_isLetter _ _ _ _ h) tw_1303 tw_1305 tw_35 hR hk rfl rfl hl d kk
abbrev S_M_isWord (G : GE) (X : SMw) : SX := (G, X, 6, 0, 0, (some .boolean), 1, 21)
set_option maxRecDepth 100000 in
set_option maxHeartbeats 4000000 in
theorem B_M_isWord_10 {G : GE} {X : SMw} (hS : SO (S_M_isWord G X) RX10 cX10_isWord) (z0 z1 : Int) {k10 : Int → Int → AH → Option (Int × AH)} (hk10 : ∀ (z3 z5 : Int) (h : AH), Sim (S_M_isWord G X) 10 [(0, 2, z0), (1, 1, z1), (3, 1, z3), (5, 0, z5)] [] 0 0 h (k10 z3 z5 h)) (z3 z5 : Int) (h : AH) : Sim (S_M_isWord G X) 10 [(0, 2, z0), (1, 1, z1), (3, 1, z3), (5, 0, z5)] [] 0 0 h (F_M_isWord_10 z0 z1 k10 z3 z5 h) := by
  unfold F_M_isWord_10
  refine s_aload_n hS dX10_isWord_10 rfl 0 rfl ?_
  refine s_aload_n hS dX10_isWord_11 rfl 0 rfl ?_
  refine gf_X10_93 hS dX10_isWord_12 fun v1 => ?_
  refine s_iload hS dX10_isWord_15 3 rfl ?_
  refine s_iadd hS dX10_isWord_17 ?_
  refine ca_X10_100 hS ⟨Nat.le_of_ble_eq_true rfl, Nat.le_of_ble_eq_true rfl⟩ ⟨Nat.le_of_ble_eq_true rfl, Nat.le_of_ble_eq_true rfl⟩ (Nat.le_of_ble_eq_true rfl) dX10_isWord_18 fun v2 h3 => ?_
  refine s_if_eq hS dX10_isWord_21 rfl ?_ ?_
  · refine s_iload hS dX10_isWord_56 3 rfl ?_
    refine s_if_le hS dX10_isWord_58 rfl ?_ ?_
    · refine s_iconst hS dX10_isWord_78 ?_
      exact s_zret hS rfl (Nat.le_of_ble_eq_true rfl) (Nat.le_of_ble_eq_true rfl) dX10_isWord_79
    · refine s_iload hS dX10_isWord_61 3 rfl ?_
      refine s_bipush hS dX10_isWord_63 (by decide +kernel) ?_
      refine s_icmp_ge hS dX10_isWord_65 rfl ?_ ?_
      · refine s_iconst hS dX10_isWord_78 ?_
        exact s_zret hS rfl (Nat.le_of_ble_eq_true rfl) (Nat.le_of_ble_eq_true rfl) dX10_isWord_79
      · refine s_lload_n hS dX10_isWord_68 rfl 2 rfl ?_
        refine s_lload_n hS dX10_isWord_69 rfl 1 rfl ?_
        refine s_lcmp hS dX10_isWord_70 ?_
        refine s_if_ne hS dX10_isWord_71 rfl ?_ ?_
        · refine s_iconst hS dX10_isWord_78 ?_
          exact s_zret hS rfl (Nat.le_of_ble_eq_true rfl) (Nat.le_of_ble_eq_true rfl) dX10_isWord_79
        · refine s_iconst hS dX10_isWord_74 ?_
          refine s_goto hS dX10_isWord_75 rfl ?_
          exact s_zret hS rfl (Nat.le_of_ble_eq_true rfl) (Nat.le_of_ble_eq_true rfl) dX10_isWord_79
  · refine s_iload hS dX10_isWord_24 3 rfl ?_
    refine s_bipush hS dX10_isWord_26 (by decide +kernel) ?_
    refine s_icmp_ge hS dX10_isWord_28 rfl ?_ ?_
    · refine s_iinc hS dX10_isWord_50 3 rfl (Nat.le_of_ble_eq_true rfl) (ls' := [(5, 0, (z5 + 1)), (0, 2, z0), (1, 1, z1), (3, 1, z3)]) rfl ?_
      refine s_goto hS dX10_isWord_53 rfl ?_
      refine s_ls [1, 2, 3, 0] rfl ?_
      exact hk10 _ _ _
    · refine s_lload_n hS dX10_isWord_31 rfl 2 rfl ?_
      refine s_bipush hS dX10_isWord_32 (by decide +kernel) ?_
      refine s_lshl hS dX10_isWord_34 ?_
      refine s_aload_n hS dX10_isWord_35 rfl 0 rfl ?_
      refine gf_X10_7 hS dX10_isWord_36 fun v4 => ?_
      refine s_aload_n hS dX10_isWord_39 rfl 0 rfl ?_
      refine gf_X10_93 hS dX10_isWord_40 fun v5 => ?_
      refine s_iload hS dX10_isWord_43 3 rfl ?_
      refine s_iadd hS dX10_isWord_45 ?_
      refine s_bald hS dX10_isWord_46 fun v6 => ?_
      refine s_i2l hS dX10_isWord_47 ?_
      refine s_lor hS dX10_isWord_48 ?_
      refine s_let fun v7 => ?_
      refine s_lstore_n hS dX10_isWord_49 rfl (Nat.le_of_ble_eq_true rfl) (ls' := [(3, 1, v7), (0, 2, z0), (1, 1, z1), (5, 0, z5)]) rfl ?_
      refine s_iinc hS dX10_isWord_50 3 rfl (Nat.le_of_ble_eq_true rfl) (ls' := [(5, 0, (z5 + 1)), (3, 1, v7), (0, 2, z0), (1, 1, z1)]) rfl ?_
      refine s_goto hS dX10_isWord_53 rfl ?_
      refine s_ls [2, 3, 1, 0] rfl ?_
      exact hk10 _ _ _
set_option maxRecDepth 100000 in
set_option maxHeartbeats 4000000 in
theorem b_M_isWord_10 {G : GE} {X : SMw} (hS : SO (S_M_isWord G X) RX10 cX10_isWord) (z0 z1 : Int) (z3 z5 : Int) (h : AH) : Sim (S_M_isWord G X) 10 [(0, 2, z0), (1, 1, z1), (3, 1, z3), (5, 0, z5)] [] 0 0 h (f_M_isWord_10 z0 z1 z3 z5 h) := by
  exact s_loop (S := (S_M_isWord G X)) (lsf := fun s : Int × Int × AH => [(0, 2, z0), (1, 1, z1), (3, 1, s.1), (5, 0, s.2.1)]) (hf := fun s => s.2.2) (fun kf hkf s => B_M_isWord_10 hS z0 z1 (fun a0 a1 a2 => hkf (a0, a1, a2)) s.1 s.2.1 s.2.2) fu_ (z3, z5, h)
set_option maxRecDepth 100000 in
set_option maxHeartbeats 4000000 in
theorem b_M_isWord {G : GE} {X : SMw} (hS : SO (S_M_isWord G X) RX10 cX10_isWord) (z0 z1 : Int) (h : AH) : Sim (S_M_isWord G X) 0 [(0, 2, z0), (1, 1, z1)] [] 0 0 h (f_M_isWord z0 z1 h) := by
  unfold f_M_isWord
  refine s_aload_n hS dX10_isWord_0 rfl 0 rfl ?_
  refine ca_X10_96 hS ⟨Nat.le_of_ble_eq_true rfl, Nat.le_of_ble_eq_true rfl⟩ ⟨Nat.le_of_ble_eq_true rfl, Nat.le_of_ble_eq_true rfl⟩ (Nat.le_of_ble_eq_true rfl) dX10_isWord_1 fun v1 h2 => ?_
  refine s_pop hS dX10_isWord_4 (by decide) ?_
  refine s_lconst0 hS dX10_isWord_5 ?_
  refine s_lstore_n hS dX10_isWord_6 rfl (Nat.le_of_ble_eq_true rfl) (ls' := [(3, 1, 0), (0, 2, z0), (1, 1, z1)]) rfl ?_
  refine s_iconst hS dX10_isWord_7 ?_
  refine s_istore hS dX10_isWord_8 (Nat.le_of_ble_eq_true rfl) (ls' := [(5, 0, 0), (3, 1, 0), (0, 2, z0), (1, 1, z1)]) rfl ?_
  refine s_ls [2, 3, 1, 0] rfl ?_
  exact b_M_isWord_10 hS _ _ _ _ _
theorem c_M_isWord (l : Launch) (G : GE) (z0 z1 : Int) (h : AH) : Con l yX10_isWord cX10_isWord 6 (some .boolean) 1 21 0 0 G [(2, z0), (1, z1)] h (f_M_isWord z0 z1 h) :=
  con_of (by decide +kernel) (Nat.le_of_ble_eq_true rfl) fun X hX hS hi => b_M_isWord hS z0 z1 h
abbrev S_M_passWord (G : GE) (X : SMw) : SX := (G, X, 1, 0, 0, none, 1, 21)
set_option maxRecDepth 100000 in
set_option maxHeartbeats 4000000 in
theorem B_M_passWord_0 {G : GE} {X : SMw} (hS : SO (S_M_passWord G X) RX10 cX10_passWord) (z0 : Int) {k0 : AH → Option (Int × AH)} (hk0 : ∀ (h : AH), Sim (S_M_passWord G X) 0 [(0, 2, z0)] [] 0 0 h (k0 h)) (h : AH) : Sim (S_M_passWord G X) 0 [(0, 2, z0)] [] 0 0 h (F_M_passWord_0 z0 k0 h) := by
  unfold F_M_passWord_0
  refine s_aload_n hS dX10_passWord_0 rfl 0 rfl ?_
  refine s_aload_n hS dX10_passWord_1 rfl 0 rfl ?_
  refine gf_X10_93 hS dX10_passWord_2 fun v1 => ?_
  refine ca_X10_100 hS ⟨Nat.le_of_ble_eq_true rfl, Nat.le_of_ble_eq_true rfl⟩ ⟨Nat.le_of_ble_eq_true rfl, Nat.le_of_ble_eq_true rfl⟩ (Nat.le_of_ble_eq_true rfl) dX10_passWord_5 fun v2 h3 => ?_
  refine s_if_eq hS dX10_passWord_8 rfl ?_ ?_
  · exact s_vret hS rfl (Nat.le_of_ble_eq_true rfl) (Nat.le_of_ble_eq_true rfl) dX10_passWord_24
  · refine s_aload_n hS dX10_passWord_11 rfl 0 rfl ?_
    refine s_dup hS dX10_passWord_12 (by decide) ?_
    refine gf_X10_93 hS dX10_passWord_13 fun v4 => ?_
    refine s_iconst hS dX10_passWord_16 ?_
    refine s_iadd hS dX10_passWord_17 ?_
    refine pf_X10_93 hS dX10_passWord_18 fun h5 => ?_
    refine s_goto hS dX10_passWord_21 rfl ?_
    exact hk0 _
set_option maxRecDepth 100000 in
set_option maxHeartbeats 4000000 in
theorem b_M_passWord_0 {G : GE} {X : SMw} (hS : SO (S_M_passWord G X) RX10 cX10_passWord) (z0 : Int) (h : AH) : Sim (S_M_passWord G X) 0 [(0, 2, z0)] [] 0 0 h (f_M_passWord_0 z0 h) := by
  exact s_loop (S := (S_M_passWord G X)) (lsf := fun s : AH => [(0, 2, z0)]) (hf := fun s => s) (fun kf hkf s => B_M_passWord_0 hS z0 (fun a0 => hkf (a0))  s) fu_ (h)
set_option maxRecDepth 100000 in
set_option maxHeartbeats 4000000 in
theorem b_M_passWord {G : GE} {X : SMw} (hS : SO (S_M_passWord G X) RX10 cX10_passWord) (z0 : Int) (h : AH) : Sim (S_M_passWord G X) 0 [(0, 2, z0)] [] 0 0 h (f_M_passWord z0 h) := by
  unfold f_M_passWord
  refine s_ls [0] rfl ?_
  exact b_M_passWord_0 hS _ _
theorem c_M_passWord (l : Launch) (G : GE) (z0 : Int) (h : AH) : Con l yX10_passWord cX10_passWord 1 none 1 21 0 0 G [(2, z0)] h (f_M_passWord z0 h) :=
  con_of (by decide +kernel) (Nat.le_of_ble_eq_true rfl) fun X hX hS hi => b_M_passWord hS z0 h
theorem ca_X10_104 {S : SX} {cc : ByteArray} {pc : Nat} {ls : List (Nat × Nat × Int)} {st : List (Nat × Int)} {k n : Nat} {h : AH} {q0 b : Int} {f : Int → AH → Option (Int × AH)} (hS : SO S RX10 cc) (hR : 1 + 1 ≤ S.2.2.2.2.2.2.1 ∧ 8 + (6 + 11) + 21 ≤ S.2.2.2.2.2.2.2) (hk : k + 0 ≤ S.2.2.2.1 ∧ n + 0 ≤ S.2.2.2.2.1) (hl : st.length ≤ 4) (d : decode cc pc = .ok (.invokevirtual 104, 3)) (kk : ∀ (r : Int) (h2 : AH), Sim S (pc + 3) ls ((0, r) :: st) (k + 0) (n + 0) h2 (f r h2)) : Sim S pc ls ((1, q0) :: (2, b) :: st) k n h (c_k h 11 b (bd_ (f_M_isWord b q0 h) f)) := s_callV hS mo_X10_isWord rfl rfl (c_M_isWord _ _ _ _ h) tw_1299 tw_1301 tw_34 hR hk rfl rfl hl d kk
theorem ca_X10_108 {S : SX} {cc : ByteArray} {pc : Nat} {ls : List (Nat × Nat × Int)} {st : List (Nat × Int)} {k n : Nat} {h : AH} {b : Int} {f : Int → AH → Option (Int × AH)} (hS : SO S RX10 cc) (hR : 1 + 1 ≤ S.2.2.2.2.2.2.1 ∧ 8 + (1 + 11) + 21 ≤ S.2.2.2.2.2.2.2) (hk : k + 0 ≤ S.2.2.2.1 ∧ n + 0 ≤ S.2.2.2.2.1) (hl : st.length ≤ 4) (d : decode cc pc = .ok (.invokevirtual 108, 3)) (kk : ∀ (r : Int) (h2 : AH), Sim S (pc + 3) ls (st) (k + 0) (n + 0) h2 (f r h2)) : Sim S pc ls ((2, b) :: st) k n h (c_k h 11 b (bd_ (f_M_passWord b h) f)) := s_callV hS mo_X10_passWord rfl rfl (c_M_passWord _ _ _ h) tw_1323 tw_1325 tw_39 hR hk rfl rfl hl d kk
abbrev S_M_takesWord (G : GE) (X : SMw) : SX := (G, X, 3, 0, 0, (some .boolean), 2, 46)
set_option maxRecDepth 100000 in
set_option maxHeartbeats 4000000 in
theorem b_M_takesWord {G : GE} {X : SMw} (hS : SO (S_M_takesWord G X) RX10 cX10_takesWord) (z0 z1 : Int) (h : AH) : Sim (S_M_takesWord G X) 0 [(0, 2, z0), (1, 1, z1)] [] 0 0 h (f_M_takesWord z0 z1 h) := by
  unfold f_M_takesWord
  refine s_aload_n hS dX10_takesWord_0 rfl 0 rfl ?_
  refine s_lload_n hS dX10_takesWord_1 rfl 1 rfl ?_
  refine ca_X10_104 hS ⟨Nat.le_of_ble_eq_true rfl, Nat.le_of_ble_eq_true rfl⟩ ⟨Nat.le_of_ble_eq_true rfl, Nat.le_of_ble_eq_true rfl⟩ (Nat.le_of_ble_eq_true rfl) dX10_takesWord_2 fun v1 h2 => ?_
  refine s_if_ne hS dX10_takesWord_5 rfl ?_ ?_
  · refine s_aload_n hS dX10_takesWord_10 rfl 0 rfl ?_
    refine ca_X10_108 hS ⟨Nat.le_of_ble_eq_true rfl, Nat.le_of_ble_eq_true rfl⟩ ⟨Nat.le_of_ble_eq_true rfl, Nat.le_of_ble_eq_true rfl⟩ (Nat.le_of_ble_eq_true rfl) dX10_takesWord_11 fun v3 h4 => ?_
    refine s_iconst hS dX10_takesWord_14 ?_
    exact s_zret hS rfl (Nat.le_of_ble_eq_true rfl) (Nat.le_of_ble_eq_true rfl) dX10_takesWord_15
  · refine s_iconst hS dX10_takesWord_8 ?_
    exact s_zret hS rfl (Nat.le_of_ble_eq_true rfl) (Nat.le_of_ble_eq_true rfl) dX10_takesWord_9
theorem c_M_takesWord (l : Launch) (G : GE) (z0 z1 : Int) (h : AH) : Con l yX10_takesWord cX10_takesWord 3 (some .boolean) 2 46 0 0 G [(2, z0), (1, z1)] h (f_M_takesWord z0 z1 h) :=
  con_of (by decide +kernel) (Nat.le_of_ble_eq_true rfl) fun X hX hS hi => b_M_takesWord hS z0 z1 h
theorem ca_X10_111 {S : SX} {cc : ByteArray} {pc : Nat} {ls : List (Nat × Nat × Int)} {st : List (Nat × Int)} {k n : Nat} {h : AH} {q0 b : Int} {f : Int → AH → Option (Int × AH)} (hS : SO S RX10 cc) (hR : 0 + 1 ≤ S.2.2.2.2.2.2.1 ∧ 8 + (2 + 11) + 0 ≤ S.2.2.2.2.2.2.2) (hk : k + 0 ≤ S.2.2.2.1 ∧ n + 0 ≤ S.2.2.2.2.1) (hl : st.length ≤ 4) (d : decode cc pc = .ok (.invokevirtual 111, 3)) (kk : ∀ (r : Int) (h2 : AH), Sim S (pc + 3) ls ((0, r) :: st) (k + 0) (n + 0) h2 (f r h2)) : Sim S pc ls ((0, q0) :: (2, b) :: st) k n h (c_k h 11 b (bd_ (f_M_isDigit b q0 h) f)) := s_callV hS mo_X10_isDigit rfl rfl (c_M_isDigit _ _ _ _ h) tw_1335 tw_1337 tw_42 hR hk rfl rfl hl d kk
theorem ca_X10_114 {S : SX} {cc : ByteArray} {pc : Nat} {ls : List (Nat × Nat × Int)} {st : List (Nat × Int)} {k n : Nat} {h : AH} {q0 q1 b : Int} {f : Int → AH → Option (Int × AH)} (hS : SO S RX10 cc) (hR : 0 + 1 ≤ S.2.2.2.2.2.2.1 ∧ 8 + (3 + 11) + 0 ≤ S.2.2.2.2.2.2.2) (hk : k + 0 ≤ S.2.2.2.1 ∧ n + 0 ≤ S.2.2.2.2.1) (hl : st.length ≤ 4) (d : decode cc pc = .ok (.invokevirtual 114, 3)) (kk : ∀ (r : Int) (h2 : AH), Sim S (pc + 3) ls ((0, r) :: st) (k + 0) (n + 0) h2 (f r h2)) : Sim S pc ls ((0, q1) :: (0, q0) :: (2, b) :: st) k n h (c_k h 11 b (bd_ (f_M_fails b q0 q1 h) f)) := s_callV hS mo_X10_fails rfl rfl (c_M_fails _ _ _ _ _ h) tw_1311 tw_1313 tw_36 hR hk rfl rfl hl d kk
theorem pf_X10_118 {S : SX} {cc : ByteArray} {pc : Nat} {ls : List (Nat × Nat × Int)} {st : List (Nat × Int)} {k n : Nat} {h : AH} {a v : Int} {f : AH → Option (Int × AH)} (hS : SO S RX10 cc) (d : decode cc pc = .ok (.putfield 118, 3)) (kk : ∀ h2 : AH, Sim S (pc + 3) ls st k n h2 (f h2)) : Sim S pc ls ((0, v) :: (2, a) :: st) k n h ((s_f h 11 a 10 v).bind f) := s_putf hS cx_10 10 (by decide) tw_1148 rfl rfl (Or.inl rfl) rfl rfl d kk
theorem ca_X10_121 {S : SX} {cc : ByteArray} {pc : Nat} {ls : List (Nat × Nat × Int)} {st : List (Nat × Int)} {k n : Nat} {h : AH} {q0 q1 q2 : Int} {f : Int → AH → Option (Int × AH)} (hS : SO S RX10 cc) (hR : 0 + 1 ≤ S.2.2.2.2.2.2.1 ∧ 8 + (6 + 11) + 0 ≤ S.2.2.2.2.2.2.2) (hk : k + 0 ≤ S.2.2.2.1 ∧ n + 0 ≤ S.2.2.2.2.1) (hl : st.length ≤ 4) (d : decode cc pc = .ok (.invokestatic 121, 3)) (kk : ∀ (r : Int) (h2 : AH), Sim S (pc + 3) ls ((0, r) :: st) (k + 0) (n + 0) h2 (f r h2)) : Sim S pc ls ((1, q2) :: (1, q1) :: (1, q0) :: st) k n h (bd_ (f_M_in q0 q1 q2 h) f) := s_callS hS mo_X10_in (c_M_in _ _ _ _ _ h) tw_1339 tw_1340 hR hk rfl rfl hl d kk
abbrev S_M_numberHere (G : GE) (X : SMw) : SX := (G, X, 5, 0, 0, (some .boolean), 1, 25)
set_option maxRecDepth 100000 in
set_option maxHeartbeats 4000000 in
theorem b_M_numberHere_117 {G : GE} {X : SMw} (hS : SO (S_M_numberHere G X) RX10 cX10_numberHere) (z0 z3 : Int) (h : AH) : Sim (S_M_numberHere G X) 117 [(0, 2, z0), (3, 0, z3)] [] 0 0 h (f_M_numberHere_117 z0 z3 h) := by
  unfold f_M_numberHere_117
  refine s_aload_n hS dX10_numberHere_117 rfl 0 rfl ?_
  refine s_iconst hS dX10_numberHere_118 ?_
  refine s_iload_n hS dX10_numberHere_119 rfl 1 rfl ?_
  refine ca_X10_114 hS ⟨Nat.le_of_ble_eq_true rfl, Nat.le_of_ble_eq_true rfl⟩ ⟨Nat.le_of_ble_eq_true rfl, Nat.le_of_ble_eq_true rfl⟩ (Nat.le_of_ble_eq_true rfl) dX10_numberHere_120 fun v1 h2 => ?_
  refine s_if_eq hS dX10_numberHere_123 rfl ?_ ?_
  · refine s_iconst hS dX10_numberHere_130 ?_
    exact s_zret hS rfl (Nat.le_of_ble_eq_true rfl) (Nat.le_of_ble_eq_true rfl) dX10_numberHere_131
  · refine s_iconst hS dX10_numberHere_126 ?_
    refine s_goto hS dX10_numberHere_127 rfl ?_
    exact s_zret hS rfl (Nat.le_of_ble_eq_true rfl) (Nat.le_of_ble_eq_true rfl) dX10_numberHere_131
set_option maxRecDepth 100000 in
set_option maxHeartbeats 4000000 in
theorem b_M_numberHere_75 {G : GE} {X : SMw} (hS : SO (S_M_numberHere G X) RX10 cX10_numberHere) (z0 z1 z2 z3 : Int) {k34 : Int → AH → Option (Int × AH)} (hk34 : ∀ (z4 : Int) (h : AH), Sim (S_M_numberHere G X) 34 [(0, 2, z0), (1, 0, z1), (2, 0, z2), (3, 0, z3), (4, 0, z4)] [] 0 0 h (k34 z4 h)) (z4 : Int) (h : AH) : Sim (S_M_numberHere G X) 75 [(0, 2, z0), (1, 0, z1), (2, 0, z2), (3, 0, z3), (4, 0, z4)] [] 0 0 h (f_M_numberHere_75 k34 z0 z1 z2 z3 z4 h) := by
  unfold f_M_numberHere_75
  refine s_aload_n hS dX10_numberHere_75 rfl 0 rfl ?_
  refine s_dup hS dX10_numberHere_76 (by decide) ?_
  refine gf_X10_93 hS dX10_numberHere_77 fun v1 => ?_
  refine s_iconst hS dX10_numberHere_80 ?_
  refine s_iadd hS dX10_numberHere_81 ?_
  refine pf_X10_93 hS dX10_numberHere_82 fun h2 => ?_
  refine s_goto hS dX10_numberHere_85 rfl ?_
  exact hk34 _ _
set_option maxRecDepth 100000 in
set_option maxHeartbeats 4000000 in
theorem B_M_numberHere_34 {G : GE} {X : SMw} (hS : SO (S_M_numberHere G X) RX10 cX10_numberHere) (z0 z1 z2 z3 : Int) {k34 : Int → AH → Option (Int × AH)} (hk34 : ∀ (z4 : Int) (h : AH), Sim (S_M_numberHere G X) 34 [(0, 2, z0), (1, 0, z1), (2, 0, z2), (3, 0, z3), (4, 0, z4)] [] 0 0 h (k34 z4 h)) (z4 : Int) (h : AH) : Sim (S_M_numberHere G X) 34 [(0, 2, z0), (1, 0, z1), (2, 0, z2), (3, 0, z3), (4, 0, z4)] [] 0 0 h (F_M_numberHere_34 z0 z1 z2 z3 k34 z4 h) := by
  unfold F_M_numberHere_34
  refine s_aload_n hS dX10_numberHere_34 rfl 0 rfl ?_
  refine s_aload_n hS dX10_numberHere_35 rfl 0 rfl ?_
  refine gf_X10_93 hS dX10_numberHere_36 fun v1 => ?_
  refine ca_X10_111 hS ⟨Nat.le_of_ble_eq_true rfl, Nat.le_of_ble_eq_true rfl⟩ ⟨Nat.le_of_ble_eq_true rfl, Nat.le_of_ble_eq_true rfl⟩ (Nat.le_of_ble_eq_true rfl) dX10_numberHere_39 fun v2 h3 => ?_
  refine s_if_eq hS dX10_numberHere_42 rfl ?_ ?_
  · refine s_aload_n hS dX10_numberHere_88 rfl 0 rfl ?_
    refine s_iload hS dX10_numberHere_89 4 rfl ?_
    refine pf_X10_118 hS dX10_numberHere_91 fun h4 => ?_
    refine s_aload_n hS dX10_numberHere_94 rfl 0 rfl ?_
    refine gf_X10_93 hS dX10_numberHere_95 fun v5 => ?_
    refine s_iload_n hS dX10_numberHere_98 rfl 3 rfl ?_
    refine s_isub hS dX10_numberHere_99 ?_
    refine s_iconst hS dX10_numberHere_100 ?_
    refine s_icmp_gt hS dX10_numberHere_101 rfl ?_ ?_
    · refine s_ls [0, 3] rfl ?_
      exact b_M_numberHere_117 hS _ _ _
    · refine s_iload hS dX10_numberHere_104 4 rfl ?_
      refine s_i2l hS dX10_numberHere_106 ?_
      refine s_iload_n hS dX10_numberHere_107 rfl 1 rfl ?_
      refine s_i2l hS dX10_numberHere_108 ?_
      refine s_iload_n hS dX10_numberHere_109 rfl 2 rfl ?_
      refine s_i2l hS dX10_numberHere_110 ?_
      refine ca_X10_121 hS ⟨Nat.le_of_ble_eq_true rfl, Nat.le_of_ble_eq_true rfl⟩ ⟨Nat.le_of_ble_eq_true rfl, Nat.le_of_ble_eq_true rfl⟩ (Nat.le_of_ble_eq_true rfl) dX10_numberHere_111 fun v6 h7 => ?_
      refine s_if_ne hS dX10_numberHere_114 rfl ?_ ?_
      · refine s_iconst hS dX10_numberHere_126 ?_
        refine s_goto hS dX10_numberHere_127 rfl ?_
        exact s_zret hS rfl (Nat.le_of_ble_eq_true rfl) (Nat.le_of_ble_eq_true rfl) dX10_numberHere_131
      · refine s_ls [0, 3] rfl ?_
        exact b_M_numberHere_117 hS _ _ _
  · refine s_aload_n hS dX10_numberHere_45 rfl 0 rfl ?_
    refine gf_X10_93 hS dX10_numberHere_46 fun v8 => ?_
    refine s_iload_n hS dX10_numberHere_49 rfl 3 rfl ?_
    refine s_isub hS dX10_numberHere_50 ?_
    refine s_iconst hS dX10_numberHere_51 ?_
    refine s_icmp_ge hS dX10_numberHere_52 rfl ?_ ?_
    · exact b_M_numberHere_75 hS _ _ _ _ hk34 _ _
    · refine s_bipush hS dX10_numberHere_55 (by decide +kernel) ?_
      refine s_iload hS dX10_numberHere_57 4 rfl ?_
      refine s_imul hS dX10_numberHere_59 ?_
      refine s_aload_n hS dX10_numberHere_60 rfl 0 rfl ?_
      refine gf_X10_7 hS dX10_numberHere_61 fun v9 => ?_
      refine s_aload_n hS dX10_numberHere_64 rfl 0 rfl ?_
      refine gf_X10_93 hS dX10_numberHere_65 fun v10 => ?_
      refine s_bald hS dX10_numberHere_68 fun v11 => ?_
      refine s_iadd hS dX10_numberHere_69 ?_
      refine s_bipush hS dX10_numberHere_70 (by decide +kernel) ?_
      refine s_isub hS dX10_numberHere_72 ?_
      refine s_let fun v12 => ?_
      refine s_istore hS dX10_numberHere_73 (Nat.le_of_ble_eq_true rfl) (ls' := [(4, 0, v12), (0, 2, z0), (1, 0, z1), (2, 0, z2), (3, 0, z3)]) rfl ?_
      refine s_ls [1, 2, 3, 4, 0] rfl ?_
      exact b_M_numberHere_75 hS _ _ _ _ hk34 _ _
set_option maxRecDepth 100000 in
set_option maxHeartbeats 4000000 in
theorem b_M_numberHere_34 {G : GE} {X : SMw} (hS : SO (S_M_numberHere G X) RX10 cX10_numberHere) (z0 z1 z2 z3 : Int) (z4 : Int) (h : AH) : Sim (S_M_numberHere G X) 34 [(0, 2, z0), (1, 0, z1), (2, 0, z2), (3, 0, z3), (4, 0, z4)] [] 0 0 h (f_M_numberHere_34 z0 z1 z2 z3 z4 h) := by
  exact s_loop (S := (S_M_numberHere G X)) (lsf := fun s : Int × AH => [(0, 2, z0), (1, 0, z1), (2, 0, z2), (3, 0, z3), (4, 0, s.1)]) (hf := fun s => s.2) (fun kf hkf s => B_M_numberHere_34 hS z0 z1 z2 z3 (fun a0 a1 => hkf (a0, a1)) s.1 s.2) fu_ (z4, h)
set_option maxRecDepth 100000 in
set_option maxHeartbeats 4000000 in
theorem b_M_numberHere {G : GE} {X : SMw} (hS : SO (S_M_numberHere G X) RX10 cX10_numberHere) (z0 z1 z2 : Int) (h : AH) : Sim (S_M_numberHere G X) 0 [(0, 2, z0), (1, 0, z1), (2, 0, z2)] [] 0 0 h (f_M_numberHere z0 z1 z2 h) := by
  unfold f_M_numberHere
  refine s_aload_n hS dX10_numberHere_0 rfl 0 rfl ?_
  refine ca_X10_96 hS ⟨Nat.le_of_ble_eq_true rfl, Nat.le_of_ble_eq_true rfl⟩ ⟨Nat.le_of_ble_eq_true rfl, Nat.le_of_ble_eq_true rfl⟩ (Nat.le_of_ble_eq_true rfl) dX10_numberHere_1 fun v1 h2 => ?_
  refine s_pop hS dX10_numberHere_4 (by decide) ?_
  refine s_aload_n hS dX10_numberHere_5 rfl 0 rfl ?_
  refine s_aload_n hS dX10_numberHere_6 rfl 0 rfl ?_
  refine gf_X10_93 hS dX10_numberHere_7 fun v3 => ?_
  refine ca_X10_111 hS ⟨Nat.le_of_ble_eq_true rfl, Nat.le_of_ble_eq_true rfl⟩ ⟨Nat.le_of_ble_eq_true rfl, Nat.le_of_ble_eq_true rfl⟩ (Nat.le_of_ble_eq_true rfl) dX10_numberHere_10 fun v4 h5 => ?_
  refine s_if_ne hS dX10_numberHere_13 rfl ?_ ?_
  · refine s_aload_n hS dX10_numberHere_26 rfl 0 rfl ?_
    refine gf_X10_93 hS dX10_numberHere_27 fun v6 => ?_
    refine s_istore_n hS dX10_numberHere_30 rfl (Nat.le_of_ble_eq_true rfl) (ls' := [(3, 0, v6), (0, 2, z0), (1, 0, z1), (2, 0, z2)]) rfl ?_
    refine s_iconst hS dX10_numberHere_31 ?_
    refine s_istore hS dX10_numberHere_32 (Nat.le_of_ble_eq_true rfl) (ls' := [(4, 0, 0), (3, 0, v6), (0, 2, z0), (1, 0, z1), (2, 0, z2)]) rfl ?_
    refine s_ls [2, 3, 4, 1, 0] rfl ?_
    exact b_M_numberHere_34 hS _ _ _ _ _ _
  · refine s_aload_n hS dX10_numberHere_16 rfl 0 rfl ?_
    refine s_iconst hS dX10_numberHere_17 ?_
    refine s_aload_n hS dX10_numberHere_18 rfl 0 rfl ?_
    refine gf_X10_93 hS dX10_numberHere_19 fun v7 => ?_
    refine ca_X10_114 hS ⟨Nat.le_of_ble_eq_true rfl, Nat.le_of_ble_eq_true rfl⟩ ⟨Nat.le_of_ble_eq_true rfl, Nat.le_of_ble_eq_true rfl⟩ (Nat.le_of_ble_eq_true rfl) dX10_numberHere_22 fun v8 h9 => ?_
    exact s_zret hS rfl (Nat.le_of_ble_eq_true rfl) (Nat.le_of_ble_eq_true rfl) dX10_numberHere_25
theorem c_M_numberHere (l : Launch) (G : GE) (z0 z1 z2 : Int) (h : AH) : Con l yX10_numberHere cX10_numberHere 5 (some .boolean) 1 25 0 0 G [(2, z0), (0, z1), (0, z2)] h (f_M_numberHere z0 z1 z2 h) :=
  con_of (by decide +kernel) (Nat.le_of_ble_eq_true rfl) fun X hX hS hi => b_M_numberHere hS z0 z1 z2 h
abbrev S_M_wordHere (G : GE) (X : SMw) : SX := (G, X, 1, 0, 0, (some .int), 2, 46)
set_option maxRecDepth 100000 in
set_option maxHeartbeats 4000000 in
theorem b_M_wordHere {G : GE} {X : SMw} (hS : SO (S_M_wordHere G X) RX10 cX10_wordHere) (z0 : Int) (h : AH) : Sim (S_M_wordHere G X) 0 [(0, 2, z0)] [] 0 0 h (f_M_wordHere z0 h) := by
  unfold f_M_wordHere
  refine s_aload_n hS dX10_wordHere_0 rfl 0 rfl ?_
  refine s_ldc2 hS (z := 32497584235442030) tw_1307 (by decide +kernel) dX10_wordHere_1 ?_
  refine ca_X10_104 hS ⟨Nat.le_of_ble_eq_true rfl, Nat.le_of_ble_eq_true rfl⟩ ⟨Nat.le_of_ble_eq_true rfl, Nat.le_of_ble_eq_true rfl⟩ (Nat.le_of_ble_eq_true rfl) dX10_wordHere_4 fun v1 h2 => ?_
  refine s_if_eq hS dX10_wordHere_7 rfl ?_ ?_
  · refine s_aload_n hS dX10_wordHere_12 rfl 0 rfl ?_
    refine s_ldc2 hS (z := 33602627781095015) tw_1387 (by decide +kernel) dX10_wordHere_13 ?_
    refine ca_X10_104 hS ⟨Nat.le_of_ble_eq_true rfl, Nat.le_of_ble_eq_true rfl⟩ ⟨Nat.le_of_ble_eq_true rfl, Nat.le_of_ble_eq_true rfl⟩ (Nat.le_of_ble_eq_true rfl) dX10_wordHere_16 fun v3 h4 => ?_
    refine s_if_eq hS dX10_wordHere_19 rfl ?_ ?_
    · refine s_aload_n hS dX10_wordHere_24 rfl 0 rfl ?_
      refine s_ldc2 hS (z := 495874696043) tw_1388 (by decide +kernel) dX10_wordHere_25 ?_
      refine ca_X10_104 hS ⟨Nat.le_of_ble_eq_true rfl, Nat.le_of_ble_eq_true rfl⟩ ⟨Nat.le_of_ble_eq_true rfl, Nat.le_of_ble_eq_true rfl⟩ (Nat.le_of_ble_eq_true rfl) dX10_wordHere_28 fun v5 h6 => ?_
      refine s_if_eq hS dX10_wordHere_31 rfl ?_ ?_
      · refine s_aload_n hS dX10_wordHere_36 rfl 0 rfl ?_
        refine s_ldc2 hS (z := 6451064) tw_1389 (by decide +kernel) dX10_wordHere_37 ?_
        refine ca_X10_104 hS ⟨Nat.le_of_ble_eq_true rfl, Nat.le_of_ble_eq_true rfl⟩ ⟨Nat.le_of_ble_eq_true rfl, Nat.le_of_ble_eq_true rfl⟩ (Nat.le_of_ble_eq_true rfl) dX10_wordHere_40 fun v7 h8 => ?_
        refine s_if_eq hS dX10_wordHere_43 rfl ?_ ?_
        · refine s_aload_n hS dX10_wordHere_48 rfl 0 rfl ?_
          refine s_ldc2 hS (z := 32493246134117732) tw_1309 (by decide +kernel) dX10_wordHere_49 ?_
          refine ca_X10_104 hS ⟨Nat.le_of_ble_eq_true rfl, Nat.le_of_ble_eq_true rfl⟩ ⟨Nat.le_of_ble_eq_true rfl, Nat.le_of_ble_eq_true rfl⟩ (Nat.le_of_ble_eq_true rfl) dX10_wordHere_52 fun v9 h10 => ?_
          refine s_if_eq hS dX10_wordHere_55 rfl ?_ ?_
          · refine s_aload_n hS dX10_wordHere_60 rfl 0 rfl ?_
            refine s_ldc2 hS (z := 1852143732) tw_1390 (by decide +kernel) dX10_wordHere_61 ?_
            refine ca_X10_104 hS ⟨Nat.le_of_ble_eq_true rfl, Nat.le_of_ble_eq_true rfl⟩ ⟨Nat.le_of_ble_eq_true rfl, Nat.le_of_ble_eq_true rfl⟩ (Nat.le_of_ble_eq_true rfl) dX10_wordHere_64 fun v11 h12 => ?_
            refine s_if_eq hS dX10_wordHere_67 rfl ?_ ?_
            · refine s_aload_n hS dX10_wordHere_72 rfl 0 rfl ?_
              refine s_ldc2 hS (z := 1920298611) tw_1391 (by decide +kernel) dX10_wordHere_73 ?_
              refine ca_X10_104 hS ⟨Nat.le_of_ble_eq_true rfl, Nat.le_of_ble_eq_true rfl⟩ ⟨Nat.le_of_ble_eq_true rfl, Nat.le_of_ble_eq_true rfl⟩ (Nat.le_of_ble_eq_true rfl) dX10_wordHere_76 fun v13 h14 => ?_
              refine s_if_eq hS dX10_wordHere_79 rfl ?_ ?_
              · refine s_aload_n hS dX10_wordHere_85 rfl 0 rfl ?_
                refine s_ldc2 hS (z := 427121669988) tw_1392 (by decide +kernel) dX10_wordHere_86 ?_
                refine ca_X10_104 hS ⟨Nat.le_of_ble_eq_true rfl, Nat.le_of_ble_eq_true rfl⟩ ⟨Nat.le_of_ble_eq_true rfl, Nat.le_of_ble_eq_true rfl⟩ (Nat.le_of_ble_eq_true rfl) dX10_wordHere_89 fun v15 h16 => ?_
                refine s_if_eq hS dX10_wordHere_92 rfl ?_ ?_
                · refine s_aload_n hS dX10_wordHere_98 rfl 0 rfl ?_
                  refine s_ldc2 hS (z := 1818584692) tw_1393 (by decide +kernel) dX10_wordHere_99 ?_
                  refine ca_X10_104 hS ⟨Nat.le_of_ble_eq_true rfl, Nat.le_of_ble_eq_true rfl⟩ ⟨Nat.le_of_ble_eq_true rfl, Nat.le_of_ble_eq_true rfl⟩ (Nat.le_of_ble_eq_true rfl) dX10_wordHere_102 fun v17 h18 => ?_
                  refine s_if_eq hS dX10_wordHere_105 rfl ?_ ?_
                  · refine s_aload_n hS dX10_wordHere_113 rfl 0 rfl ?_
                    refine s_ldc2 hS (z := 1752135026) tw_1394 (by decide +kernel) dX10_wordHere_114 ?_
                    refine ca_X10_104 hS ⟨Nat.le_of_ble_eq_true rfl, Nat.le_of_ble_eq_true rfl⟩ ⟨Nat.le_of_ble_eq_true rfl, Nat.le_of_ble_eq_true rfl⟩ (Nat.le_of_ble_eq_true rfl) dX10_wordHere_117 fun v19 h20 => ?_
                    refine s_if_eq hS dX10_wordHere_120 rfl ?_ ?_
                    · refine s_iconst hS dX10_wordHere_128 ?_
                      exact s_iret hS rfl (Nat.le_of_ble_eq_true rfl) (Nat.le_of_ble_eq_true rfl) dX10_wordHere_129
                    · refine s_bipush hS dX10_wordHere_123 (by decide +kernel) ?_
                      refine s_goto hS dX10_wordHere_125 rfl ?_
                      exact s_iret hS rfl (Nat.le_of_ble_eq_true rfl) (Nat.le_of_ble_eq_true rfl) dX10_wordHere_129
                  · refine s_bipush hS dX10_wordHere_108 (by decide +kernel) ?_
                    refine s_goto hS dX10_wordHere_110 rfl ?_
                    exact s_iret hS rfl (Nat.le_of_ble_eq_true rfl) (Nat.le_of_ble_eq_true rfl) dX10_wordHere_129
                · refine s_bipush hS dX10_wordHere_95 (by decide +kernel) ?_
                  exact s_iret hS rfl (Nat.le_of_ble_eq_true rfl) (Nat.le_of_ble_eq_true rfl) dX10_wordHere_97
              · refine s_bipush hS dX10_wordHere_82 (by decide +kernel) ?_
                exact s_iret hS rfl (Nat.le_of_ble_eq_true rfl) (Nat.le_of_ble_eq_true rfl) dX10_wordHere_84
            · refine s_iconst hS dX10_wordHere_70 ?_
              exact s_iret hS rfl (Nat.le_of_ble_eq_true rfl) (Nat.le_of_ble_eq_true rfl) dX10_wordHere_71
          · refine s_iconst hS dX10_wordHere_58 ?_
            exact s_iret hS rfl (Nat.le_of_ble_eq_true rfl) (Nat.le_of_ble_eq_true rfl) dX10_wordHere_59
        · refine s_iconst hS dX10_wordHere_46 ?_
          exact s_iret hS rfl (Nat.le_of_ble_eq_true rfl) (Nat.le_of_ble_eq_true rfl) dX10_wordHere_47
      · refine s_iconst hS dX10_wordHere_34 ?_
        exact s_iret hS rfl (Nat.le_of_ble_eq_true rfl) (Nat.le_of_ble_eq_true rfl) dX10_wordHere_35
    · refine s_iconst hS dX10_wordHere_22 ?_
      exact s_iret hS rfl (Nat.le_of_ble_eq_true rfl) (Nat.le_of_ble_eq_true rfl) dX10_wordHere_23
  · refine s_iconst hS dX10_wordHere_10 ?_
    exact s_iret hS rfl (Nat.le_of_ble_eq_true rfl) (Nat.le_of_ble_eq_true rfl) dX10_wordHere_11
theorem c_M_wordHere (l : Launch) (G : GE) (z0 : Int) (h : AH) : Con l yX10_wordHere cX10_wordHere 1 (some .int) 2 46 0 0 G [(2, z0)] h (f_M_wordHere z0 h) :=
  con_of (by decide +kernel) (Nat.le_of_ble_eq_true rfl) fun X hX hS hi => b_M_wordHere hS z0 h
theorem gf_X10_13 {S : SX} {cc : ByteArray} {pc : Nat} {ls : List (Nat × Nat × Int)} {st : List (Nat × Int)} {k n : Nat} {h : AH} {a : Int} {f : Int → Option (Int × AH)} (hS : SO S RX10 cc) (d : decode cc pc = .ok (.getfield 13, 3)) (kk : ∀ v : Int, Sim S (pc + 3) ls ((2, v) :: st) k n h (f v)) : Sim S pc ls ((2, a) :: st) k n h ((g_f h 11 a 3).bind f) := s_getf hS cx_10 3 (by decide) tw_1141 rfl rfl rfl d kk
theorem gf_X10_145 {S : SX} {cc : ByteArray} {pc : Nat} {ls : List (Nat × Nat × Int)} {st : List (Nat × Int)} {k n : Nat} {h : AH} {a : Int} {f : Int → Option (Int × AH)} (hS : SO S RX10 cc) (d : decode cc pc = .ok (.getfield 145, 3)) (kk : ∀ v : Int, Sim S (pc + 3) ls ((0, v) :: st) k n h (f v)) : Sim S pc ls ((2, a) :: st) k n h ((g_f h 11 a 11).bind f) := s_getf hS cx_10 11 (by decide) tw_1149 rfl rfl rfl d kk
theorem gf_X10_17 {S : SX} {cc : ByteArray} {pc : Nat} {ls : List (Nat × Nat × Int)} {st : List (Nat × Int)} {k n : Nat} {h : AH} {a : Int} {f : Int → Option (Int × AH)} (hS : SO S RX10 cc) (d : decode cc pc = .ok (.getfield 17, 3)) (kk : ∀ v : Int, Sim S (pc + 3) ls ((2, v) :: st) k n h (f v)) : Sim S pc ls ((2, a) :: st) k n h ((g_f h 11 a 4).bind f) := s_getf hS cx_10 4 (by decide) tw_1142 rfl rfl rfl d kk
abbrev S_M_puts (G : GE) (X : SMw) : SX := (G, X, 3, 0, 0, none, 0, 0)
set_option maxRecDepth 100000 in
set_option maxHeartbeats 4000000 in
theorem b_M_puts {G : GE} {X : SMw} (hS : SO (S_M_puts G X) RX10 cX10_puts) (z0 z1 z2 : Int) (h : AH) : Sim (S_M_puts G X) 0 [(0, 2, z0), (1, 0, z1), (2, 0, z2)] [] 0 0 h (f_M_puts z0 z1 z2 h) := by
  unfold f_M_puts
  refine s_aload_n hS dX10_puts_0 rfl 0 rfl ?_
  refine gf_X10_13 hS dX10_puts_1 fun v1 => ?_
  refine s_sipush hS dX10_puts_4 (by decide +kernel) ?_
  refine s_aload_n hS dX10_puts_7 rfl 0 rfl ?_
  refine gf_X10_145 hS dX10_puts_8 fun v2 => ?_
  refine s_imul hS dX10_puts_11 ?_
  refine s_aload_n hS dX10_puts_12 rfl 0 rfl ?_
  refine gf_X10_17 hS dX10_puts_13 fun v3 => ?_
  refine s_aload_n hS dX10_puts_16 rfl 0 rfl ?_
  refine gf_X10_145 hS dX10_puts_17 fun v4 => ?_
  refine s_iald hS dX10_puts_20 fun v5 => ?_
  refine s_iadd hS dX10_puts_21 ?_
  refine s_iload_n hS dX10_puts_22 rfl 1 rfl ?_
  refine s_bipush hS dX10_puts_23 (by decide +kernel) ?_
  refine s_iload_n hS dX10_puts_25 rfl 2 rfl ?_
  refine s_imul hS dX10_puts_26 ?_
  refine s_iadd hS dX10_puts_27 ?_
  refine s_iast hS dX10_puts_28 fun h6 => ?_
  refine s_aload_n hS dX10_puts_29 rfl 0 rfl ?_
  refine gf_X10_17 hS dX10_puts_30 fun v7 => ?_
  refine s_aload_n hS dX10_puts_33 rfl 0 rfl ?_
  refine gf_X10_145 hS dX10_puts_34 fun v8 => ?_
  refine s_dup2 hS dX10_puts_37 (by decide) (by decide) ?_
  refine s_iald hS dX10_puts_38 fun v9 => ?_
  refine s_iconst hS dX10_puts_39 ?_
  refine s_iadd hS dX10_puts_40 ?_
  refine s_iast hS dX10_puts_41 fun h10 => ?_
  exact s_vret hS rfl (Nat.le_of_ble_eq_true rfl) (Nat.le_of_ble_eq_true rfl) dX10_puts_42
theorem c_M_puts (l : Launch) (G : GE) (z0 z1 z2 : Int) (h : AH) : Con l yX10_puts cX10_puts 3 none 0 0 0 0 G [(2, z0), (0, z1), (0, z2)] h (f_M_puts z0 z1 z2 h) :=
  con_of (by decide +kernel) (Nat.le_of_ble_eq_true rfl) fun X hX hS hi => b_M_puts hS z0 z1 z2 h
