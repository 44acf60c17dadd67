theorem ca_X1_90 {S : SX} {cc : ByteArray} {pc : Nat} {ls : List (Nat × Nat × Int)} {st : List (Nat × Int)} {k n : Nat} {h : AH} {b : Int} {f : Int → AH → Option (Int × AH)} (hS : SO S RX1 cc) (hR : 2 + 1 ≤ S.2.2.2.2.2.2.1 ∧ 8 + (1 + 11) + 44 ≤ S.2.2.2.2.2.2.2) (hk : k + 0 ≤ S.2.2.2.1 ∧ n + 0 ≤ S.2.2.2.2.1) (hl : st.length ≤ 4) (d : decode cc pc = .ok (.invokevirtual 90, 3)) (kk : ∀ (r : Int) (h2 : AH), Sim S (pc + 3) ls (st) (k + 0) (n + 0) h2 (f r h2)) : Sim S pc ls ((2, b) :: st) k n h (c_k h 6 b (bd_ (f_S_clear b h) f)) := s_callV hS mo_X5_clear rfl rfl (c_S_clear _ _ _ h) tw_589 tw_590 tw_591 hR hk rfl rfl hl d kk
theorem pf_X1_95 {S : SX} {cc : ByteArray} {pc : Nat} {ls : List (Nat × Nat × Int)} {st : List (Nat × Int)} {k n : Nat} {h : AH} {a v : Int} {f : AH → Option (Int × AH)} (hS : SO S RX1 cc) (d : decode cc pc = .ok (.putfield 95, 3)) (kk : ∀ h2 : AH, Sim S (pc + 3) ls st k n h2 (f h2)) : Sim S pc ls ((0, v) :: (2, a) :: st) k n h ((s_f h 6 a 7 v).bind f) := s_putf hS cx_5 7 (by decide) tw_300 rfl rfl (Or.inl rfl) rfl rfl d kk
theorem gf_X1_96 {S : SX} {cc : ByteArray} {pc : Nat} {ls : List (Nat × Nat × Int)} {st : List (Nat × Int)} {k n : Nat} {h : AH} {a : Int} {f : Int → Option (Int × AH)} (hS : SO S RX1 cc) (d : decode cc pc = .ok (.getfield 96, 3)) (kk : ∀ v : Int, Sim S (pc + 3) ls ((2, v) :: st) k n h (f v)) : Sim S pc ls ((2, a) :: st) k n h ((g_f h 6 a 0).bind f) := s_getf hS cx_5 0 (by decide) tw_288 rfl rfl rfl d kk
theorem pf_X1_100 {S : SX} {cc : ByteArray} {pc : Nat} {ls : List (Nat × Nat × Int)} {st : List (Nat × Int)} {k n : Nat} {h : AH} {a v : Int} {f : AH → Option (Int × AH)} (hS : SO S RX1 cc) (d : decode cc pc = .ok (.putfield 100, 3)) (kk : ∀ h2 : AH, Sim S (pc + 3) ls st k n h2 (f h2)) : Sim S pc ls ((0, v) :: (2, a) :: st) k n h ((s_f h 8 a 4 v).bind f) := s_putf hS cx_7 4 (by decide) tw_260 rfl rfl (Or.inl rfl) rfl rfl d kk
theorem gf_X1_103 {S : SX} {cc : ByteArray} {pc : Nat} {ls : List (Nat × Nat × Int)} {st : List (Nat × Int)} {k n : Nat} {h : AH} {a : Int} {f : Int → Option (Int × AH)} (hS : SO S RX1 cc) (d : decode cc pc = .ok (.getfield 103, 3)) (kk : ∀ v : Int, Sim S (pc + 3) ls ((2, v) :: st) k n h (f v)) : Sim S pc ls ((2, a) :: st) k n h ((g_f h 6 a 1).bind f) := s_getf hS cx_5 1 (by decide) tw_291 rfl rfl rfl d kk
theorem ca_X1_106 {S : SX} {cc : ByteArray} {pc : Nat} {ls : List (Nat × Nat × Int)} {st : List (Nat × Int)} {k n : Nat} {h : AH} {q0 : Int} {f : Int → AH → Option (Int × AH)} (hS : SO S RX1 cc) (hR : 0 + 1 ≤ S.2.2.2.2.2.2.1 ∧ 8 + (2 + 11) + 0 ≤ S.2.2.2.2.2.2.2) (hk : k + 0 ≤ S.2.2.2.1 ∧ n + 0 ≤ S.2.2.2.2.1) (hl : st.length ≤ 4) (d : decode cc pc = .ok (.invokestatic 106, 3)) (kk : ∀ (r : Int) (h2 : AH), Sim S (pc + 3) ls ((0, r) :: st) (k + 0) (n + 0) h2 (f r h2)) : Sim S pc ls ((1, q0) :: st) k n h (bd_ (f_J13_bitCount_95d88 q0 h) f) := s_callS hS mo_J13_bitCount_95d88 (c_J13_bitCount_95d88 _ _ _ h) tw_602 tw_603 hR hk rfl rfl hl d kk
theorem gf_X1_112 {S : SX} {cc : ByteArray} {pc : Nat} {ls : List (Nat × Nat × Int)} {st : List (Nat × Int)} {k n : Nat} {h : AH} {a : Int} {f : Int → Option (Int × AH)} (hS : SO S RX1 cc) (d : decode cc pc = .ok (.getfield 112, 3)) (kk : ∀ v : Int, Sim S (pc + 3) ls ((2, v) :: st) k n h (f v)) : Sim S pc ls ((2, a) :: st) k n h ((g_f h 8 a 3).bind f) := s_getf hS cx_7 3 (by decide) tw_256 rfl rfl rfl d kk
theorem ca_X1_115 {S : SX} {cc : ByteArray} {pc : Nat} {ls : List (Nat × Nat × Int)} {st : List (Nat × Int)} {k n : Nat} {h : AH} {q0 q1 q2 b : Int} {f : Int → AH → Option (Int × AH)} (hS : SO S RX1 cc) (hR : 1 + 1 ≤ S.2.2.2.2.2.2.1 ∧ 8 + (4 + 11) + 24 ≤ S.2.2.2.2.2.2.2) (hk : k + 0 ≤ S.2.2.2.1 ∧ n + 0 ≤ S.2.2.2.2.1) (hl : st.length ≤ 4) (d : decode cc pc = .ok (.invokevirtual 115, 3)) (kk : ∀ (r : Int) (h2 : AH), Sim S (pc + 3) ls (st) (k + 0) (n + 0) h2 (f r h2)) : Sim S pc ls ((0, q2) :: (0, q1) :: (0, q0) :: (2, b) :: st) k n h (c_k h 6 b (bd_ (f_S_put b q0 q1 q2 h) f)) := s_callV hS mo_X5_put rfl rfl (c_S_put _ _ _ _ _ _ h) tw_608 tw_609 tw_610 hR hk rfl rfl hl d kk
abbrev S_E_fill (G : GE) (X : SMw) : SX := (G, X, 4, 0, 0, none, 3, 64)
set_option maxRecDepth 100000 in
set_option maxHeartbeats 4000000 in
theorem b_E_fill_109 {G : GE} {X : SMw} (hS : SO (S_E_fill G X) RX1 cX1_fill) (z0 z1 z2 : Int) {k25 : Int → AH → Option (Int × AH)} (hk25 : ∀ (z2 : Int) (h : AH), Sim (S_E_fill G X) 25 [(0, 2, z0), (1, 2, z1), (2, 0, z2)] [] 0 0 h (k25 z2 h)) {k65 : Int → AH → Option (Int × AH)} (hk65 : ∀ (z3 : Int) (h : AH), Sim (S_E_fill G X) 65 [(0, 2, z0), (1, 2, z1), (2, 0, z2), (3, 0, z3)] [] 0 0 h (k65 z3 h)) (z3 w0 w1 w2 w3 : Int) (h : AH) : Sim (S_E_fill G X) 109 [(0, 2, z0), (1, 2, z1), (2, 0, z2), (3, 0, z3)] [(0, w3), (0, w2), (0, w1), (2, w0)] 0 0 h (f_E_fill_109 k25 k65 z0 z1 z2 z3 w0 w1 w2 w3 h) := by
  unfold f_E_fill_109
  refine ca_X1_115 hS ⟨Nat.le_of_ble_eq_true rfl, Nat.le_of_ble_eq_true rfl⟩ ⟨Nat.le_of_ble_eq_true rfl, Nat.le_of_ble_eq_true rfl⟩ (Nat.le_of_ble_eq_true rfl) dX1_fill_109 fun v1 h2 => ?_
  refine s_iinc hS dX1_fill_112 3 rfl (Nat.le_of_ble_eq_true rfl) (ls' := [(3, 0, (z3 + 1)), (0, 2, z0), (1, 2, z1), (2, 0, z2)]) rfl ?_
  refine s_goto hS dX1_fill_115 rfl ?_
  refine s_ls [1, 2, 3, 0] rfl ?_
  exact hk65 _ _
set_option maxRecDepth 100000 in
set_option maxHeartbeats 4000000 in
theorem B_E_fill_65 {G : GE} {X : SMw} (hS : SO (S_E_fill G X) RX1 cX1_fill) (z0 z1 z2 : Int) {k25 : Int → AH → Option (Int × AH)} (hk25 : ∀ (z2 : Int) (h : AH), Sim (S_E_fill G X) 25 [(0, 2, z0), (1, 2, z1), (2, 0, z2)] [] 0 0 h (k25 z2 h)) {k65 : Int → AH → Option (Int × AH)} (hk65 : ∀ (z3 : Int) (h : AH), Sim (S_E_fill G X) 65 [(0, 2, z0), (1, 2, z1), (2, 0, z2), (3, 0, z3)] [] 0 0 h (k65 z3 h)) (z3 : Int) (h : AH) : Sim (S_E_fill G X) 65 [(0, 2, z0), (1, 2, z1), (2, 0, z2), (3, 0, z3)] [] 0 0 h (F_E_fill_65 k25 z0 z1 z2 k65 z3 h) := by
  unfold F_E_fill_65
  refine s_iload_n hS dX1_fill_65 rfl 3 rfl ?_
  refine s_aload_n hS dX1_fill_66 rfl 0 rfl ?_
  refine gf_X1_74 hS dX1_fill_67 fun v1 => ?_
  refine s_icmp_ge hS dX1_fill_70 rfl ?_ ?_
  · refine s_iinc hS dX1_fill_118 2 rfl (Nat.le_of_ble_eq_true rfl) (ls' := [(2, 0, (z2 + 1)), (0, 2, z0), (1, 2, z1), (3, 0, z3)]) rfl ?_
    refine s_goto hS dX1_fill_121 rfl ?_
    refine s_ls [1, 2, 0] rfl ?_
    exact hk25 _ _
  · refine s_aload_n hS dX1_fill_73 rfl 0 rfl ?_
    refine gf_X1_9 hS dX1_fill_74 fun v2 => ?_
    refine s_iload_n hS dX1_fill_77 rfl 2 rfl ?_
    refine s_lald hS dX1_fill_78 fun v3 => ?_
    refine s_iload_n hS dX1_fill_79 rfl 3 rfl ?_
    refine s_lushr hS dX1_fill_80 ?_
    refine s_lconst1 hS dX1_fill_81 ?_
    refine s_land hS dX1_fill_82 ?_
    refine s_lconst0 hS dX1_fill_83 ?_
    refine s_lcmp hS dX1_fill_84 ?_
    refine s_if_eq hS dX1_fill_85 rfl ?_ ?_
    · refine s_iinc hS dX1_fill_112 3 rfl (Nat.le_of_ble_eq_true rfl) (ls' := [(3, 0, (z3 + 1)), (0, 2, z0), (1, 2, z1), (2, 0, z2)]) rfl ?_
      refine s_goto hS dX1_fill_115 rfl ?_
      refine s_ls [1, 2, 3, 0] rfl ?_
      exact hk65 _ _
    · refine s_aload_n hS dX1_fill_88 rfl 1 rfl ?_
      refine s_iload_n hS dX1_fill_89 rfl 3 rfl ?_
      refine s_iload_n hS dX1_fill_90 rfl 2 rfl ?_
      refine s_aload_n hS dX1_fill_91 rfl 0 rfl ?_
      refine gf_X1_38 hS dX1_fill_92 fun v4 => ?_
      refine s_iload_n hS dX1_fill_95 rfl 3 rfl ?_
      refine s_lushr hS dX1_fill_96 ?_
      refine s_lconst1 hS dX1_fill_97 ?_
      refine s_land hS dX1_fill_98 ?_
      refine s_lconst0 hS dX1_fill_99 ?_
      refine s_lcmp hS dX1_fill_100 ?_
      refine s_if_eq hS dX1_fill_101 rfl ?_ ?_
      · refine s_iconst hS dX1_fill_108 ?_
        exact b_E_fill_109 hS _ _ _ hk25 hk65 _ _ _ _ _ _
      · refine s_iconst hS dX1_fill_104 ?_
        refine s_goto hS dX1_fill_105 rfl ?_
        exact b_E_fill_109 hS _ _ _ hk25 hk65 _ _ _ _ _ _
set_option maxRecDepth 100000 in
set_option maxHeartbeats 4000000 in
theorem b_E_fill_65 {G : GE} {X : SMw} (hS : SO (S_E_fill G X) RX1 cX1_fill) (z0 z1 z2 : Int) {k25 : Int → AH → Option (Int × AH)} (hk25 : ∀ (z2 : Int) (h : AH), Sim (S_E_fill G X) 25 [(0, 2, z0), (1, 2, z1), (2, 0, z2)] [] 0 0 h (k25 z2 h)) (z3 : Int) (h : AH) : Sim (S_E_fill G X) 65 [(0, 2, z0), (1, 2, z1), (2, 0, z2), (3, 0, z3)] [] 0 0 h (f_E_fill_65 k25 z0 z1 z2 z3 h) := by
  exact s_loop (S := (S_E_fill G X)) (lsf := fun s : Int × AH => [(0, 2, z0), (1, 2, z1), (2, 0, z2), (3, 0, s.1)]) (hf := fun s => s.2) (fun kf hkf s => B_E_fill_65 hS z0 z1 z2 hk25 (fun a0 a1 => hkf (a0, a1)) s.1 s.2) fu_ (z3, h)
set_option maxRecDepth 100000 in
set_option maxHeartbeats 4000000 in
theorem B_E_fill_25 {G : GE} {X : SMw} (hS : SO (S_E_fill G X) RX1 cX1_fill) (z0 z1 : Int) {k25 : Int → AH → Option (Int × AH)} (hk25 : ∀ (z2 : Int) (h : AH), Sim (S_E_fill G X) 25 [(0, 2, z0), (1, 2, z1), (2, 0, z2)] [] 0 0 h (k25 z2 h)) (z2 : Int) (h : AH) : Sim (S_E_fill G X) 25 [(0, 2, z0), (1, 2, z1), (2, 0, z2)] [] 0 0 h (F_E_fill_25 z0 z1 k25 z2 h) := by
  unfold F_E_fill_25
  refine s_iload_n hS dX1_fill_25 rfl 2 rfl ?_
  refine s_aload_n hS dX1_fill_26 rfl 0 rfl ?_
  refine gf_X1_41 hS dX1_fill_27 fun v1 => ?_
  refine s_icmp_ge hS dX1_fill_30 rfl ?_ ?_
  · exact s_vret hS rfl (Nat.le_of_ble_eq_true rfl) (Nat.le_of_ble_eq_true rfl) dX1_fill_124
  · refine s_aload_n hS dX1_fill_33 rfl 1 rfl ?_
    refine gf_X1_103 hS dX1_fill_34 fun v2 => ?_
    refine s_iload_n hS dX1_fill_37 rfl 2 rfl ?_
    refine s_aload_n hS dX1_fill_38 rfl 0 rfl ?_
    refine gf_X1_9 hS dX1_fill_39 fun v3 => ?_
    refine s_iload_n hS dX1_fill_42 rfl 2 rfl ?_
    refine s_lald hS dX1_fill_43 fun v4 => ?_
    refine ca_X1_106 hS ⟨Nat.le_of_ble_eq_true rfl, Nat.le_of_ble_eq_true rfl⟩ ⟨Nat.le_of_ble_eq_true rfl, Nat.le_of_ble_eq_true rfl⟩ (Nat.le_of_ble_eq_true rfl) dX1_fill_44 fun v5 h6 => ?_
    refine s_iast hS dX1_fill_47 fun h7 => ?_
    refine s_aload_n hS dX1_fill_48 rfl 1 rfl ?_
    refine gf_X1_96 hS dX1_fill_49 fun v8 => ?_
    refine gf_X1_112 hS dX1_fill_52 fun v9 => ?_
    refine s_iload_n hS dX1_fill_55 rfl 2 rfl ?_
    refine s_aload_n hS dX1_fill_56 rfl 0 rfl ?_
    refine gf_X1_15 hS dX1_fill_57 fun v10 => ?_
    refine s_iload_n hS dX1_fill_60 rfl 2 rfl ?_
    refine s_iald hS dX1_fill_61 fun v11 => ?_
    refine s_iast hS dX1_fill_62 fun h12 => ?_
    refine s_iconst hS dX1_fill_63 ?_
    refine s_istore_n hS dX1_fill_64 rfl (Nat.le_of_ble_eq_true rfl) (ls' := [(3, 0, 0), (0, 2, z0), (1, 2, z1), (2, 0, z2)]) rfl ?_
    refine s_ls [1, 2, 3, 0] rfl ?_
    exact b_E_fill_65 hS _ _ _ hk25 _ _
set_option maxRecDepth 100000 in
set_option maxHeartbeats 4000000 in
theorem b_E_fill_25 {G : GE} {X : SMw} (hS : SO (S_E_fill G X) RX1 cX1_fill) (z0 z1 : Int) (z2 : Int) (h : AH) : Sim (S_E_fill G X) 25 [(0, 2, z0), (1, 2, z1), (2, 0, z2)] [] 0 0 h (f_E_fill_25 z0 z1 z2 h) := by
  exact s_loop (S := (S_E_fill G X)) (lsf := fun s : Int × AH => [(0, 2, z0), (1, 2, z1), (2, 0, s.1)]) (hf := fun s => s.2) (fun kf hkf s => B_E_fill_25 hS z0 z1 (fun a0 a1 => hkf (a0, a1)) s.1 s.2) fu_ (z2, h)
set_option maxRecDepth 100000 in
set_option maxHeartbeats 4000000 in
theorem b_E_fill {G : GE} {X : SMw} (hS : SO (S_E_fill G X) RX1 cX1_fill) (z0 z1 : Int) (h : AH) : Sim (S_E_fill G X) 0 [(0, 2, z0), (1, 2, z1)] [] 0 0 h (f_E_fill z0 z1 h) := by
  unfold f_E_fill
  refine s_aload_n hS dX1_fill_0 rfl 1 rfl ?_
  refine ca_X1_90 hS ⟨Nat.le_of_ble_eq_true rfl, Nat.le_of_ble_eq_true rfl⟩ ⟨Nat.le_of_ble_eq_true rfl, Nat.le_of_ble_eq_true rfl⟩ (Nat.le_of_ble_eq_true rfl) dX1_fill_1 fun v1 h2 => ?_
  refine s_aload_n hS dX1_fill_4 rfl 1 rfl ?_
  refine s_aload_n hS dX1_fill_5 rfl 0 rfl ?_
  refine gf_X1_74 hS dX1_fill_6 fun v3 => ?_
  refine pf_X1_95 hS dX1_fill_9 fun h4 => ?_
  refine s_aload_n hS dX1_fill_12 rfl 1 rfl ?_
  refine gf_X1_96 hS dX1_fill_13 fun v5 => ?_
  refine s_aload_n hS dX1_fill_16 rfl 0 rfl ?_
  refine gf_X1_41 hS dX1_fill_17 fun v6 => ?_
  refine pf_X1_100 hS dX1_fill_20 fun h7 => ?_
  refine s_iconst hS dX1_fill_23 ?_
  refine s_istore_n hS dX1_fill_24 rfl (Nat.le_of_ble_eq_true rfl) (ls' := [(2, 0, 0), (0, 2, z0), (1, 2, z1)]) rfl ?_
  refine s_ls [1, 2, 0] rfl ?_
  exact b_E_fill_25 hS _ _ _ _
theorem c_E_fill (l : Launch) (G : GE) (z0 z1 : Int) (h : AH) : Con l yX1_fill cX1_fill 4 none 3 64 0 0 G [(2, z0), (2, z1)] h (f_E_fill z0 z1 h) :=
  con_of (by decide +kernel) (Nat.le_of_ble_eq_true rfl) fun X hX hS hi => b_E_fill hS z0 z1 h
theorem pf_X2_11 {S : SX} {cc : ByteArray} {pc : Nat} {ls : List (Nat × Nat × Int)} {st : List (Nat × Int)} {k n : Nat} {h : AH} {a v : Int} {f : AH → Option (Int × AH)} (hS : SO S RX2 cc) (hi : S.2.1.2.2.2.2.2.2.2.2.1.name = "<init>") (d : decode cc pc = .ok (.putfield 11, 3)) (kk : ∀ h2 : AH, Sim S (pc + 3) ls st k n h2 (f h2)) : Sim S pc ls ((2, v) :: (2, a) :: st) k n h ((s_f h 3 a 0 v).bind f) := s_putF hS hi cx_2 0 (by decide) tw_371 rfl rfl rfl (Or.inr (Or.inr (Or.inr ⟨_, rfl⟩))) rfl rfl d kk
abbrev S_H_init (G : GE) (X : SMw) : SX := (G, X, 1, 1, 20, none, 1, 20)
set_option maxRecDepth 100000 in
set_option maxHeartbeats 4000000 in
theorem b_H_init {G : GE} {X : SMw} (hS : SO (S_H_init G X) RX2 cX2_init) (hi : X.2.2.2.2.2.2.2.2.1.name = "<init>") (z0 : Int) (h : AH) : Sim (S_H_init G X) 0 [(0, 2, z0)] [] 0 0 h (f_H_init z0 h) := by
  unfold f_H_init
  refine s_aload_n hS dX2_init_0 rfl 0 rfl ?_
  refine s_obj hS (by decide) tw_368 tw_145 tw_146 ⟨Nat.le_of_ble_eq_true rfl, Nat.le_of_ble_eq_true rfl⟩ (Nat.le_of_ble_eq_true rfl) dX2_init_1 ?_
  refine s_aload_n hS dX2_init_4 rfl 0 rfl ?_
  refine s_bipush hS dX2_init_5 (by decide +kernel) ?_
  refine s_newqb hS (M := 20) rfl (by decide) (by decide) rfl (by decide) ao_26 tw_369 (Nat.le_of_ble_eq_true rfl) (Nat.le_of_ble_eq_true rfl) dX2_init_7 fun x2 h1 => ?_
  refine pf_X2_11 hS hi dX2_init_10 fun h3 => ?_
  exact s_vret hS rfl (Nat.le_of_ble_eq_true rfl) (Nat.le_of_ble_eq_true rfl) dX2_init_13
theorem c_H_init (l : Launch) (G : GE) (z0 : Int) (h : AH) : Con l yX2_init cX2_init 1 none 1 20 1 20 G [(2, z0)] h (f_H_init z0 h) :=
  con_of (by decide +kernel) (Nat.le_of_ble_eq_true rfl) fun X hX hS hi => b_H_init hS hi z0 h
theorem gf_X2_17 {S : SX} {cc : ByteArray} {pc : Nat} {ls : List (Nat × Nat × Int)} {st : List (Nat × Int)} {k n : Nat} {h : AH} {a : Int} {f : Int → Option (Int × AH)} (hS : SO S RX2 cc) (d : decode cc pc = .ok (.getfield 17, 3)) (kk : ∀ v : Int, Sim S (pc + 3) ls ((0, v) :: st) k n h (f v)) : Sim S pc ls ((2, a) :: st) k n h ((g_f h 3 a 1).bind f) := s_getf hS cx_2 1 (by decide) tw_372 rfl rfl rfl d kk
theorem gf_X2_21 {S : SX} {cc : ByteArray} {pc : Nat} {ls : List (Nat × Nat × Int)} {st : List (Nat × Int)} {k n : Nat} {h : AH} {a : Int} {f : Int → Option (Int × AH)} (hS : SO S RX2 cc) (d : decode cc pc = .ok (.getfield 21, 3)) (kk : ∀ v : Int, Sim S (pc + 3) ls ((0, v) :: st) k n h (f v)) : Sim S pc ls ((2, a) :: st) k n h ((g_f h 3 a 2).bind f) := s_getf hS cx_2 2 (by decide) tw_373 rfl rfl rfl d kk
theorem gf_X2_11 {S : SX} {cc : ByteArray} {pc : Nat} {ls : List (Nat × Nat × Int)} {st : List (Nat × Int)} {k n : Nat} {h : AH} {a : Int} {f : Int → Option (Int × AH)} (hS : SO S RX2 cc) (d : decode cc pc = .ok (.getfield 11, 3)) (kk : ∀ v : Int, Sim S (pc + 3) ls ((2, v) :: st) k n h (f v)) : Sim S pc ls ((2, a) :: st) k n h ((g_f h 3 a 0).bind f) := s_getf hS cx_2 0 (by decide) tw_371 rfl rfl rfl d kk
theorem ca_X2_24 {S : SX} {cc : ByteArray} {pc : Nat} {ls : List (Nat × Nat × Int)} {st : List (Nat × Int)} {k n : Nat} {h : AH} {b : Int} {f : Int → AH → Option (Int × AH)} (hS : SO S RX2 cc) (hR : 2 + 1 ≤ S.2.2.2.2.2.2.1 ∧ 8 + (1 + 11) + 40 ≤ S.2.2.2.2.2.2.2) (hk : k + 11 ≤ S.2.2.2.1 ∧ n + 253 ≤ S.2.2.2.2.1) (hl : st.length ≤ 4) (d : decode cc pc = .ok (.invokespecial 24, 3)) (kk : ∀ (r : Int) (h2 : AH), Sim S (pc + 3) ls (st) (k + 11) (n + 253) h2 (f r h2)) : Sim S pc ls ((2, b) :: st) k n h (c_k h 6 b (bd_ (f_S_init b h) f)) := s_callI hS mo_X5_init rfl (c_S_init _ _ _ h) (by decide) tw_811 tw_236 hR hk rfl rfl hl d kk
theorem ca_X2_25 {S : SX} {cc : ByteArray} {pc : Nat} {ls : List (Nat × Nat × Int)} {st : List (Nat × Int)} {k n : Nat} {h : AH} {q0 b : Int} {f : Int → AH → Option (Int × AH)} (hS : SO S RX2 cc) (hR : 1 + 1 ≤ S.2.2.2.2.2.2.1 ∧ 8 + (2 + 11) + 60 ≤ S.2.2.2.2.2.2.2) (hk : k + 0 ≤ S.2.2.2.1 ∧ n + 0 ≤ S.2.2.2.2.1) (hl : st.length ≤ 4) (d : decode cc pc = .ok (.invokevirtual 25, 3)) (kk : ∀ (r : Int) (h2 : AH), Sim S (pc + 3) ls (st) (k + 0) (n + 0) h2 (f r h2)) : Sim S pc ls ((2, q0) :: (2, b) :: st) k n h (c_k h 6 b (bd_ (f_S_copyFrom b q0 h) f)) := s_callV hS mo_X5_copyFrom rfl rfl (c_S_copyFrom _ _ _ _ h) tw_812 tw_813 tw_814 hR hk rfl rfl hl d kk
theorem pf_X2_17 {S : SX} {cc : ByteArray} {pc : Nat} {ls : List (Nat × Nat × Int)} {st : List (Nat × Int)} {k n : Nat} {h : AH} {a v : Int} {f : AH → Option (Int × AH)} (hS : SO S RX2 cc) (d : decode cc pc = .ok (.putfield 17, 3)) (kk : ∀ h2 : AH, Sim S (pc + 3) ls st k n h2 (f h2)) : Sim S pc ls ((0, v) :: (2, a) :: st) k n h ((s_f h 3 a 1 v).bind f) := s_putf hS cx_2 1 (by decide) tw_372 rfl rfl (Or.inl rfl) rfl rfl d kk
theorem pf_X2_21 {S : SX} {cc : ByteArray} {pc : Nat} {ls : List (Nat × Nat × Int)} {st : List (Nat × Int)} {k n : Nat} {h : AH} {a v : Int} {f : AH → Option (Int × AH)} (hS : SO S RX2 cc) (d : decode cc pc = .ok (.putfield 21, 3)) (kk : ∀ h2 : AH, Sim S (pc + 3) ls st k n h2 (f h2)) : Sim S pc ls ((0, v) :: (2, a) :: st) k n h ((s_f h 3 a 2 v).bind f) := s_putf hS cx_2 2 (by decide) tw_373 rfl rfl (Or.inl rfl) rfl rfl d kk
abbrev S_H_keep (G : GE) (X : SMw) : SX := (G, X, 3, 12, 263, none, 3, 81)
set_option maxRecDepth 100000 in
set_option maxHeartbeats 4000000 in
theorem b_H_keep_35 {G : GE} {X : SMw} (hS : SO (S_H_keep G X) RX2 cX2_keep) (z0 z1 z2 : Int) (h : AH) : Sim (S_H_keep G X) 35 [(0, 2, z0), (1, 2, z1), (2, 0, z2)] [] 12 263 h (f_H_keep_35 z0 z1 z2 h) := by
  unfold f_H_keep_35
  refine s_aload_n hS dX2_keep_35 rfl 0 rfl ?_
  refine gf_X2_11 hS dX2_keep_36 fun v1 => ?_
  refine s_iload_n hS dX2_keep_39 rfl 2 rfl ?_
  refine s_aald hS (by decide) (by decide) dX2_keep_40 fun v2 => ?_
  refine s_aload_n hS dX2_keep_41 rfl 1 rfl ?_
  refine ca_X2_25 hS ⟨Nat.le_of_ble_eq_true rfl, Nat.le_of_ble_eq_true rfl⟩ ⟨Nat.le_of_ble_eq_true rfl, Nat.le_of_ble_eq_true rfl⟩ (Nat.le_of_ble_eq_true rfl) dX2_keep_42 fun v3 h4 => ?_
  refine s_aload_n hS dX2_keep_45 rfl 0 rfl ?_
  refine gf_X2_21 hS dX2_keep_46 fun v5 => ?_
  refine s_bipush hS dX2_keep_49 (by decide +kernel) ?_
  refine s_icmp_ge hS dX2_keep_51 rfl ?_ ?_
  · refine s_aload_n hS dX2_keep_67 rfl 0 rfl ?_
    refine s_aload_n hS dX2_keep_68 rfl 0 rfl ?_
    refine gf_X2_17 hS dX2_keep_69 fun v6 => ?_
    refine s_iconst hS dX2_keep_72 ?_
    refine s_iadd hS dX2_keep_73 ?_
    refine s_bipush hS dX2_keep_74 (by decide +kernel) ?_
    refine s_irem hS dX2_keep_76 fun v7 => ?_
    refine pf_X2_17 hS dX2_keep_77 fun h8 => ?_
    exact s_vret hS rfl (Nat.le_of_ble_eq_true rfl) (Nat.le_of_ble_eq_true rfl) dX2_keep_80
  · refine s_aload_n hS dX2_keep_54 rfl 0 rfl ?_
    refine s_dup hS dX2_keep_55 (by decide) ?_
    refine gf_X2_21 hS dX2_keep_56 fun v9 => ?_
    refine s_iconst hS dX2_keep_59 ?_
    refine s_iadd hS dX2_keep_60 ?_
    refine pf_X2_21 hS dX2_keep_61 fun h10 => ?_
    refine s_goto hS dX2_keep_64 rfl ?_
    exact s_vret hS rfl (Nat.le_of_ble_eq_true rfl) (Nat.le_of_ble_eq_true rfl) dX2_keep_80
set_option maxRecDepth 100000 in
set_option maxHeartbeats 4000000 in
theorem b_H_keep {G : GE} {X : SMw} (hS : SO (S_H_keep G X) RX2 cX2_keep) (z0 z1 : Int) (h : AH) : Sim (S_H_keep G X) 0 [(0, 2, z0), (1, 2, z1)] [] 0 0 h (f_H_keep z0 z1 h) := by
  unfold f_H_keep
  refine s_aload_n hS dX2_keep_0 rfl 0 rfl ?_
  refine gf_X2_17 hS dX2_keep_1 fun v1 => ?_
  refine s_aload_n hS dX2_keep_4 rfl 0 rfl ?_
  refine gf_X2_21 hS dX2_keep_5 fun v2 => ?_
  refine s_iadd hS dX2_keep_8 ?_
  refine s_bipush hS dX2_keep_9 (by decide +kernel) ?_
  refine s_irem hS dX2_keep_11 fun v3 => ?_
  refine s_istore_n hS dX2_keep_12 rfl (Nat.le_of_ble_eq_true rfl) (ls' := [(2, 0, v3), (0, 2, z0), (1, 2, z1)]) rfl ?_
  refine s_aload_n hS dX2_keep_13 rfl 1 rfl ?_
  refine gf_X2_11 hS dX2_keep_14 fun v4 => ?_
  refine s_iload_n hS dX2_keep_17 rfl 0 rfl ?_
  refine s_aald hS (by decide) (by decide) dX2_keep_18 fun v5 => ?_
  refine s_ifnonnull hS dX2_keep_19 rfl ?_ ?_
  · refine s_wd (k' := 12) (n' := 263) (Nat.le_of_ble_eq_true rfl) (Nat.le_of_ble_eq_true rfl) ?_
    refine s_ls [1, 2, 0] rfl ?_
    exact b_H_keep_35 hS _ _ _ _
  · refine s_aload_n hS dX2_keep_22 rfl 1 rfl ?_
    refine gf_X2_11 hS dX2_keep_23 fun v6 => ?_
    refine s_iload_n hS dX2_keep_26 rfl 0 rfl ?_
    refine s_newb hS cx_5 rfl tw_369 tw_234 tw_123 (Nat.le_of_ble_eq_true rfl) (Nat.le_of_ble_eq_true rfl) dX2_keep_27 fun x8 h7 => ?_
    refine s_dup hS dX2_keep_30 (by decide) ?_
    refine ca_X2_24 hS ⟨Nat.le_of_ble_eq_true rfl, Nat.le_of_ble_eq_true rfl⟩ ⟨Nat.le_of_ble_eq_true rfl, Nat.le_of_ble_eq_true rfl⟩ (Nat.le_of_ble_eq_true rfl) dX2_keep_31 fun v9 h10 => ?_
    refine s_aast hS (ci := 5) rfl rfl rfl (by decide) (by decide) dX2_keep_34 fun h11 => ?_
    refine s_ls [1, 2, 0] rfl ?_
    exact b_H_keep_35 hS _ _ _ _
theorem c_H_keep (l : Launch) (G : GE) (z0 z1 : Int) (h : AH) : Con l yX2_keep cX2_keep 3 none 3 81 12 263 G [(2, z0), (2, z1)] h (f_H_keep z0 z1 h) :=
  con_of (by decide +kernel) (Nat.le_of_ble_eq_true rfl) fun X hX hS hi => b_H_keep hS z0 z1 h
abbrev S_H_giveBack (G : GE) (X : SMw) : SX := (G, X, 3, 0, 0, (some .boolean), 2, 81)
set_option maxRecDepth 100000 in
set_option maxHeartbeats 4000000 in
theorem b_H_giveBack {G : GE} {X : SMw} (hS : SO (S_H_giveBack G X) RX2 cX2_giveBack) (z0 z1 : Int) (h : AH) : Sim (S_H_giveBack G X) 0 [(0, 2, z0), (1, 2, z1)] [] 0 0 h (f_H_giveBack z0 z1 h) := by
  unfold f_H_giveBack
  refine s_aload_n hS dX2_giveBack_0 rfl 0 rfl ?_
  refine gf_X2_21 hS dX2_giveBack_1 fun v1 => ?_
  refine s_if_ne hS dX2_giveBack_4 rfl ?_ ?_
  · refine s_aload_n hS dX2_giveBack_9 rfl 0 rfl ?_
    refine s_dup hS dX2_giveBack_10 (by decide) ?_
    refine gf_X2_21 hS dX2_giveBack_11 fun v2 => ?_
    refine s_iconst hS dX2_giveBack_14 ?_
    refine s_isub hS dX2_giveBack_15 ?_
    refine pf_X2_21 hS dX2_giveBack_16 fun h3 => ?_
    refine s_aload_n hS dX2_giveBack_19 rfl 0 rfl ?_
    refine gf_X2_11 hS dX2_giveBack_20 fun v4 => ?_
    refine s_aload_n hS dX2_giveBack_23 rfl 0 rfl ?_
    refine gf_X2_17 hS dX2_giveBack_24 fun v5 => ?_
    refine s_aload_n hS dX2_giveBack_27 rfl 0 rfl ?_
    refine gf_X2_21 hS dX2_giveBack_28 fun v6 => ?_
    refine s_iadd hS dX2_giveBack_31 ?_
    refine s_bipush hS dX2_giveBack_32 (by decide +kernel) ?_
    refine s_irem hS dX2_giveBack_34 fun v7 => ?_
    refine s_aald hS (by decide) (by decide) dX2_giveBack_35 fun v8 => ?_
    refine s_astore_n hS dX2_giveBack_36 rfl (Nat.le_of_ble_eq_true rfl) (ls' := [(2, 2, v8), (0, 2, z0), (1, 2, z1)]) rfl ?_
    refine s_aload_n hS dX2_giveBack_37 rfl 0 rfl ?_
    refine s_ifnonnull hS dX2_giveBack_38 rfl ?_ ?_
    · refine s_aload_n hS dX2_giveBack_43 rfl 2 rfl ?_
      refine s_aload_n hS dX2_giveBack_44 rfl 0 rfl ?_
      refine ca_X2_25 hS ⟨Nat.le_of_ble_eq_true rfl, Nat.le_of_ble_eq_true rfl⟩ ⟨Nat.le_of_ble_eq_true rfl, Nat.le_of_ble_eq_true rfl⟩ (Nat.le_of_ble_eq_true rfl) dX2_giveBack_45 fun v9 h10 => ?_
      refine s_iconst hS dX2_giveBack_48 ?_
      exact s_zret hS rfl (Nat.le_of_ble_eq_true rfl) (Nat.le_of_ble_eq_true rfl) dX2_giveBack_49
    · refine s_iconst hS dX2_giveBack_41 ?_
      exact s_zret hS rfl (Nat.le_of_ble_eq_true rfl) (Nat.le_of_ble_eq_true rfl) dX2_giveBack_42
  · refine s_iconst hS dX2_giveBack_7 ?_
    exact s_zret hS rfl (Nat.le_of_ble_eq_true rfl) (Nat.le_of_ble_eq_true rfl) dX2_giveBack_8
theorem c_H_giveBack (l : Launch) (G : GE) (z0 z1 : Int) (h : AH) : Con l yX2_giveBack cX2_giveBack 3 (some .boolean) 2 81 0 0 G [(2, z0), (2, z1)] h (f_H_giveBack z0 z1 h) :=
  con_of (by decide +kernel) (Nat.le_of_ble_eq_true rfl) fun X hX hS hi => b_H_giveBack hS z0 z1 h
abbrev S_H_forget (G : GE) (X : SMw) : SX := (G, X, 1, 0, 0, none, 0, 0)
set_option maxRecDepth 100000 in
set_option maxHeartbeats 4000000 in
theorem b_H_forget {G : GE} {X : SMw} (hS : SO (S_H_forget G X) RX2 cX2_forget) (z0 : Int) (h : AH) : Sim (S_H_forget G X) 0 [(0, 2, z0)] [] 0 0 h (f_H_forget z0 h) := by
  unfold f_H_forget
  refine s_aload_n hS dX2_forget_0 rfl 0 rfl ?_
  refine s_iconst hS dX2_forget_1 ?_
  refine pf_X2_21 hS dX2_forget_2 fun h1 => ?_
  exact s_vret hS rfl (Nat.le_of_ble_eq_true rfl) (Nat.le_of_ble_eq_true rfl) dX2_forget_5
theorem c_H_forget (l : Launch) (G : GE) (z0 : Int) (h : AH) : Con l yX2_forget cX2_forget 1 none 0 0 0 0 G [(2, z0)] h (f_H_forget z0 h) :=
  con_of (by decide +kernel) (Nat.le_of_ble_eq_true rfl) fun X hX hS hi => b_H_forget hS z0 h
theorem pf_X3_9 {S : SX} {cc : ByteArray} {pc : Nat} {ls : List (Nat × Nat × Int)} {st : List (Nat × Int)} {k n : Nat} {h : AH} {a v : Int} {f : AH → Option (Int × AH)} (hS : SO S RX3 cc) (hi : S.2.1.2.2.2.2.2.2.2.2.1.name = "<init>") (d : decode cc pc = .ok (.putfield 9, 3)) (kk : ∀ h2 : AH, Sim S (pc + 3) ls st k n h2 (f h2)) : Sim S pc ls ((2, v) :: (2, a) :: st) k n h ((s_f h 4 a 1 v).bind f) := s_putF hS hi cx_3 1 (by decide) tw_721 rfl rfl rfl (Or.inr (Or.inr (Or.inr ⟨_, rfl⟩))) rfl rfl d kk
theorem pf_X3_15 {S : SX} {cc : ByteArray} {pc : Nat} {ls : List (Nat × Nat × Int)} {st : List (Nat × Int)} {k n : Nat} {h : AH} {a v : Int} {f : AH → Option (Int × AH)} (hS : SO S RX3 cc) (hi : S.2.1.2.2.2.2.2.2.2.2.1.name = "<init>") (d : decode cc pc = .ok (.putfield 15, 3)) (kk : ∀ h2 : AH, Sim S (pc + 3) ls st k n h2 (f h2)) : Sim S pc ls ((2, v) :: (2, a) :: st) k n h ((s_f h 4 a 0 v).bind f) := s_putF hS hi cx_3 0 (by decide) tw_720 rfl rfl rfl (Or.inr (Or.inr (Or.inr ⟨_, rfl⟩))) rfl rfl d kk
abbrev S_R_init (G : GE) (X : SMw) : SX := (G, X, 2, 1, 32, none, 1, 20)
set_option maxRecDepth 100000 in
set_option maxHeartbeats 4000000 in
theorem b_R_init {G : GE} {X : SMw} (hS : SO (S_R_init G X) RX3 cX3_init) (hi : X.2.2.2.2.2.2.2.2.1.name = "<init>") (z0 z1 : Int) (h : AH) : Sim (S_R_init G X) 0 [(0, 2, z0), (1, 2, z1)] [] 0 0 h (f_R_init z0 z1 h) := by
  unfold f_R_init
  refine s_aload_n hS dX3_init_0 rfl 0 rfl ?_
  refine s_obj hS (by decide) tw_719 tw_145 tw_146 ⟨Nat.le_of_ble_eq_true rfl, Nat.le_of_ble_eq_true rfl⟩ (Nat.le_of_ble_eq_true rfl) dX3_init_1 ?_
  refine s_aload_n hS dX3_init_4 rfl 0 rfl ?_
  refine s_bipush hS dX3_init_5 (by decide +kernel) ?_
  refine s_newab hS (at_ := .long) (M := 32) rfl (by decide) (by decide) rfl (by decide) tw_205 (Nat.le_of_ble_eq_true rfl) (Nat.le_of_ble_eq_true rfl) dX3_init_7 fun x2 h1 => ?_
  refine pf_X3_9 hS hi dX3_init_9 fun h3 => ?_
  refine s_aload_n hS dX3_init_12 rfl 0 rfl ?_
  refine s_aload_n hS dX3_init_13 rfl 1 rfl ?_
  refine pf_X3_15 hS hi dX3_init_14 fun h4 => ?_
  exact s_vret hS rfl (Nat.le_of_ble_eq_true rfl) (Nat.le_of_ble_eq_true rfl) dX3_init_17
theorem c_R_init (l : Launch) (G : GE) (z0 z1 : Int) (h : AH) : Con l yX3_init cX3_init 2 none 1 20 1 32 G [(2, z0), (2, z1)] h (f_R_init z0 z1 h) :=
  con_of (by decide +kernel) (Nat.le_of_ble_eq_true rfl) fun X hX hS hi => b_R_init hS hi z0 z1 h
theorem pf_X4_9 {S : SX} {cc : ByteArray} {pc : Nat} {ls : List (Nat × Nat × Int)} {st : List (Nat × Int)} {k n : Nat} {h : AH} {a v : Int} {f : AH → Option (Int × AH)} (hS : SO S RX4 cc) (hi : S.2.1.2.2.2.2.2.2.2.2.1.name = "<init>") (d : decode cc pc = .ok (.putfield 9, 3)) (kk : ∀ h2 : AH, Sim S (pc + 3) ls st k n h2 (f h2)) : Sim S pc ls ((2, v) :: (2, a) :: st) k n h ((s_f h 5 a 1 v).bind f) := s_putF hS hi cx_4 1 (by decide) tw_213 rfl rfl rfl (Or.inr (Or.inr (Or.inr ⟨_, rfl⟩))) rfl rfl d kk
theorem pf_X4_15 {S : SX} {cc : ByteArray} {pc : Nat} {ls : List (Nat × Nat × Int)} {st : List (Nat × Int)} {k n : Nat} {h : AH} {a v : Int} {f : AH → Option (Int × AH)} (hS : SO S RX4 cc) (hi : S.2.1.2.2.2.2.2.2.2.2.1.name = "<init>") (d : decode cc pc = .ok (.putfield 15, 3)) (kk : ∀ h2 : AH, Sim S (pc + 3) ls st k n h2 (f h2)) : Sim S pc ls ((2, v) :: (2, a) :: st) k n h ((s_f h 5 a 0 v).bind f) := s_putF hS hi cx_4 0 (by decide) tw_212 rfl rfl rfl (Or.inr (Or.inr (Or.inl ⟨_, rfl⟩))) rfl rfl d kk
abbrev S_D_init (G : GE) (X : SMw) : SX := (G, X, 2, 1, 400, none, 1, 20)
set_option maxRecDepth 100000 in
set_option maxHeartbeats 4000000 in
theorem b_D_init {G : GE} {X : SMw} (hS : SO (S_D_init G X) RX4 cX4_init) (hi : X.2.2.2.2.2.2.2.2.1.name = "<init>") (z0 z1 : Int) (h : AH) : Sim (S_D_init G X) 0 [(0, 2, z0), (1, 2, z1)] [] 0 0 h (f_D_init z0 z1 h) := by
  unfold f_D_init
  refine s_aload_n hS dX4_init_0 rfl 0 rfl ?_
  refine s_obj hS (by decide) tw_211 tw_145 tw_146 ⟨Nat.le_of_ble_eq_true rfl, Nat.le_of_ble_eq_true rfl⟩ (Nat.le_of_ble_eq_true rfl) dX4_init_1 ?_
  refine s_aload_n hS dX4_init_4 rfl 0 rfl ?_
  refine s_sipush hS dX4_init_5 (by decide +kernel) ?_
  refine s_newab hS (at_ := .int) (M := 400) rfl (by decide) (by decide) rfl (by decide) tw_176 (Nat.le_of_ble_eq_true rfl) (Nat.le_of_ble_eq_true rfl) dX4_init_8 fun x2 h1 => ?_
  refine pf_X4_9 hS hi dX4_init_10 fun h3 => ?_
  refine s_aload_n hS dX4_init_13 rfl 0 rfl ?_
  refine s_aload_n hS dX4_init_14 rfl 1 rfl ?_
  refine pf_X4_15 hS hi dX4_init_15 fun h4 => ?_
  exact s_vret hS rfl (Nat.le_of_ble_eq_true rfl) (Nat.le_of_ble_eq_true rfl) dX4_init_18
theorem c_D_init (l : Launch) (G : GE) (z0 z1 : Int) (h : AH) : Con l yX4_init cX4_init 2 none 1 20 1 400 G [(2, z0), (2, z1)] h (f_D_init z0 z1 h) :=
  con_of (by decide +kernel) (Nat.le_of_ble_eq_true rfl) fun X hX hS hi => b_D_init hS hi z0 z1 h
theorem gf_X4_24 {S : SX} {cc : ByteArray} {pc : Nat} {ls : List (Nat × Nat × Int)} {st : List (Nat × Int)} {k n : Nat} {h : AH} {a : Int} {f : Int → Option (Int × AH)} (hS : SO S RX4 cc) (d : decode cc pc = .ok (.getfield 24, 3)) (kk : ∀ v : Int, Sim S (pc + 3) ls ((0, v) :: st) k n h (f v)) : Sim S pc ls ((2, a) :: st) k n h ((g_f h 5 a 2).bind f) := s_getf hS cx_4 2 (by decide) tw_214 rfl rfl rfl d kk
theorem gf_X4_9 {S : SX} {cc : ByteArray} {pc : Nat} {ls : List (Nat × Nat × Int)} {st : List (Nat × Int)} {k n : Nat} {h : AH} {a : Int} {f : Int → Option (Int × AH)} (hS : SO S RX4 cc) (d : decode cc pc = .ok (.getfield 9, 3)) (kk : ∀ v : Int, Sim S (pc + 3) ls ((2, v) :: st) k n h (f v)) : Sim S pc ls ((2, a) :: st) k n h ((g_f h 5 a 1).bind f) := s_getf hS cx_4 1 (by decide) tw_213 rfl rfl rfl d kk
theorem pf_X4_24 {S : SX} {cc : ByteArray} {pc : Nat} {ls : List (Nat × Nat × Int)} {st : List (Nat × Int)} {k n : Nat} {h : AH} {a v : Int} {f : AH → Option (Int × AH)} (hS : SO S RX4 cc) (d : decode cc pc = .ok (.putfield 24, 3)) (kk : ∀ h2 : AH, Sim S (pc + 3) ls st k n h2 (f h2)) : Sim S pc ls ((0, v) :: (2, a) :: st) k n h ((s_f h 5 a 2 v).bind f) := s_putf hS cx_4 2 (by decide) tw_214 rfl rfl (Or.inl rfl) rfl rfl d kk
abbrev S_D_addCode (G : GE) (X : SMw) : SX := (G, X, 3, 0, 0, none, 0, 0)
set_option maxRecDepth 100000 in
set_option maxHeartbeats 4000000 in
theorem b_D_addCode {G : GE} {X : SMw} (hS : SO (S_D_addCode G X) RX4 cX4_addCode) (z0 z1 z2 : Int) (h : AH) : Sim (S_D_addCode G X) 0 [(0, 2, z0), (1, 0, z1), (2, 0, z2)] [] 0 0 h (f_D_addCode z0 z1 z2 h) := by
  unfold f_D_addCode
  refine s_aload_n hS dX4_addCode_0 rfl 0 rfl ?_
  refine gf_X4_24 hS dX4_addCode_1 fun v1 => ?_
  refine s_aload_n hS dX4_addCode_4 rfl 0 rfl ?_
  refine gf_X4_9 hS dX4_addCode_5 fun v2 => ?_
  refine s_alen hS (by decide) (by decide) dX4_addCode_8 fun v3 => ?_
  refine s_icmp_ge hS dX4_addCode_9 rfl ?_ ?_
  · exact s_vret hS rfl (Nat.le_of_ble_eq_true rfl) (Nat.le_of_ble_eq_true rfl) dX4_addCode_36
  · refine s_aload_n hS dX4_addCode_12 rfl 0 rfl ?_
    refine gf_X4_9 hS dX4_addCode_13 fun v4 => ?_
    refine s_aload_n hS dX4_addCode_16 rfl 0 rfl ?_
    refine gf_X4_24 hS dX4_addCode_17 fun v5 => ?_
    refine s_iload_n hS dX4_addCode_20 rfl 1 rfl ?_
    refine s_iload_n hS dX4_addCode_21 rfl 2 rfl ?_
    refine s_iconst hS dX4_addCode_22 ?_
    refine s_ishl hS dX4_addCode_23 ?_
    refine s_ior hS dX4_addCode_24 ?_
    refine s_iast hS dX4_addCode_25 fun h6 => ?_
    refine s_aload_n hS dX4_addCode_26 rfl 0 rfl ?_
    refine s_dup hS dX4_addCode_27 (by decide) ?_
    refine gf_X4_24 hS dX4_addCode_28 fun v7 => ?_
    refine s_iconst hS dX4_addCode_31 ?_
    refine s_iadd hS dX4_addCode_32 ?_
    refine pf_X4_24 hS dX4_addCode_33 fun h8 => ?_
    exact s_vret hS rfl (Nat.le_of_ble_eq_true rfl) (Nat.le_of_ble_eq_true rfl) dX4_addCode_36
theorem c_D_addCode (l : Launch) (G : GE) (z0 z1 z2 : Int) (h : AH) : Con l yX4_addCode cX4_addCode 3 none 0 0 0 0 G [(2, z0), (0, z1), (0, z2)] h (f_D_addCode z0 z1 z2 h) :=
  con_of (by decide +kernel) (Nat.le_of_ble_eq_true rfl) fun X hX hS hi => b_D_addCode hS z0 z1 z2 h
theorem gf_X4_28 {S : SX} {cc : ByteArray} {pc : Nat} {ls : List (Nat × Nat × Int)} {st : List (Nat × Int)} {k n : Nat} {h : AH} {a : Int} {f : Int → Option (Int × AH)} (hS : SO S RX4 cc) (d : decode cc pc = .ok (.getfield 28, 3)) (kk : ∀ v : Int, Sim S (pc + 3) ls ((0, v) :: st) k n h (f v)) : Sim S pc ls ((2, a) :: st) k n h ((g_f h 5 a 3).bind f) := s_getf hS cx_4 3 (by decide) tw_215 rfl rfl rfl d kk
theorem pf_X4_28 {S : SX} {cc : ByteArray} {pc : Nat} {ls : List (Nat × Nat × Int)} {st : List (Nat × Int)} {k n : Nat} {h : AH} {a v : Int} {f : AH → Option (Int × AH)} (hS : SO S RX4 cc) (d : decode cc pc = .ok (.putfield 28, 3)) (kk : ∀ h2 : AH, Sim S (pc + 3) ls st k n h2 (f h2)) : Sim S pc ls ((0, v) :: (2, a) :: st) k n h ((s_f h 5 a 3 v).bind f) := s_putf hS cx_4 3 (by decide) tw_215 rfl rfl (Or.inl rfl) rfl rfl d kk
theorem gf_X4_15 {S : SX} {cc : ByteArray} {pc : Nat} {ls : List (Nat × Nat × Int)} {st : List (Nat × Int)} {k n : Nat} {h : AH} {a : Int} {f : Int → Option (Int × AH)} (hS : SO S RX4 cc) (d : decode cc pc = .ok (.getfield 15, 3)) (kk : ∀ v : Int, Sim S (pc + 3) ls ((2, v) :: st) k n h (f v)) : Sim S pc ls ((2, a) :: st) k n h ((g_f h 5 a 0).bind f) := s_getf hS cx_4 0 (by decide) tw_212 rfl rfl rfl d kk
theorem ca_X4_44 {S : SX} {cc : ByteArray} {pc : Nat} {ls : List (Nat × Nat × Int)} {st : List (Nat × Int)} {k n : Nat} {h : AH} {q0 q1 b : Int} {f : Int → AH → Option (Int × AH)} (hS : SO S RX4 cc) (hR : 0 + 1 ≤ S.2.2.2.2.2.2.1 ∧ 8 + (3 + 11) + 0 ≤ S.2.2.2.2.2.2.2) (hk : k + 0 ≤ S.2.2.2.1 ∧ n + 0 ≤ S.2.2.2.2.1) (hl : st.length ≤ 4) (d : decode cc pc = .ok (.invokevirtual 44, 3)) (kk : ∀ (r : Int) (h2 : AH), Sim S (pc + 3) ls ((0, r) :: st) (k + 0) (n + 0) h2 (f r h2)) : Sim S pc ls ((0, q1) :: (0, q0) :: (2, b) :: st) k n h (c_k h 9 b (bd_ (f_P_blame b q0 q1 h) f)) := s_callV hS mo_X8_blame rfl rfl (c_P_blame _ _ _ _ _ h) tw_649 tw_558 tw_559 hR hk rfl rfl hl d kk
abbrev S_D_countPart (G : GE) (X : SMw) : SX := (G, X, 2, 0, 0, (some .boolean), 1, 22)
set_option maxRecDepth 100000 in
set_option maxHeartbeats 4000000 in
theorem b_D_countPart {G : GE} {X : SMw} (hS : SO (S_D_countPart G X) RX4 cX4_countPart) (z0 z1 : Int) (h : AH) : Sim (S_D_countPart G X) 0 [(0, 2, z0), (1, 0, z1)] [] 0 0 h (f_D_countPart z0 z1 h) := by
  unfold f_D_countPart
  refine s_aload_n hS dX4_countPart_0 rfl 0 rfl ?_
  refine s_dup hS dX4_countPart_1 (by decide) ?_
  refine gf_X4_28 hS dX4_countPart_2 fun v1 => ?_
  refine s_iconst hS dX4_countPart_5 ?_
  refine s_iadd hS dX4_countPart_6 ?_
  refine pf_X4_28 hS dX4_countPart_7 fun h2 => ?_
  refine s_aload_n hS dX4_countPart_10 rfl 0 rfl ?_
  refine gf_X4_28 hS dX4_countPart_11 fun v3 => ?_
  refine s_bipush hS dX4_countPart_14 (by decide +kernel) ?_
  refine s_icmp_le hS dX4_countPart_16 rfl ?_ ?_
  · refine s_iconst hS dX4_countPart_31 ?_
    refine s_goto hS dX4_countPart_32 rfl ?_
    exact s_zret hS rfl (Nat.le_of_ble_eq_true rfl) (Nat.le_of_ble_eq_true rfl) dX4_countPart_36
  · refine s_aload_n hS dX4_countPart_19 rfl 0 rfl ?_
    refine gf_X4_15 hS dX4_countPart_20 fun v4 => ?_
    refine s_iload_n hS dX4_countPart_23 rfl 1 rfl ?_
    refine s_iconst hS dX4_countPart_24 ?_
    refine ca_X4_44 hS ⟨Nat.le_of_ble_eq_true rfl, Nat.le_of_ble_eq_true rfl⟩ ⟨Nat.le_of_ble_eq_true rfl, Nat.le_of_ble_eq_true rfl⟩ (Nat.le_of_ble_eq_true rfl) dX4_countPart_25 fun v5 h6 => ?_
    refine s_if_eq hS dX4_countPart_28 rfl ?_ ?_
    · refine s_iconst hS dX4_countPart_35 ?_
      exact s_zret hS rfl (Nat.le_of_ble_eq_true rfl) (Nat.le_of_ble_eq_true rfl) dX4_countPart_36
    · refine s_iconst hS dX4_countPart_31 ?_
      refine s_goto hS dX4_countPart_32 rfl ?_
      exact s_zret hS rfl (Nat.le_of_ble_eq_true rfl) (Nat.le_of_ble_eq_true rfl) dX4_countPart_36
theorem c_D_countPart (l : Launch) (G : GE) (z0 z1 : Int) (h : AH) : Con l yX4_countPart cX4_countPart 2 (some .boolean) 1 22 0 0 G [(2, z0), (0, z1)] h (f_D_countPart z0 z1 h) :=
  con_of (by decide +kernel) (Nat.le_of_ble_eq_true rfl) fun X hX hS hi => b_D_countPart hS z0 z1 h
theorem ca_X4_31 {S : SX} {cc : ByteArray} {pc : Nat} {ls : List (Nat × Nat × Int)} {st : List (Nat × Int)} {k n : Nat} {h : AH} {b : Int} {f : Int → AH → Option (Int × AH)} (hS : SO S RX4 cc) (hR : 0 + 1 ≤ S.2.2.2.2.2.2.1 ∧ 8 + (1 + 11) + 0 ≤ S.2.2.2.2.2.2.2) (hk : k + 0 ≤ S.2.2.2.1 ∧ n + 0 ≤ S.2.2.2.2.1) (hl : st.length ≤ 4) (d : decode cc pc = .ok (.invokevirtual 31, 3)) (kk : ∀ (r : Int) (h2 : AH), Sim S (pc + 3) ls ((0, r) :: st) (k + 0) (n + 0) h2 (f r h2)) : Sim S pc ls ((2, b) :: st) k n h (c_k h 9 b (bd_ (f_P_upcoming b h) f)) := s_callV hS mo_X8_upcoming rfl rfl (c_P_upcoming _ _ _ h) tw_646 tw_496 tw_497 hR hk rfl rfl hl d kk
theorem gf_X4_35 {S : SX} {cc : ByteArray} {pc : Nat} {ls : List (Nat × Nat × Int)} {st : List (Nat × Int)} {k n : Nat} {h : AH} {a : Int} {f : Int → Option (Int × AH)} (hS : SO S RX4 cc) (d : decode cc pc = .ok (.getfield 35, 3)) (kk : ∀ v : Int, Sim S (pc + 3) ls ((0, v) :: st) k n h (f v)) : Sim S pc ls ((2, a) :: st) k n h ((g_f h 9 a 2).bind f) := s_getf hS cx_8 2 (by decide) tw_158 rfl rfl rfl d kk
theorem ca_X4_108 {S : SX} {cc : ByteArray} {pc : Nat} {ls : List (Nat × Nat × Int)} {st : List (Nat × Int)} {k n : Nat} {h : AH} {q0 : Int} {f : Int → AH → Option (Int × AH)} (hS : SO S RX4 cc) (hR : 0 + 1 ≤ S.2.2.2.2.2.2.1 ∧ 8 + (1 + 11) + 0 ≤ S.2.2.2.2.2.2.2) (hk : k + 0 ≤ S.2.2.2.1 ∧ n + 0 ≤ S.2.2.2.2.1) (hl : st.length ≤ 4) (d : decode cc pc = .ok (.invokestatic 108, 3)) (kk : ∀ (r : Int) (h2 : AH), Sim S (pc + 3) ls ((0, r) :: st) (k + 0) (n + 0) h2 (f r h2)) : Sim S pc ls ((0, q0) :: st) k n h (bd_ (f_P_isDigit q0 h) f) := s_callS hS mo_X8_isDigit (c_P_isDigit _ _ _ h) tw_658 tw_566 hR hk rfl rfl hl d kk
theorem ca_X4_40 {S : SX} {cc : ByteArray} {pc : Nat} {ls : List (Nat × Nat × Int)} {st : List (Nat × Int)} {k n : Nat} {h : AH} {q0 b : Int} {f : Int → AH → Option (Int × AH)} (hS : SO S RX4 cc) (hR : 10 + 1 ≤ S.2.2.2.2.2.2.1 ∧ 8 + (6 + 11) + 325 ≤ S.2.2.2.2.2.2.2) (hk : k + 0 ≤ S.2.2.2.1 ∧ n + 0 ≤ S.2.2.2.2.1) (hl : st.length ≤ 4) (d : decode cc pc = .ok (.invokevirtual 40, 3)) (kk : ∀ (r : Int) (h2 : AH), Sim S (pc + 3) ls ((0, r) :: st) (k + 0) (n + 0) h2 (f r h2)) : Sim S pc ls ((2, q0) :: (2, b) :: st) k n h (c_k h 9 b (bd_ (f_P_takeWord b q0 h) f)) := s_callV hS mo_X8_takeWord rfl rfl (c_P_takeWord _ _ _ _ h) tw_648 tw_501 tw_502 hR hk rfl rfl hl d kk
theorem ca_X4_58 {S : SX} {cc : ByteArray} {pc : Nat} {ls : List (Nat × Nat × Int)} {st : List (Nat × Int)} {k n : Nat} {h : AH} {q0 q1 b : Int} {f : Int → AH → Option (Int × AH)} (hS : SO S RX4 cc) (hR : 0 + 1 ≤ S.2.2.2.2.2.2.1 ∧ 8 + (3 + 11) + 0 ≤ S.2.2.2.2.2.2.2) (hk : k + 0 ≤ S.2.2.2.1 ∧ n + 0 ≤ S.2.2.2.2.1) (hl : st.length ≤ 4) (d : decode cc pc = .ok (.invokevirtual 58, 3)) (kk : ∀ (r : Int) (h2 : AH), Sim S (pc + 3) ls (st) (k + 0) (n + 0) h2 (f r h2)) : Sim S pc ls ((0, q1) :: (0, q0) :: (2, b) :: st) k n h (c_k h 5 b (bd_ (f_D_addCode b q0 q1 h) f)) := s_callV hS mo_X4_addCode rfl rfl (c_D_addCode _ _ _ _ _ h) tw_661 tw_663 tw_9 hR hk rfl rfl hl d kk
theorem ca_X4_112 {S : SX} {cc : ByteArray} {pc : Nat} {ls : List (Nat × Nat × Int)} {st : List (Nat × Int)} {k n : Nat} {h : AH} {q0 q1 b : Int} {f : Int → AH → Option (Int × AH)} (hS : SO S RX4 cc) (hR : 1 + 1 ≤ S.2.2.2.2.2.2.1 ∧ 8 + (5 + 11) + 22 ≤ S.2.2.2.2.2.2.2) (hk : k + 0 ≤ S.2.2.2.1 ∧ n + 0 ≤ S.2.2.2.2.1) (hl : st.length ≤ 4) (d : decode cc pc = .ok (.invokevirtual 112, 3)) (kk : ∀ (r : Int) (h2 : AH), Sim S (pc + 3) ls ((0, r) :: st) (k + 0) (n + 0) h2 (f r h2)) : Sim S pc ls ((0, q1) :: (0, q0) :: (2, b) :: st) k n h (c_k h 9 b (bd_ (f_P_takeNumber b q0 q1 h) f)) := s_callV hS mo_X8_takeNumber rfl rfl (c_P_takeNumber _ _ _ _ _ h) tw_660 tw_562 tw_563 hR hk rfl rfl hl d kk
theorem ca_X4_93 {S : SX} {cc : ByteArray} {pc : Nat} {ls : List (Nat × Nat × Int)} {st : List (Nat × Int)} {k n : Nat} {h : AH} {q0 b : Int} {f : Int → AH → Option (Int × AH)} (hS : SO S RX4 cc) (hR : 1 + 1 ≤ S.2.2.2.2.2.2.1 ∧ 8 + (2 + 11) + 22 ≤ S.2.2.2.2.2.2.2) (hk : k + 0 ≤ S.2.2.2.1 ∧ n + 0 ≤ S.2.2.2.2.1) (hl : st.length ≤ 4) (d : decode cc pc = .ok (.invokevirtual 93, 3)) (kk : ∀ (r : Int) (h2 : AH), Sim S (pc + 3) ls ((0, r) :: st) (k + 0) (n + 0) h2 (f r h2)) : Sim S pc ls ((0, q0) :: (2, b) :: st) k n h (c_k h 5 b (bd_ (f_D_countPart b q0 h) f)) := s_callV hS mo_X4_countPart rfl rfl (c_D_countPart _ _ _ _ h) tw_666 tw_668 tw_10 hR hk rfl rfl hl d kk
abbrev S_D_readValue (G : GE) (X : SMw) : SX := (G, X, 4, 0, 0, (some .boolean), 11, 350)
set_option maxRecDepth 100000 in
set_option maxHeartbeats 4000000 in
theorem b_D_readValue_81 {G : GE} {X : SMw} (hS : SO (S_D_readValue G X) RX4 cX4_readValue) (z0 z2 : Int) (h : AH) : Sim (S_D_readValue G X) 81 [(0, 2, z0), (2, 0, z2)] [] 0 0 h (f_D_readValue_81 z0 z2 h) := by
  unfold f_D_readValue_81
  refine s_aload_n hS dX4_readValue_81 rfl 0 rfl ?_
  refine s_iload_n hS dX4_readValue_82 rfl 1 rfl ?_
  refine ca_X4_93 hS ⟨Nat.le_of_ble_eq_true rfl, Nat.le_of_ble_eq_true rfl⟩ ⟨Nat.le_of_ble_eq_true rfl, Nat.le_of_ble_eq_true rfl⟩ (Nat.le_of_ble_eq_true rfl) dX4_readValue_83 fun v1 h2 => ?_
  exact s_zret hS rfl (Nat.le_of_ble_eq_true rfl) (Nat.le_of_ble_eq_true rfl) dX4_readValue_86
set_option maxRecDepth 100000 in
set_option maxHeartbeats 4000000 in
theorem b_D_readValue {G : GE} {X : SMw} (hS : SO (S_D_readValue G X) RX4 cX4_readValue) (z0 : Int) (h : AH) : Sim (S_D_readValue G X) 0 [(0, 2, z0)] [] 0 0 h (f_D_readValue z0 h) := by
  unfold f_D_readValue
  refine s_aload_n hS dX4_readValue_0 rfl 0 rfl ?_
  refine gf_X4_15 hS dX4_readValue_1 fun v1 => ?_
  refine ca_X4_31 hS ⟨Nat.le_of_ble_eq_true rfl, Nat.le_of_ble_eq_true rfl⟩ ⟨Nat.le_of_ble_eq_true rfl, Nat.le_of_ble_eq_true rfl⟩ (Nat.le_of_ble_eq_true rfl) dX4_readValue_4 fun v2 h3 => ?_
  refine s_istore_n hS dX4_readValue_7 rfl (Nat.le_of_ble_eq_true rfl) (ls' := [(1, 0, v2), (0, 2, z0)]) rfl ?_
  refine s_aload_n hS dX4_readValue_8 rfl 1 rfl ?_
  refine gf_X4_15 hS dX4_readValue_9 fun v4 => ?_
  refine gf_X4_35 hS dX4_readValue_12 fun v5 => ?_
  refine s_istore_n hS dX4_readValue_15 rfl (Nat.le_of_ble_eq_true rfl) (ls' := [(2, 0, v5), (1, 0, v2), (0, 2, z0)]) rfl ?_
  refine s_iload_n hS dX4_readValue_16 rfl 1 rfl ?_
  refine ca_X4_108 hS ⟨Nat.le_of_ble_eq_true rfl, Nat.le_of_ble_eq_true rfl⟩ ⟨Nat.le_of_ble_eq_true rfl, Nat.le_of_ble_eq_true rfl⟩ (Nat.le_of_ble_eq_true rfl) dX4_readValue_17 fun v6 h7 => ?_
  refine s_if_eq hS dX4_readValue_20 rfl ?_ ?_
  · refine s_aload_n hS dX4_readValue_50 rfl 2 rfl ?_
    refine gf_X4_15 hS dX4_readValue_51 fun v8 => ?_
    refine s_str hS 2 rfl rfl dX4_readValue_54 ?_
    refine ca_X4_40 hS ⟨Nat.le_of_ble_eq_true rfl, Nat.le_of_ble_eq_true rfl⟩ ⟨Nat.le_of_ble_eq_true rfl, Nat.le_of_ble_eq_true rfl⟩ (Nat.le_of_ble_eq_true rfl) dX4_readValue_56 fun v9 h10 => ?_
    refine s_istore_n hS dX4_readValue_59 rfl (Nat.le_of_ble_eq_true rfl) (ls' := [(3, 0, v9), (2, 0, v5), (1, 0, v2), (0, 2, z0)]) rfl ?_
    refine s_iload_n hS dX4_readValue_60 rfl 0 rfl ?_
    refine s_iconst hS dX4_readValue_61 ?_
    refine s_icmp_ne hS dX4_readValue_62 rfl ?_ ?_
    · refine s_aload_n hS dX4_readValue_75 rfl 3 rfl ?_
      refine s_iconst hS dX4_readValue_76 ?_
      refine s_iload_n hS dX4_readValue_77 rfl 0 rfl ?_
      refine ca_X4_58 hS ⟨Nat.le_of_ble_eq_true rfl, Nat.le_of_ble_eq_true rfl⟩ ⟨Nat.le_of_ble_eq_true rfl, Nat.le_of_ble_eq_true rfl⟩ (Nat.le_of_ble_eq_true rfl) dX4_readValue_78 fun v11 h12 => ?_
      refine s_ls [3, 1] rfl ?_
      exact b_D_readValue_81 hS _ _ _
    · refine s_aload_n hS dX4_readValue_65 rfl 3 rfl ?_
      refine gf_X4_15 hS dX4_readValue_66 fun v13 => ?_
      refine s_iload_n hS dX4_readValue_69 rfl 1 rfl ?_
      refine s_iconst hS dX4_readValue_70 ?_
      refine ca_X4_44 hS ⟨Nat.le_of_ble_eq_true rfl, Nat.le_of_ble_eq_true rfl⟩ ⟨Nat.le_of_ble_eq_true rfl, Nat.le_of_ble_eq_true rfl⟩ (Nat.le_of_ble_eq_true rfl) dX4_readValue_71 fun v14 h15 => ?_
      exact s_zret hS rfl (Nat.le_of_ble_eq_true rfl) (Nat.le_of_ble_eq_true rfl) dX4_readValue_74
  · refine s_aload_n hS dX4_readValue_23 rfl 2 rfl ?_
    refine gf_X4_15 hS dX4_readValue_24 fun v16 => ?_
    refine s_iconst hS dX4_readValue_27 ?_
    refine s_ldc hS (z := 99999) tw_659 (by decide +kernel) dX4_readValue_28 ?_
    refine ca_X4_112 hS ⟨Nat.le_of_ble_eq_true rfl, Nat.le_of_ble_eq_true rfl⟩ ⟨Nat.le_of_ble_eq_true rfl, Nat.le_of_ble_eq_true rfl⟩ (Nat.le_of_ble_eq_true rfl) dX4_readValue_30 fun v17 h18 => ?_
    refine s_istore_n hS dX4_readValue_33 rfl (Nat.le_of_ble_eq_true rfl) (ls' := [(3, 0, v17), (2, 0, v5), (1, 0, v2), (0, 2, z0)]) rfl ?_
    refine s_iload_n hS dX4_readValue_34 rfl 0 rfl ?_
    refine s_iconst hS dX4_readValue_35 ?_
    refine s_icmp_ne hS dX4_readValue_36 rfl ?_ ?_
    · refine s_aload_n hS dX4_readValue_41 rfl 3 rfl ?_
      refine s_iconst hS dX4_readValue_42 ?_
      refine s_iload_n hS dX4_readValue_43 rfl 0 rfl ?_
      refine ca_X4_58 hS ⟨Nat.le_of_ble_eq_true rfl, Nat.le_of_ble_eq_true rfl⟩ ⟨Nat.le_of_ble_eq_true rfl, Nat.le_of_ble_eq_true rfl⟩ (Nat.le_of_ble_eq_true rfl) dX4_readValue_44 fun v19 h20 => ?_
      refine s_goto hS dX4_readValue_47 rfl ?_
      refine s_ls [3, 1] rfl ?_
      exact b_D_readValue_81 hS _ _ _
    · refine s_iconst hS dX4_readValue_39 ?_
      exact s_zret hS rfl (Nat.le_of_ble_eq_true rfl) (Nat.le_of_ble_eq_true rfl) dX4_readValue_40
theorem c_D_readValue (l : Launch) (G : GE) (z0 : Int) (h : AH) : Con l yX4_readValue cX4_readValue 4 (some .boolean) 11 350 0 0 G [(2, z0)] h (f_D_readValue z0 h) :=
  con_of (by decide +kernel) (Nat.le_of_ble_eq_true rfl) fun X hX hS hi => b_D_readValue hS z0 h
theorem pf_X4_35 {S : SX} {cc : ByteArray} {pc : Nat} {ls : List (Nat × Nat × Int)} {st : List (Nat × Int)} {k n : Nat} {h : AH} {a v : Int} {f : AH → Option (Int × AH)} (hS : SO S RX4 cc) (d : decode cc pc = .ok (.putfield 35, 3)) (kk : ∀ h2 : AH, Sim S (pc + 3) ls st k n h2 (f h2)) : Sim S pc ls ((0, v) :: (2, a) :: st) k n h ((s_f h 9 a 2 v).bind f) := s_putf hS cx_8 2 (by decide) tw_158 rfl rfl (Or.inl rfl) rfl rfl d kk
abbrev S_D_takeOperation (G : GE) (X : SMw) : SX := (G, X, 2, 0, 0, (some .int), 1, 20)
set_option maxRecDepth 100000 in
set_option maxHeartbeats 4000000 in
theorem b_D_takeOperation_96 {G : GE} {X : SMw} (hS : SO (S_D_takeOperation G X) RX4 cX4_takeOperation) (z0 z1 : Int) (h : AH) : Sim (S_D_takeOperation G X) 96 [(0, 2, z0), (1, 0, z1)] [] 0 0 h (f_D_takeOperation_96 z0 z1 h) := by
  unfold f_D_takeOperation_96
  refine s_aload_n hS dX4_takeOperation_96 rfl 0 rfl ?_
  refine gf_X4_15 hS dX4_takeOperation_97 fun v1 => ?_
  refine s_dup hS dX4_takeOperation_100 (by decide) ?_
  refine gf_X4_35 hS dX4_takeOperation_101 fun v2 => ?_
  refine s_iconst hS dX4_takeOperation_104 ?_
  refine s_iadd hS dX4_takeOperation_105 ?_
  refine pf_X4_35 hS dX4_takeOperation_106 fun h3 => ?_
  refine s_iload_n hS dX4_takeOperation_109 rfl 1 rfl ?_
  exact s_iret hS rfl (Nat.le_of_ble_eq_true rfl) (Nat.le_of_ble_eq_true rfl) dX4_takeOperation_110
set_option maxRecDepth 100000 in
set_option maxHeartbeats 4000000 in
theorem b_D_takeOperation {G : GE} {X : SMw} (hS : SO (S_D_takeOperation G X) RX4 cX4_takeOperation) (z0 : Int) (h : AH) : Sim (S_D_takeOperation G X) 0 [(0, 2, z0)] [] 0 0 h (f_D_takeOperation z0 h) := by
  unfold f_D_takeOperation
  refine s_iconst hS dX4_takeOperation_0 ?_
  refine s_istore_n hS dX4_takeOperation_1 rfl (Nat.le_of_ble_eq_true rfl) (ls' := [(1, 0, (-1)), (0, 2, z0)]) rfl ?_
  refine s_aload_n hS dX4_takeOperation_2 rfl 1 rfl ?_
  refine gf_X4_15 hS dX4_takeOperation_3 fun v1 => ?_
  refine ca_X4_31 hS ⟨Nat.le_of_ble_eq_true rfl, Nat.le_of_ble_eq_true rfl⟩ ⟨Nat.le_of_ble_eq_true rfl, Nat.le_of_ble_eq_true rfl⟩ (Nat.le_of_ble_eq_true rfl) dX4_takeOperation_6 fun v2 h3 => ?_
  refine s_swI hS 37 dX4_takeOperation_9 (by decide) (by decide) rfl rfl ?_ fun e0 => ?_
  · refine s_bipush hS dX4_takeOperation_88 (by decide +kernel) ?_
    refine s_istore_n hS dX4_takeOperation_90 rfl (Nat.le_of_ble_eq_true rfl) (ls' := [(1, 0, 6), (0, 2, z0)]) rfl ?_
    refine s_goto hS dX4_takeOperation_91 rfl ?_
    refine s_ls [1, 0] rfl ?_
    exact b_D_takeOperation_96 hS _ _ _
  refine s_swI hS 38 dX4_takeOperation_9 (by decide) (by decide) rfl rfl ?_ fun e1 => ?_
  · refine s_iconst hS dX4_takeOperation_94 ?_
    exact s_iret hS rfl (Nat.le_of_ble_eq_true rfl) (Nat.le_of_ble_eq_true rfl) dX4_takeOperation_95
  refine s_swI hS 39 dX4_takeOperation_9 (by decide) (by decide) rfl rfl ?_ fun e2 => ?_
  · refine s_iconst hS dX4_takeOperation_94 ?_
    exact s_iret hS rfl (Nat.le_of_ble_eq_true rfl) (Nat.le_of_ble_eq_true rfl) dX4_takeOperation_95
  refine s_swI hS 40 dX4_takeOperation_9 (by decide) (by decide) rfl rfl ?_ fun e3 => ?_
  · refine s_iconst hS dX4_takeOperation_94 ?_
    exact s_iret hS rfl (Nat.le_of_ble_eq_true rfl) (Nat.le_of_ble_eq_true rfl) dX4_takeOperation_95
  refine s_swI hS 41 dX4_takeOperation_9 (by decide) (by decide) rfl rfl ?_ fun e4 => ?_
  · refine s_iconst hS dX4_takeOperation_94 ?_
    exact s_iret hS rfl (Nat.le_of_ble_eq_true rfl) (Nat.le_of_ble_eq_true rfl) dX4_takeOperation_95
  refine s_swI hS 42 dX4_takeOperation_9 (by decide) (by decide) rfl rfl ?_ fun e5 => ?_
  · refine s_iconst hS dX4_takeOperation_78 ?_
    refine s_istore_n hS dX4_takeOperation_79 rfl (Nat.le_of_ble_eq_true rfl) (ls' := [(1, 0, 4), (0, 2, z0)]) rfl ?_
    refine s_goto hS dX4_takeOperation_80 rfl ?_
    refine s_ls [1, 0] rfl ?_
    exact b_D_takeOperation_96 hS _ _ _
  refine s_swI hS 43 dX4_takeOperation_9 (by decide) (by decide) rfl rfl ?_ fun e6 => ?_
  · refine s_iconst hS dX4_takeOperation_68 ?_
    refine s_istore_n hS dX4_takeOperation_69 rfl (Nat.le_of_ble_eq_true rfl) (ls' := [(1, 0, 2), (0, 2, z0)]) rfl ?_
    refine s_goto hS dX4_takeOperation_70 rfl ?_
    refine s_ls [1, 0] rfl ?_
    exact b_D_takeOperation_96 hS _ _ _
  refine s_swI hS 44 dX4_takeOperation_9 (by decide) (by decide) rfl rfl ?_ fun e7 => ?_
  · refine s_iconst hS dX4_takeOperation_94 ?_
    exact s_iret hS rfl (Nat.le_of_ble_eq_true rfl) (Nat.le_of_ble_eq_true rfl) dX4_takeOperation_95
  refine s_swI hS 45 dX4_takeOperation_9 (by decide) (by decide) rfl rfl ?_ fun e8 => ?_
  · refine s_iconst hS dX4_takeOperation_73 ?_
    refine s_istore_n hS dX4_takeOperation_74 rfl (Nat.le_of_ble_eq_true rfl) (ls' := [(1, 0, 3), (0, 2, z0)]) rfl ?_
    refine s_goto hS dX4_takeOperation_75 rfl ?_
    refine s_ls [1, 0] rfl ?_
    exact b_D_takeOperation_96 hS _ _ _
  refine s_swI hS 46 dX4_takeOperation_9 (by decide) (by decide) rfl rfl ?_ fun e9 => ?_
  · refine s_iconst hS dX4_takeOperation_94 ?_
    exact s_iret hS rfl (Nat.le_of_ble_eq_true rfl) (Nat.le_of_ble_eq_true rfl) dX4_takeOperation_95
  refine s_swI hS 47 dX4_takeOperation_9 (by decide) (by decide) rfl rfl ?_ fun e10 => ?_
  · refine s_iconst hS dX4_takeOperation_83 ?_
    refine s_istore_n hS dX4_takeOperation_84 rfl (Nat.le_of_ble_eq_true rfl) (ls' := [(1, 0, 5), (0, 2, z0)]) rfl ?_
    refine s_goto hS dX4_takeOperation_85 rfl ?_
    refine s_ls [1, 0] rfl ?_
    exact b_D_takeOperation_96 hS _ _ _
  refine s_swO hS dX4_takeOperation_9 (by omega) rfl ?_
  refine s_iconst hS dX4_takeOperation_94 ?_
  exact s_iret hS rfl (Nat.le_of_ble_eq_true rfl) (Nat.le_of_ble_eq_true rfl) dX4_takeOperation_95
theorem c_D_takeOperation (l : Launch) (G : GE) (z0 : Int) (h : AH) : Con l yX4_takeOperation cX4_takeOperation 2 (some .int) 1 20 0 0 G [(2, z0)] h (f_D_takeOperation z0 h) :=
  con_of (by decide +kernel) (Nat.le_of_ble_eq_true rfl) fun X hX hS hi => b_D_takeOperation hS z0 h
theorem ca_X4_102 {S : SX} {cc : ByteArray} {pc : Nat} {ls : List (Nat × Nat × Int)} {st : List (Nat × Int)} {k n : Nat} {h : AH} {b : Int} {f : Int → AH → Option (Int × AH)} (hS : SO S RX4 cc) (hR : 11 + 1 ≤ S.2.2.2.2.2.2.1 ∧ 8 + (4 + 11) + 350 ≤ S.2.2.2.2.2.2.2) (hk : k + 0 ≤ S.2.2.2.1 ∧ n + 0 ≤ S.2.2.2.2.1) (hl : st.length ≤ 4) (d : decode cc pc = .ok (.invokevirtual 102, 3)) (kk : ∀ (r : Int) (h2 : AH), Sim S (pc + 3) ls ((0, r) :: st) (k + 0) (n + 0) h2 (f r h2)) : Sim S pc ls ((2, b) :: st) k n h (c_k h 5 b (bd_ (f_D_readValue b h) f)) := s_callV hS mo_X4_readValue rfl rfl (c_D_readValue _ _ _ h) tw_654 tw_656 tw_8 hR hk rfl rfl hl d kk
theorem ca_X4_105 {S : SX} {cc : ByteArray} {pc : Nat} {ls : List (Nat × Nat × Int)} {st : List (Nat × Int)} {k n : Nat} {h : AH} {b : Int} {f : Int → AH → Option (Int × AH)} (hS : SO S RX4 cc) (hR : 1 + 1 ≤ S.2.2.2.2.2.2.1 ∧ 8 + (2 + 11) + 20 ≤ S.2.2.2.2.2.2.2) (hk : k + 0 ≤ S.2.2.2.1 ∧ n + 0 ≤ S.2.2.2.2.1) (hl : st.length ≤ 4) (d : decode cc pc = .ok (.invokevirtual 105, 3)) (kk : ∀ (r : Int) (h2 : AH), Sim S (pc + 3) ls ((0, r) :: st) (k + 0) (n + 0) h2 (f r h2)) : Sim S pc ls ((2, b) :: st) k n h (c_k h 5 b (bd_ (f_D_takeOperation b h) f)) := s_callV hS mo_X4_takeOperation rfl rfl (c_D_takeOperation _ _ _ h) tw_670 tw_672 tw_11 hR hk rfl rfl hl d kk
abbrev S_D_readSum (G : GE) (X : SMw) : SX := (G, X, 5, 0, 0, (some .boolean), 12, 373)
set_option maxRecDepth 100000 in
set_option maxHeartbeats 4000000 in
theorem b_D_readSum_97 {G : GE} {X : SMw} (hS : SO (S_D_readSum G X) RX4 cX4_readSum) (z0 z1 : Int) (h : AH) : Sim (S_D_readSum G X) 97 [(0, 2, z0), (1, 0, z1)] [] 0 0 h (f_D_readSum_97 z0 z1 h) := by
  unfold f_D_readSum_97
  refine s_iload_n hS dX4_readSum_97 rfl 1 rfl ?_
  refine s_iconst hS dX4_readSum_98 ?_
  refine s_icmp_eq hS dX4_readSum_99 rfl ?_ ?_
  · refine s_iconst hS dX4_readSum_108 ?_
    exact s_zret hS rfl (Nat.le_of_ble_eq_true rfl) (Nat.le_of_ble_eq_true rfl) dX4_readSum_109
  · refine s_aload_n hS dX4_readSum_102 rfl 0 rfl ?_
    refine s_iload_n hS dX4_readSum_103 rfl 1 rfl ?_
    refine s_iconst hS dX4_readSum_104 ?_
    refine ca_X4_58 hS ⟨Nat.le_of_ble_eq_true rfl, Nat.le_of_ble_eq_true rfl⟩ ⟨Nat.le_of_ble_eq_true rfl, Nat.le_of_ble_eq_true rfl⟩ (Nat.le_of_ble_eq_true rfl) dX4_readSum_105 fun v1 h2 => ?_
    refine s_iconst hS dX4_readSum_108 ?_
    exact s_zret hS rfl (Nat.le_of_ble_eq_true rfl) (Nat.le_of_ble_eq_true rfl) dX4_readSum_109
set_option maxRecDepth 100000 in
set_option maxHeartbeats 4000000 in
theorem b_D_readSum_66 {G : GE} {X : SMw} (hS : SO (S_D_readSum G X) RX4 cX4_readSum) (z0 : Int) {k13 : Int → Int → AH → Option (Int × AH)} (hk13 : ∀ (z1 z2 : Int) (h : AH), Sim (S_D_readSum G X) 13 [(0, 2, z0), (1, 0, z1), (2, 0, z2)] [] 0 0 h (k13 z1 z2 h)) (z1 z2 z3 z4 : Int) (h : AH) : Sim (S_D_readSum G X) 66 [(0, 2, z0), (1, 0, z1), (2, 0, z2), (3, 0, z3), (4, 0, z4)] [] 0 0 h (f_D_readSum_66 k13 z0 z1 z2 z3 z4 h) := by
  unfold f_D_readSum_66
  refine s_aload_n hS dX4_readSum_66 rfl 0 rfl ?_
  refine ca_X4_102 hS ⟨Nat.le_of_ble_eq_true rfl, Nat.le_of_ble_eq_true rfl⟩ ⟨Nat.le_of_ble_eq_true rfl, Nat.le_of_ble_eq_true rfl⟩ (Nat.le_of_ble_eq_true rfl) dX4_readSum_67 fun v1 h2 => ?_
  refine s_if_ne hS dX4_readSum_70 rfl ?_ ?_
  · refine s_iload hS dX4_readSum_75 4 rfl ?_
    refine s_if_eq hS dX4_readSum_77 rfl ?_ ?_
    · refine s_aload_n hS dX4_readSum_85 rfl 0 rfl ?_
      refine s_iload_n hS dX4_readSum_86 rfl 3 rfl ?_
      refine s_iconst hS dX4_readSum_87 ?_
      refine ca_X4_58 hS ⟨Nat.le_of_ble_eq_true rfl, Nat.le_of_ble_eq_true rfl⟩ ⟨Nat.le_of_ble_eq_true rfl, Nat.le_of_ble_eq_true rfl⟩ (Nat.le_of_ble_eq_true rfl) dX4_readSum_88 fun v3 h4 => ?_
      refine s_iinc hS dX4_readSum_91 2 rfl (Nat.le_of_ble_eq_true rfl) (ls' := [(2, 0, (z2 + 1)), (0, 2, z0), (1, 0, z1), (3, 0, z3), (4, 0, z4)]) rfl ?_
      refine s_goto hS dX4_readSum_94 rfl ?_
      refine s_ls [1, 2, 0] rfl ?_
      exact hk13 _ _ _
    · refine s_iload_n hS dX4_readSum_80 rfl 3 rfl ?_
      refine s_istore_n hS dX4_readSum_81 rfl (Nat.le_of_ble_eq_true rfl) (ls' := [(1, 0, z3), (0, 2, z0), (2, 0, z2), (3, 0, z3), (4, 0, z4)]) rfl ?_
      refine s_goto hS dX4_readSum_82 rfl ?_
      refine s_iinc hS dX4_readSum_91 2 rfl (Nat.le_of_ble_eq_true rfl) (ls' := [(2, 0, (z2 + 1)), (1, 0, z3), (0, 2, z0), (3, 0, z3), (4, 0, z4)]) rfl ?_
      refine s_goto hS dX4_readSum_94 rfl ?_
      refine s_ls [2, 1, 0] rfl ?_
      exact hk13 _ _ _
  · refine s_iconst hS dX4_readSum_73 ?_
    exact s_zret hS rfl (Nat.le_of_ble_eq_true rfl) (Nat.le_of_ble_eq_true rfl) dX4_readSum_74
set_option maxRecDepth 100000 in
set_option maxHeartbeats 4000000 in
theorem b_D_readSum_48 {G : GE} {X : SMw} (hS : SO (S_D_readSum G X) RX4 cX4_readSum) (z0 : Int) {k13 : Int → Int → AH → Option (Int × AH)} (hk13 : ∀ (z1 z2 : Int) (h : AH), Sim (S_D_readSum G X) 13 [(0, 2, z0), (1, 0, z1), (2, 0, z2)] [] 0 0 h (k13 z1 z2 h)) (z1 z2 z3 w0 : Int) (h : AH) : Sim (S_D_readSum G X) 48 [(0, 2, z0), (1, 0, z1), (2, 0, z2), (3, 0, z3)] [(0, w0)] 0 0 h (f_D_readSum_48 k13 z0 z1 z2 z3 w0 h) := by
  unfold f_D_readSum_48
  refine s_istore hS dX4_readSum_48 (Nat.le_of_ble_eq_true rfl) (ls' := [(4, 0, w0), (0, 2, z0), (1, 0, z1), (2, 0, z2), (3, 0, z3)]) rfl ?_
  refine s_iload hS dX4_readSum_50 0 rfl ?_
  refine s_if_eq hS dX4_readSum_52 rfl ?_ ?_
  · refine s_ls [1, 2, 3, 4, 0] rfl ?_
    exact b_D_readSum_66 hS _ hk13 _ _ _ _ _
  · refine s_iload_n hS dX4_readSum_55 rfl 2 rfl ?_
    refine s_iconst hS dX4_readSum_56 ?_
    refine s_icmp_eq hS dX4_readSum_57 rfl ?_ ?_
    · refine s_ls [1, 2, 3, 4, 0] rfl ?_
      exact b_D_readSum_66 hS _ hk13 _ _ _ _ _
    · refine s_aload_n hS dX4_readSum_60 rfl 1 rfl ?_
      refine s_iload_n hS dX4_readSum_61 rfl 2 rfl ?_
      refine s_iconst hS dX4_readSum_62 ?_
      refine ca_X4_58 hS ⟨Nat.le_of_ble_eq_true rfl, Nat.le_of_ble_eq_true rfl⟩ ⟨Nat.le_of_ble_eq_true rfl, Nat.le_of_ble_eq_true rfl⟩ (Nat.le_of_ble_eq_true rfl) dX4_readSum_63 fun v1 h2 => ?_
      refine s_ls [1, 2, 3, 4, 0] rfl ?_
      exact b_D_readSum_66 hS _ hk13 _ _ _ _ _
set_option maxRecDepth 100000 in
set_option maxHeartbeats 4000000 in
theorem B_D_readSum_13 {G : GE} {X : SMw} (hS : SO (S_D_readSum G X) RX4 cX4_readSum) (z0 : Int) {k13 : Int → Int → AH → Option (Int × AH)} (hk13 : ∀ (z1 z2 : Int) (h : AH), Sim (S_D_readSum G X) 13 [(0, 2, z0), (1, 0, z1), (2, 0, z2)] [] 0 0 h (k13 z1 z2 h)) (z1 z2 : Int) (h : AH) : Sim (S_D_readSum G X) 13 [(0, 2, z0), (1, 0, z1), (2, 0, z2)] [] 0 0 h (F_D_readSum_13 z0 k13 z1 z2 h) := by
  unfold F_D_readSum_13
  refine s_iload_n hS dX4_readSum_13 rfl 2 rfl ?_
  refine s_sipush hS dX4_readSum_14 (by decide +kernel) ?_
  refine s_icmp_ge hS dX4_readSum_17 rfl ?_ ?_
  · refine s_ls [0, 1] rfl ?_
    exact b_D_readSum_97 hS _ _ _
  · refine s_aload_n hS dX4_readSum_20 rfl 0 rfl ?_
    refine ca_X4_105 hS ⟨Nat.le_of_ble_eq_true rfl, Nat.le_of_ble_eq_true rfl⟩ ⟨Nat.le_of_ble_eq_true rfl, Nat.le_of_ble_eq_true rfl⟩ (Nat.le_of_ble_eq_true rfl) dX4_readSum_21 fun v1 h2 => ?_
    refine s_istore_n hS dX4_readSum_24 rfl (Nat.le_of_ble_eq_true rfl) (ls' := [(3, 0, v1), (0, 2, z0), (1, 0, z1), (2, 0, z2)]) rfl ?_
    refine s_iload_n hS dX4_readSum_25 rfl 0 rfl ?_
    refine s_iconst hS dX4_readSum_26 ?_
    refine s_icmp_ne hS dX4_readSum_27 rfl ?_ ?_
    · refine s_iload_n hS dX4_readSum_33 rfl 0 rfl ?_
      refine s_iconst hS dX4_readSum_34 ?_
      refine s_icmp_eq hS dX4_readSum_35 rfl ?_ ?_
      · refine s_iconst hS dX4_readSum_43 ?_
        refine s_goto hS dX4_readSum_44 rfl ?_
        refine s_ls [1, 2, 3, 0] rfl ?_
        exact b_D_readSum_48 hS _ hk13 _ _ _ _ _
      · refine s_iload_n hS dX4_readSum_38 rfl 0 rfl ?_
        refine s_iconst hS dX4_readSum_39 ?_
        refine s_icmp_ne hS dX4_readSum_40 rfl ?_ ?_
        · refine s_iconst hS dX4_readSum_47 ?_
          refine s_ls [1, 2, 3, 0] rfl ?_
          exact b_D_readSum_48 hS _ hk13 _ _ _ _ _
        · refine s_iconst hS dX4_readSum_43 ?_
          refine s_goto hS dX4_readSum_44 rfl ?_
          refine s_ls [1, 2, 3, 0] rfl ?_
          exact b_D_readSum_48 hS _ hk13 _ _ _ _ _
    · refine s_goto hS dX4_readSum_30 rfl ?_
      refine s_ls [1, 2] rfl ?_
      exact b_D_readSum_97 hS _ _ _
set_option maxRecDepth 100000 in
set_option maxHeartbeats 4000000 in
theorem b_D_readSum_13 {G : GE} {X : SMw} (hS : SO (S_D_readSum G X) RX4 cX4_readSum) (z0 : Int) (z1 z2 : Int) (h : AH) : Sim (S_D_readSum G X) 13 [(0, 2, z0), (1, 0, z1), (2, 0, z2)] [] 0 0 h (f_D_readSum_13 z0 z1 z2 h) := by
  exact s_loop (S := (S_D_readSum G X)) (lsf := fun s : Int × Int × AH => [(0, 2, z0), (1, 0, s.1), (2, 0, s.2.1)]) (hf := fun s => s.2.2) (fun kf hkf s => B_D_readSum_13 hS z0 (fun a0 a1 a2 => hkf (a0, a1, a2)) s.1 s.2.1 s.2.2) fu_ (z1, z2, h)
set_option maxRecDepth 100000 in
set_option maxHeartbeats 4000000 in
theorem b_D_readSum {G : GE} {X : SMw} (hS : SO (S_D_readSum G X) RX4 cX4_readSum) (z0 : Int) (h : AH) : Sim (S_D_readSum G X) 0 [(0, 2, z0)] [] 0 0 h (f_D_readSum z0 h) := by
  unfold f_D_readSum
  refine s_aload_n hS dX4_readSum_0 rfl 0 rfl ?_
  refine ca_X4_102 hS ⟨Nat.le_of_ble_eq_true rfl, Nat.le_of_ble_eq_true rfl⟩ ⟨Nat.le_of_ble_eq_true rfl, Nat.le_of_ble_eq_true rfl⟩ (Nat.le_of_ble_eq_true rfl) dX4_readSum_1 fun v1 h2 => ?_
  refine s_if_ne hS dX4_readSum_4 rfl ?_ ?_
  · refine s_iconst hS dX4_readSum_9 ?_
    refine s_istore_n hS dX4_readSum_10 rfl (Nat.le_of_ble_eq_true rfl) (ls' := [(1, 0, (-1)), (0, 2, z0)]) rfl ?_
    refine s_iconst hS dX4_readSum_11 ?_
    refine s_istore_n hS dX4_readSum_12 rfl (Nat.le_of_ble_eq_true rfl) (ls' := [(2, 0, 0), (1, 0, (-1)), (0, 2, z0)]) rfl ?_
    refine s_ls [2, 1, 0] rfl ?_
    exact b_D_readSum_13 hS _ _ _ _
  · refine s_iconst hS dX4_readSum_7 ?_
    exact s_zret hS rfl (Nat.le_of_ble_eq_true rfl) (Nat.le_of_ble_eq_true rfl) dX4_readSum_8
theorem c_D_readSum (l : Launch) (G : GE) (z0 : Int) (h : AH) : Con l yX4_readSum cX4_readSum 5 (some .boolean) 12 373 0 0 G [(2, z0)] h (f_D_readSum z0 h) :=
  con_of (by decide +kernel) (Nat.le_of_ble_eq_true rfl) fun X hX hS hi => b_D_readSum hS z0 h
theorem ca_X4_73 {S : SX} {cc : ByteArray} {pc : Nat} {ls : List (Nat × Nat × Int)} {st : List (Nat × Int)} {k n : Nat} {h : AH} {q0 b : Int} {f : Int → AH → Option (Int × AH)} (hS : SO S RX4 cc) (hR : 1 + 1 ≤ S.2.2.2.2.2.2.1 ∧ 8 + (2 + 11) + 20 ≤ S.2.2.2.2.2.2.2) (hk : k + 0 ≤ S.2.2.2.1 ∧ n + 0 ≤ S.2.2.2.2.1) (hl : st.length ≤ 4) (d : decode cc pc = .ok (.invokevirtual 73, 3)) (kk : ∀ (r : Int) (h2 : AH), Sim S (pc + 3) ls ((0, r) :: st) (k + 0) (n + 0) h2 (f r h2)) : Sim S pc ls ((0, q0) :: (2, b) :: st) k n h (c_k h 9 b (bd_ (f_P_takeSign b q0 h) f)) := s_callV hS mo_X8_takeSign rfl rfl (c_P_takeSign _ _ _ _ h) tw_684 tw_582 tw_583 hR hk rfl rfl hl d kk
theorem gf_X4_96 {S : SX} {cc : ByteArray} {pc : Nat} {ls : List (Nat × Nat × Int)} {st : List (Nat × Int)} {k n : Nat} {h : AH} {a : Int} {f : Int → Option (Int × AH)} (hS : SO S RX4 cc) (d : decode cc pc = .ok (.getfield 96, 3)) (kk : ∀ v : Int, Sim S (pc + 3) ls ((0, v) :: st) k n h (f v)) : Sim S pc ls ((2, a) :: st) k n h ((g_f h 9 a 1).bind f) := s_getf hS cx_8 1 (by decide) tw_157 rfl rfl rfl d kk
theorem gf_X4_99 {S : SX} {cc : ByteArray} {pc : Nat} {ls : List (Nat × Nat × Int)} {st : List (Nat × Int)} {k n : Nat} {h : AH} {a : Int} {f : Int → Option (Int × AH)} (hS : SO S RX4 cc) (d : decode cc pc = .ok (.getfield 99, 3)) (kk : ∀ v : Int, Sim S (pc + 3) ls ((2, v) :: st) k n h (f v)) : Sim S pc ls ((2, a) :: st) k n h ((g_f h 9 a 0).bind f) := s_getf hS cx_8 0 (by decide) tw_154 rfl rfl rfl d kk
abbrev S_D_takeComparison (G : GE) (X : SMw) : SX := (G, X, 3, 0, 0, (some .int), 2, 41)
set_option maxRecDepth 100000 in
set_option maxHeartbeats 4000000 in
theorem b_D_takeComparison_85 {G : GE} {X : SMw} (hS : SO (S_D_takeComparison G X) RX4 cX4_takeComparison) (z0 z1 w0 : Int) (h : AH) : Sim (S_D_takeComparison G X) 85 [(0, 2, z0), (1, 0, z1)] [(0, w0)] 0 0 h (f_D_takeComparison_85 z0 z1 w0 h) := by
  unfold f_D_takeComparison_85
  refine s_istore_n hS dX4_takeComparison_85 rfl (Nat.le_of_ble_eq_true rfl) (ls' := [(2, 0, w0), (0, 2, z0), (1, 0, z1)]) rfl ?_
  refine s_iload_n hS dX4_takeComparison_86 rfl 0 rfl ?_
  refine s_if_eq hS dX4_takeComparison_87 rfl ?_ ?_
  · refine s_iload_n hS dX4_takeComparison_115 rfl 2 rfl ?_
    refine s_if_eq hS dX4_takeComparison_116 rfl ?_ ?_
    · refine s_bipush hS dX4_takeComparison_124 (by decide +kernel) ?_
      exact s_iret hS rfl (Nat.le_of_ble_eq_true rfl) (Nat.le_of_ble_eq_true rfl) dX4_takeComparison_126
    · refine s_bipush hS dX4_takeComparison_119 (by decide +kernel) ?_
      refine s_goto hS dX4_takeComparison_121 rfl ?_
      exact s_iret hS rfl (Nat.le_of_ble_eq_true rfl) (Nat.le_of_ble_eq_true rfl) dX4_takeComparison_126
  · refine s_aload_n hS dX4_takeComparison_90 rfl 1 rfl ?_
    refine gf_X4_15 hS dX4_takeComparison_91 fun v1 => ?_
    refine s_dup hS dX4_takeComparison_94 (by decide) ?_
    refine gf_X4_35 hS dX4_takeComparison_95 fun v2 => ?_
    refine s_iconst hS dX4_takeComparison_98 ?_
    refine s_iadd hS dX4_takeComparison_99 ?_
    refine pf_X4_35 hS dX4_takeComparison_100 fun h3 => ?_
    refine s_iload_n hS dX4_takeComparison_103 rfl 2 rfl ?_
    refine s_if_eq hS dX4_takeComparison_104 rfl ?_ ?_
    · refine s_bipush hS dX4_takeComparison_112 (by decide +kernel) ?_
      exact s_iret hS rfl (Nat.le_of_ble_eq_true rfl) (Nat.le_of_ble_eq_true rfl) dX4_takeComparison_114
    · refine s_bipush hS dX4_takeComparison_107 (by decide +kernel) ?_
      refine s_goto hS dX4_takeComparison_109 rfl ?_
      exact s_iret hS rfl (Nat.le_of_ble_eq_true rfl) (Nat.le_of_ble_eq_true rfl) dX4_takeComparison_114
set_option maxRecDepth 100000 in
set_option maxHeartbeats 4000000 in
theorem b_D_takeComparison_84 {G : GE} {X : SMw} (hS : SO (S_D_takeComparison G X) RX4 cX4_takeComparison) (z0 z1 : Int) (h : AH) : Sim (S_D_takeComparison G X) 84 [(0, 2, z0), (1, 0, z1)] [] 0 0 h (f_D_takeComparison_84 z0 z1 h) := by
  unfold f_D_takeComparison_84
  refine s_iconst hS dX4_takeComparison_84 ?_
  exact b_D_takeComparison_85 hS _ _ _ _
set_option maxRecDepth 100000 in
set_option maxHeartbeats 4000000 in
theorem b_D_takeComparison_43 {G : GE} {X : SMw} (hS : SO (S_D_takeComparison G X) RX4 cX4_takeComparison) (z0 z1 : Int) (h : AH) : Sim (S_D_takeComparison G X) 43 [(0, 2, z0), (1, 0, z1)] [] 0 0 h (f_D_takeComparison_43 z0 z1 h) := by
  unfold f_D_takeComparison_43
  refine s_aload_n hS dX4_takeComparison_43 rfl 0 rfl ?_
  refine gf_X4_15 hS dX4_takeComparison_44 fun v1 => ?_
  refine gf_X4_35 hS dX4_takeComparison_47 fun v2 => ?_
  refine s_aload_n hS dX4_takeComparison_50 rfl 0 rfl ?_
  refine gf_X4_15 hS dX4_takeComparison_51 fun v3 => ?_
  refine gf_X4_96 hS dX4_takeComparison_54 fun v4 => ?_
  refine s_icmp_ge hS dX4_takeComparison_57 rfl ?_ ?_
  · exact b_D_takeComparison_84 hS _ _ _
  · refine s_aload_n hS dX4_takeComparison_60 rfl 0 rfl ?_
    refine gf_X4_15 hS dX4_takeComparison_61 fun v5 => ?_
    refine gf_X4_99 hS dX4_takeComparison_64 fun v6 => ?_
    refine s_aload_n hS dX4_takeComparison_67 rfl 0 rfl ?_
    refine gf_X4_15 hS dX4_takeComparison_68 fun v7 => ?_
    refine gf_X4_35 hS dX4_takeComparison_71 fun v8 => ?_
    refine s_iald hS dX4_takeComparison_74 fun v9 => ?_
    refine s_bipush hS dX4_takeComparison_75 (by decide +kernel) ?_
    refine s_icmp_ne hS dX4_takeComparison_77 rfl ?_ ?_
    · exact b_D_takeComparison_84 hS _ _ _
    · refine s_iconst hS dX4_takeComparison_80 ?_
      refine s_goto hS dX4_takeComparison_81 rfl ?_
      exact b_D_takeComparison_85 hS _ _ _ _
set_option maxRecDepth 100000 in
set_option maxHeartbeats 4000000 in
theorem b_D_takeComparison {G : GE} {X : SMw} (hS : SO (S_D_takeComparison G X) RX4 cX4_takeComparison) (z0 : Int) (h : AH) : Sim (S_D_takeComparison G X) 0 [(0, 2, z0)] [] 0 0 h (f_D_takeComparison z0 h) := by
  unfold f_D_takeComparison
  refine s_aload_n hS dX4_takeComparison_0 rfl 0 rfl ?_
  refine gf_X4_15 hS dX4_takeComparison_1 fun v1 => ?_
  refine s_bipush hS dX4_takeComparison_4 (by decide +kernel) ?_
  refine ca_X4_73 hS ⟨Nat.le_of_ble_eq_true rfl, Nat.le_of_ble_eq_true rfl⟩ ⟨Nat.le_of_ble_eq_true rfl, Nat.le_of_ble_eq_true rfl⟩ (Nat.le_of_ble_eq_true rfl) dX4_takeComparison_6 fun v2 h3 => ?_
  refine s_if_eq hS dX4_takeComparison_9 rfl ?_ ?_
  · refine s_aload_n hS dX4_takeComparison_15 rfl 0 rfl ?_
    refine gf_X4_15 hS dX4_takeComparison_16 fun v4 => ?_
    refine s_bipush hS dX4_takeComparison_19 (by decide +kernel) ?_
    refine ca_X4_73 hS ⟨Nat.le_of_ble_eq_true rfl, Nat.le_of_ble_eq_true rfl⟩ ⟨Nat.le_of_ble_eq_true rfl, Nat.le_of_ble_eq_true rfl⟩ (Nat.le_of_ble_eq_true rfl) dX4_takeComparison_21 fun v5 h6 => ?_
    refine s_istore_n hS dX4_takeComparison_24 rfl (Nat.le_of_ble_eq_true rfl) (ls' := [(1, 0, v5), (0, 2, z0)]) rfl ?_
    refine s_iload_n hS dX4_takeComparison_25 rfl 0 rfl ?_
    refine s_if_ne hS dX4_takeComparison_26 rfl ?_ ?_
    · refine s_ls [1, 0] rfl ?_
      exact b_D_takeComparison_43 hS _ _ _
    · refine s_aload_n hS dX4_takeComparison_29 rfl 1 rfl ?_
      refine gf_X4_15 hS dX4_takeComparison_30 fun v7 => ?_
      refine s_bipush hS dX4_takeComparison_33 (by decide +kernel) ?_
      refine ca_X4_73 hS ⟨Nat.le_of_ble_eq_true rfl, Nat.le_of_ble_eq_true rfl⟩ ⟨Nat.le_of_ble_eq_true rfl, Nat.le_of_ble_eq_true rfl⟩ (Nat.le_of_ble_eq_true rfl) dX4_takeComparison_35 fun v8 h9 => ?_
      refine s_if_ne hS dX4_takeComparison_38 rfl ?_ ?_
      · refine s_ls [1, 0] rfl ?_
        exact b_D_takeComparison_43 hS _ _ _
      · refine s_iconst hS dX4_takeComparison_41 ?_
        exact s_iret hS rfl (Nat.le_of_ble_eq_true rfl) (Nat.le_of_ble_eq_true rfl) dX4_takeComparison_42
  · refine s_bipush hS dX4_takeComparison_12 (by decide +kernel) ?_
    exact s_iret hS rfl (Nat.le_of_ble_eq_true rfl) (Nat.le_of_ble_eq_true rfl) dX4_takeComparison_14
theorem c_D_takeComparison (l : Launch) (G : GE) (z0 : Int) (h : AH) : Con l yX4_takeComparison cX4_takeComparison 3 (some .int) 2 41 0 0 G [(2, z0)] h (f_D_takeComparison z0 h) :=
  con_of (by decide +kernel) (Nat.le_of_ble_eq_true rfl) fun X hX hS hi => b_D_takeComparison hS z0 h
theorem ca_X4_48 {S : SX} {cc : ByteArray} {pc : Nat} {ls : List (Nat × Nat × Int)} {st : List (Nat × Int)} {k n : Nat} {h : AH} {b : Int} {f : Int → AH → Option (Int × AH)} (hS : SO S RX4 cc) (hR : 12 + 1 ≤ S.2.2.2.2.2.2.1 ∧ 8 + (5 + 11) + 373 ≤ S.2.2.2.2.2.2.2) (hk : k + 0 ≤ S.2.2.2.1 ∧ n + 0 ≤ S.2.2.2.2.1) (hl : st.length ≤ 4) (d : decode cc pc = .ok (.invokevirtual 48, 3)) (kk : ∀ (r : Int) (h2 : AH), Sim S (pc + 3) ls ((0, r) :: st) (k + 0) (n + 0) h2 (f r h2)) : Sim S pc ls ((2, b) :: st) k n h (c_k h 5 b (bd_ (f_D_readSum b h) f)) := s_callV hS mo_X4_readSum rfl rfl (c_D_readSum _ _ _ h) tw_650 tw_652 tw_7 hR hk rfl rfl hl d kk
theorem ca_X4_90 {S : SX} {cc : ByteArray} {pc : Nat} {ls : List (Nat × Nat × Int)} {st : List (Nat × Int)} {k n : Nat} {h : AH} {b : Int} {f : Int → AH → Option (Int × AH)} (hS : SO S RX4 cc) (hR : 2 + 1 ≤ S.2.2.2.2.2.2.1 ∧ 8 + (3 + 11) + 41 ≤ S.2.2.2.2.2.2.2) (hk : k + 0 ≤ S.2.2.2.1 ∧ n + 0 ≤ S.2.2.2.2.1) (hl : st.length ≤ 4) (d : decode cc pc = .ok (.invokevirtual 90, 3)) (kk : ∀ (r : Int) (h2 : AH), Sim S (pc + 3) ls ((0, r) :: st) (k + 0) (n + 0) h2 (f r h2)) : Sim S pc ls ((2, b) :: st) k n h (c_k h 5 b (bd_ (f_D_takeComparison b h) f)) := s_callV hS mo_X4_takeComparison rfl rfl (c_D_takeComparison _ _ _ h) tw_693 tw_695 tw_16 hR hk rfl rfl hl d kk
abbrev S_D_readComparison (G : GE) (X : SMw) : SX := (G, X, 3, 0, 0, (some .boolean), 13, 397)
set_option maxRecDepth 100000 in
set_option maxHeartbeats 4000000 in
theorem b_D_readComparison {G : GE} {X : SMw} (hS : SO (S_D_readComparison G X) RX4 cX4_readComparison) (z0 : Int) (h : AH) : Sim (S_D_readComparison G X) 0 [(0, 2, z0)] [] 0 0 h (f_D_readComparison z0 h) := by
  unfold f_D_readComparison
  refine s_aload_n hS dX4_readComparison_0 rfl 0 rfl ?_
  refine ca_X4_48 hS ⟨Nat.le_of_ble_eq_true rfl, Nat.le_of_ble_eq_true rfl⟩ ⟨Nat.le_of_ble_eq_true rfl, Nat.le_of_ble_eq_true rfl⟩ (Nat.le_of_ble_eq_true rfl) dX4_readComparison_1 fun v1 h2 => ?_
  refine s_if_ne hS dX4_readComparison_4 rfl ?_ ?_
  · refine s_aload_n hS dX4_readComparison_9 rfl 0 rfl ?_
    refine gf_X4_15 hS dX4_readComparison_10 fun v3 => ?_
    refine ca_X4_31 hS ⟨Nat.le_of_ble_eq_true rfl, Nat.le_of_ble_eq_true rfl⟩ ⟨Nat.le_of_ble_eq_true rfl, Nat.le_of_ble_eq_true rfl⟩ (Nat.le_of_ble_eq_true rfl) dX4_readComparison_13 fun v4 h5 => ?_
    refine s_pop hS dX4_readComparison_16 (by decide) ?_
    refine s_aload_n hS dX4_readComparison_17 rfl 0 rfl ?_
    refine gf_X4_15 hS dX4_readComparison_18 fun v6 => ?_
    refine gf_X4_35 hS dX4_readComparison_21 fun v7 => ?_
    refine s_istore_n hS dX4_readComparison_24 rfl (Nat.le_of_ble_eq_true rfl) (ls' := [(1, 0, v7), (0, 2, z0)]) rfl ?_
    refine s_aload_n hS dX4_readComparison_25 rfl 1 rfl ?_
    refine ca_X4_90 hS ⟨Nat.le_of_ble_eq_true rfl, Nat.le_of_ble_eq_true rfl⟩ ⟨Nat.le_of_ble_eq_true rfl, Nat.le_of_ble_eq_true rfl⟩ (Nat.le_of_ble_eq_true rfl) dX4_readComparison_26 fun v8 h9 => ?_
    refine s_istore_n hS dX4_readComparison_29 rfl (Nat.le_of_ble_eq_true rfl) (ls' := [(2, 0, v8), (1, 0, v7), (0, 2, z0)]) rfl ?_
    refine s_iload_n hS dX4_readComparison_30 rfl 0 rfl ?_
    refine s_iconst hS dX4_readComparison_31 ?_
    refine s_icmp_ne hS dX4_readComparison_32 rfl ?_ ?_
    · refine s_aload_n hS dX4_readComparison_45 rfl 2 rfl ?_
      refine s_iload_n hS dX4_readComparison_46 rfl 1 rfl ?_
      refine ca_X4_93 hS ⟨Nat.le_of_ble_eq_true rfl, Nat.le_of_ble_eq_true rfl⟩ ⟨Nat.le_of_ble_eq_true rfl, Nat.le_of_ble_eq_true rfl⟩ (Nat.le_of_ble_eq_true rfl) dX4_readComparison_47 fun v10 h11 => ?_
      refine s_if_eq hS dX4_readComparison_50 rfl ?_ ?_
      · refine s_iconst hS dX4_readComparison_60 ?_
        exact s_zret hS rfl (Nat.le_of_ble_eq_true rfl) (Nat.le_of_ble_eq_true rfl) dX4_readComparison_61
      · refine s_aload_n hS dX4_readComparison_53 rfl 2 rfl ?_
        refine ca_X4_48 hS ⟨Nat.le_of_ble_eq_true rfl, Nat.le_of_ble_eq_true rfl⟩ ⟨Nat.le_of_ble_eq_true rfl, Nat.le_of_ble_eq_true rfl⟩ (Nat.le_of_ble_eq_true rfl) dX4_readComparison_54 fun v12 h13 => ?_
        refine s_if_ne hS dX4_readComparison_57 rfl ?_ ?_
        · refine s_aload_n hS dX4_readComparison_62 rfl 2 rfl ?_
          refine s_iload_n hS dX4_readComparison_63 rfl 0 rfl ?_
          refine s_iconst hS dX4_readComparison_64 ?_
          refine ca_X4_58 hS ⟨Nat.le_of_ble_eq_true rfl, Nat.le_of_ble_eq_true rfl⟩ ⟨Nat.le_of_ble_eq_true rfl, Nat.le_of_ble_eq_true rfl⟩ (Nat.le_of_ble_eq_true rfl) dX4_readComparison_65 fun v14 h15 => ?_
          refine s_iconst hS dX4_readComparison_68 ?_
          exact s_zret hS rfl (Nat.le_of_ble_eq_true rfl) (Nat.le_of_ble_eq_true rfl) dX4_readComparison_69
        · refine s_iconst hS dX4_readComparison_60 ?_
          exact s_zret hS rfl (Nat.le_of_ble_eq_true rfl) (Nat.le_of_ble_eq_true rfl) dX4_readComparison_61
    · refine s_aload_n hS dX4_readComparison_35 rfl 2 rfl ?_
      refine gf_X4_15 hS dX4_readComparison_36 fun v16 => ?_
      refine s_iload_n hS dX4_readComparison_39 rfl 1 rfl ?_
      refine s_iconst hS dX4_readComparison_40 ?_
      refine ca_X4_44 hS ⟨Nat.le_of_ble_eq_true rfl, Nat.le_of_ble_eq_true rfl⟩ ⟨Nat.le_of_ble_eq_true rfl, Nat.le_of_ble_eq_true rfl⟩ (Nat.le_of_ble_eq_true rfl) dX4_readComparison_41 fun v17 h18 => ?_
      exact s_zret hS rfl (Nat.le_of_ble_eq_true rfl) (Nat.le_of_ble_eq_true rfl) dX4_readComparison_44
  · refine s_iconst hS dX4_readComparison_7 ?_
    exact s_zret hS rfl (Nat.le_of_ble_eq_true rfl) (Nat.le_of_ble_eq_true rfl) dX4_readComparison_8
theorem c_D_readComparison (l : Launch) (G : GE) (z0 : Int) (h : AH) : Con l yX4_readComparison cX4_readComparison 3 (some .boolean) 13 397 0 0 G [(2, z0)] h (f_D_readComparison z0 h) :=
  con_of (by decide +kernel) (Nat.le_of_ble_eq_true rfl) fun X hX hS hi => b_D_readComparison hS z0 h
theorem ca_X4_87 {S : SX} {cc : ByteArray} {pc : Nat} {ls : List (Nat × Nat × Int)} {st : List (Nat × Int)} {k n : Nat} {h : AH} {b : Int} {f : Int → AH → Option (Int × AH)} (hS : SO S RX4 cc) (hR : 13 + 1 ≤ S.2.2.2.2.2.2.1 ∧ 8 + (3 + 11) + 397 ≤ S.2.2.2.2.2.2.2) (hk : k + 0 ≤ S.2.2.2.1 ∧ n + 0 ≤ S.2.2.2.2.1) (hl : st.length ≤ 4) (d : decode cc pc = .ok (.invokevirtual 87, 3)) (kk : ∀ (r : Int) (h2 : AH), Sim S (pc + 3) ls ((0, r) :: st) (k + 0) (n + 0) h2 (f r h2)) : Sim S pc ls ((2, b) :: st) k n h (c_k h 5 b (bd_ (f_D_readComparison b h) f)) := s_callV hS mo_X4_readComparison rfl rfl (c_D_readComparison _ _ _ h) tw_689 tw_691 tw_15 hR hk rfl rfl hl d kk
abbrev S_D_readTest (G : GE) (X : SMw) (F L : Nat) : SX := (G, X, 5, 0, 0, (some .boolean), (F + 1), (L + 60))
abbrev S_D_readFact (G : GE) (X : SMw) (F L : Nat) : SX := (G, X, 6, 0, 0, (some .boolean), (F + 1), (L + 60))
abbrev S_D_readBrackets (G : GE) (X : SMw) (F L : Nat) : SX := (G, X, 2, 0, 0, (some .boolean), (F + 1), (L + 60))
set_option maxRecDepth 100000 in
set_option maxHeartbeats 4000000 in
theorem b_D_readTest_90 {G : GE} {X : SMw} {F L : Nat} (hS : SO (S_D_readTest G X F L) RX4 cX4_readTest) (hF : 11 ≤ F) (hL : 350 ≤ L) {rec : Int → Int → Int → AH → Option (Int × AH)} (hr0 : ∀ (q0 q1 : Int) (h : AH), Con X.2.1 yX4_readTest cX4_readTest 5 (some .boolean) F L 0 0 G [(2, q0), (0, q1)] h (rec 0 q0 q1 h)) (hr1 : ∀ (q0 q1 : Int) (h : AH), Con X.2.1 yX4_readFact cX4_readFact 6 (some .boolean) F L 0 0 G [(2, q0), (0, q1)] h (rec 1 q0 q1 h)) (hr2 : ∀ (q0 q1 : Int) (h : AH), Con X.2.1 yX4_readBrackets cX4_readBrackets 2 (some .boolean) F L 0 0 G [(2, q0), (0, q1)] h (rec 2 q0 q1 h)) (z0 z2 : Int) (h : AH) : Sim (S_D_readTest G X F L) 90 [(0, 2, z0), (2, 0, z2)] [] 0 0 h (f_D_readTest_90 rec z0 z2 h) := by
  unfold f_D_readTest_90
  refine s_iload_n hS dX4_readTest_90 rfl 1 rfl ?_
  refine s_if_eq hS dX4_readTest_91 rfl ?_ ?_
  · refine s_iconst hS dX4_readTest_101 ?_
    exact s_zret hS rfl (Nat.le_of_ble_eq_true rfl) (Nat.le_of_ble_eq_true rfl) dX4_readTest_102
  · refine s_aload_n hS dX4_readTest_94 rfl 0 rfl ?_
    refine s_bipush hS dX4_readTest_95 (by decide +kernel) ?_
    refine s_iconst hS dX4_readTest_97 ?_
    refine ca_X4_58 hS ⟨by show _ ≤ F + 1; omega, by show _ ≤ L + 60; omega⟩ ⟨Nat.le_of_ble_eq_true rfl, Nat.le_of_ble_eq_true rfl⟩ (Nat.le_of_ble_eq_true rfl) dX4_readTest_98 fun v1 h2 => ?_
    refine s_iconst hS dX4_readTest_101 ?_
    exact s_zret hS rfl (Nat.le_of_ble_eq_true rfl) (Nat.le_of_ble_eq_true rfl) dX4_readTest_102
set_option maxRecDepth 100000 in
set_option maxHeartbeats 4000000 in
theorem b_D_readTest_57 {G : GE} {X : SMw} {F L : Nat} (hS : SO (S_D_readTest G X F L) RX4 cX4_readTest) (hF : 11 ≤ F) (hL : 350 ≤ L) {rec : Int → Int → Int → AH → Option (Int × AH)} (hr0 : ∀ (q0 q1 : Int) (h : AH), Con X.2.1 yX4_readTest cX4_readTest 5 (some .boolean) F L 0 0 G [(2, q0), (0, q1)] h (rec 0 q0 q1 h)) (hr1 : ∀ (q0 q1 : Int) (h : AH), Con X.2.1 yX4_readFact cX4_readFact 6 (some .boolean) F L 0 0 G [(2, q0), (0, q1)] h (rec 1 q0 q1 h)) (hr2 : ∀ (q0 q1 : Int) (h : AH), Con X.2.1 yX4_readBrackets cX4_readBrackets 2 (some .boolean) F L 0 0 G [(2, q0), (0, q1)] h (rec 2 q0 q1 h)) (z0 z1 : Int) {k14 : Int → Int → AH → Option (Int × AH)} (hk14 : ∀ (z2 z3 : Int) (h : AH), Sim (S_D_readTest G X F L) 14 [(0, 2, z0), (1, 0, z1), (2, 0, z2), (3, 0, z3)] [] 0 0 h (k14 z2 z3 h)) (z2 z3 z4 : Int) (h : AH) : Sim (S_D_readTest G X F L) 57 [(0, 2, z0), (1, 0, z1), (2, 0, z2), (3, 0, z3), (4, 0, z4)] [] 0 0 h (f_D_readTest_57 rec k14 z0 z1 z2 z3 z4 h) := by
  unfold f_D_readTest_57
  refine s_aload_n hS dX4_readTest_57 rfl 0 rfl ?_
  refine s_iload_n hS dX4_readTest_58 rfl 1 rfl ?_
  refine s_callV hS mo_X4_readFact rfl rfl (hr1 _ _ _) tw_679 tw_681 tw_13 ⟨by show _ ≤ F + 1; omega, by show _ ≤ L + 60; omega⟩ ⟨Nat.le_of_ble_eq_true rfl, Nat.le_of_ble_eq_true rfl⟩ rfl rfl (Nat.le_of_ble_eq_true rfl) dX4_readTest_59 fun v1 h2 => ?_
  refine s_if_ne hS dX4_readTest_62 rfl ?_ ?_
  · refine s_iload hS dX4_readTest_67 4 rfl ?_
    refine s_if_ne hS dX4_readTest_69 rfl ?_ ?_
    · refine s_aload_n hS dX4_readTest_77 rfl 0 rfl ?_
      refine s_bipush hS dX4_readTest_78 (by decide +kernel) ?_
      refine s_iconst hS dX4_readTest_80 ?_
      refine ca_X4_58 hS ⟨by show _ ≤ F + 1; omega, by show _ ≤ L + 60; omega⟩ ⟨Nat.le_of_ble_eq_true rfl, Nat.le_of_ble_eq_true rfl⟩ (Nat.le_of_ble_eq_true rfl) dX4_readTest_81 fun v3 h4 => ?_
      refine s_iinc hS dX4_readTest_84 3 rfl (Nat.le_of_ble_eq_true rfl) (ls' := [(3, 0, (z3 + 1)), (0, 2, z0), (1, 0, z1), (2, 0, z2), (4, 0, z4)]) rfl ?_
      refine s_goto hS dX4_readTest_87 rfl ?_
      refine s_ls [1, 2, 3, 0] rfl ?_
      exact hk14 _ _ _
    · refine s_iconst hS dX4_readTest_72 ?_
      refine s_istore_n hS dX4_readTest_73 rfl (Nat.le_of_ble_eq_true rfl) (ls' := [(2, 0, 1), (0, 2, z0), (1, 0, z1), (3, 0, z3), (4, 0, z4)]) rfl ?_
      refine s_goto hS dX4_readTest_74 rfl ?_
      refine s_iinc hS dX4_readTest_84 3 rfl (Nat.le_of_ble_eq_true rfl) (ls' := [(3, 0, (z3 + 1)), (2, 0, 1), (0, 2, z0), (1, 0, z1), (4, 0, z4)]) rfl ?_
      refine s_goto hS dX4_readTest_87 rfl ?_
      refine s_ls [2, 3, 1, 0] rfl ?_
      exact hk14 _ _ _
  · refine s_iconst hS dX4_readTest_65 ?_
    exact s_zret hS rfl (Nat.le_of_ble_eq_true rfl) (Nat.le_of_ble_eq_true rfl) dX4_readTest_66
set_option maxRecDepth 100000 in
set_option maxHeartbeats 4000000 in
theorem B_D_readTest_14 {G : GE} {X : SMw} {F L : Nat} (hS : SO (S_D_readTest G X F L) RX4 cX4_readTest) (hF : 11 ≤ F) (hL : 350 ≤ L) {rec : Int → Int → Int → AH → Option (Int × AH)} (hr0 : ∀ (q0 q1 : Int) (h : AH), Con X.2.1 yX4_readTest cX4_readTest 5 (some .boolean) F L 0 0 G [(2, q0), (0, q1)] h (rec 0 q0 q1 h)) (hr1 : ∀ (q0 q1 : Int) (h : AH), Con X.2.1 yX4_readFact cX4_readFact 6 (some .boolean) F L 0 0 G [(2, q0), (0, q1)] h (rec 1 q0 q1 h)) (hr2 : ∀ (q0 q1 : Int) (h : AH), Con X.2.1 yX4_readBrackets cX4_readBrackets 2 (some .boolean) F L 0 0 G [(2, q0), (0, q1)] h (rec 2 q0 q1 h)) (z0 z1 : Int) {k14 : Int → Int → AH → Option (Int × AH)} (hk14 : ∀ (z2 z3 : Int) (h : AH), Sim (S_D_readTest G X F L) 14 [(0, 2, z0), (1, 0, z1), (2, 0, z2), (3, 0, z3)] [] 0 0 h (k14 z2 z3 h)) (z2 z3 : Int) (h : AH) : Sim (S_D_readTest G X F L) 14 [(0, 2, z0), (1, 0, z1), (2, 0, z2), (3, 0, z3)] [] 0 0 h (F_D_readTest_14 rec z0 z1 k14 z2 z3 h) := by
  unfold F_D_readTest_14
  refine s_iload_n hS dX4_readTest_14 rfl 3 rfl ?_
  refine s_sipush hS dX4_readTest_15 (by decide +kernel) ?_
  refine s_icmp_ge hS dX4_readTest_18 rfl ?_ ?_
  · refine s_ls [0, 2] rfl ?_
    exact b_D_readTest_90 hS hF hL hr0 hr1 hr2 _ _ _
  · refine s_aload_n hS dX4_readTest_21 rfl 0 rfl ?_
    refine gf_X4_15 hS dX4_readTest_22 fun v1 => ?_
    refine s_str hS 5 rfl rfl dX4_readTest_25 ?_
    refine ca_X4_40 hS ⟨by show _ ≤ F + 1; omega, by show _ ≤ L + 60; omega⟩ ⟨Nat.le_of_ble_eq_true rfl, Nat.le_of_ble_eq_true rfl⟩ (Nat.le_of_ble_eq_true rfl) dX4_readTest_27 fun v2 h3 => ?_
    refine s_istore hS dX4_readTest_30 (Nat.le_of_ble_eq_true rfl) (ls' := [(4, 0, v2), (0, 2, z0), (1, 0, z1), (2, 0, z2), (3, 0, z3)]) rfl ?_
    refine s_iload hS dX4_readTest_32 0 rfl ?_
    refine s_iconst hS dX4_readTest_34 ?_
    refine s_icmp_ne hS dX4_readTest_35 rfl ?_ ?_
    · refine s_iload hS dX4_readTest_41 0 rfl ?_
      refine s_if_ne hS dX4_readTest_43 rfl ?_ ?_
      · refine s_ls [1, 2, 3, 4, 0] rfl ?_
        exact b_D_readTest_57 hS hF hL hr0 hr1 hr2 _ _ hk14 _ _ _ _
      · refine s_iload_n hS dX4_readTest_46 rfl 3 rfl ?_
        refine s_if_eq hS dX4_readTest_47 rfl ?_ ?_
        · refine s_ls [1, 2, 3, 4, 0] rfl ?_
          exact b_D_readTest_57 hS hF hL hr0 hr1 hr2 _ _ hk14 _ _ _ _
        · refine s_aload_n hS dX4_readTest_50 rfl 1 rfl ?_
          refine s_bipush hS dX4_readTest_51 (by decide +kernel) ?_
          refine s_iconst hS dX4_readTest_53 ?_
          refine ca_X4_58 hS ⟨by show _ ≤ F + 1; omega, by show _ ≤ L + 60; omega⟩ ⟨Nat.le_of_ble_eq_true rfl, Nat.le_of_ble_eq_true rfl⟩ (Nat.le_of_ble_eq_true rfl) dX4_readTest_54 fun v4 h5 => ?_
          refine s_ls [1, 2, 3, 4, 0] rfl ?_
          exact b_D_readTest_57 hS hF hL hr0 hr1 hr2 _ _ hk14 _ _ _ _
    · refine s_goto hS dX4_readTest_38 rfl ?_
      refine s_ls [1, 3] rfl ?_
      exact b_D_readTest_90 hS hF hL hr0 hr1 hr2 _ _ _
set_option maxRecDepth 100000 in
set_option maxHeartbeats 4000000 in
theorem b_D_readTest_14 {G : GE} {X : SMw} {F L : Nat} (hS : SO (S_D_readTest G X F L) RX4 cX4_readTest) (hF : 11 ≤ F) (hL : 350 ≤ L) {rec : Int → Int → Int → AH → Option (Int × AH)} (hr0 : ∀ (q0 q1 : Int) (h : AH), Con X.2.1 yX4_readTest cX4_readTest 5 (some .boolean) F L 0 0 G [(2, q0), (0, q1)] h (rec 0 q0 q1 h)) (hr1 : ∀ (q0 q1 : Int) (h : AH), Con X.2.1 yX4_readFact cX4_readFact 6 (some .boolean) F L 0 0 G [(2, q0), (0, q1)] h (rec 1 q0 q1 h)) (hr2 : ∀ (q0 q1 : Int) (h : AH), Con X.2.1 yX4_readBrackets cX4_readBrackets 2 (some .boolean) F L 0 0 G [(2, q0), (0, q1)] h (rec 2 q0 q1 h)) (z0 z1 : Int) (z2 z3 : Int) (h : AH) : Sim (S_D_readTest G X F L) 14 [(0, 2, z0), (1, 0, z1), (2, 0, z2), (3, 0, z3)] [] 0 0 h (f_D_readTest_14 rec z0 z1 z2 z3 h) := by
  exact s_loop (S := (S_D_readTest G X F L)) (lsf := fun s : Int × Int × AH => [(0, 2, z0), (1, 0, z1), (2, 0, s.1), (3, 0, s.2.1)]) (hf := fun s => s.2.2) (fun kf hkf s => B_D_readTest_14 hS hF hL hr0 hr1 hr2 z0 z1 (fun a0 a1 a2 => hkf (a0, a1, a2)) s.1 s.2.1 s.2.2) fu_ (z2, z3, h)
set_option maxRecDepth 100000 in
set_option maxHeartbeats 4000000 in
theorem b_D_readTest {G : GE} {X : SMw} {F L : Nat} (hS : SO (S_D_readTest G X F L) RX4 cX4_readTest) (hF : 11 ≤ F) (hL : 350 ≤ L) {rec : Int → Int → Int → AH → Option (Int × AH)} (hr0 : ∀ (q0 q1 : Int) (h : AH), Con X.2.1 yX4_readTest cX4_readTest 5 (some .boolean) F L 0 0 G [(2, q0), (0, q1)] h (rec 0 q0 q1 h)) (hr1 : ∀ (q0 q1 : Int) (h : AH), Con X.2.1 yX4_readFact cX4_readFact 6 (some .boolean) F L 0 0 G [(2, q0), (0, q1)] h (rec 1 q0 q1 h)) (hr2 : ∀ (q0 q1 : Int) (h : AH), Con X.2.1 yX4_readBrackets cX4_readBrackets 2 (some .boolean) F L 0 0 G [(2, q0), (0, q1)] h (rec 2 q0 q1 h)) (z0 z1 : Int) (h : AH) : Sim (S_D_readTest G X F L) 0 [(0, 2, z0), (1, 0, z1)] [] 0 0 h (f_D_readTest rec z0 z1 h) := by
  unfold f_D_readTest
  refine s_aload_n hS dX4_readTest_0 rfl 0 rfl ?_
  refine s_iload_n hS dX4_readTest_1 rfl 1 rfl ?_
  refine s_callV hS mo_X4_readFact rfl rfl (hr1 _ _ _) tw_679 tw_681 tw_13 ⟨by show _ ≤ F + 1; omega, by show _ ≤ L + 60; omega⟩ ⟨Nat.le_of_ble_eq_true rfl, Nat.le_of_ble_eq_true rfl⟩ rfl rfl (Nat.le_of_ble_eq_true rfl) dX4_readTest_2 fun v1 h2 => ?_
  refine s_if_ne hS dX4_readTest_5 rfl ?_ ?_
  · refine s_iconst hS dX4_readTest_10 ?_
    refine s_istore_n hS dX4_readTest_11 rfl (Nat.le_of_ble_eq_true rfl) (ls' := [(2, 0, 0), (0, 2, z0), (1, 0, z1)]) rfl ?_
    refine s_iconst hS dX4_readTest_12 ?_
    refine s_istore_n hS dX4_readTest_13 rfl (Nat.le_of_ble_eq_true rfl) (ls' := [(3, 0, 0), (2, 0, 0), (0, 2, z0), (1, 0, z1)]) rfl ?_
    refine s_ls [2, 3, 1, 0] rfl ?_
    exact b_D_readTest_14 hS hF hL hr0 hr1 hr2 _ _ _ _ _
  · refine s_iconst hS dX4_readTest_8 ?_
    exact s_zret hS rfl (Nat.le_of_ble_eq_true rfl) (Nat.le_of_ble_eq_true rfl) dX4_readTest_9
set_option maxRecDepth 100000 in
set_option maxHeartbeats 4000000 in
theorem B_D_readFact_137 {G : GE} {X : SMw} {F L : Nat} (hS : SO (S_D_readFact G X F L) RX4 cX4_readFact) (hF : 14 ≤ F) (hL : 419 ≤ L) {rec : Int → Int → Int → AH → Option (Int × AH)} (hr0 : ∀ (q0 q1 : Int) (h : AH), Con X.2.1 yX4_readTest cX4_readTest 5 (some .boolean) F L 0 0 G [(2, q0), (0, q1)] h (rec 0 q0 q1 h)) (hr1 : ∀ (q0 q1 : Int) (h : AH), Con X.2.1 yX4_readFact cX4_readFact 6 (some .boolean) F L 0 0 G [(2, q0), (0, q1)] h (rec 1 q0 q1 h)) (hr2 : ∀ (q0 q1 : Int) (h : AH), Con X.2.1 yX4_readBrackets cX4_readBrackets 2 (some .boolean) F L 0 0 G [(2, q0), (0, q1)] h (rec 2 q0 q1 h)) (z0 z2 : Int) {k137 : Int → AH → Option (Int × AH)} (hk137 : ∀ (z5 : Int) (h : AH), Sim (S_D_readFact G X F L) 137 [(0, 2, z0), (2, 0, z2), (5, 0, z5)] [] 0 0 h (k137 z5 h)) (z5 : Int) (h : AH) : Sim (S_D_readFact G X F L) 137 [(0, 2, z0), (2, 0, z2), (5, 0, z5)] [] 0 0 h (F_D_readFact_137 rec z0 z2 k137 z5 h) := by
  unfold F_D_readFact_137
  refine s_iload hS dX4_readFact_137 2 rfl ?_
  refine s_iload_n hS dX4_readFact_139 rfl 1 rfl ?_
  refine s_icmp_ge hS dX4_readFact_140 rfl ?_ ?_
  · refine s_iconst hS dX4_readFact_156 ?_
    exact s_zret hS rfl (Nat.le_of_ble_eq_true rfl) (Nat.le_of_ble_eq_true rfl) dX4_readFact_157
  · refine s_aload_n hS dX4_readFact_143 rfl 0 rfl ?_
    refine s_bipush hS dX4_readFact_144 (by decide +kernel) ?_
    refine s_iconst hS dX4_readFact_146 ?_
    refine ca_X4_58 hS ⟨by show _ ≤ F + 1; omega, by show _ ≤ L + 60; omega⟩ ⟨Nat.le_of_ble_eq_true rfl, Nat.le_of_ble_eq_true rfl⟩ (Nat.le_of_ble_eq_true rfl) dX4_readFact_147 fun v1 h2 => ?_
    refine s_iinc hS dX4_readFact_150 2 rfl (Nat.le_of_ble_eq_true rfl) (ls' := [(5, 0, (z5 + 1)), (0, 2, z0), (2, 0, z2)]) rfl ?_
    refine s_goto hS dX4_readFact_153 rfl ?_
    refine s_ls [1, 2, 0] rfl ?_
    exact hk137 _ _
set_option maxRecDepth 100000 in
set_option maxHeartbeats 4000000 in
theorem b_D_readFact_137 {G : GE} {X : SMw} {F L : Nat} (hS : SO (S_D_readFact G X F L) RX4 cX4_readFact) (hF : 14 ≤ F) (hL : 419 ≤ L) {rec : Int → Int → Int → AH → Option (Int × AH)} (hr0 : ∀ (q0 q1 : Int) (h : AH), Con X.2.1 yX4_readTest cX4_readTest 5 (some .boolean) F L 0 0 G [(2, q0), (0, q1)] h (rec 0 q0 q1 h)) (hr1 : ∀ (q0 q1 : Int) (h : AH), Con X.2.1 yX4_readFact cX4_readFact 6 (some .boolean) F L 0 0 G [(2, q0), (0, q1)] h (rec 1 q0 q1 h)) (hr2 : ∀ (q0 q1 : Int) (h : AH), Con X.2.1 yX4_readBrackets cX4_readBrackets 2 (some .boolean) F L 0 0 G [(2, q0), (0, q1)] h (rec 2 q0 q1 h)) (z0 z2 : Int) (z5 : Int) (h : AH) : Sim (S_D_readFact G X F L) 137 [(0, 2, z0), (2, 0, z2), (5, 0, z5)] [] 0 0 h (f_D_readFact_137 rec z0 z2 z5 h) := by
  exact s_loop (S := (S_D_readFact G X F L)) (lsf := fun s : Int × AH => [(0, 2, z0), (2, 0, z2), (5, 0, s.1)]) (hf := fun s => s.2) (fun kf hkf s => B_D_readFact_137 hS hF hL hr0 hr1 hr2 z0 z2 (fun a0 a1 => hkf (a0, a1)) s.1 s.2) fu_ (z5, h)
set_option maxRecDepth 100000 in
set_option maxHeartbeats 4000000 in
theorem b_D_readFact_107 {G : GE} {X : SMw} {F L : Nat} (hS : SO (S_D_readFact G X F L) RX4 cX4_readFact) (hF : 14 ≤ F) (hL : 419 ≤ L) {rec : Int → Int → Int → AH → Option (Int × AH)} (hr0 : ∀ (q0 q1 : Int) (h : AH), Con X.2.1 yX4_readTest cX4_readTest 5 (some .boolean) F L 0 0 G [(2, q0), (0, q1)] h (rec 0 q0 q1 h)) (hr1 : ∀ (q0 q1 : Int) (h : AH), Con X.2.1 yX4_readFact cX4_readFact 6 (some .boolean) F L 0 0 G [(2, q0), (0, q1)] h (rec 1 q0 q1 h)) (hr2 : ∀ (q0 q1 : Int) (h : AH), Con X.2.1 yX4_readBrackets cX4_readBrackets 2 (some .boolean) F L 0 0 G [(2, q0), (0, q1)] h (rec 2 q0 q1 h)) (z0 z1 z2 z4 : Int) (h : AH) : Sim (S_D_readFact G X F L) 107 [(0, 2, z0), (1, 0, z1), (2, 0, z2), (4, 0, z4)] [] 0 0 h (f_D_readFact_107 rec z0 z1 z2 z4 h) := by
  unfold f_D_readFact_107
  refine s_iload hS dX4_readFact_107 3 rfl ?_
  refine s_if_eq hS dX4_readFact_109 rfl ?_ ?_
  · refine s_aload_n hS dX4_readFact_125 rfl 0 rfl ?_
    refine ca_X4_87 hS ⟨by show _ ≤ F + 1; omega, by show _ ≤ L + 60; omega⟩ ⟨Nat.le_of_ble_eq_true rfl, Nat.le_of_ble_eq_true rfl⟩ (Nat.le_of_ble_eq_true rfl) dX4_readFact_126 fun v1 h2 => ?_
    refine s_if_ne hS dX4_readFact_129 rfl ?_ ?_
    · refine s_iload_n hS dX4_readFact_134 rfl 1 rfl ?_
      refine s_istore hS dX4_readFact_135 (Nat.le_of_ble_eq_true rfl) (ls' := [(5, 0, z1), (0, 2, z0), (1, 0, z1), (2, 0, z2), (4, 0, z4)]) rfl ?_
      refine s_ls [1, 3, 0] rfl ?_
      exact b_D_readFact_137 hS hF hL hr0 hr1 hr2 _ _ _ _
    · refine s_iconst hS dX4_readFact_132 ?_
      exact s_zret hS rfl (Nat.le_of_ble_eq_true rfl) (Nat.le_of_ble_eq_true rfl) dX4_readFact_133
  · refine s_aload_n hS dX4_readFact_112 rfl 0 rfl ?_
    refine s_iload_n hS dX4_readFact_113 rfl 2 rfl ?_
    refine s_iconst hS dX4_readFact_114 ?_
    refine s_iadd hS dX4_readFact_115 ?_
    refine s_callV hS mo_X4_readBrackets rfl rfl (hr2 _ _ _) tw_685 tw_687 tw_14 ⟨by show _ ≤ F + 1; omega, by show _ ≤ L + 60; omega⟩ ⟨Nat.le_of_ble_eq_true rfl, Nat.le_of_ble_eq_true rfl⟩ rfl rfl (Nat.le_of_ble_eq_true rfl) dX4_readFact_116 fun v3 h4 => ?_
    refine s_if_eq hS dX4_readFact_119 rfl ?_ ?_
    · refine s_iconst hS dX4_readFact_132 ?_
      exact s_zret hS rfl (Nat.le_of_ble_eq_true rfl) (Nat.le_of_ble_eq_true rfl) dX4_readFact_133
    · refine s_goto hS dX4_readFact_122 rfl ?_
      refine s_iload_n hS dX4_readFact_134 rfl 1 rfl ?_
      refine s_istore hS dX4_readFact_135 (Nat.le_of_ble_eq_true rfl) (ls' := [(5, 0, z1), (0, 2, z0), (1, 0, z1), (2, 0, z2), (4, 0, z4)]) rfl ?_
      refine s_ls [1, 3, 0] rfl ?_
      exact b_D_readFact_137 hS hF hL hr0 hr1 hr2 _ _ _ _
set_option maxRecDepth 100000 in
set_option maxHeartbeats 4000000 in
theorem b_D_readFact_75 {G : GE} {X : SMw} {F L : Nat} (hS : SO (S_D_readFact G X F L) RX4 cX4_readFact) (hF : 14 ≤ F) (hL : 419 ≤ L) {rec : Int → Int → Int → AH → Option (Int × AH)} (hr0 : ∀ (q0 q1 : Int) (h : AH), Con X.2.1 yX4_readTest cX4_readTest 5 (some .boolean) F L 0 0 G [(2, q0), (0, q1)] h (rec 0 q0 q1 h)) (hr1 : ∀ (q0 q1 : Int) (h : AH), Con X.2.1 yX4_readFact cX4_readFact 6 (some .boolean) F L 0 0 G [(2, q0), (0, q1)] h (rec 1 q0 q1 h)) (hr2 : ∀ (q0 q1 : Int) (h : AH), Con X.2.1 yX4_readBrackets cX4_readBrackets 2 (some .boolean) F L 0 0 G [(2, q0), (0, q1)] h (rec 2 q0 q1 h)) (z0 z1 z2 z3 : Int) (h : AH) : Sim (S_D_readFact G X F L) 75 [(0, 2, z0), (1, 0, z1), (2, 0, z2), (3, 0, z3)] [] 0 0 h (f_D_readFact_75 rec z0 z1 z2 z3 h) := by
  unfold f_D_readFact_75
  refine s_aload_n hS dX4_readFact_75 rfl 0 rfl ?_
  refine gf_X4_15 hS dX4_readFact_76 fun v1 => ?_
  refine s_bipush hS dX4_readFact_79 (by decide +kernel) ?_
  refine ca_X4_73 hS ⟨by show _ ≤ F + 1; omega, by show _ ≤ L + 60; omega⟩ ⟨Nat.le_of_ble_eq_true rfl, Nat.le_of_ble_eq_true rfl⟩ (Nat.le_of_ble_eq_true rfl) dX4_readFact_81 fun v2 h3 => ?_
  refine s_istore hS dX4_readFact_84 (Nat.le_of_ble_eq_true rfl) (ls' := [(4, 0, v2), (0, 2, z0), (1, 0, z1), (2, 0, z2), (3, 0, z3)]) rfl ?_
  refine s_iload hS dX4_readFact_86 0 rfl ?_
  refine s_if_eq hS dX4_readFact_88 rfl ?_ ?_
  · refine s_ls [1, 2, 3, 0] rfl ?_
    exact b_D_readFact_107 hS hF hL hr0 hr1 hr2 _ _ _ _ _
  · refine s_iload_n hS dX4_readFact_91 rfl 3 rfl ?_
    refine s_bipush hS dX4_readFact_92 (by decide +kernel) ?_
    refine s_icmp_lt hS dX4_readFact_94 rfl ?_ ?_
    · refine s_ls [1, 2, 3, 0] rfl ?_
      exact b_D_readFact_107 hS hF hL hr0 hr1 hr2 _ _ _ _ _
    · refine s_aload_n hS dX4_readFact_97 rfl 1 rfl ?_
      refine gf_X4_15 hS dX4_readFact_98 fun v4 => ?_
      refine s_iload_n hS dX4_readFact_101 rfl 4 rfl ?_
      refine s_iconst hS dX4_readFact_102 ?_
      refine ca_X4_44 hS ⟨by show _ ≤ F + 1; omega, by show _ ≤ L + 60; omega⟩ ⟨Nat.le_of_ble_eq_true rfl, Nat.le_of_ble_eq_true rfl⟩ (Nat.le_of_ble_eq_true rfl) dX4_readFact_103 fun v5 h6 => ?_
      exact s_zret hS rfl (Nat.le_of_ble_eq_true rfl) (Nat.le_of_ble_eq_true rfl) dX4_readFact_106
set_option maxRecDepth 100000 in
set_option maxHeartbeats 4000000 in
theorem B_D_readFact_18 {G : GE} {X : SMw} {F L : Nat} (hS : SO (S_D_readFact G X F L) RX4 cX4_readFact) (hF : 14 ≤ F) (hL : 419 ≤ L) {rec : Int → Int → Int → AH → Option (Int × AH)} (hr0 : ∀ (q0 q1 : Int) (h : AH), Con X.2.1 yX4_readTest cX4_readTest 5 (some .boolean) F L 0 0 G [(2, q0), (0, q1)] h (rec 0 q0 q1 h)) (hr1 : ∀ (q0 q1 : Int) (h : AH), Con X.2.1 yX4_readFact cX4_readFact 6 (some .boolean) F L 0 0 G [(2, q0), (0, q1)] h (rec 1 q0 q1 h)) (hr2 : ∀ (q0 q1 : Int) (h : AH), Con X.2.1 yX4_readBrackets cX4_readBrackets 2 (some .boolean) F L 0 0 G [(2, q0), (0, q1)] h (rec 2 q0 q1 h)) (z0 z1 : Int) {k18 : Int → Int → AH → Option (Int × AH)} (hk18 : ∀ (z2 z3 : Int) (h : AH), Sim (S_D_readFact G X F L) 18 [(0, 2, z0), (1, 0, z1), (2, 0, z2), (3, 0, z3)] [] 0 0 h (k18 z2 z3 h)) (z2 z3 : Int) (h : AH) : Sim (S_D_readFact G X F L) 18 [(0, 2, z0), (1, 0, z1), (2, 0, z2), (3, 0, z3)] [] 0 0 h (F_D_readFact_18 rec z0 z1 k18 z2 z3 h) := by
  unfold F_D_readFact_18
  refine s_iload_n hS dX4_readFact_18 rfl 2 rfl ?_
  refine s_bipush hS dX4_readFact_19 (by decide +kernel) ?_
  refine s_icmp_gt hS dX4_readFact_21 rfl ?_ ?_
  · exact b_D_readFact_75 hS hF hL hr0 hr1 hr2 _ _ _ _ _
  · refine s_aload_n hS dX4_readFact_24 rfl 0 rfl ?_
    refine gf_X4_15 hS dX4_readFact_25 fun v1 => ?_
    refine s_str hS 4 rfl rfl dX4_readFact_28 ?_
    refine ca_X4_40 hS ⟨by show _ ≤ F + 1; omega, by show _ ≤ L + 60; omega⟩ ⟨Nat.le_of_ble_eq_true rfl, Nat.le_of_ble_eq_true rfl⟩ (Nat.le_of_ble_eq_true rfl) dX4_readFact_30 fun v2 h3 => ?_
    refine s_iconst hS dX4_readFact_33 ?_
    refine s_icmp_eq hS dX4_readFact_34 rfl ?_ ?_
    · exact b_D_readFact_75 hS hF hL hr0 hr1 hr2 _ _ _ _ _
    · refine s_iload_n hS dX4_readFact_37 rfl 2 rfl ?_
      refine s_bipush hS dX4_readFact_38 (by decide +kernel) ?_
      refine s_icmp_ne hS dX4_readFact_40 rfl ?_ ?_
      · refine s_iinc hS dX4_readFact_53 2 rfl (Nat.le_of_ble_eq_true rfl) (ls' := [(2, 0, (z2 + 1)), (0, 2, z0), (1, 0, z1), (3, 0, z3)]) rfl ?_
        refine s_aload_n hS dX4_readFact_56 rfl 1 rfl ?_
        refine gf_X4_15 hS dX4_readFact_57 fun v4 => ?_
        refine ca_X4_31 hS ⟨by show _ ≤ F + 1; omega, by show _ ≤ L + 60; omega⟩ ⟨Nat.le_of_ble_eq_true rfl, Nat.le_of_ble_eq_true rfl⟩ (Nat.le_of_ble_eq_true rfl) dX4_readFact_60 fun v5 h6 => ?_
        refine s_pop hS dX4_readFact_63 (by decide) ?_
        refine s_aload_n hS dX4_readFact_64 rfl 1 rfl ?_
        refine gf_X4_15 hS dX4_readFact_65 fun v7 => ?_
        refine gf_X4_35 hS dX4_readFact_68 fun v8 => ?_
        refine s_istore_n hS dX4_readFact_71 rfl (Nat.le_of_ble_eq_true rfl) (ls' := [(3, 0, v8), (2, 0, (z2 + 1)), (0, 2, z0), (1, 0, z1)]) rfl ?_
        refine s_goto hS dX4_readFact_72 rfl ?_
        refine s_ls [2, 3, 1, 0] rfl ?_
        exact hk18 _ _ _
      · refine s_aload_n hS dX4_readFact_43 rfl 0 rfl ?_
        refine gf_X4_15 hS dX4_readFact_44 fun v9 => ?_
        refine s_iload_n hS dX4_readFact_47 rfl 3 rfl ?_
        refine s_iconst hS dX4_readFact_48 ?_
        refine ca_X4_44 hS ⟨by show _ ≤ F + 1; omega, by show _ ≤ L + 60; omega⟩ ⟨Nat.le_of_ble_eq_true rfl, Nat.le_of_ble_eq_true rfl⟩ (Nat.le_of_ble_eq_true rfl) dX4_readFact_49 fun v10 h11 => ?_
        exact s_zret hS rfl (Nat.le_of_ble_eq_true rfl) (Nat.le_of_ble_eq_true rfl) dX4_readFact_52
set_option maxRecDepth 100000 in
set_option maxHeartbeats 4000000 in
theorem b_D_readFact_18 {G : GE} {X : SMw} {F L : Nat} (hS : SO (S_D_readFact G X F L) RX4 cX4_readFact) (hF : 14 ≤ F) (hL : 419 ≤ L) {rec : Int → Int → Int → AH → Option (Int × AH)} (hr0 : ∀ (q0 q1 : Int) (h : AH), Con X.2.1 yX4_readTest cX4_readTest 5 (some .boolean) F L 0 0 G [(2, q0), (0, q1)] h (rec 0 q0 q1 h)) (hr1 : ∀ (q0 q1 : Int) (h : AH), Con X.2.1 yX4_readFact cX4_readFact 6 (some .boolean) F L 0 0 G [(2, q0), (0, q1)] h (rec 1 q0 q1 h)) (hr2 : ∀ (q0 q1 : Int) (h : AH), Con X.2.1 yX4_readBrackets cX4_readBrackets 2 (some .boolean) F L 0 0 G [(2, q0), (0, q1)] h (rec 2 q0 q1 h)) (z0 z1 : Int) (z2 z3 : Int) (h : AH) : Sim (S_D_readFact G X F L) 18 [(0, 2, z0), (1, 0, z1), (2, 0, z2), (3, 0, z3)] [] 0 0 h (f_D_readFact_18 rec z0 z1 z2 z3 h) := by
  exact s_loop (S := (S_D_readFact G X F L)) (lsf := fun s : Int × Int × AH => [(0, 2, z0), (1, 0, z1), (2, 0, s.1), (3, 0, s.2.1)]) (hf := fun s => s.2.2) (fun kf hkf s => B_D_readFact_18 hS hF hL hr0 hr1 hr2 z0 z1 (fun a0 a1 a2 => hkf (a0, a1, a2)) s.1 s.2.1 s.2.2) fu_ (z2, z3, h)
set_option maxRecDepth 100000 in
set_option maxHeartbeats 4000000 in
theorem b_D_readFact {G : GE} {X : SMw} {F L : Nat} (hS : SO (S_D_readFact G X F L) RX4 cX4_readFact) (hF : 14 ≤ F) (hL : 419 ≤ L) {rec : Int → Int → Int → AH → Option (Int × AH)} (hr0 : ∀ (q0 q1 : Int) (h : AH), Con X.2.1 yX4_readTest cX4_readTest 5 (some .boolean) F L 0 0 G [(2, q0), (0, q1)] h (rec 0 q0 q1 h)) (hr1 : ∀ (q0 q1 : Int) (h : AH), Con X.2.1 yX4_readFact cX4_readFact 6 (some .boolean) F L 0 0 G [(2, q0), (0, q1)] h (rec 1 q0 q1 h)) (hr2 : ∀ (q0 q1 : Int) (h : AH), Con X.2.1 yX4_readBrackets cX4_readBrackets 2 (some .boolean) F L 0 0 G [(2, q0), (0, q1)] h (rec 2 q0 q1 h)) (z0 z1 : Int) (h : AH) : Sim (S_D_readFact G X F L) 0 [(0, 2, z0), (1, 0, z1)] [] 0 0 h (f_D_readFact rec z0 z1 h) := by
  unfold f_D_readFact
  refine s_iload_n hS dX4_readFact_0 rfl 1 rfl ?_
  refine s_istore_n hS dX4_readFact_1 rfl (Nat.le_of_ble_eq_true rfl) (ls' := [(2, 0, z1), (0, 2, z0), (1, 0, z1)]) rfl ?_
  refine s_aload_n hS dX4_readFact_2 rfl 1 rfl ?_
  refine gf_X4_15 hS dX4_readFact_3 fun v1 => ?_
  refine ca_X4_31 hS ⟨by show _ ≤ F + 1; omega, by show _ ≤ L + 60; omega⟩ ⟨Nat.le_of_ble_eq_true rfl, Nat.le_of_ble_eq_true rfl⟩ (Nat.le_of_ble_eq_true rfl) dX4_readFact_6 fun v2 h3 => ?_
  refine s_pop hS dX4_readFact_9 (by decide) ?_
  refine s_aload_n hS dX4_readFact_10 rfl 1 rfl ?_
  refine gf_X4_15 hS dX4_readFact_11 fun v4 => ?_
  refine gf_X4_35 hS dX4_readFact_14 fun v5 => ?_
  refine s_istore_n hS dX4_readFact_17 rfl (Nat.le_of_ble_eq_true rfl) (ls' := [(3, 0, v5), (2, 0, z1), (0, 2, z0), (1, 0, z1)]) rfl ?_
  refine s_ls [2, 3, 1, 0] rfl ?_
  exact b_D_readFact_18 hS hF hL hr0 hr1 hr2 _ _ _ _ _
set_option maxRecDepth 100000 in
set_option maxHeartbeats 4000000 in
theorem b_D_readBrackets {G : GE} {X : SMw} {F L : Nat} (hS : SO (S_D_readBrackets G X F L) RX4 cX4_readBrackets) (hF : 2 ≤ F) (hL : 41 ≤ L) {rec : Int → Int → Int → AH → Option (Int × AH)} (hr0 : ∀ (q0 q1 : Int) (h : AH), Con X.2.1 yX4_readTest cX4_readTest 5 (some .boolean) F L 0 0 G [(2, q0), (0, q1)] h (rec 0 q0 q1 h)) (hr1 : ∀ (q0 q1 : Int) (h : AH), Con X.2.1 yX4_readFact cX4_readFact 6 (some .boolean) F L 0 0 G [(2, q0), (0, q1)] h (rec 1 q0 q1 h)) (hr2 : ∀ (q0 q1 : Int) (h : AH), Con X.2.1 yX4_readBrackets cX4_readBrackets 2 (some .boolean) F L 0 0 G [(2, q0), (0, q1)] h (rec 2 q0 q1 h)) (z0 z1 : Int) (h : AH) : Sim (S_D_readBrackets G X F L) 0 [(0, 2, z0), (1, 0, z1)] [] 0 0 h (f_D_readBrackets rec z0 z1 h) := by
  unfold f_D_readBrackets
  refine s_aload_n hS dX4_readBrackets_0 rfl 0 rfl ?_
  refine s_iload_n hS dX4_readBrackets_1 rfl 1 rfl ?_
  refine s_callV hS mo_X4_readTest rfl rfl (hr0 _ _ _) tw_675 tw_677 tw_12 ⟨by show _ ≤ F + 1; omega, by show _ ≤ L + 60; omega⟩ ⟨Nat.le_of_ble_eq_true rfl, Nat.le_of_ble_eq_true rfl⟩ rfl rfl (Nat.le_of_ble_eq_true rfl) dX4_readBrackets_2 fun v1 h2 => ?_
  refine s_if_eq hS dX4_readBrackets_5 rfl ?_ ?_
  · refine s_iconst hS dX4_readBrackets_42 ?_
    exact s_zret hS rfl (Nat.le_of_ble_eq_true rfl) (Nat.le_of_ble_eq_true rfl) dX4_readBrackets_43
  · refine s_aload_n hS dX4_readBrackets_8 rfl 0 rfl ?_
    refine gf_X4_15 hS dX4_readBrackets_9 fun v3 => ?_
    refine s_bipush hS dX4_readBrackets_12 (by decide +kernel) ?_
    refine ca_X4_73 hS ⟨by show _ ≤ F + 1; omega, by show _ ≤ L + 60; omega⟩ ⟨Nat.le_of_ble_eq_true rfl, Nat.le_of_ble_eq_true rfl⟩ (Nat.le_of_ble_eq_true rfl) dX4_readBrackets_14 fun v4 h5 => ?_
    refine s_if_ne hS dX4_readBrackets_17 rfl ?_ ?_
    · refine s_iconst hS dX4_readBrackets_38 ?_
      refine s_goto hS dX4_readBrackets_39 rfl ?_
      exact s_zret hS rfl (Nat.le_of_ble_eq_true rfl) (Nat.le_of_ble_eq_true rfl) dX4_readBrackets_43
    · refine s_aload_n hS dX4_readBrackets_20 rfl 0 rfl ?_
      refine gf_X4_15 hS dX4_readBrackets_21 fun v6 => ?_
      refine s_aload_n hS dX4_readBrackets_24 rfl 0 rfl ?_
      refine gf_X4_15 hS dX4_readBrackets_25 fun v7 => ?_
      refine gf_X4_35 hS dX4_readBrackets_28 fun v8 => ?_
      refine s_iconst hS dX4_readBrackets_31 ?_
      refine ca_X4_44 hS ⟨by show _ ≤ F + 1; omega, by show _ ≤ L + 60; omega⟩ ⟨Nat.le_of_ble_eq_true rfl, Nat.le_of_ble_eq_true rfl⟩ (Nat.le_of_ble_eq_true rfl) dX4_readBrackets_32 fun v9 h10 => ?_
      refine s_if_eq hS dX4_readBrackets_35 rfl ?_ ?_
      · refine s_iconst hS dX4_readBrackets_42 ?_
        exact s_zret hS rfl (Nat.le_of_ble_eq_true rfl) (Nat.le_of_ble_eq_true rfl) dX4_readBrackets_43
      · refine s_iconst hS dX4_readBrackets_38 ?_
        refine s_goto hS dX4_readBrackets_39 rfl ?_
        exact s_zret hS rfl (Nat.le_of_ble_eq_true rfl) (Nat.le_of_ble_eq_true rfl) dX4_readBrackets_43
theorem rc_r_D (l : Launch) (G : GE) : ∀ n : Nat, (∀ (z0 z1 : Int) (h : AH), Con l yX4_readTest cX4_readTest 5 (some .boolean) (14 + n) (419 + n * 60) 0 0 G [(2, z0), (0, z1)] h (r_D n 0 z0 z1 h)) ∧ (∀ (z0 z1 : Int) (h : AH), Con l yX4_readFact cX4_readFact 6 (some .boolean) (14 + n) (419 + n * 60) 0 0 G [(2, z0), (0, z1)] h (r_D n 1 z0 z1 h)) ∧ (∀ (z0 z1 : Int) (h : AH), Con l yX4_readBrackets cX4_readBrackets 2 (some .boolean) (14 + n) (419 + n * 60) 0 0 G [(2, z0), (0, z1)] h (r_D n 2 z0 z1 h)) := by
  intro n
  induction n with
  | zero => exact ⟨(fun _ _ h r h2 e => by cases e), (fun _ _ h r h2 e => by cases e), (fun _ _ h r h2 e => by cases e)⟩
  | succ n ih => exact ⟨(fun z0 z1 h => con_of (by decide +kernel) (Nat.le_of_ble_eq_true rfl) fun X hX hS hi => by rw [show 419 + (n + 1) * 60 = (419 + n * 60) + 60 by omega] at hS ⊢; exact b_D_readTest (F := 14 + n) (L := 419 + n * 60) (X := X) hS (by omega) (by omega) (by subst hX; exact ih.1) (by subst hX; exact ih.2.1) (by subst hX; exact ih.2.2) _ _ h), (fun z0 z1 h => con_of (by decide +kernel) (Nat.le_of_ble_eq_true rfl) fun X hX hS hi => by rw [show 419 + (n + 1) * 60 = (419 + n * 60) + 60 by omega] at hS ⊢; exact b_D_readFact (F := 14 + n) (L := 419 + n * 60) (X := X) hS (by omega) (by omega) (by subst hX; exact ih.1) (by subst hX; exact ih.2.1) (by subst hX; exact ih.2.2) _ _ h), (fun z0 z1 h => con_of (by decide +kernel) (Nat.le_of_ble_eq_true rfl) fun X hX hS hi => by rw [show 419 + (n + 1) * 60 = (419 + n * 60) + 60 by omega] at hS ⊢; exact b_D_readBrackets (F := 14 + n) (L := 419 + n * 60) (X := X) hS (by omega) (by omega) (by subst hX; exact ih.1) (by subst hX; exact ih.2.1) (by subst hX; exact ih.2.2) _ _ h)⟩
theorem c_D_readTest (l : Launch) (G : GE) (z0 z1 : Int) (h : AH) : Con l yX4_readTest cX4_readTest 5 (some .boolean) 54 2819 0 0 G [(2, z0), (0, z1)] h (r_D 40 0 z0 z1 h) := (rc_r_D l G 40).1 z0 z1 h
theorem c_D_readFact (l : Launch) (G : GE) (z0 z1 : Int) (h : AH) : Con l yX4_readFact cX4_readFact 6 (some .boolean) 54 2819 0 0 G [(2, z0), (0, z1)] h (r_D 40 1 z0 z1 h) := (rc_r_D l G 40).2.1 z0 z1 h
theorem c_D_readBrackets (l : Launch) (G : GE) (z0 z1 : Int) (h : AH) : Con l yX4_readBrackets cX4_readBrackets 2 (some .boolean) 54 2819 0 0 G [(2, z0), (0, z1)] h (r_D 40 2 z0 z1 h) := (rc_r_D l G 40).2.2 z0 z1 h
abbrev S_J7_copyOf_59c91 (G : GE) (X : SMw) : SX := (G, X, 3, 1, 400, (some (.array .int)), 1, 60)
set_option maxRecDepth 100000 in
set_option maxHeartbeats 4000000 in
theorem b_J7_copyOf_59c91 {G : GE} {X : SMw} (hS : SO (S_J7_copyOf_59c91 G X) RJ7 cJ7_copyOf_59c91) (z0 z1 : Int) (h : AH) : Sim (S_J7_copyOf_59c91 G X) 0 [(0, 2, z0), (1, 0, z1)] [] 0 0 h (f_J7_copyOf_59c91 z0 z1 h) := by
  unfold f_J7_copyOf_59c91
  refine s_iload_n hS dJ7_copyOf_59c91_0 rfl 1 rfl ?_
  refine s_aload_n hS dJ7_copyOf_59c91_1 rfl 0 rfl ?_
  refine s_alen hS (by decide) (by decide) dJ7_copyOf_59c91_2 fun v1 => ?_
  refine s_icmp_ne hS dJ7_copyOf_59c91_3 rfl ?_ ?_
  · refine s_iload_n hS dJ7_copyOf_59c91_14 rfl 1 rfl ?_
    refine s_newab hS (at_ := .int) (M := 400) rfl (by decide) (by decide) rfl (by decide) tw_176 (Nat.le_of_ble_eq_true rfl) (Nat.le_of_ble_eq_true rfl) dJ7_copyOf_59c91_15 fun x3 h2 => ?_
    refine s_astore_n hS dJ7_copyOf_59c91_17 rfl (Nat.le_of_ble_eq_true rfl) (ls' := [(2, 2, x3), (0, 2, z0), (1, 0, z1)]) rfl ?_
    refine s_aload_n hS dJ7_copyOf_59c91_18 rfl 1 rfl ?_
    refine s_iconst hS dJ7_copyOf_59c91_19 ?_
    refine s_aload_n hS dJ7_copyOf_59c91_20 rfl 0 rfl ?_
    refine s_iconst hS dJ7_copyOf_59c91_21 ?_
    refine s_aload_n hS dJ7_copyOf_59c91_22 rfl 1 rfl ?_
    refine s_alen hS (by decide) (by decide) dJ7_copyOf_59c91_23 fun v4 => ?_
    refine s_iload_n hS dJ7_copyOf_59c91_24 rfl 2 rfl ?_
    refine s_mmin hS tw_710 tw_711 tw_136 tw_712 ⟨Nat.le_of_ble_eq_true rfl, Nat.le_of_ble_eq_true rfl⟩ ⟨Nat.le_of_ble_eq_true rfl, Nat.le_of_ble_eq_true rfl⟩ (Nat.le_of_ble_eq_true rfl) dJ7_copyOf_59c91_25 ?_
    refine s_acopy hS (t := 20) (by decide) tw_713 tw_715 tw_714 tw_137 ⟨Nat.le_of_ble_eq_true rfl, Nat.le_of_ble_eq_true rfl⟩ (Nat.le_of_ble_eq_true rfl) dJ7_copyOf_59c91_28 fun h5 => ?_
    refine s_aload_n hS dJ7_copyOf_59c91_31 rfl 0 rfl ?_
    exact s_aret hS rfl (Or.inr ⟨_, rfl⟩) (Nat.le_of_ble_eq_true rfl) (Nat.le_of_ble_eq_true rfl) dJ7_copyOf_59c91_32
  · refine s_aload_n hS dJ7_copyOf_59c91_6 rfl 0 rfl ?_
    exact s_none
theorem c_J7_copyOf_59c91 (l : Launch) (G : GE) (z0 z1 : Int) (h : AH) : Con l yJ7_copyOf_59c91 cJ7_copyOf_59c91 3 (some (.array .int)) 1 60 1 400 G [(2, z0), (0, z1)] h (f_J7_copyOf_59c91 z0 z1 h) :=
  con_of (by decide +kernel) (Nat.le_of_ble_eq_true rfl) fun X hX hS hi => b_J7_copyOf_59c91 hS z0 z1 h
theorem ca_X4_19 {S : SX} {cc : ByteArray} {pc : Nat} {ls : List (Nat × Nat × Int)} {st : List (Nat × Int)} {k n : Nat} {h : AH} {b : Int} {f : Int → AH → Option (Int × AH)} (hS : SO S RX4 cc) (hR : 0 + 1 ≤ S.2.2.2.2.2.2.1 ∧ 8 + (1 + 11) + 0 ≤ S.2.2.2.2.2.2.2) (hk : k + 0 ≤ S.2.2.2.1 ∧ n + 0 ≤ S.2.2.2.2.1) (hl : st.length ≤ 4) (d : decode cc pc = .ok (.invokevirtual 19, 3)) (kk : ∀ (r : Int) (h2 : AH), Sim S (pc + 3) ls (st) (k + 0) (n + 0) h2 (f r h2)) : Sim S pc ls ((2, b) :: st) k n h (c_k h 9 b (bd_ (f_P_rewind b h) f)) := s_callV hS mo_X8_rewind rfl rfl (c_P_rewind _ _ _ h) tw_645 tw_487 tw_488 hR hk rfl rfl hl d kk
theorem ca_X4_54 {S : SX} {cc : ByteArray} {pc : Nat} {ls : List (Nat × Nat × Int)} {st : List (Nat × Int)} {k n : Nat} {h : AH} {q0 b : Int} {f : Int → AH → Option (Int × AH)} (hS : SO S RX4 cc) (hR : 54 + 1 ≤ S.2.2.2.2.2.2.1 ∧ 8 + (5 + 11) + 2819 ≤ S.2.2.2.2.2.2.2) (hk : k + 0 ≤ S.2.2.2.1 ∧ n + 0 ≤ S.2.2.2.2.1) (hl : st.length ≤ 4) (d : decode cc pc = .ok (.invokevirtual 54, 3)) (kk : ∀ (r : Int) (h2 : AH), Sim S (pc + 3) ls ((0, r) :: st) (k + 0) (n + 0) h2 (f r h2)) : Sim S pc ls ((0, q0) :: (2, b) :: st) k n h (c_k h 5 b (bd_ (r_D 40 0 b q0 h) f)) := s_callV hS mo_X4_readTest rfl rfl (c_D_readTest _ _ _ _ h) tw_675 tw_677 tw_12 hR hk rfl rfl hl d kk
theorem ca_X4_64 {S : SX} {cc : ByteArray} {pc : Nat} {ls : List (Nat × Nat × Int)} {st : List (Nat × Int)} {k n : Nat} {h : AH} {q0 q1 : Int} {f : Int → AH → Option (Int × AH)} (hS : SO S RX4 cc) (hR : 1 + 1 ≤ S.2.2.2.2.2.2.1 ∧ 8 + (3 + 11) + 60 ≤ S.2.2.2.2.2.2.2) (hk : k + 1 ≤ S.2.2.2.1 ∧ n + 400 ≤ S.2.2.2.2.1) (hl : st.length ≤ 4) (d : decode cc pc = .ok (.invokestatic 64, 3)) (kk : ∀ (r : Int) (h2 : AH), Sim S (pc + 3) ls ((2, r) :: st) (k + 1) (n + 400) h2 (f r h2)) : Sim S pc ls ((0, q1) :: (2, q0) :: st) k n h (bd_ (f_J7_copyOf_59c91 q0 q1 h) f) := s_callS hS mo_J7_copyOf_59c91 (c_J7_copyOf_59c91 _ _ _ _ h) tw_700 tw_701 hR hk rfl rfl hl d kk
theorem ca_X4_70 {S : SX} {cc : ByteArray} {pc : Nat} {ls : List (Nat × Nat × Int)} {st : List (Nat × Int)} {k n : Nat} {h : AH} {q0 b : Int} {f : Int → AH → Option (Int × AH)} (hS : SO S RX4 cc) (hR : 1 + 1 ≤ S.2.2.2.2.2.2.1 ∧ 8 + (2 + 11) + 20 ≤ S.2.2.2.2.2.2.2) (hk : k + 1 ≤ S.2.2.2.1 ∧ n + 32 ≤ S.2.2.2.2.1) (hl : st.length ≤ 4) (d : decode cc pc = .ok (.invokespecial 70, 3)) (kk : ∀ (r : Int) (h2 : AH), Sim S (pc + 3) ls (st) (k + 1) (n + 32) h2 (f r h2)) : Sim S pc ls ((2, q0) :: (2, b) :: st) k n h (c_k h 4 b (bd_ (f_R_init b q0 h) f)) := s_callI hS mo_X3_init rfl (c_R_init _ _ _ _ h) (by decide) tw_716 tw_717 hR hk rfl rfl hl d kk
abbrev S_D_readAll (G : GE) (X : SMw) : SX := (G, X, 4, 3, 434, (some (.object "BallotBook$Rule")), 55, 2843)
set_option maxRecDepth 100000 in
set_option maxHeartbeats 4000000 in
theorem b_D_readAll_138 {G : GE} {X : SMw} (hS : SO (S_D_readAll G X) RX4 cX4_readAll) (z0 : Int) {k19 : Int → AH → Option (Int × AH)} (hk19 : ∀ (z1 : Int) (h : AH), Sim (S_D_readAll G X) 19 [(0, 2, z0), (1, 0, z1)] [] 0 0 h (k19 z1 h)) (z1 w0 w1 : Int) (h : AH) : Sim (S_D_readAll G X) 138 [(0, 2, z0), (1, 0, z1)] [(0, w1), (2, w0)] 0 0 h (f_D_readAll_138 k19 z0 z1 w0 w1 h) := by
  unfold f_D_readAll_138
  refine s_iconst hS dX4_readAll_138 ?_
  refine ca_X4_58 hS ⟨Nat.le_of_ble_eq_true rfl, Nat.le_of_ble_eq_true rfl⟩ ⟨Nat.le_of_ble_eq_true rfl, Nat.le_of_ble_eq_true rfl⟩ (Nat.le_of_ble_eq_true rfl) dX4_readAll_139 fun v1 h2 => ?_
  refine s_aload_n hS dX4_readAll_142 rfl 0 rfl ?_
  refine gf_X4_15 hS dX4_readAll_143 fun v3 => ?_
  refine ca_X4_31 hS ⟨Nat.le_of_ble_eq_true rfl, Nat.le_of_ble_eq_true rfl⟩ ⟨Nat.le_of_ble_eq_true rfl, Nat.le_of_ble_eq_true rfl⟩ (Nat.le_of_ble_eq_true rfl) dX4_readAll_146 fun v4 h5 => ?_
  refine s_iconst hS dX4_readAll_149 ?_
  refine s_icmp_ne hS dX4_readAll_150 rfl ?_ ?_
  · refine s_aload_n hS dX4_readAll_172 rfl 0 rfl ?_
    refine gf_X4_15 hS dX4_readAll_173 fun v6 => ?_
    refine s_bipush hS dX4_readAll_176 (by decide +kernel) ?_
    refine ca_X4_73 hS ⟨Nat.le_of_ble_eq_true rfl, Nat.le_of_ble_eq_true rfl⟩ ⟨Nat.le_of_ble_eq_true rfl, Nat.le_of_ble_eq_true rfl⟩ (Nat.le_of_ble_eq_true rfl) dX4_readAll_178 fun v7 h8 => ?_
    refine s_if_ne hS dX4_readAll_181 rfl ?_ ?_
    · refine s_iinc hS dX4_readAll_202 1 rfl (Nat.le_of_ble_eq_true rfl) (ls' := [(1, 0, (z1 + 1)), (0, 2, z0)]) rfl ?_
      refine s_goto hS dX4_readAll_205 rfl ?_
      refine s_ls [1, 0] rfl ?_
      exact hk19 _ _
    · refine s_aload_n hS dX4_readAll_184 rfl 0 rfl ?_
      refine gf_X4_15 hS dX4_readAll_185 fun v9 => ?_
      refine s_aload_n hS dX4_readAll_188 rfl 0 rfl ?_
      refine gf_X4_15 hS dX4_readAll_189 fun v10 => ?_
      refine gf_X4_35 hS dX4_readAll_192 fun v11 => ?_
      refine s_iconst hS dX4_readAll_195 ?_
      refine ca_X4_44 hS ⟨Nat.le_of_ble_eq_true rfl, Nat.le_of_ble_eq_true rfl⟩ ⟨Nat.le_of_ble_eq_true rfl, Nat.le_of_ble_eq_true rfl⟩ (Nat.le_of_ble_eq_true rfl) dX4_readAll_196 fun v12 h13 => ?_
      refine s_pop hS dX4_readAll_199 (by decide) ?_
      refine s_null hS dX4_readAll_200 ?_
      exact s_aret hS rfl (Or.inl ⟨_, rfl⟩) (Nat.le_of_ble_eq_true rfl) (Nat.le_of_ble_eq_true rfl) dX4_readAll_201
  · refine s_newb hS cx_3 rfl tw_698 tw_699 tw_135 (Nat.le_of_ble_eq_true rfl) (Nat.le_of_ble_eq_true rfl) dX4_readAll_153 fun x15 h14 => ?_
    refine s_dup hS dX4_readAll_156 (by decide) ?_
    refine s_aload_n hS dX4_readAll_157 rfl 0 rfl ?_
    refine gf_X4_9 hS dX4_readAll_158 fun v16 => ?_
    refine s_aload_n hS dX4_readAll_161 rfl 0 rfl ?_
    refine gf_X4_24 hS dX4_readAll_162 fun v17 => ?_
    refine ca_X4_64 hS ⟨Nat.le_of_ble_eq_true rfl, Nat.le_of_ble_eq_true rfl⟩ ⟨Nat.le_of_ble_eq_true rfl, Nat.le_of_ble_eq_true rfl⟩ (Nat.le_of_ble_eq_true rfl) dX4_readAll_165 fun v18 h19 => ?_
    refine ca_X4_70 hS ⟨Nat.le_of_ble_eq_true rfl, Nat.le_of_ble_eq_true rfl⟩ ⟨Nat.le_of_ble_eq_true rfl, Nat.le_of_ble_eq_true rfl⟩ (Nat.le_of_ble_eq_true rfl) dX4_readAll_168 fun v20 h21 => ?_
    exact s_aret hS rfl (Or.inl ⟨_, rfl⟩) (Nat.le_of_ble_eq_true rfl) (Nat.le_of_ble_eq_true rfl) dX4_readAll_171
set_option maxRecDepth 100000 in
set_option maxHeartbeats 4000000 in
theorem b_D_readAll_126 {G : GE} {X : SMw} (hS : SO (S_D_readAll G X) RX4 cX4_readAll) (z0 : Int) {k19 : Int → AH → Option (Int × AH)} (hk19 : ∀ (z1 : Int) (h : AH), Sim (S_D_readAll G X) 19 [(0, 2, z0), (1, 0, z1)] [] 0 0 h (k19 z1 h)) (z1 z3 : Int) (h : AH) : Sim (S_D_readAll G X) 126 [(0, 2, z0), (1, 0, z1), (3, 0, z3)] [] 0 0 h (f_D_readAll_126 k19 z0 z1 z3 h) := by
  unfold f_D_readAll_126
  refine s_aload_n hS dX4_readAll_126 rfl 0 rfl ?_
  refine s_iload_n hS dX4_readAll_127 rfl 2 rfl ?_
  refine s_if_eq hS dX4_readAll_128 rfl ?_ ?_
  · refine s_bipush hS dX4_readAll_136 (by decide +kernel) ?_
    refine s_ls [0, 1] rfl ?_
    exact b_D_readAll_138 hS _ hk19 _ _ _ _
  · refine s_bipush hS dX4_readAll_131 (by decide +kernel) ?_
    refine s_goto hS dX4_readAll_133 rfl ?_
    refine s_ls [0, 1] rfl ?_
    exact b_D_readAll_138 hS _ hk19 _ _ _ _
set_option maxRecDepth 100000 in
set_option maxHeartbeats 4000000 in
theorem b_D_readAll_111 {G : GE} {X : SMw} (hS : SO (S_D_readAll G X) RX4 cX4_readAll) (z0 : Int) {k19 : Int → AH → Option (Int × AH)} (hk19 : ∀ (z1 : Int) (h : AH), Sim (S_D_readAll G X) 19 [(0, 2, z0), (1, 0, z1)] [] 0 0 h (k19 z1 h)) (z1 w0 : Int) (h : AH) : Sim (S_D_readAll G X) 111 [(0, 2, z0), (1, 0, z1)] [(0, w0)] 0 0 h (f_D_readAll_111 k19 z0 z1 w0 h) := by
  unfold f_D_readAll_111
  refine s_istore_n hS dX4_readAll_111 rfl (Nat.le_of_ble_eq_true rfl) (ls' := [(3, 0, w0), (0, 2, z0), (1, 0, z1)]) rfl ?_
  refine s_iload_n hS dX4_readAll_112 rfl 0 rfl ?_
  refine s_if_eq hS dX4_readAll_113 rfl ?_ ?_
  · refine s_ls [1, 2, 0] rfl ?_
    exact b_D_readAll_126 hS _ hk19 _ _ _
  · refine s_aload_n hS dX4_readAll_116 rfl 1 rfl ?_
    refine s_iconst hS dX4_readAll_117 ?_
    refine ca_X4_54 hS ⟨Nat.le_of_ble_eq_true rfl, Nat.le_of_ble_eq_true rfl⟩ ⟨Nat.le_of_ble_eq_true rfl, Nat.le_of_ble_eq_true rfl⟩ (Nat.le_of_ble_eq_true rfl) dX4_readAll_118 fun v1 h2 => ?_
    refine s_if_ne hS dX4_readAll_121 rfl ?_ ?_
    · refine s_ls [1, 2, 0] rfl ?_
      exact b_D_readAll_126 hS _ hk19 _ _ _
    · refine s_null hS dX4_readAll_124 ?_
      exact s_aret hS rfl (Or.inl ⟨_, rfl⟩) (Nat.le_of_ble_eq_true rfl) (Nat.le_of_ble_eq_true rfl) dX4_readAll_125
set_option maxRecDepth 100000 in
set_option maxHeartbeats 4000000 in
theorem B_D_readAll_19 {G : GE} {X : SMw} (hS : SO (S_D_readAll G X) RX4 cX4_readAll) (z0 : Int) {k19 : Int → AH → Option (Int × AH)} (hk19 : ∀ (z1 : Int) (h : AH), Sim (S_D_readAll G X) 19 [(0, 2, z0), (1, 0, z1)] [] 0 0 h (k19 z1 h)) (z1 : Int) (h : AH) : Sim (S_D_readAll G X) 19 [(0, 2, z0), (1, 0, z1)] [] 0 0 h (F_D_readAll_19 z0 k19 z1 h) := by
  unfold F_D_readAll_19
  refine s_iload_n hS dX4_readAll_19 rfl 1 rfl ?_
  refine s_bipush hS dX4_readAll_20 (by decide +kernel) ?_
  refine s_icmp_gt hS dX4_readAll_22 rfl ?_ ?_
  · refine s_null hS dX4_readAll_208 ?_
    exact s_aret hS rfl (Or.inl ⟨_, rfl⟩) (Nat.le_of_ble_eq_true rfl) (Nat.le_of_ble_eq_true rfl) dX4_readAll_209
  · refine s_aload_n hS dX4_readAll_25 rfl 0 rfl ?_
    refine gf_X4_15 hS dX4_readAll_26 fun v1 => ?_
    refine ca_X4_31 hS ⟨Nat.le_of_ble_eq_true rfl, Nat.le_of_ble_eq_true rfl⟩ ⟨Nat.le_of_ble_eq_true rfl, Nat.le_of_ble_eq_true rfl⟩ (Nat.le_of_ble_eq_true rfl) dX4_readAll_29 fun v2 h3 => ?_
    refine s_pop hS dX4_readAll_32 (by decide) ?_
    refine s_aload_n hS dX4_readAll_33 rfl 0 rfl ?_
    refine gf_X4_15 hS dX4_readAll_34 fun v4 => ?_
    refine gf_X4_35 hS dX4_readAll_37 fun v5 => ?_
    refine s_istore_n hS dX4_readAll_40 rfl (Nat.le_of_ble_eq_true rfl) (ls' := [(2, 0, v5), (0, 2, z0), (1, 0, z1)]) rfl ?_
    refine s_aload_n hS dX4_readAll_41 rfl 1 rfl ?_
    refine gf_X4_15 hS dX4_readAll_42 fun v6 => ?_
    refine s_str hS 1 rfl rfl dX4_readAll_45 ?_
    refine ca_X4_40 hS ⟨Nat.le_of_ble_eq_true rfl, Nat.le_of_ble_eq_true rfl⟩ ⟨Nat.le_of_ble_eq_true rfl, Nat.le_of_ble_eq_true rfl⟩ (Nat.le_of_ble_eq_true rfl) dX4_readAll_47 fun v7 h8 => ?_
    refine s_iconst hS dX4_readAll_50 ?_
    refine s_icmp_ne hS dX4_readAll_51 rfl ?_ ?_
    · refine s_iload_n hS dX4_readAll_66 rfl 2 rfl ?_
      refine s_bipush hS dX4_readAll_67 (by decide +kernel) ?_
      refine s_icmp_ne hS dX4_readAll_69 rfl ?_ ?_
      · refine s_aload_n hS dX4_readAll_84 rfl 1 rfl ?_
        refine ca_X4_48 hS ⟨Nat.le_of_ble_eq_true rfl, Nat.le_of_ble_eq_true rfl⟩ ⟨Nat.le_of_ble_eq_true rfl, Nat.le_of_ble_eq_true rfl⟩ (Nat.le_of_ble_eq_true rfl) dX4_readAll_85 fun v9 h10 => ?_
        refine s_if_ne hS dX4_readAll_88 rfl ?_ ?_
        · refine s_aload_n hS dX4_readAll_93 rfl 1 rfl ?_
          refine gf_X4_15 hS dX4_readAll_94 fun v11 => ?_
          refine s_str hS 3 rfl rfl dX4_readAll_97 ?_
          refine ca_X4_40 hS ⟨Nat.le_of_ble_eq_true rfl, Nat.le_of_ble_eq_true rfl⟩ ⟨Nat.le_of_ble_eq_true rfl, Nat.le_of_ble_eq_true rfl⟩ (Nat.le_of_ble_eq_true rfl) dX4_readAll_99 fun v12 h13 => ?_
          refine s_iconst hS dX4_readAll_102 ?_
          refine s_icmp_eq hS dX4_readAll_103 rfl ?_ ?_
          · refine s_iconst hS dX4_readAll_110 ?_
            refine s_ls [1, 2] rfl ?_
            exact b_D_readAll_111 hS _ hk19 _ _ _
          · refine s_iconst hS dX4_readAll_106 ?_
            refine s_goto hS dX4_readAll_107 rfl ?_
            refine s_ls [1, 2] rfl ?_
            exact b_D_readAll_111 hS _ hk19 _ _ _
        · refine s_null hS dX4_readAll_91 ?_
          exact s_aret hS rfl (Or.inl ⟨_, rfl⟩) (Nat.le_of_ble_eq_true rfl) (Nat.le_of_ble_eq_true rfl) dX4_readAll_92
      · refine s_aload_n hS dX4_readAll_72 rfl 1 rfl ?_
        refine gf_X4_15 hS dX4_readAll_73 fun v14 => ?_
        refine s_iload_n hS dX4_readAll_76 rfl 0 rfl ?_
        refine s_iconst hS dX4_readAll_77 ?_
        refine ca_X4_44 hS ⟨Nat.le_of_ble_eq_true rfl, Nat.le_of_ble_eq_true rfl⟩ ⟨Nat.le_of_ble_eq_true rfl, Nat.le_of_ble_eq_true rfl⟩ (Nat.le_of_ble_eq_true rfl) dX4_readAll_78 fun v15 h16 => ?_
        refine s_pop hS dX4_readAll_81 (by decide) ?_
        refine s_null hS dX4_readAll_82 ?_
        exact s_aret hS rfl (Or.inl ⟨_, rfl⟩) (Nat.le_of_ble_eq_true rfl) (Nat.le_of_ble_eq_true rfl) dX4_readAll_83
    · refine s_aload_n hS dX4_readAll_54 rfl 1 rfl ?_
      refine gf_X4_15 hS dX4_readAll_55 fun v17 => ?_
      refine s_iload_n hS dX4_readAll_58 rfl 0 rfl ?_
      refine s_iconst hS dX4_readAll_59 ?_
      refine ca_X4_44 hS ⟨Nat.le_of_ble_eq_true rfl, Nat.le_of_ble_eq_true rfl⟩ ⟨Nat.le_of_ble_eq_true rfl, Nat.le_of_ble_eq_true rfl⟩ (Nat.le_of_ble_eq_true rfl) dX4_readAll_60 fun v18 h19 => ?_
      refine s_pop hS dX4_readAll_63 (by decide) ?_
      refine s_null hS dX4_readAll_64 ?_
      exact s_aret hS rfl (Or.inl ⟨_, rfl⟩) (Nat.le_of_ble_eq_true rfl) (Nat.le_of_ble_eq_true rfl) dX4_readAll_65
set_option maxRecDepth 100000 in
set_option maxHeartbeats 4000000 in
theorem b_D_readAll_19 {G : GE} {X : SMw} (hS : SO (S_D_readAll G X) RX4 cX4_readAll) (z0 : Int) (z1 : Int) (h : AH) : Sim (S_D_readAll G X) 19 [(0, 2, z0), (1, 0, z1)] [] 0 0 h (f_D_readAll_19 z0 z1 h) := by
  exact s_loop (S := (S_D_readAll G X)) (lsf := fun s : Int × AH => [(0, 2, z0), (1, 0, s.1)]) (hf := fun s => s.2) (fun kf hkf s => B_D_readAll_19 hS z0 (fun a0 a1 => hkf (a0, a1)) s.1 s.2) fu_ (z1, h)
set_option maxRecDepth 100000 in
set_option maxHeartbeats 4000000 in
theorem b_D_readAll {G : GE} {X : SMw} (hS : SO (S_D_readAll G X) RX4 cX4_readAll) (z0 : Int) (h : AH) : Sim (S_D_readAll G X) 0 [(0, 2, z0)] [] 0 0 h (f_D_readAll z0 h) := by
  unfold f_D_readAll
  refine s_aload_n hS dX4_readAll_0 rfl 0 rfl ?_
  refine gf_X4_15 hS dX4_readAll_1 fun v1 => ?_
  refine ca_X4_19 hS ⟨Nat.le_of_ble_eq_true rfl, Nat.le_of_ble_eq_true rfl⟩ ⟨Nat.le_of_ble_eq_true rfl, Nat.le_of_ble_eq_true rfl⟩ (Nat.le_of_ble_eq_true rfl) dX4_readAll_4 fun v2 h3 => ?_
  refine s_aload_n hS dX4_readAll_7 rfl 0 rfl ?_
  refine s_iconst hS dX4_readAll_8 ?_
  refine pf_X4_24 hS dX4_readAll_9 fun h4 => ?_
  refine s_aload_n hS dX4_readAll_12 rfl 0 rfl ?_
  refine s_iconst hS dX4_readAll_13 ?_
  refine pf_X4_28 hS dX4_readAll_14 fun h5 => ?_
  refine s_iconst hS dX4_readAll_17 ?_
  refine s_istore_n hS dX4_readAll_18 rfl (Nat.le_of_ble_eq_true rfl) (ls' := [(1, 0, 0), (0, 2, z0)]) rfl ?_
  refine s_ls [1, 0] rfl ?_
  exact b_D_readAll_19 hS _ _ _
theorem c_D_readAll (l : Launch) (G : GE) (z0 : Int) (h : AH) : Con l yX4_readAll cX4_readAll 4 (some (.object "BallotBook$Rule")) 55 2843 3 434 G [(2, z0)] h (f_D_readAll z0 h) :=
  con_of (by decide +kernel) (Nat.le_of_ble_eq_true rfl) fun X hX hS hi => b_D_readAll hS z0 h
