theorem ca_X9_9 {S : SX} {cc : ByteArray} {pc : Nat} {ls : List (Nat × Nat × Int)} {st : List (Nat × Int)} {k n : Nat} {h : AH} {b : Int} {f : Int → AH → Option (Int × AH)} (hS : SO S RX9 cc) (hR : 1 + 1 ≤ S.2.2.2.2.2.2.1 ∧ 8 + (1 + 11) + 20 ≤ S.2.2.2.2.2.2.2) (hk : k + 1 ≤ S.2.2.2.1 ∧ n + 400 ≤ S.2.2.2.2.1) (hl : st.length ≤ 4) (d : decode cc pc = .ok (.invokespecial 9, 3)) (kk : ∀ (r : Int) (h2 : AH), Sim S (pc + 3) ls (st) (k + 1) (n + 400) h2 (f r h2)) : Sim S pc ls ((2, b) :: st) k n h (c_k h 9 b (bd_ (f_P_init b h) f)) := s_callN hS mo_X8_init rfl (c_P_init _ _ _ h) (by decide) tn_149 tw_150 hR hk rfl rfl hl d kk
theorem pf_X9_10 {S : SX} {cc : ByteArray} {pc : Nat} {ls : List (Nat × Nat × Int)} {st : List (Nat × Int)} {k n : Nat} {h : AH} {a v : Int} {f : AH → Option (Int × AH)} (hS : SO S RX9 cc) (hi : S.2.1.2.2.2.2.2.2.2.2.1.name = "<init>") (d : decode cc pc = .ok (.putfield 10, 3)) (kk : ∀ h2 : AH, Sim S (pc + 3) ls st k n h2 (f h2)) : Sim S pc ls ((2, v) :: (2, a) :: st) k n h ((s_f h 10 a 0 v).bind f) := s_putF hS hi cx_9 0 (by decide) tw_426 rfl rfl rfl (Or.inr (Or.inr (Or.inl ⟨_, rfl⟩))) rfl rfl d kk
theorem gf_X9_10 {S : SX} {cc : ByteArray} {pc : Nat} {ls : List (Nat × Nat × Int)} {st : List (Nat × Int)} {k n : Nat} {h : AH} {a : Int} {f : Int → Option (Int × AH)} (hS : SO S RX9 cc) (d : decode cc pc = .ok (.getfield 10, 3)) (kk : ∀ v : Int, Sim S (pc + 3) ls ((2, v) :: st) k n h (f v)) : Sim S pc ls ((2, a) :: st) k n h ((g_f h 10 a 0).bind f) := s_getf hS cx_9 0 (by decide) tw_426 rfl rfl rfl d kk
theorem ca_X9_18 {S : SX} {cc : ByteArray} {pc : Nat} {ls : List (Nat × Nat × Int)} {st : List (Nat × Int)} {k n : Nat} {h : AH} {q0 b : Int} {f : Int → AH → Option (Int × AH)} (hS : SO S RX9 cc) (hR : 1 + 1 ≤ S.2.2.2.2.2.2.1 ∧ 8 + (2 + 11) + 20 ≤ S.2.2.2.2.2.2.2) (hk : k + 2 ≤ S.2.2.2.1 ∧ n + 10 ≤ S.2.2.2.2.1) (hl : st.length ≤ 4) (d : decode cc pc = .ok (.invokespecial 18, 3)) (kk : ∀ (r : Int) (h2 : AH), Sim S (pc + 3) ls (st) (k + 2) (n + 10) h2 (f r h2)) : Sim S pc ls ((2, q0) :: (2, b) :: st) k n h (c_k h 2 b (bd_ (f_E_init b q0 h) f)) := s_callI hS mo_X1_init rfl (c_E_init _ _ _ _ h) (by decide) tw_179 tw_180 hR hk rfl rfl hl d kk
theorem pf_X9_21 {S : SX} {cc : ByteArray} {pc : Nat} {ls : List (Nat × Nat × Int)} {st : List (Nat × Int)} {k n : Nat} {h : AH} {a v : Int} {f : AH → Option (Int × AH)} (hS : SO S RX9 cc) (hi : S.2.1.2.2.2.2.2.2.2.2.1.name = "<init>") (d : decode cc pc = .ok (.putfield 21, 3)) (kk : ∀ h2 : AH, Sim S (pc + 3) ls st k n h2 (f h2)) : Sim S pc ls ((2, v) :: (2, a) :: st) k n h ((s_f h 10 a 1 v).bind f) := s_putF hS hi cx_9 1 (by decide) tw_427 rfl rfl rfl (Or.inr (Or.inr (Or.inl ⟨_, rfl⟩))) rfl rfl d kk
theorem ca_X9_27 {S : SX} {cc : ByteArray} {pc : Nat} {ls : List (Nat × Nat × Int)} {st : List (Nat × Int)} {k n : Nat} {h : AH} {q0 b : Int} {f : Int → AH → Option (Int × AH)} (hS : SO S RX9 cc) (hR : 1 + 1 ≤ S.2.2.2.2.2.2.1 ∧ 8 + (2 + 11) + 20 ≤ S.2.2.2.2.2.2.2) (hk : k + 1 ≤ S.2.2.2.1 ∧ n + 400 ≤ S.2.2.2.2.1) (hl : st.length ≤ 4) (d : decode cc pc = .ok (.invokespecial 27, 3)) (kk : ∀ (r : Int) (h2 : AH), Sim S (pc + 3) ls (st) (k + 1) (n + 400) h2 (f r h2)) : Sim S pc ls ((2, q0) :: (2, b) :: st) k n h (c_k h 5 b (bd_ (f_D_init b q0 h) f)) := s_callI hS mo_X4_init rfl (c_D_init _ _ _ _ h) (by decide) tw_208 tw_209 hR hk rfl rfl hl d kk
theorem pf_X9_28 {S : SX} {cc : ByteArray} {pc : Nat} {ls : List (Nat × Nat × Int)} {st : List (Nat × Int)} {k n : Nat} {h : AH} {a v : Int} {f : AH → Option (Int × AH)} (hS : SO S RX9 cc) (hi : S.2.1.2.2.2.2.2.2.2.2.1.name = "<init>") (d : decode cc pc = .ok (.putfield 28, 3)) (kk : ∀ h2 : AH, Sim S (pc + 3) ls st k n h2 (f h2)) : Sim S pc ls ((2, v) :: (2, a) :: st) k n h ((s_f h 10 a 2 v).bind f) := s_putF hS hi cx_9 2 (by decide) tw_428 rfl rfl rfl (Or.inr (Or.inr (Or.inl ⟨_, rfl⟩))) rfl rfl d kk
theorem pf_X9_34 {S : SX} {cc : ByteArray} {pc : Nat} {ls : List (Nat × Nat × Int)} {st : List (Nat × Int)} {k n : Nat} {h : AH} {a v : Int} {f : AH → Option (Int × AH)} (hS : SO S RX9 cc) (hi : S.2.1.2.2.2.2.2.2.2.2.1.name = "<init>") (d : decode cc pc = .ok (.putfield 34, 3)) (kk : ∀ h2 : AH, Sim S (pc + 3) ls st k n h2 (f h2)) : Sim S pc ls ((2, v) :: (2, a) :: st) k n h ((s_f h 10 a 3 v).bind f) := s_putF hS hi cx_9 3 (by decide) tw_429 rfl rfl rfl (Or.inr (Or.inr (Or.inr ⟨_, rfl⟩))) rfl rfl d kk
theorem ca_X9_40 {S : SX} {cc : ByteArray} {pc : Nat} {ls : List (Nat × Nat × Int)} {st : List (Nat × Int)} {k n : Nat} {h : AH} {b : Int} {f : Int → AH → Option (Int × AH)} (hS : SO S RX9 cc) (hR : 3 + 1 ≤ S.2.2.2.2.2.2.1 ∧ 8 + (1 + 11) + 60 ≤ S.2.2.2.2.2.2.2) (hk : k + 20 ≤ S.2.2.2.1 ∧ n + 321 ≤ S.2.2.2.2.1) (hl : st.length ≤ 4) (d : decode cc pc = .ok (.invokespecial 40, 3)) (kk : ∀ (r : Int) (h2 : AH), Sim S (pc + 3) ls (st) (k + 20) (n + 321) h2 (f r h2)) : Sim S pc ls ((2, b) :: st) k n h (c_k h 1 b (bd_ (f_A_init b h) f)) := s_callN hS mo_X0_init rfl (c_A_init _ _ _ h) (by decide) tn_229 tw_230 hR hk rfl rfl hl d kk
theorem pf_X9_41 {S : SX} {cc : ByteArray} {pc : Nat} {ls : List (Nat × Nat × Int)} {st : List (Nat × Int)} {k n : Nat} {h : AH} {a v : Int} {f : AH → Option (Int × AH)} (hS : SO S RX9 cc) (hi : S.2.1.2.2.2.2.2.2.2.2.1.name = "<init>") (d : decode cc pc = .ok (.putfield 41, 3)) (kk : ∀ h2 : AH, Sim S (pc + 3) ls st k n h2 (f h2)) : Sim S pc ls ((2, v) :: (2, a) :: st) k n h ((s_f h 10 a 5 v).bind f) := s_putF hS hi cx_9 5 (by decide) tw_431 rfl rfl rfl (Or.inr (Or.inr (Or.inl ⟨_, rfl⟩))) rfl rfl d kk
theorem pf_X9_45 {S : SX} {cc : ByteArray} {pc : Nat} {ls : List (Nat × Nat × Int)} {st : List (Nat × Int)} {k n : Nat} {h : AH} {a v : Int} {f : AH → Option (Int × AH)} (hS : SO S RX9 cc) (hi : S.2.1.2.2.2.2.2.2.2.2.1.name = "<init>") (d : decode cc pc = .ok (.putfield 45, 3)) (kk : ∀ h2 : AH, Sim S (pc + 3) ls st k n h2 (f h2)) : Sim S pc ls ((2, v) :: (2, a) :: st) k n h ((s_f h 10 a 6 v).bind f) := s_putF hS hi cx_9 6 (by decide) tw_432 rfl rfl rfl (Or.inr (Or.inr (Or.inr ⟨_, rfl⟩))) rfl rfl d kk
theorem ca_X9_51 {S : SX} {cc : ByteArray} {pc : Nat} {ls : List (Nat × Nat × Int)} {st : List (Nat × Int)} {k n : Nat} {h : AH} {b : Int} {f : Int → AH → Option (Int × AH)} (hS : SO S RX9 cc) (hR : 1 + 1 ≤ S.2.2.2.2.2.2.1 ∧ 8 + (1 + 11) + 20 ≤ S.2.2.2.2.2.2.2) (hk : k + 1 ≤ S.2.2.2.1 ∧ n + 20 ≤ S.2.2.2.2.1) (hl : st.length ≤ 4) (d : decode cc pc = .ok (.invokespecial 51, 3)) (kk : ∀ (r : Int) (h2 : AH), Sim S (pc + 3) ls (st) (k + 1) (n + 20) h2 (f r h2)) : Sim S pc ls ((2, b) :: st) k n h (c_k h 3 b (bd_ (f_H_init b h) f)) := s_callN hS mo_X2_init rfl (c_H_init _ _ _ h) (by decide) tn_365 tw_366 hR hk rfl rfl hl d kk
theorem pf_X9_52 {S : SX} {cc : ByteArray} {pc : Nat} {ls : List (Nat × Nat × Int)} {st : List (Nat × Int)} {k n : Nat} {h : AH} {a v : Int} {f : AH → Option (Int × AH)} (hS : SO S RX9 cc) (hi : S.2.1.2.2.2.2.2.2.2.2.1.name = "<init>") (d : decode cc pc = .ok (.putfield 52, 3)) (kk : ∀ h2 : AH, Sim S (pc + 3) ls st k n h2 (f h2)) : Sim S pc ls ((2, v) :: (2, a) :: st) k n h ((s_f h 10 a 7 v).bind f) := s_putF hS hi cx_9 7 (by decide) tw_433 rfl rfl rfl (Or.inr (Or.inr (Or.inl ⟨_, rfl⟩))) rfl rfl d kk
theorem ca_X9_58 {S : SX} {cc : ByteArray} {pc : Nat} {ls : List (Nat × Nat × Int)} {st : List (Nat × Int)} {k n : Nat} {h : AH} {b : Int} {f : Int → AH → Option (Int × AH)} (hS : SO S RX9 cc) (hR : 1 + 1 ≤ S.2.2.2.2.2.2.1 ∧ 8 + (1 + 11) + 20 ≤ S.2.2.2.2.2.2.2) (hk : k + 4 ≤ S.2.2.2.1 ∧ n + 20 ≤ S.2.2.2.2.1) (hl : st.length ≤ 4) (d : decode cc pc = .ok (.invokespecial 58, 3)) (kk : ∀ (r : Int) (h2 : AH), Sim S (pc + 3) ls (st) (k + 4) (n + 20) h2 (f r h2)) : Sim S pc ls ((2, b) :: st) k n h (c_k h 8 b (bd_ (f_T_init b h) f)) := s_callN hS mo_X7_init rfl (c_T_init _ _ _ h) (by decide) tn_383 tw_242 hR hk rfl rfl hl d kk
theorem pf_X9_59 {S : SX} {cc : ByteArray} {pc : Nat} {ls : List (Nat × Nat × Int)} {st : List (Nat × Int)} {k n : Nat} {h : AH} {a v : Int} {f : AH → Option (Int × AH)} (hS : SO S RX9 cc) (hi : S.2.1.2.2.2.2.2.2.2.2.1.name = "<init>") (d : decode cc pc = .ok (.putfield 59, 3)) (kk : ∀ h2 : AH, Sim S (pc + 3) ls st k n h2 (f h2)) : Sim S pc ls ((2, v) :: (2, a) :: st) k n h ((s_f h 10 a 8 v).bind f) := s_putF hS hi cx_9 8 (by decide) tw_434 rfl rfl rfl (Or.inr (Or.inr (Or.inl ⟨_, rfl⟩))) rfl rfl d kk
theorem ca_X9_65 {S : SX} {cc : ByteArray} {pc : Nat} {ls : List (Nat × Nat × Int)} {st : List (Nat × Int)} {k n : Nat} {h : AH} {b : Int} {f : Int → AH → Option (Int × AH)} (hS : SO S RX9 cc) (hR : 1 + 1 ≤ S.2.2.2.2.2.2.1 ∧ 8 + (1 + 11) + 20 ≤ S.2.2.2.2.2.2.2) (hk : k + 3 ≤ S.2.2.2.1 ∧ n + 15 ≤ S.2.2.2.2.1) (hl : st.length ≤ 4) (d : decode cc pc = .ok (.invokespecial 65, 3)) (kk : ∀ (r : Int) (h2 : AH), Sim S (pc + 3) ls (st) (k + 3) (n + 15) h2 (f r h2)) : Sim S pc ls ((2, b) :: st) k n h (c_k h 7 b (bd_ (f_Q_init b h) f)) := s_callN hS mo_X6_init rfl (c_Q_init _ _ _ h) (by decide) tn_386 tw_387 hR hk rfl rfl hl d kk
theorem pf_X9_66 {S : SX} {cc : ByteArray} {pc : Nat} {ls : List (Nat × Nat × Int)} {st : List (Nat × Int)} {k n : Nat} {h : AH} {a v : Int} {f : AH → Option (Int × AH)} (hS : SO S RX9 cc) (hi : S.2.1.2.2.2.2.2.2.2.2.1.name = "<init>") (d : decode cc pc = .ok (.putfield 66, 3)) (kk : ∀ h2 : AH, Sim S (pc + 3) ls st k n h2 (f h2)) : Sim S pc ls ((2, v) :: (2, a) :: st) k n h ((s_f h 10 a 9 v).bind f) := s_putF hS hi cx_9 9 (by decide) tw_435 rfl rfl rfl (Or.inr (Or.inr (Or.inl ⟨_, rfl⟩))) rfl rfl d kk
theorem pf_X9_70 {S : SX} {cc : ByteArray} {pc : Nat} {ls : List (Nat × Nat × Int)} {st : List (Nat × Int)} {k n : Nat} {h : AH} {a v : Int} {f : AH → Option (Int × AH)} (hS : SO S RX9 cc) (hi : S.2.1.2.2.2.2.2.2.2.2.1.name = "<init>") (d : decode cc pc = .ok (.putfield 70, 3)) (kk : ∀ h2 : AH, Sim S (pc + 3) ls st k n h2 (f h2)) : Sim S pc ls ((2, v) :: (2, a) :: st) k n h ((s_f h 10 a 10 v).bind f) := s_putF hS hi cx_9 10 (by decide) tw_436 rfl rfl rfl (Or.inr (Or.inr (Or.inr ⟨_, rfl⟩))) rfl rfl d kk
theorem pf_X9_74 {S : SX} {cc : ByteArray} {pc : Nat} {ls : List (Nat × Nat × Int)} {st : List (Nat × Int)} {k n : Nat} {h : AH} {a v : Int} {f : AH → Option (Int × AH)} (hS : SO S RX9 cc) (hi : S.2.1.2.2.2.2.2.2.2.2.1.name = "<init>") (d : decode cc pc = .ok (.putfield 74, 3)) (kk : ∀ h2 : AH, Sim S (pc + 3) ls st k n h2 (f h2)) : Sim S pc ls ((2, v) :: (2, a) :: st) k n h ((s_f h 10 a 11 v).bind f) := s_putF hS hi cx_9 11 (by decide) tw_437 rfl rfl rfl (Or.inr (Or.inr (Or.inr ⟨_, rfl⟩))) rfl rfl d kk
theorem pf_X9_77 {S : SX} {cc : ByteArray} {pc : Nat} {ls : List (Nat × Nat × Int)} {st : List (Nat × Int)} {k n : Nat} {h : AH} {a v : Int} {f : AH → Option (Int × AH)} (hS : SO S RX9 cc) (hi : S.2.1.2.2.2.2.2.2.2.2.1.name = "<init>") (d : decode cc pc = .ok (.putfield 77, 3)) (kk : ∀ h2 : AH, Sim S (pc + 3) ls st k n h2 (f h2)) : Sim S pc ls ((2, v) :: (2, a) :: st) k n h ((s_f h 10 a 12 v).bind f) := s_putF hS hi cx_9 12 (by decide) tw_438 rfl rfl rfl (Or.inr (Or.inr (Or.inr ⟨_, rfl⟩))) rfl rfl d kk
abbrev S_B_init (G : GE) (X : SMw) : SX := (G, X, 1, 44, 1309, none, 4, 80)
set_option maxRecDepth 100000 in
set_option maxHeartbeats 4000000 in
theorem b_B_init {G : GE} {X : SMw} (hS : SO (S_B_init G X) RX9 cX9_init) (hi : X.2.2.2.2.2.2.2.2.1.name = "<init>") (z0 : Int) (h : AH) : Sim (S_B_init G X) 0 [(0, 2, z0)] [] 0 0 h (f_B_init z0 h) := by
  unfold f_B_init
  refine s_aload_n hS dX9_init_0 rfl 0 rfl ?_
  refine s_obj hS (by decide) tw_144 tw_145 tw_146 ⟨Nat.le_of_ble_eq_true rfl, Nat.le_of_ble_eq_true rfl⟩ (Nat.le_of_ble_eq_true rfl) dX9_init_1 ?_
  refine s_aload_n hS dX9_init_4 rfl 0 rfl ?_
  refine s_newb hS cx_8 rfl tw_147 tw_148 tw_119 (Nat.le_of_ble_eq_true rfl) (Nat.le_of_ble_eq_true rfl) dX9_init_5 fun x2 h1 => ?_
  refine s_dup hS dX9_init_8 (by decide) ?_
  refine ca_X9_9 hS ⟨Nat.le_of_ble_eq_true rfl, Nat.le_of_ble_eq_true rfl⟩ ⟨Nat.le_of_ble_eq_true rfl, Nat.le_of_ble_eq_true rfl⟩ (Nat.le_of_ble_eq_true rfl) dX9_init_9 fun v3 h4 => ?_
  refine pf_X9_10 hS hi dX9_init_12 fun h5 => ?_
  refine s_aload_n hS dX9_init_15 rfl 0 rfl ?_
  refine s_newb hS cx_1 rfl tw_177 tw_178 tw_120 (Nat.le_of_ble_eq_true rfl) (Nat.le_of_ble_eq_true rfl) dX9_init_16 fun x7 h6 => ?_
  refine s_dup hS dX9_init_19 (by decide) ?_
  refine s_aload_n hS dX9_init_20 rfl 0 rfl ?_
  refine gf_X9_10 hS dX9_init_21 fun v8 => ?_
  refine ca_X9_18 hS ⟨Nat.le_of_ble_eq_true rfl, Nat.le_of_ble_eq_true rfl⟩ ⟨Nat.le_of_ble_eq_true rfl, Nat.le_of_ble_eq_true rfl⟩ (Nat.le_of_ble_eq_true rfl) dX9_init_24 fun v9 h10 => ?_
  refine pf_X9_21 hS hi dX9_init_27 fun h11 => ?_
  refine s_aload_n hS dX9_init_30 rfl 0 rfl ?_
  refine s_newb hS cx_4 rfl tw_206 tw_207 tw_121 (Nat.le_of_ble_eq_true rfl) (Nat.le_of_ble_eq_true rfl) dX9_init_31 fun x13 h12 => ?_
  refine s_dup hS dX9_init_34 (by decide) ?_
  refine s_aload_n hS dX9_init_35 rfl 0 rfl ?_
  refine gf_X9_10 hS dX9_init_36 fun v14 => ?_
  refine ca_X9_27 hS ⟨Nat.le_of_ble_eq_true rfl, Nat.le_of_ble_eq_true rfl⟩ ⟨Nat.le_of_ble_eq_true rfl, Nat.le_of_ble_eq_true rfl⟩ (Nat.le_of_ble_eq_true rfl) dX9_init_39 fun v15 h16 => ?_
  refine pf_X9_28 hS hi dX9_init_42 fun h17 => ?_
  refine s_aload_n hS dX9_init_45 rfl 0 rfl ?_
  refine s_bipush hS dX9_init_46 (by decide +kernel) ?_
  refine s_newqb hS (M := 6) rfl (by decide) (by decide) rfl (by decide) ao_24 tw_225 (Nat.le_of_ble_eq_true rfl) (Nat.le_of_ble_eq_true rfl) dX9_init_48 fun x19 h18 => ?_
  refine pf_X9_34 hS hi dX9_init_51 fun h20 => ?_
  refine s_aload_n hS dX9_init_54 rfl 0 rfl ?_
  refine s_newb hS cx_0 rfl tw_227 tw_228 tw_122 (Nat.le_of_ble_eq_true rfl) (Nat.le_of_ble_eq_true rfl) dX9_init_55 fun x22 h21 => ?_
  refine s_dup hS dX9_init_58 (by decide) ?_
  refine ca_X9_40 hS ⟨Nat.le_of_ble_eq_true rfl, Nat.le_of_ble_eq_true rfl⟩ ⟨Nat.le_of_ble_eq_true rfl, Nat.le_of_ble_eq_true rfl⟩ (Nat.le_of_ble_eq_true rfl) dX9_init_59 fun v23 h24 => ?_
  refine pf_X9_41 hS hi dX9_init_62 fun h25 => ?_
  refine s_aload_n hS dX9_init_65 rfl 0 rfl ?_
  refine s_iconst hS dX9_init_66 ?_
  refine s_newqb hS (M := 4) rfl (by decide) (by decide) rfl (by decide) ao_25 tw_227 (Nat.le_of_ble_eq_true rfl) (Nat.le_of_ble_eq_true rfl) dX9_init_67 fun x27 h26 => ?_
  refine pf_X9_45 hS hi dX9_init_70 fun h28 => ?_
  refine s_aload_n hS dX9_init_73 rfl 0 rfl ?_
  refine s_newb hS cx_2 rfl tw_363 tw_364 tw_126 (Nat.le_of_ble_eq_true rfl) (Nat.le_of_ble_eq_true rfl) dX9_init_74 fun x30 h29 => ?_
  refine s_dup hS dX9_init_77 (by decide) ?_
  refine ca_X9_51 hS ⟨Nat.le_of_ble_eq_true rfl, Nat.le_of_ble_eq_true rfl⟩ ⟨Nat.le_of_ble_eq_true rfl, Nat.le_of_ble_eq_true rfl⟩ (Nat.le_of_ble_eq_true rfl) dX9_init_78 fun v31 h32 => ?_
  refine pf_X9_52 hS hi dX9_init_81 fun h33 => ?_
  refine s_aload_n hS dX9_init_84 rfl 0 rfl ?_
  refine s_newb hS cx_7 rfl tw_382 tw_240 tw_124 (Nat.le_of_ble_eq_true rfl) (Nat.le_of_ble_eq_true rfl) dX9_init_85 fun x35 h34 => ?_
  refine s_dup hS dX9_init_88 (by decide) ?_
  refine ca_X9_58 hS ⟨Nat.le_of_ble_eq_true rfl, Nat.le_of_ble_eq_true rfl⟩ ⟨Nat.le_of_ble_eq_true rfl, Nat.le_of_ble_eq_true rfl⟩ (Nat.le_of_ble_eq_true rfl) dX9_init_89 fun v36 h37 => ?_
  refine pf_X9_59 hS hi dX9_init_92 fun h38 => ?_
  refine s_aload_n hS dX9_init_95 rfl 0 rfl ?_
  refine s_newb hS cx_6 rfl tw_384 tw_385 tw_127 (Nat.le_of_ble_eq_true rfl) (Nat.le_of_ble_eq_true rfl) dX9_init_96 fun x40 h39 => ?_
  refine s_dup hS dX9_init_99 (by decide) ?_
  refine ca_X9_65 hS ⟨Nat.le_of_ble_eq_true rfl, Nat.le_of_ble_eq_true rfl⟩ ⟨Nat.le_of_ble_eq_true rfl, Nat.le_of_ble_eq_true rfl⟩ (Nat.le_of_ble_eq_true rfl) dX9_init_100 fun v41 h42 => ?_
  refine pf_X9_66 hS hi dX9_init_103 fun h43 => ?_
  refine s_aload_n hS dX9_init_106 rfl 0 rfl ?_
  refine s_bipush hS dX9_init_107 (by decide +kernel) ?_
  refine s_newab hS (at_ := .int) (M := 16) rfl (by decide) (by decide) rfl (by decide) tw_176 (Nat.le_of_ble_eq_true rfl) (Nat.le_of_ble_eq_true rfl) dX9_init_109 fun x45 h44 => ?_
  refine pf_X9_70 hS hi dX9_init_111 fun h46 => ?_
  refine s_aload_n hS dX9_init_114 rfl 0 rfl ?_
  refine s_bipush hS dX9_init_115 (by decide +kernel) ?_
  refine s_newab hS (at_ := .int) (M := 16) rfl (by decide) (by decide) rfl (by decide) tw_176 (Nat.le_of_ble_eq_true rfl) (Nat.le_of_ble_eq_true rfl) dX9_init_117 fun x48 h47 => ?_
  refine pf_X9_74 hS hi dX9_init_119 fun h49 => ?_
  refine s_aload_n hS dX9_init_122 rfl 0 rfl ?_
  refine s_bipush hS dX9_init_123 (by decide +kernel) ?_
  refine s_newab hS (at_ := .int) (M := 35) rfl (by decide) (by decide) rfl (by decide) tw_176 (Nat.le_of_ble_eq_true rfl) (Nat.le_of_ble_eq_true rfl) dX9_init_125 fun x51 h50 => ?_
  refine pf_X9_77 hS hi dX9_init_127 fun h52 => ?_
  exact s_vret hS rfl (Nat.le_of_ble_eq_true rfl) (Nat.le_of_ble_eq_true rfl) dX9_init_130
theorem c_B_init (l : Launch) (G : GE) (z0 : Int) (h : AH) : Con l yX9_init cX9_init 1 none 4 80 44 1309 G [(2, z0)] h (f_B_init z0 h) :=
  con_of (by decide +kernel) (Nat.le_of_ble_eq_true rfl) fun X hX hS hi => b_B_init hS hi z0 h
theorem gf_X9_80 {S : SX} {cc : ByteArray} {pc : Nat} {ls : List (Nat × Nat × Int)} {st : List (Nat × Int)} {k n : Nat} {h : AH} {a : Int} {f : Int → Option (Int × AH)} (hS : SO S RX9 cc) (d : decode cc pc = .ok (.getfield 80, 3)) (kk : ∀ v : Int, Sim S (pc + 3) ls ((0, v) :: st) k n h (f v)) : Sim S pc ls ((2, a) :: st) k n h ((g_f h 9 a 1).bind f) := s_getf hS cx_8 1 (by decide) tw_155 rfl rfl rfl d kk
theorem ca_X9_84 {S : SX} {cc : ByteArray} {pc : Nat} {ls : List (Nat × Nat × Int)} {st : List (Nat × Int)} {k n : Nat} {h : AH} {q0 b : Int} {f : Int → AH → Option (Int × AH)} (hS : SO S RX9 cc) (hR : 0 + 1 ≤ S.2.2.2.2.2.2.1 ∧ 8 + (3 + 11) + 0 ≤ S.2.2.2.2.2.2.2) (hk : k + 0 ≤ S.2.2.2.1 ∧ n + 0 ≤ S.2.2.2.2.1) (hl : st.length ≤ 4) (d : decode cc pc = .ok (.invokevirtual 84, 3)) (kk : ∀ (r : Int) (h2 : AH), Sim S (pc + 3) ls (st) (k + 0) (n + 0) h2 (f r h2)) : Sim S pc ls ((0, q0) :: (2, b) :: st) k n h (c_k h 9 b (bd_ (f_P_addBytes b q0 h) f)) := s_callV hS mo_X8_addBytes rfl rfl (c_P_addBytes _ _ _ _ h) tw_470 tw_471 tw_472 hR hk rfl rfl hl d kk
abbrev S_B_feed (G : GE) (X : SMw) : SX := (G, X, 6, 0, 0, (some .int), 1, 22)
set_option maxRecDepth 100000 in
set_option maxHeartbeats 4000000 in
theorem b_B_feed {G : GE} {X : SMw} (hS : SO (S_B_feed G X) RX9 cX9_feed) (z0 z1 z2 z3 z4 z5 : Int) (h : AH) : Sim (S_B_feed G X) 0 [(0, 2, z0), (1, 0, z1), (2, 0, z2), (3, 0, z3), (4, 0, z4), (5, 0, z5)] [] 0 0 h (f_B_feed z0 z1 z2 z3 z4 z5 h) := by
  unfold f_B_feed
  refine s_aload_n hS dX9_feed_0 rfl 0 rfl ?_
  refine gf_X9_10 hS dX9_feed_1 fun v1 => ?_
  refine gf_X9_80 hS dX9_feed_4 fun v2 => ?_
  refine s_bipush hS dX9_feed_7 (by decide +kernel) ?_
  refine s_iadd hS dX9_feed_9 ?_
  refine s_sipush hS dX9_feed_10 (by decide +kernel) ?_
  refine s_icmp_le hS dX9_feed_13 rfl ?_ ?_
  · refine s_aload_n hS dX9_feed_18 rfl 0 rfl ?_
    refine gf_X9_10 hS dX9_feed_19 fun v3 => ?_
    refine s_iload_n hS dX9_feed_22 rfl 1 rfl ?_
    refine ca_X9_84 hS ⟨Nat.le_of_ble_eq_true rfl, Nat.le_of_ble_eq_true rfl⟩ ⟨Nat.le_of_ble_eq_true rfl, Nat.le_of_ble_eq_true rfl⟩ (Nat.le_of_ble_eq_true rfl) dX9_feed_23 fun v4 h5 => ?_
    refine s_aload_n hS dX9_feed_26 rfl 0 rfl ?_
    refine gf_X9_10 hS dX9_feed_27 fun v6 => ?_
    refine s_iload_n hS dX9_feed_30 rfl 2 rfl ?_
    refine ca_X9_84 hS ⟨Nat.le_of_ble_eq_true rfl, Nat.le_of_ble_eq_true rfl⟩ ⟨Nat.le_of_ble_eq_true rfl, Nat.le_of_ble_eq_true rfl⟩ (Nat.le_of_ble_eq_true rfl) dX9_feed_31 fun v7 h8 => ?_
    refine s_aload_n hS dX9_feed_34 rfl 0 rfl ?_
    refine gf_X9_10 hS dX9_feed_35 fun v9 => ?_
    refine s_iload_n hS dX9_feed_38 rfl 3 rfl ?_
    refine ca_X9_84 hS ⟨Nat.le_of_ble_eq_true rfl, Nat.le_of_ble_eq_true rfl⟩ ⟨Nat.le_of_ble_eq_true rfl, Nat.le_of_ble_eq_true rfl⟩ (Nat.le_of_ble_eq_true rfl) dX9_feed_39 fun v10 h11 => ?_
    refine s_aload_n hS dX9_feed_42 rfl 0 rfl ?_
    refine gf_X9_10 hS dX9_feed_43 fun v12 => ?_
    refine s_iload hS dX9_feed_46 4 rfl ?_
    refine ca_X9_84 hS ⟨Nat.le_of_ble_eq_true rfl, Nat.le_of_ble_eq_true rfl⟩ ⟨Nat.le_of_ble_eq_true rfl, Nat.le_of_ble_eq_true rfl⟩ (Nat.le_of_ble_eq_true rfl) dX9_feed_48 fun v13 h14 => ?_
    refine s_aload_n hS dX9_feed_51 rfl 0 rfl ?_
    refine gf_X9_10 hS dX9_feed_52 fun v15 => ?_
    refine s_iload hS dX9_feed_55 5 rfl ?_
    refine ca_X9_84 hS ⟨Nat.le_of_ble_eq_true rfl, Nat.le_of_ble_eq_true rfl⟩ ⟨Nat.le_of_ble_eq_true rfl, Nat.le_of_ble_eq_true rfl⟩ (Nat.le_of_ble_eq_true rfl) dX9_feed_57 fun v16 h17 => ?_
    refine s_aload_n hS dX9_feed_60 rfl 0 rfl ?_
    refine gf_X9_10 hS dX9_feed_61 fun v18 => ?_
    refine gf_X9_80 hS dX9_feed_64 fun v19 => ?_
    exact s_iret hS rfl (Nat.le_of_ble_eq_true rfl) (Nat.le_of_ble_eq_true rfl) dX9_feed_67
  · refine s_iconst hS dX9_feed_16 ?_
    exact s_iret hS rfl (Nat.le_of_ble_eq_true rfl) (Nat.le_of_ble_eq_true rfl) dX9_feed_17
theorem c_B_feed (l : Launch) (G : GE) (z0 z1 z2 z3 z4 z5 : Int) (h : AH) : Con l yX9_feed cX9_feed 6 (some .int) 1 22 0 0 G [(2, z0), (0, z1), (0, z2), (0, z3), (0, z4), (0, z5)] h (f_B_feed z0 z1 z2 z3 z4 z5 h) :=
  con_of (by decide +kernel) (Nat.le_of_ble_eq_true rfl) fun X hX hS hi => b_B_feed hS z0 z1 z2 z3 z4 z5 h
theorem pf_X9_80 {S : SX} {cc : ByteArray} {pc : Nat} {ls : List (Nat × Nat × Int)} {st : List (Nat × Int)} {k n : Nat} {h : AH} {a v : Int} {f : AH → Option (Int × AH)} (hS : SO S RX9 cc) (d : decode cc pc = .ok (.putfield 80, 3)) (kk : ∀ h2 : AH, Sim S (pc + 3) ls st k n h2 (f h2)) : Sim S pc ls ((0, v) :: (2, a) :: st) k n h ((s_f h 9 a 1 v).bind f) := s_putf hS cx_8 1 (by decide) tw_155 rfl rfl (Or.inl rfl) rfl rfl d kk
abbrev S_B_end (G : GE) (X : SMw) : SX := (G, X, 2, 0, 0, (some .int), 0, 0)
set_option maxRecDepth 100000 in
set_option maxHeartbeats 4000000 in
theorem b_B_end {G : GE} {X : SMw} (hS : SO (S_B_end G X) RX9 cX9_end) (z0 z1 : Int) (h : AH) : Sim (S_B_end G X) 0 [(0, 2, z0), (1, 0, z1)] [] 0 0 h (f_B_end z0 z1 h) := by
  unfold f_B_end
  refine s_iload_n hS dX9_end_0 rfl 1 rfl ?_
  refine s_if_lt hS dX9_end_1 rfl ?_ ?_
  · refine s_iconst hS dX9_end_15 ?_
    exact s_iret hS rfl (Nat.le_of_ble_eq_true rfl) (Nat.le_of_ble_eq_true rfl) dX9_end_16
  · refine s_iload_n hS dX9_end_4 rfl 1 rfl ?_
    refine s_aload_n hS dX9_end_5 rfl 0 rfl ?_
    refine gf_X9_10 hS dX9_end_6 fun v1 => ?_
    refine gf_X9_80 hS dX9_end_9 fun v2 => ?_
    refine s_icmp_le hS dX9_end_12 rfl ?_ ?_
    · refine s_aload_n hS dX9_end_17 rfl 0 rfl ?_
      refine gf_X9_10 hS dX9_end_18 fun v3 => ?_
      refine s_iload_n hS dX9_end_21 rfl 1 rfl ?_
      refine pf_X9_80 hS dX9_end_22 fun h4 => ?_
      refine s_iload_n hS dX9_end_25 rfl 1 rfl ?_
      exact s_iret hS rfl (Nat.le_of_ble_eq_true rfl) (Nat.le_of_ble_eq_true rfl) dX9_end_26
    · refine s_iconst hS dX9_end_15 ?_
      exact s_iret hS rfl (Nat.le_of_ble_eq_true rfl) (Nat.le_of_ble_eq_true rfl) dX9_end_16
theorem c_B_end (l : Launch) (G : GE) (z0 z1 : Int) (h : AH) : Con l yX9_end cX9_end 2 (some .int) 0 0 0 0 G [(2, z0), (0, z1)] h (f_B_end z0 z1 h) :=
  con_of (by decide +kernel) (Nat.le_of_ble_eq_true rfl) fun X hX hS hi => b_B_end hS z0 z1 h
theorem gf_X9_21 {S : SX} {cc : ByteArray} {pc : Nat} {ls : List (Nat × Nat × Int)} {st : List (Nat × Int)} {k n : Nat} {h : AH} {a : Int} {f : Int → Option (Int × AH)} (hS : SO S RX9 cc) (d : decode cc pc = .ok (.getfield 21, 3)) (kk : ∀ v : Int, Sim S (pc + 3) ls ((2, v) :: st) k n h (f v)) : Sim S pc ls ((2, a) :: st) k n h ((g_f h 10 a 1).bind f) := s_getf hS cx_9 1 (by decide) tw_427 rfl rfl rfl d kk
theorem ca_X9_88 {S : SX} {cc : ByteArray} {pc : Nat} {ls : List (Nat × Nat × Int)} {st : List (Nat × Int)} {k n : Nat} {h : AH} {b : Int} {f : Int → AH → Option (Int × AH)} (hS : SO S RX9 cc) (hR : 12 + 1 ≤ S.2.2.2.2.2.2.1 ∧ 8 + (2 + 11) + 373 ≤ S.2.2.2.2.2.2.2) (hk : k + 0 ≤ S.2.2.2.1 ∧ n + 0 ≤ S.2.2.2.2.1) (hl : st.length ≤ 4) (d : decode cc pc = .ok (.invokevirtual 88, 3)) (kk : ∀ (r : Int) (h2 : AH), Sim S (pc + 3) ls ((0, r) :: st) (k + 0) (n + 0) h2 (f r h2)) : Sim S pc ls ((2, b) :: st) k n h (c_k h 2 b (bd_ (f_E_readAll b h) f)) := s_callV hS mo_X1_readAll rfl rfl (c_E_readAll _ _ _ h) tw_482 tw_483 tw_484 hR hk rfl rfl hl d kk
theorem gf_X9_41 {S : SX} {cc : ByteArray} {pc : Nat} {ls : List (Nat × Nat × Int)} {st : List (Nat × Int)} {k n : Nat} {h : AH} {a : Int} {f : Int → Option (Int × AH)} (hS : SO S RX9 cc) (d : decode cc pc = .ok (.getfield 41, 3)) (kk : ∀ v : Int, Sim S (pc + 3) ls ((2, v) :: st) k n h (f v)) : Sim S pc ls ((2, a) :: st) k n h ((g_f h 10 a 5).bind f) := s_getf hS cx_9 5 (by decide) tw_431 rfl rfl rfl d kk
theorem gf_X9_95 {S : SX} {cc : ByteArray} {pc : Nat} {ls : List (Nat × Nat × Int)} {st : List (Nat × Int)} {k n : Nat} {h : AH} {a : Int} {f : Int → Option (Int × AH)} (hS : SO S RX9 cc) (d : decode cc pc = .ok (.getfield 95, 3)) (kk : ∀ v : Int, Sim S (pc + 3) ls ((2, v) :: st) k n h (f v)) : Sim S pc ls ((2, a) :: st) k n h ((g_f h 1 a 0).bind f) := s_getf hS cx_0 0 (by decide) tw_329 rfl rfl rfl d kk
theorem ca_X9_99 {S : SX} {cc : ByteArray} {pc : Nat} {ls : List (Nat × Nat × Int)} {st : List (Nat × Int)} {k n : Nat} {h : AH} {q0 b : Int} {f : Int → AH → Option (Int × AH)} (hS : SO S RX9 cc) (hR : 3 + 1 ≤ S.2.2.2.2.2.2.1 ∧ 8 + (4 + 11) + 64 ≤ S.2.2.2.2.2.2.2) (hk : k + 0 ≤ S.2.2.2.1 ∧ n + 0 ≤ S.2.2.2.2.1) (hl : st.length ≤ 4) (d : decode cc pc = .ok (.invokevirtual 99, 3)) (kk : ∀ (r : Int) (h2 : AH), Sim S (pc + 3) ls (st) (k + 0) (n + 0) h2 (f r h2)) : Sim S pc ls ((2, q0) :: (2, b) :: st) k n h (c_k h 2 b (bd_ (f_E_fill b q0 h) f)) := s_callV hS mo_X1_fill rfl rfl (c_E_fill _ _ _ _ h) tw_585 tw_586 tw_587 hR hk rfl rfl hl d kk
theorem gf_X9_103 {S : SX} {cc : ByteArray} {pc : Nat} {ls : List (Nat × Nat × Int)} {st : List (Nat × Int)} {k n : Nat} {h : AH} {a : Int} {f : Int → Option (Int × AH)} (hS : SO S RX9 cc) (d : decode cc pc = .ok (.getfield 103, 3)) (kk : ∀ v : Int, Sim S (pc + 3) ls ((2, v) :: st) k n h (f v)) : Sim S pc ls ((2, a) :: st) k n h ((g_f h 1 a 1).bind f) := s_getf hS cx_0 1 (by decide) tw_331 rfl rfl rfl d kk
theorem gf_X9_106 {S : SX} {cc : ByteArray} {pc : Nat} {ls : List (Nat × Nat × Int)} {st : List (Nat × Int)} {k n : Nat} {h : AH} {a : Int} {f : Int → Option (Int × AH)} (hS : SO S RX9 cc) (d : decode cc pc = .ok (.getfield 106, 3)) (kk : ∀ v : Int, Sim S (pc + 3) ls ((2, v) :: st) k n h (f v)) : Sim S pc ls ((2, a) :: st) k n h ((g_f h 6 a 0).bind f) := s_getf hS cx_5 0 (by decide) tw_287 rfl rfl rfl d kk
theorem ca_X9_111 {S : SX} {cc : ByteArray} {pc : Nat} {ls : List (Nat × Nat × Int)} {st : List (Nat × Int)} {k n : Nat} {h : AH} {q0 b : Int} {f : Int → AH → Option (Int × AH)} (hS : SO S RX9 cc) (hR : 0 + 1 ≤ S.2.2.2.2.2.2.1 ∧ 8 + (3 + 11) + 0 ≤ S.2.2.2.2.2.2.2) (hk : k + 0 ≤ S.2.2.2.1 ∧ n + 0 ≤ S.2.2.2.2.1) (hl : st.length ≤ 4) (d : decode cc pc = .ok (.invokevirtual 111, 3)) (kk : ∀ (r : Int) (h2 : AH), Sim S (pc + 3) ls (st) (k + 0) (n + 0) h2 (f r h2)) : Sim S pc ls ((2, q0) :: (2, b) :: st) k n h (c_k h 8 b (bd_ (f_T_copyFrom b q0 h) f)) := s_callV hS mo_X7_copyFrom rfl rfl (c_T_copyFrom _ _ _ _ h) tw_628 tw_629 tw_630 hR hk rfl rfl hl d kk
theorem pf_X9_115 {S : SX} {cc : ByteArray} {pc : Nat} {ls : List (Nat × Nat × Int)} {st : List (Nat × Int)} {k n : Nat} {h : AH} {a v : Int} {f : AH → Option (Int × AH)} (hS : SO S RX9 cc) (d : decode cc pc = .ok (.putfield 115, 3)) (kk : ∀ h2 : AH, Sim S (pc + 3) ls st k n h2 (f h2)) : Sim S pc ls ((0, v) :: (2, a) :: st) k n h ((s_fb h 1 a 8 v).bind f) := s_putz hS cx_0 8 (by decide) tw_342 rfl rfl rfl rfl d kk
theorem pf_X9_119 {S : SX} {cc : ByteArray} {pc : Nat} {ls : List (Nat × Nat × Int)} {st : List (Nat × Int)} {k n : Nat} {h : AH} {a v : Int} {f : AH → Option (Int × AH)} (hS : SO S RX9 cc) (d : decode cc pc = .ok (.putfield 119, 3)) (kk : ∀ h2 : AH, Sim S (pc + 3) ls st k n h2 (f h2)) : Sim S pc ls ((0, v) :: (2, a) :: st) k n h ((s_f h 1 a 5 v).bind f) := s_putf hS cx_0 5 (by decide) tw_336 rfl rfl (Or.inl rfl) rfl rfl d kk
theorem gf_X9_52 {S : SX} {cc : ByteArray} {pc : Nat} {ls : List (Nat × Nat × Int)} {st : List (Nat × Int)} {k n : Nat} {h : AH} {a : Int} {f : Int → Option (Int × AH)} (hS : SO S RX9 cc) (d : decode cc pc = .ok (.getfield 52, 3)) (kk : ∀ v : Int, Sim S (pc + 3) ls ((2, v) :: st) k n h (f v)) : Sim S pc ls ((2, a) :: st) k n h ((g_f h 10 a 7).bind f) := s_getf hS cx_9 7 (by decide) tw_433 rfl rfl rfl d kk
theorem ca_X9_122 {S : SX} {cc : ByteArray} {pc : Nat} {ls : List (Nat × Nat × Int)} {st : List (Nat × Int)} {k n : Nat} {h : AH} {b : Int} {f : Int → AH → Option (Int × AH)} (hS : SO S RX9 cc) (hR : 0 + 1 ≤ S.2.2.2.2.2.2.1 ∧ 8 + (1 + 11) + 0 ≤ S.2.2.2.2.2.2.2) (hk : k + 0 ≤ S.2.2.2.1 ∧ n + 0 ≤ S.2.2.2.2.1) (hl : st.length ≤ 4) (d : decode cc pc = .ok (.invokevirtual 122, 3)) (kk : ∀ (r : Int) (h2 : AH), Sim S (pc + 3) ls (st) (k + 0) (n + 0) h2 (f r h2)) : Sim S pc ls ((2, b) :: st) k n h (c_k h 3 b (bd_ (f_H_forget b h) f)) := s_callV hS mo_X2_forget rfl rfl (c_H_forget _ _ _ h) tw_632 tw_633 tw_634 hR hk rfl rfl hl d kk
theorem gf_X9_125 {S : SX} {cc : ByteArray} {pc : Nat} {ls : List (Nat × Nat × Int)} {st : List (Nat × Int)} {k n : Nat} {h : AH} {a : Int} {f : Int → Option (Int × AH)} (hS : SO S RX9 cc) (d : decode cc pc = .ok (.getfield 125, 3)) (kk : ∀ v : Int, Sim S (pc + 3) ls ((0, v) :: st) k n h (f v)) : Sim S pc ls ((2, a) :: st) k n h ((g_f h 8 a 4).bind f) := s_getf hS cx_7 4 (by decide) tw_259 rfl rfl rfl d kk
theorem gf_X9_92 {S : SX} {cc : ByteArray} {pc : Nat} {ls : List (Nat × Nat × Int)} {st : List (Nat × Int)} {k n : Nat} {h : AH} {a : Int} {f : Int → Option (Int × AH)} (hS : SO S RX9 cc) (d : decode cc pc = .ok (.getfield 92, 3)) (kk : ∀ v : Int, Sim S (pc + 3) ls ((0, v) :: st) k n h (f v)) : Sim S pc ls ((2, a) :: st) k n h ((g_f h 9 a 4).bind f) := s_getf hS cx_8 4 (by decide) tw_164 rfl rfl rfl d kk
abbrev S_B_election (G : GE) (X : SMw) : SX := (G, X, 2, 0, 0, (some .int), 13, 394)
set_option maxRecDepth 100000 in
set_option maxHeartbeats 4000000 in
theorem b_B_election {G : GE} {X : SMw} (hS : SO (S_B_election G X) RX9 cX9_election) (z0 : Int) (h : AH) : Sim (S_B_election G X) 0 [(0, 2, z0)] [] 0 0 h (f_B_election z0 h) := by
  unfold f_B_election
  refine s_aload_n hS dX9_election_0 rfl 0 rfl ?_
  refine gf_X9_21 hS dX9_election_1 fun v1 => ?_
  refine ca_X9_88 hS ⟨Nat.le_of_ble_eq_true rfl, Nat.le_of_ble_eq_true rfl⟩ ⟨Nat.le_of_ble_eq_true rfl, Nat.le_of_ble_eq_true rfl⟩ (Nat.le_of_ble_eq_true rfl) dX9_election_4 fun v2 h3 => ?_
  refine s_istore_n hS dX9_election_7 rfl (Nat.le_of_ble_eq_true rfl) (ls' := [(1, 0, v2), (0, 2, z0)]) rfl ?_
  refine s_aload_n hS dX9_election_8 rfl 1 rfl ?_
  refine gf_X9_10 hS dX9_election_9 fun v4 => ?_
  refine s_iconst hS dX9_election_12 ?_
  refine pf_X9_80 hS dX9_election_13 fun h5 => ?_
  refine s_iload_n hS dX9_election_16 rfl 0 rfl ?_
  refine s_if_ne hS dX9_election_17 rfl ?_ ?_
  · refine s_aload_n hS dX9_election_31 rfl 1 rfl ?_
    refine gf_X9_21 hS dX9_election_32 fun v6 => ?_
    refine s_aload_n hS dX9_election_35 rfl 1 rfl ?_
    refine gf_X9_41 hS dX9_election_36 fun v7 => ?_
    refine gf_X9_95 hS dX9_election_39 fun v8 => ?_
    refine ca_X9_99 hS ⟨Nat.le_of_ble_eq_true rfl, Nat.le_of_ble_eq_true rfl⟩ ⟨Nat.le_of_ble_eq_true rfl, Nat.le_of_ble_eq_true rfl⟩ (Nat.le_of_ble_eq_true rfl) dX9_election_42 fun v9 h10 => ?_
    refine s_aload_n hS dX9_election_45 rfl 1 rfl ?_
    refine gf_X9_41 hS dX9_election_46 fun v11 => ?_
    refine gf_X9_103 hS dX9_election_49 fun v12 => ?_
    refine s_aload_n hS dX9_election_52 rfl 1 rfl ?_
    refine gf_X9_41 hS dX9_election_53 fun v13 => ?_
    refine gf_X9_95 hS dX9_election_56 fun v14 => ?_
    refine gf_X9_106 hS dX9_election_59 fun v15 => ?_
    refine ca_X9_111 hS ⟨Nat.le_of_ble_eq_true rfl, Nat.le_of_ble_eq_true rfl⟩ ⟨Nat.le_of_ble_eq_true rfl, Nat.le_of_ble_eq_true rfl⟩ (Nat.le_of_ble_eq_true rfl) dX9_election_62 fun v16 h17 => ?_
    refine s_aload_n hS dX9_election_65 rfl 1 rfl ?_
    refine gf_X9_41 hS dX9_election_66 fun v18 => ?_
    refine s_iconst hS dX9_election_69 ?_
    refine pf_X9_115 hS dX9_election_70 fun h19 => ?_
    refine s_aload_n hS dX9_election_73 rfl 1 rfl ?_
    refine gf_X9_41 hS dX9_election_74 fun v20 => ?_
    refine s_iconst hS dX9_election_77 ?_
    refine pf_X9_119 hS dX9_election_78 fun h21 => ?_
    refine s_aload_n hS dX9_election_81 rfl 1 rfl ?_
    refine gf_X9_52 hS dX9_election_82 fun v22 => ?_
    refine ca_X9_122 hS ⟨Nat.le_of_ble_eq_true rfl, Nat.le_of_ble_eq_true rfl⟩ ⟨Nat.le_of_ble_eq_true rfl, Nat.le_of_ble_eq_true rfl⟩ (Nat.le_of_ble_eq_true rfl) dX9_election_85 fun v23 h24 => ?_
    refine s_aload_n hS dX9_election_88 rfl 1 rfl ?_
    refine gf_X9_41 hS dX9_election_89 fun v25 => ?_
    refine gf_X9_103 hS dX9_election_92 fun v26 => ?_
    refine gf_X9_125 hS dX9_election_95 fun v27 => ?_
    exact s_iret hS rfl (Nat.le_of_ble_eq_true rfl) (Nat.le_of_ble_eq_true rfl) dX9_election_98
  · refine s_bipush hS dX9_election_20 (by decide +kernel) ?_
    refine s_aload_n hS dX9_election_22 rfl 1 rfl ?_
    refine gf_X9_10 hS dX9_election_23 fun v28 => ?_
    refine gf_X9_92 hS dX9_election_26 fun v29 => ?_
    refine s_isub hS dX9_election_29 ?_
    exact s_iret hS rfl (Nat.le_of_ble_eq_true rfl) (Nat.le_of_ble_eq_true rfl) dX9_election_30
theorem c_B_election (l : Launch) (G : GE) (z0 : Int) (h : AH) : Con l yX9_election cX9_election 2 (some .int) 13 394 0 0 G [(2, z0)] h (f_B_election z0 h) :=
  con_of (by decide +kernel) (Nat.le_of_ble_eq_true rfl) fun X hX hS hi => b_B_election hS z0 h
theorem gf_X9_128 {S : SX} {cc : ByteArray} {pc : Nat} {ls : List (Nat × Nat × Int)} {st : List (Nat × Int)} {k n : Nat} {h : AH} {a : Int} {f : Int → Option (Int × AH)} (hS : SO S RX9 cc) (d : decode cc pc = .ok (.getfield 128, 3)) (kk : ∀ v : Int, Sim S (pc + 3) ls ((0, v) :: st) k n h (f v)) : Sim S pc ls ((2, a) :: st) k n h ((g_f h 10 a 4).bind f) := s_getf hS cx_9 4 (by decide) tw_430 rfl rfl rfl d kk
theorem gf_X9_28 {S : SX} {cc : ByteArray} {pc : Nat} {ls : List (Nat × Nat × Int)} {st : List (Nat × Int)} {k n : Nat} {h : AH} {a : Int} {f : Int → Option (Int × AH)} (hS : SO S RX9 cc) (d : decode cc pc = .ok (.getfield 28, 3)) (kk : ∀ v : Int, Sim S (pc + 3) ls ((2, v) :: st) k n h (f v)) : Sim S pc ls ((2, a) :: st) k n h ((g_f h 10 a 2).bind f) := s_getf hS cx_9 2 (by decide) tw_428 rfl rfl rfl d kk
theorem ca_X9_131 {S : SX} {cc : ByteArray} {pc : Nat} {ls : List (Nat × Nat × Int)} {st : List (Nat × Int)} {k n : Nat} {h : AH} {b : Int} {f : Int → AH → Option (Int × AH)} (hS : SO S RX9 cc) (hR : 55 + 1 ≤ S.2.2.2.2.2.2.1 ∧ 8 + (4 + 11) + 2843 ≤ S.2.2.2.2.2.2.2) (hk : k + 3 ≤ S.2.2.2.1 ∧ n + 434 ≤ S.2.2.2.2.1) (hl : st.length ≤ 4) (d : decode cc pc = .ok (.invokevirtual 131, 3)) (kk : ∀ (r : Int) (h2 : AH), Sim S (pc + 3) ls ((2, r) :: st) (k + 3) (n + 434) h2 (f r h2)) : Sim S pc ls ((2, b) :: st) k n h (c_k h 5 b (bd_ (f_D_readAll b h) f)) := s_callV hS mo_X4_readAll rfl rfl (c_D_readAll _ _ _ h) tw_641 tw_642 tw_643 hR hk rfl rfl hl d kk
theorem gf_X9_34 {S : SX} {cc : ByteArray} {pc : Nat} {ls : List (Nat × Nat × Int)} {st : List (Nat × Int)} {k n : Nat} {h : AH} {a : Int} {f : Int → Option (Int × AH)} (hS : SO S RX9 cc) (d : decode cc pc = .ok (.getfield 34, 3)) (kk : ∀ v : Int, Sim S (pc + 3) ls ((2, v) :: st) k n h (f v)) : Sim S pc ls ((2, a) :: st) k n h ((g_f h 10 a 3).bind f) := s_getf hS cx_9 3 (by decide) tw_429 rfl rfl rfl d kk
theorem pf_X9_128 {S : SX} {cc : ByteArray} {pc : Nat} {ls : List (Nat × Nat × Int)} {st : List (Nat × Int)} {k n : Nat} {h : AH} {a v : Int} {f : AH → Option (Int × AH)} (hS : SO S RX9 cc) (d : decode cc pc = .ok (.putfield 128, 3)) (kk : ∀ h2 : AH, Sim S (pc + 3) ls st k n h2 (f h2)) : Sim S pc ls ((0, v) :: (2, a) :: st) k n h ((s_f h 10 a 4 v).bind f) := s_putf hS cx_9 4 (by decide) tw_430 rfl rfl (Or.inl rfl) rfl rfl d kk
abbrev S_B_rule (G : GE) (X : SMw) : SX := (G, X, 2, 3, 434, (some .int), 56, 2866)
set_option maxRecDepth 100000 in
set_option maxHeartbeats 4000000 in
theorem b_B_rule {G : GE} {X : SMw} (hS : SO (S_B_rule G X) RX9 cX9_rule) (z0 : Int) (h : AH) : Sim (S_B_rule G X) 0 [(0, 2, z0)] [] 0 0 h (f_B_rule z0 h) := by
  unfold f_B_rule
  refine s_aload_n hS dX9_rule_0 rfl 0 rfl ?_
  refine gf_X9_128 hS dX9_rule_1 fun v1 => ?_
  refine s_bipush hS dX9_rule_4 (by decide +kernel) ?_
  refine s_icmp_lt hS dX9_rule_6 rfl ?_ ?_
  · refine s_aload_n hS dX9_rule_11 rfl 0 rfl ?_
    refine gf_X9_28 hS dX9_rule_12 fun v2 => ?_
    refine ca_X9_131 hS ⟨Nat.le_of_ble_eq_true rfl, Nat.le_of_ble_eq_true rfl⟩ ⟨Nat.le_of_ble_eq_true rfl, Nat.le_of_ble_eq_true rfl⟩ (Nat.le_of_ble_eq_true rfl) dX9_rule_15 fun v3 h4 => ?_
    refine s_astore_n hS dX9_rule_18 rfl (Nat.le_of_ble_eq_true rfl) (ls' := [(1, 2, v3), (0, 2, z0)]) rfl ?_
    refine s_aload_n hS dX9_rule_19 rfl 1 rfl ?_
    refine gf_X9_10 hS dX9_rule_20 fun v5 => ?_
    refine s_iconst hS dX9_rule_23 ?_
    refine pf_X9_80 hS dX9_rule_24 fun h6 => ?_
    refine s_aload_n hS dX9_rule_27 rfl 0 rfl ?_
    refine s_ifnonnull hS dX9_rule_28 rfl ?_ ?_
    · refine s_aload_n hS dX9_rule_42 rfl 1 rfl ?_
      refine gf_X9_34 hS dX9_rule_43 fun v7 => ?_
      refine s_aload_n hS dX9_rule_46 rfl 1 rfl ?_
      refine gf_X9_128 hS dX9_rule_47 fun v8 => ?_
      refine s_aload_n hS dX9_rule_50 rfl 0 rfl ?_
      refine s_aast hS (ci := 3) rfl rfl rfl (by decide) (by decide) dX9_rule_51 fun h9 => ?_
      refine s_aload_n hS dX9_rule_52 rfl 1 rfl ?_
      refine s_dup hS dX9_rule_53 (by decide) ?_
      refine gf_X9_128 hS dX9_rule_54 fun v10 => ?_
      refine s_iconst hS dX9_rule_57 ?_
      refine s_iadd hS dX9_rule_58 ?_
      refine pf_X9_128 hS dX9_rule_59 fun h11 => ?_
      refine s_aload_n hS dX9_rule_62 rfl 1 rfl ?_
      refine gf_X9_128 hS dX9_rule_63 fun v12 => ?_
      refine s_iconst hS dX9_rule_66 ?_
      refine s_isub hS dX9_rule_67 ?_
      exact s_iret hS rfl (Nat.le_of_ble_eq_true rfl) (Nat.le_of_ble_eq_true rfl) dX9_rule_68
    · refine s_bipush hS dX9_rule_31 (by decide +kernel) ?_
      refine s_aload_n hS dX9_rule_33 rfl 1 rfl ?_
      refine gf_X9_10 hS dX9_rule_34 fun v13 => ?_
      refine gf_X9_92 hS dX9_rule_37 fun v14 => ?_
      refine s_isub hS dX9_rule_40 ?_
      exact s_iret hS rfl (Nat.le_of_ble_eq_true rfl) (Nat.le_of_ble_eq_true rfl) dX9_rule_41
  · refine s_iconst hS dX9_rule_9 ?_
    exact s_iret hS rfl (Nat.le_of_ble_eq_true rfl) (Nat.le_of_ble_eq_true rfl) dX9_rule_10
theorem c_B_rule (l : Launch) (G : GE) (z0 : Int) (h : AH) : Con l yX9_rule cX9_rule 2 (some .int) 56 2866 3 434 G [(2, z0)] h (f_B_rule z0 h) :=
  con_of (by decide +kernel) (Nat.le_of_ble_eq_true rfl) fun X hX hS hi => b_B_rule hS z0 h
theorem gf_X9_134 {S : SX} {cc : ByteArray} {pc : Nat} {ls : List (Nat × Nat × Int)} {st : List (Nat × Int)} {k n : Nat} {h : AH} {a : Int} {f : Int → Option (Int × AH)} (hS : SO S RX9 cc) (d : decode cc pc = .ok (.getfield 134, 3)) (kk : ∀ v : Int, Sim S (pc + 3) ls ((0, v) :: st) k n h (f v)) : Sim S pc ls ((2, a) :: st) k n h ((g_f h 1 a 7).bind f) := s_getf hS cx_0 7 (by decide) tw_340 rfl rfl rfl d kk
theorem pf_X9_134 {S : SX} {cc : ByteArray} {pc : Nat} {ls : List (Nat × Nat × Int)} {st : List (Nat × Int)} {k n : Nat} {h : AH} {a v : Int} {f : AH → Option (Int × AH)} (hS : SO S RX9 cc) (d : decode cc pc = .ok (.putfield 134, 3)) (kk : ∀ h2 : AH, Sim S (pc + 3) ls st k n h2 (f h2)) : Sim S pc ls ((0, v) :: (2, a) :: st) k n h ((s_f h 1 a 7 v).bind f) := s_putf hS cx_0 7 (by decide) tw_340 rfl rfl (Or.inl rfl) rfl rfl d kk
abbrev S_B_force (G : GE) (X : SMw) : SX := (G, X, 3, 0, 0, (some .int), 0, 0)
set_option maxRecDepth 100000 in
set_option maxHeartbeats 4000000 in
theorem b_B_force {G : GE} {X : SMw} (hS : SO (S_B_force G X) RX9 cX9_force) (z0 z1 : Int) (h : AH) : Sim (S_B_force G X) 0 [(0, 2, z0), (1, 0, z1)] [] 0 0 h (f_B_force z0 z1 h) := by
  unfold f_B_force
  refine s_iload_n hS dX9_force_0 rfl 1 rfl ?_
  refine s_iconst hS dX9_force_1 ?_
  refine s_icmp_lt hS dX9_force_2 rfl ?_ ?_
  · refine s_bipush hS dX9_force_13 (by decide +kernel) ?_
    exact s_iret hS rfl (Nat.le_of_ble_eq_true rfl) (Nat.le_of_ble_eq_true rfl) dX9_force_15
  · refine s_iload_n hS dX9_force_5 rfl 1 rfl ?_
    refine s_aload_n hS dX9_force_6 rfl 0 rfl ?_
    refine gf_X9_128 hS dX9_force_7 fun v1 => ?_
    refine s_icmp_lt hS dX9_force_10 rfl ?_ ?_
    · refine s_aload_n hS dX9_force_16 rfl 0 rfl ?_
      refine gf_X9_41 hS dX9_force_17 fun v2 => ?_
      refine gf_X9_134 hS dX9_force_20 fun v3 => ?_
      refine s_istore_n hS dX9_force_23 rfl (Nat.le_of_ble_eq_true rfl) (ls' := [(2, 0, v3), (0, 2, z0), (1, 0, z1)]) rfl ?_
      refine s_aload_n hS dX9_force_24 rfl 1 rfl ?_
      refine gf_X9_41 hS dX9_force_25 fun v4 => ?_
      refine s_iload_n hS dX9_force_28 rfl 2 rfl ?_
      refine pf_X9_134 hS dX9_force_29 fun h5 => ?_
      refine s_iload_n hS dX9_force_32 rfl 0 rfl ?_
      exact s_iret hS rfl (Nat.le_of_ble_eq_true rfl) (Nat.le_of_ble_eq_true rfl) dX9_force_33
    · refine s_bipush hS dX9_force_13 (by decide +kernel) ?_
      exact s_iret hS rfl (Nat.le_of_ble_eq_true rfl) (Nat.le_of_ble_eq_true rfl) dX9_force_15
theorem c_B_force (l : Launch) (G : GE) (z0 z1 : Int) (h : AH) : Con l yX9_force cX9_force 3 (some .int) 0 0 0 0 G [(2, z0), (0, z1)] h (f_B_force z0 z1 h) :=
  con_of (by decide +kernel) (Nat.le_of_ble_eq_true rfl) fun X hX hS hi => b_B_force hS z0 z1 h
abbrev S_B_isStation (G : GE) (X : SMw) : SX := (G, X, 2, 0, 0, (some .boolean), 0, 0)
set_option maxRecDepth 100000 in
set_option maxHeartbeats 4000000 in
theorem b_B_isStation {G : GE} {X : SMw} (hS : SO (S_B_isStation G X) RX9 cX9_isStation) (z0 z1 : Int) (h : AH) : Sim (S_B_isStation G X) 0 [(0, 2, z0), (1, 0, z1)] [] 0 0 h (f_B_isStation z0 z1 h) := by
  unfold f_B_isStation
  refine s_iload_n hS dX9_isStation_0 rfl 1 rfl ?_
  refine s_if_lt hS dX9_isStation_1 rfl ?_ ?_
  · refine s_iconst hS dX9_isStation_25 ?_
    exact s_zret hS rfl (Nat.le_of_ble_eq_true rfl) (Nat.le_of_ble_eq_true rfl) dX9_isStation_26
  · refine s_iload_n hS dX9_isStation_4 rfl 1 rfl ?_
    refine s_aload_n hS dX9_isStation_5 rfl 0 rfl ?_
    refine gf_X9_41 hS dX9_isStation_6 fun v1 => ?_
    refine gf_X9_95 hS dX9_isStation_9 fun v2 => ?_
    refine gf_X9_106 hS dX9_isStation_12 fun v3 => ?_
    refine gf_X9_125 hS dX9_isStation_15 fun v4 => ?_
    refine s_icmp_ge hS dX9_isStation_18 rfl ?_ ?_
    · refine s_iconst hS dX9_isStation_25 ?_
      exact s_zret hS rfl (Nat.le_of_ble_eq_true rfl) (Nat.le_of_ble_eq_true rfl) dX9_isStation_26
    · refine s_iconst hS dX9_isStation_21 ?_
      refine s_goto hS dX9_isStation_22 rfl ?_
      exact s_zret hS rfl (Nat.le_of_ble_eq_true rfl) (Nat.le_of_ble_eq_true rfl) dX9_isStation_26
theorem c_B_isStation (l : Launch) (G : GE) (z0 z1 : Int) (h : AH) : Con l yX9_isStation cX9_isStation 2 (some .boolean) 0 0 0 0 G [(2, z0), (0, z1)] h (f_B_isStation z0 z1 h) :=
  con_of (by decide +kernel) (Nat.le_of_ble_eq_true rfl) fun X hX hS hi => b_B_isStation hS z0 z1 h
theorem ca_X9_137 {S : SX} {cc : ByteArray} {pc : Nat} {ls : List (Nat × Nat × Int)} {st : List (Nat × Int)} {k n : Nat} {h : AH} {q0 b : Int} {f : Int → AH → Option (Int × AH)} (hS : SO S RX9 cc) (hR : 0 + 1 ≤ S.2.2.2.2.2.2.1 ∧ 8 + (2 + 11) + 0 ≤ S.2.2.2.2.2.2.2) (hk : k + 0 ≤ S.2.2.2.1 ∧ n + 0 ≤ S.2.2.2.2.1) (hl : st.length ≤ 4) (d : decode cc pc = .ok (.invokevirtual 137, 3)) (kk : ∀ (r : Int) (h2 : AH), Sim S (pc + 3) ls ((0, r) :: st) (k + 0) (n + 0) h2 (f r h2)) : Sim S pc ls ((0, q0) :: (2, b) :: st) k n h (c_k h 10 b (bd_ (f_B_isStation b q0 h) f)) := s_callV hS mo_X9_isStation rfl rfl (c_B_isStation _ _ _ _ h) tw_735 tw_737 tw_17 hR hk rfl rfl hl d kk
theorem ca_X9_147 {S : SX} {cc : ByteArray} {pc : Nat} {ls : List (Nat × Nat × Int)} {st : List (Nat × Int)} {k n : Nat} {h : AH} {q0 q1 b : Int} {f : Int → AH → Option (Int × AH)} (hS : SO S RX9 cc) (hR : 1 + 1 ≤ S.2.2.2.2.2.2.1 ∧ 8 + (3 + 11) + 21 ≤ S.2.2.2.2.2.2.2) (hk : k + 0 ≤ S.2.2.2.1 ∧ n + 0 ≤ S.2.2.2.2.1) (hl : st.length ≤ 4) (d : decode cc pc = .ok (.invokevirtual 147, 3)) (kk : ∀ (r : Int) (h2 : AH), Sim S (pc + 3) ls ((0, r) :: st) (k + 0) (n + 0) h2 (f r h2)) : Sim S pc ls ((0, q1) :: (0, q0) :: (2, b) :: st) k n h (c_k h 8 b (bd_ (f_T_numberOf b q0 q1 h) f)) := s_callV hS mo_X7_numberOf rfl rfl (c_T_numberOf _ _ _ _ _ h) tw_743 tw_744 tw_745 hR hk rfl rfl hl d kk
theorem ca_X9_144 {S : SX} {cc : ByteArray} {pc : Nat} {ls : List (Nat × Nat × Int)} {st : List (Nat × Int)} {k n : Nat} {h : AH} {q0 b : Int} {f : Int → AH → Option (Int × AH)} (hS : SO S RX9 cc) (hR : 0 + 1 ≤ S.2.2.2.2.2.2.1 ∧ 8 + (2 + 11) + 0 ≤ S.2.2.2.2.2.2.2) (hk : k + 0 ≤ S.2.2.2.1 ∧ n + 0 ≤ S.2.2.2.2.1) (hl : st.length ≤ 4) (d : decode cc pc = .ok (.invokevirtual 144, 3)) (kk : ∀ (r : Int) (h2 : AH), Sim S (pc + 3) ls ((0, r) :: st) (k + 0) (n + 0) h2 (f r h2)) : Sim S pc ls ((0, q0) :: (2, b) :: st) k n h (c_k h 6 b (bd_ (f_S_isRecounted b q0 h) f)) := s_callV hS mo_X5_isRecounted rfl rfl (c_S_isRecounted _ _ _ _ h) tw_739 tw_740 tw_741 hR hk rfl rfl hl d kk
theorem gf_X9_141 {S : SX} {cc : ByteArray} {pc : Nat} {ls : List (Nat × Nat × Int)} {st : List (Nat × Int)} {k n : Nat} {h : AH} {a : Int} {f : Int → Option (Int × AH)} (hS : SO S RX9 cc) (d : decode cc pc = .ok (.getfield 141, 3)) (kk : ∀ v : Int, Sim S (pc + 3) ls ((2, v) :: st) k n h (f v)) : Sim S pc ls ((2, a) :: st) k n h ((g_f h 6 a 1).bind f) := s_getf hS cx_5 1 (by decide) tw_290 rfl rfl rfl d kk
abbrev S_B_station (G : GE) (X : SMw) : SX := (G, X, 3, 0, 0, (some .int), 2, 43)
set_option maxRecDepth 100000 in
set_option maxHeartbeats 4000000 in
theorem b_B_station {G : GE} {X : SMw} (hS : SO (S_B_station G X) RX9 cX9_station) (z0 z1 z2 : Int) (h : AH) : Sim (S_B_station G X) 0 [(0, 2, z0), (1, 0, z1), (2, 0, z2)] [] 0 0 h (f_B_station z0 z1 z2 h) := by
  unfold f_B_station
  refine s_aload_n hS dX9_station_0 rfl 0 rfl ?_
  refine s_iload_n hS dX9_station_1 rfl 1 rfl ?_
  refine ca_X9_137 hS ⟨Nat.le_of_ble_eq_true rfl, Nat.le_of_ble_eq_true rfl⟩ ⟨Nat.le_of_ble_eq_true rfl, Nat.le_of_ble_eq_true rfl⟩ (Nat.le_of_ble_eq_true rfl) dX9_station_2 fun v1 h2 => ?_
  refine s_if_ne hS dX9_station_5 rfl ?_ ?_
  · refine s_iload_n hS dX9_station_10 rfl 2 rfl ?_
    refine s_iconst hS dX9_station_11 ?_
    refine s_icmp_ne hS dX9_station_12 rfl ?_ ?_
    · refine s_iload_n hS dX9_station_28 rfl 2 rfl ?_
      refine s_iconst hS dX9_station_29 ?_
      refine s_icmp_ne hS dX9_station_30 rfl ?_ ?_
      · refine s_aload_n hS dX9_station_53 rfl 0 rfl ?_
        refine gf_X9_41 hS dX9_station_54 fun v3 => ?_
        refine gf_X9_95 hS dX9_station_57 fun v4 => ?_
        refine gf_X9_106 hS dX9_station_60 fun v5 => ?_
        refine s_iload_n hS dX9_station_63 rfl 1 rfl ?_
        refine s_iload_n hS dX9_station_64 rfl 2 rfl ?_
        refine ca_X9_147 hS ⟨Nat.le_of_ble_eq_true rfl, Nat.le_of_ble_eq_true rfl⟩ ⟨Nat.le_of_ble_eq_true rfl, Nat.le_of_ble_eq_true rfl⟩ (Nat.le_of_ble_eq_true rfl) dX9_station_65 fun v6 h7 => ?_
        exact s_iret hS rfl (Nat.le_of_ble_eq_true rfl) (Nat.le_of_ble_eq_true rfl) dX9_station_68
      · refine s_aload_n hS dX9_station_33 rfl 0 rfl ?_
        refine gf_X9_41 hS dX9_station_34 fun v8 => ?_
        refine gf_X9_95 hS dX9_station_37 fun v9 => ?_
        refine s_iload_n hS dX9_station_40 rfl 1 rfl ?_
        refine ca_X9_144 hS ⟨Nat.le_of_ble_eq_true rfl, Nat.le_of_ble_eq_true rfl⟩ ⟨Nat.le_of_ble_eq_true rfl, Nat.le_of_ble_eq_true rfl⟩ (Nat.le_of_ble_eq_true rfl) dX9_station_41 fun v10 h11 => ?_
        refine s_if_eq hS dX9_station_44 rfl ?_ ?_
        · refine s_iconst hS dX9_station_51 ?_
          exact s_iret hS rfl (Nat.le_of_ble_eq_true rfl) (Nat.le_of_ble_eq_true rfl) dX9_station_52
        · refine s_iconst hS dX9_station_47 ?_
          refine s_goto hS dX9_station_48 rfl ?_
          exact s_iret hS rfl (Nat.le_of_ble_eq_true rfl) (Nat.le_of_ble_eq_true rfl) dX9_station_52
    · refine s_aload_n hS dX9_station_15 rfl 0 rfl ?_
      refine gf_X9_41 hS dX9_station_16 fun v12 => ?_
      refine gf_X9_95 hS dX9_station_19 fun v13 => ?_
      refine gf_X9_141 hS dX9_station_22 fun v14 => ?_
      refine s_iload_n hS dX9_station_25 rfl 1 rfl ?_
      refine s_iald hS dX9_station_26 fun v15 => ?_
      exact s_iret hS rfl (Nat.le_of_ble_eq_true rfl) (Nat.le_of_ble_eq_true rfl) dX9_station_27
  · refine s_iconst hS dX9_station_8 ?_
    exact s_iret hS rfl (Nat.le_of_ble_eq_true rfl) (Nat.le_of_ble_eq_true rfl) dX9_station_9
theorem c_B_station (l : Launch) (G : GE) (z0 z1 z2 : Int) (h : AH) : Con l yX9_station cX9_station 3 (some .int) 2 43 0 0 G [(2, z0), (0, z1), (0, z2)] h (f_B_station z0 z1 z2 h) :=
  con_of (by decide +kernel) (Nat.le_of_ble_eq_true rfl) fun X hX hS hi => b_B_station hS z0 z1 z2 h
theorem ca_X9_151 {S : SX} {cc : ByteArray} {pc : Nat} {ls : List (Nat × Nat × Int)} {st : List (Nat × Int)} {k n : Nat} {h : AH} {q0 b : Int} {f : Int → AH → Option (Int × AH)} (hS : SO S RX9 cc) (hR : 0 + 1 ≤ S.2.2.2.2.2.2.1 ∧ 8 + (2 + 11) + 0 ≤ S.2.2.2.2.2.2.2) (hk : k + 0 ≤ S.2.2.2.1 ∧ n + 0 ≤ S.2.2.2.2.1) (hl : st.length ≤ 4) (d : decode cc pc = .ok (.invokevirtual 151, 3)) (kk : ∀ (r : Int) (h2 : AH), Sim S (pc + 3) ls ((0, r) :: st) (k + 0) (n + 0) h2 (f r h2)) : Sim S pc ls ((0, q0) :: (2, b) :: st) k n h (c_k h 6 b (bd_ (f_S_isPaper b q0 h) f)) := s_callV hS mo_X5_isPaper rfl rfl (c_S_isPaper _ _ _ _ h) tw_752 tw_753 tw_754 hR hk rfl rfl hl d kk
theorem ca_X9_154 {S : SX} {cc : ByteArray} {pc : Nat} {ls : List (Nat × Nat × Int)} {st : List (Nat × Int)} {k n : Nat} {h : AH} {q0 b : Int} {f : Int → AH → Option (Int × AH)} (hS : SO S RX9 cc) (hR : 0 + 1 ≤ S.2.2.2.2.2.2.1 ∧ 8 + (2 + 11) + 0 ≤ S.2.2.2.2.2.2.2) (hk : k + 0 ≤ S.2.2.2.1 ∧ n + 0 ≤ S.2.2.2.2.1) (hl : st.length ≤ 4) (d : decode cc pc = .ok (.invokevirtual 154, 3)) (kk : ∀ (r : Int) (h2 : AH), Sim S (pc + 3) ls ((0, r) :: st) (k + 0) (n + 0) h2 (f r h2)) : Sim S pc ls ((0, q0) :: (2, b) :: st) k n h (c_k h 6 b (bd_ (f_S_stationOf b q0 h) f)) := s_callV hS mo_X5_stationOf rfl rfl (c_S_stationOf _ _ _ _ h) tw_756 tw_613 tw_614 hR hk rfl rfl hl d kk
theorem ca_X9_158 {S : SX} {cc : ByteArray} {pc : Nat} {ls : List (Nat × Nat × Int)} {st : List (Nat × Int)} {k n : Nat} {h : AH} {q0 b : Int} {f : Int → AH → Option (Int × AH)} (hS : SO S RX9 cc) (hR : 0 + 1 ≤ S.2.2.2.2.2.2.1 ∧ 8 + (2 + 11) + 0 ≤ S.2.2.2.2.2.2.2) (hk : k + 0 ≤ S.2.2.2.1 ∧ n + 0 ≤ S.2.2.2.2.1) (hl : st.length ≤ 4) (d : decode cc pc = .ok (.invokevirtual 158, 3)) (kk : ∀ (r : Int) (h2 : AH), Sim S (pc + 3) ls ((0, r) :: st) (k + 0) (n + 0) h2 (f r h2)) : Sim S pc ls ((0, q0) :: (2, b) :: st) k n h (c_k h 6 b (bd_ (f_S_kindOf b q0 h) f)) := s_callV hS mo_X5_kindOf rfl rfl (c_S_kindOf _ _ _ _ h) tw_757 tw_617 tw_618 hR hk rfl rfl hl d kk
theorem ca_X9_161 {S : SX} {cc : ByteArray} {pc : Nat} {ls : List (Nat × Nat × Int)} {st : List (Nat × Int)} {k n : Nat} {h : AH} {q0 b : Int} {f : Int → AH → Option (Int × AH)} (hS : SO S RX9 cc) (hR : 1 + 1 ≤ S.2.2.2.2.2.2.1 ∧ 8 + (4 + 11) + 21 ≤ S.2.2.2.2.2.2.2) (hk : k + 0 ≤ S.2.2.2.1 ∧ n + 0 ≤ S.2.2.2.2.1) (hl : st.length ≤ 4) (d : decode cc pc = .ok (.invokevirtual 161, 3)) (kk : ∀ (r : Int) (h2 : AH), Sim S (pc + 3) ls ((0, r) :: st) (k + 0) (n + 0) h2 (f r h2)) : Sim S pc ls ((0, q0) :: (2, b) :: st) k n h (c_k h 6 b (bd_ (f_S_placeOf b q0 h) f)) := s_callV hS mo_X5_placeOf rfl rfl (c_S_placeOf _ _ _ _ h) tw_758 tw_759 tw_760 hR hk rfl rfl hl d kk
abbrev S_B_paper (G : GE) (X : SMw) : SX := (G, X, 4, 0, 0, (some .int), 2, 44)
set_option maxRecDepth 100000 in
set_option maxHeartbeats 4000000 in
theorem b_B_paper {G : GE} {X : SMw} (hS : SO (S_B_paper G X) RX9 cX9_paper) (z0 z1 z2 : Int) (h : AH) : Sim (S_B_paper G X) 0 [(0, 2, z0), (1, 0, z1), (2, 0, z2)] [] 0 0 h (f_B_paper z0 z1 z2 h) := by
  unfold f_B_paper
  refine s_aload_n hS dX9_paper_0 rfl 0 rfl ?_
  refine gf_X9_41 hS dX9_paper_1 fun v1 => ?_
  refine gf_X9_95 hS dX9_paper_4 fun v2 => ?_
  refine s_astore_n hS dX9_paper_7 rfl (Nat.le_of_ble_eq_true rfl) (ls' := [(3, 2, v2), (0, 2, z0), (1, 0, z1), (2, 0, z2)]) rfl ?_
  refine s_aload_n hS dX9_paper_8 rfl 0 rfl ?_
  refine s_iload_n hS dX9_paper_9 rfl 2 rfl ?_
  refine ca_X9_151 hS ⟨Nat.le_of_ble_eq_true rfl, Nat.le_of_ble_eq_true rfl⟩ ⟨Nat.le_of_ble_eq_true rfl, Nat.le_of_ble_eq_true rfl⟩ (Nat.le_of_ble_eq_true rfl) dX9_paper_10 fun v3 h4 => ?_
  refine s_if_ne hS dX9_paper_13 rfl ?_ ?_
  · refine s_iload_n hS dX9_paper_18 rfl 3 rfl ?_
    refine s_swI hS 0 dX9_paper_19 (by decide) (by decide) rfl rfl ?_ fun e0 => ?_
    · refine s_aload_n hS dX9_paper_44 rfl 0 rfl ?_
      refine s_iload_n hS dX9_paper_45 rfl 2 rfl ?_
      refine ca_X9_154 hS ⟨Nat.le_of_ble_eq_true rfl, Nat.le_of_ble_eq_true rfl⟩ ⟨Nat.le_of_ble_eq_true rfl, Nat.le_of_ble_eq_true rfl⟩ (Nat.le_of_ble_eq_true rfl) dX9_paper_46 fun v5 h6 => ?_
      exact s_iret hS rfl (Nat.le_of_ble_eq_true rfl) (Nat.le_of_ble_eq_true rfl) dX9_paper_49
    refine s_swI hS 1 dX9_paper_19 (by decide) (by decide) rfl rfl ?_ fun e1 => ?_
    · refine s_aload_n hS dX9_paper_50 rfl 0 rfl ?_
      refine s_iload_n hS dX9_paper_51 rfl 2 rfl ?_
      refine ca_X9_158 hS ⟨Nat.le_of_ble_eq_true rfl, Nat.le_of_ble_eq_true rfl⟩ ⟨Nat.le_of_ble_eq_true rfl, Nat.le_of_ble_eq_true rfl⟩ (Nat.le_of_ble_eq_true rfl) dX9_paper_52 fun v7 h8 => ?_
      exact s_iret hS rfl (Nat.le_of_ble_eq_true rfl) (Nat.le_of_ble_eq_true rfl) dX9_paper_55
    refine s_swI hS 2 dX9_paper_19 (by decide) (by decide) rfl rfl ?_ fun e2 => ?_
    · refine s_aload_n hS dX9_paper_56 rfl 0 rfl ?_
      refine s_iload_n hS dX9_paper_57 rfl 2 rfl ?_
      refine ca_X9_161 hS ⟨Nat.le_of_ble_eq_true rfl, Nat.le_of_ble_eq_true rfl⟩ ⟨Nat.le_of_ble_eq_true rfl, Nat.le_of_ble_eq_true rfl⟩ (Nat.le_of_ble_eq_true rfl) dX9_paper_58 fun v9 h10 => ?_
      exact s_iret hS rfl (Nat.le_of_ble_eq_true rfl) (Nat.le_of_ble_eq_true rfl) dX9_paper_61
    refine s_swO hS dX9_paper_19 (by omega) rfl ?_
    refine s_iconst hS dX9_paper_62 ?_
    exact s_iret hS rfl (Nat.le_of_ble_eq_true rfl) (Nat.le_of_ble_eq_true rfl) dX9_paper_63
  · refine s_iconst hS dX9_paper_16 ?_
    exact s_iret hS rfl (Nat.le_of_ble_eq_true rfl) (Nat.le_of_ble_eq_true rfl) dX9_paper_17
theorem c_B_paper (l : Launch) (G : GE) (z0 z1 z2 : Int) (h : AH) : Con l yX9_paper cX9_paper 4 (some .int) 2 44 0 0 G [(2, z0), (0, z1), (0, z2)] h (f_B_paper z0 z1 z2 h) :=
  con_of (by decide +kernel) (Nat.le_of_ble_eq_true rfl) fun X hX hS hi => b_B_paper hS z0 z1 z2 h
theorem ca_X9_164 {S : SX} {cc : ByteArray} {pc : Nat} {ls : List (Nat × Nat × Int)} {st : List (Nat × Int)} {k n : Nat} {h : AH} {q0 q1 q2 b : Int} {f : Int → AH → Option (Int × AH)} (hS : SO S RX9 cc) (hR : 2 + 1 ≤ S.2.2.2.2.2.2.1 ∧ 8 + (5 + 11) + 44 ≤ S.2.2.2.2.2.2.2) (hk : k + 0 ≤ S.2.2.2.1 ∧ n + 0 ≤ S.2.2.2.2.1) (hl : st.length ≤ 4) (d : decode cc pc = .ok (.invokevirtual 164, 3)) (kk : ∀ (r : Int) (h2 : AH), Sim S (pc + 3) ls ((0, r) :: st) (k + 0) (n + 0) h2 (f r h2)) : Sim S pc ls ((0, q2) :: (0, q1) :: (0, q0) :: (2, b) :: st) k n h (c_k h 6 b (bd_ (f_S_paperAt b q0 q1 q2 h) f)) := s_callV hS mo_X5_paperAt rfl rfl (c_S_paperAt _ _ _ _ _ _ h) tw_767 tw_768 tw_769 hR hk rfl rfl hl d kk
abbrev S_B_row (G : GE) (X : SMw) : SX := (G, X, 4, 0, 0, (some .int), 3, 68)
set_option maxRecDepth 100000 in
set_option maxHeartbeats 4000000 in
theorem b_B_row_20 {G : GE} {X : SMw} (hS : SO (S_B_row G X) RX9 cX9_row) (z0 z1 z2 z3 : Int) (h : AH) : Sim (S_B_row G X) 20 [(0, 2, z0), (1, 0, z1), (2, 0, z2), (3, 0, z3)] [] 0 0 h (f_B_row_20 z0 z1 z2 z3 h) := by
  unfold f_B_row_20
  refine s_aload_n hS dX9_row_20 rfl 0 rfl ?_
  refine gf_X9_41 hS dX9_row_21 fun v1 => ?_
  refine gf_X9_95 hS dX9_row_24 fun v2 => ?_
  refine s_iload_n hS dX9_row_27 rfl 1 rfl ?_
  refine s_iload_n hS dX9_row_28 rfl 2 rfl ?_
  refine s_iload_n hS dX9_row_29 rfl 3 rfl ?_
  refine ca_X9_164 hS ⟨Nat.le_of_ble_eq_true rfl, Nat.le_of_ble_eq_true rfl⟩ ⟨Nat.le_of_ble_eq_true rfl, Nat.le_of_ble_eq_true rfl⟩ (Nat.le_of_ble_eq_true rfl) dX9_row_30 fun v3 h4 => ?_
  exact s_iret hS rfl (Nat.le_of_ble_eq_true rfl) (Nat.le_of_ble_eq_true rfl) dX9_row_33
set_option maxRecDepth 100000 in
set_option maxHeartbeats 4000000 in
theorem b_B_row {G : GE} {X : SMw} (hS : SO (S_B_row G X) RX9 cX9_row) (z0 z1 z2 z3 : Int) (h : AH) : Sim (S_B_row G X) 0 [(0, 2, z0), (1, 0, z1), (2, 0, z2), (3, 0, z3)] [] 0 0 h (f_B_row z0 z1 z2 z3 h) := by
  unfold f_B_row
  refine s_aload_n hS dX9_row_0 rfl 0 rfl ?_
  refine s_iload_n hS dX9_row_1 rfl 1 rfl ?_
  refine ca_X9_137 hS ⟨Nat.le_of_ble_eq_true rfl, Nat.le_of_ble_eq_true rfl⟩ ⟨Nat.le_of_ble_eq_true rfl, Nat.le_of_ble_eq_true rfl⟩ (Nat.le_of_ble_eq_true rfl) dX9_row_2 fun v1 h2 => ?_
  refine s_if_eq hS dX9_row_5 rfl ?_ ?_
  · refine s_iconst hS dX9_row_18 ?_
    exact s_iret hS rfl (Nat.le_of_ble_eq_true rfl) (Nat.le_of_ble_eq_true rfl) dX9_row_19
  · refine s_iload_n hS dX9_row_8 rfl 2 rfl ?_
    refine s_iconst hS dX9_row_9 ?_
    refine s_icmp_eq hS dX9_row_10 rfl ?_ ?_
    · exact b_B_row_20 hS _ _ _ _ _
    · refine s_iload_n hS dX9_row_13 rfl 2 rfl ?_
      refine s_iconst hS dX9_row_14 ?_
      refine s_icmp_eq hS dX9_row_15 rfl ?_ ?_
      · exact b_B_row_20 hS _ _ _ _ _
      · refine s_iconst hS dX9_row_18 ?_
        exact s_iret hS rfl (Nat.le_of_ble_eq_true rfl) (Nat.le_of_ble_eq_true rfl) dX9_row_19
theorem c_B_row (l : Launch) (G : GE) (z0 z1 z2 z3 : Int) (h : AH) : Con l yX9_row cX9_row 4 (some .int) 3 68 0 0 G [(2, z0), (0, z1), (0, z2), (0, z3)] h (f_B_row z0 z1 z2 z3 h) :=
  con_of (by decide +kernel) (Nat.le_of_ble_eq_true rfl) fun X hX hS hi => b_B_row hS z0 z1 z2 z3 h
theorem gf_X9_168 {S : SX} {cc : ByteArray} {pc : Nat} {ls : List (Nat × Nat × Int)} {st : List (Nat × Int)} {k n : Nat} {h : AH} {a : Int} {f : Int → Option (Int × AH)} (hS : SO S RX9 cc) (d : decode cc pc = .ok (.getfield 168, 3)) (kk : ∀ v : Int, Sim S (pc + 3) ls ((2, v) :: st) k n h (f v)) : Sim S pc ls ((2, a) :: st) k n h ((g_f h 8 a 0).bind f) := s_getf hS cx_7 0 (by decide) tw_247 rfl rfl rfl d kk
theorem ca_X9_174 {S : SX} {cc : ByteArray} {pc : Nat} {ls : List (Nat × Nat × Int)} {st : List (Nat × Int)} {k n : Nat} {h : AH} {q0 : Int} {f : Int → AH → Option (Int × AH)} (hS : SO S RX9 cc) (hR : 0 + 1 ≤ S.2.2.2.2.2.2.1 ∧ 8 + (2 + 11) + 0 ≤ S.2.2.2.2.2.2.2) (hk : k + 0 ≤ S.2.2.2.1 ∧ n + 0 ≤ S.2.2.2.2.1) (hl : st.length ≤ 4) (d : decode cc pc = .ok (.invokestatic 174, 3)) (kk : ∀ (r : Int) (h2 : AH), Sim S (pc + 3) ls ((0, r) :: st) (k + 0) (n + 0) h2 (f r h2)) : Sim S pc ls ((1, q0) :: st) k n h (bd_ (f_J13_bitCount_95d88 q0 h) f) := s_callS hS mo_J13_bitCount_95d88 (c_J13_bitCount_95d88 _ _ _ h) tw_777 tw_603 hR hk rfl rfl hl d kk
theorem ca_X9_180 {S : SX} {cc : ByteArray} {pc : Nat} {ls : List (Nat × Nat × Int)} {st : List (Nat × Int)} {k n : Nat} {h : AH} {q0 q1 : Int} {f : Int → AH → Option (Int × AH)} (hS : SO S RX9 cc) (hR : 2 + 1 ≤ S.2.2.2.2.2.2.1 ∧ 8 + (6 + 11) + 43 ≤ S.2.2.2.2.2.2.2) (hk : k + 0 ≤ S.2.2.2.1 ∧ n + 0 ≤ S.2.2.2.2.1) (hl : st.length ≤ 4) (d : decode cc pc = .ok (.invokestatic 180, 3)) (kk : ∀ (r : Int) (h2 : AH), Sim S (pc + 3) ls ((0, r) :: st) (k + 0) (n + 0) h2 (f r h2)) : Sim S pc ls ((0, q1) :: (1, q0) :: st) k n h (bd_ (f_T_bitAt q0 q1 h) f) := s_callS hS mo_X7_bitAt (c_T_bitAt _ _ _ _ h) tw_778 tw_779 hR hk rfl rfl hl d kk
abbrev S_B_runs (G : GE) (X : SMw) : SX := (G, X, 9, 0, 0, (some .int), 3, 68)
set_option maxRecDepth 100000 in
set_option maxHeartbeats 4000000 in
theorem b_B_runs_98 {G : GE} {X : SMw} (hS : SO (S_B_runs G X) RX9 cX9_runs) (z2 w0 : Int) (h : AH) : Sim (S_B_runs G X) 98 [(2, 0, z2)] [(1, w0)] 0 0 h (f_B_runs_98 z2 w0 h) := by
  unfold f_B_runs_98
  refine s_iload_n hS dX9_runs_98 rfl 0 rfl ?_
  refine ca_X9_180 hS ⟨Nat.le_of_ble_eq_true rfl, Nat.le_of_ble_eq_true rfl⟩ ⟨Nat.le_of_ble_eq_true rfl, Nat.le_of_ble_eq_true rfl⟩ (Nat.le_of_ble_eq_true rfl) dX9_runs_99 fun v1 h2 => ?_
  exact s_iret hS rfl (Nat.le_of_ble_eq_true rfl) (Nat.le_of_ble_eq_true rfl) dX9_runs_102
set_option maxRecDepth 100000 in
set_option maxHeartbeats 4000000 in
theorem b_B_runs {G : GE} {X : SMw} (hS : SO (S_B_runs G X) RX9 cX9_runs) (z0 z1 z2 z3 : Int) (h : AH) : Sim (S_B_runs G X) 0 [(0, 2, z0), (1, 0, z1), (2, 0, z2), (3, 0, z3)] [] 0 0 h (f_B_runs z0 z1 z2 z3 h) := by
  unfold f_B_runs
  refine s_aload_n hS dX9_runs_0 rfl 0 rfl ?_
  refine s_iload_n hS dX9_runs_1 rfl 1 rfl ?_
  refine ca_X9_137 hS ⟨Nat.le_of_ble_eq_true rfl, Nat.le_of_ble_eq_true rfl⟩ ⟨Nat.le_of_ble_eq_true rfl, Nat.le_of_ble_eq_true rfl⟩ (Nat.le_of_ble_eq_true rfl) dX9_runs_2 fun v1 h2 => ?_
  refine s_if_ne hS dX9_runs_5 rfl ?_ ?_
  · refine s_aload_n hS dX9_runs_11 rfl 0 rfl ?_
    refine gf_X9_41 hS dX9_runs_12 fun v3 => ?_
    refine gf_X9_95 hS dX9_runs_15 fun v4 => ?_
    refine gf_X9_106 hS dX9_runs_18 fun v5 => ?_
    refine gf_X9_168 hS dX9_runs_21 fun v6 => ?_
    refine s_iload_n hS dX9_runs_24 rfl 1 rfl ?_
    refine s_lald hS dX9_runs_25 fun v7 => ?_
    refine s_lstore hS dX9_runs_26 (Nat.le_of_ble_eq_true rfl) (ls' := [(4, 1, v7), (0, 2, z0), (1, 0, z1), (2, 0, z2), (3, 0, z3)]) rfl ?_
    refine s_lload hS dX9_runs_28 0 rfl ?_
    refine s_lload hS dX9_runs_30 0 rfl ?_
    refine s_iconst hS dX9_runs_32 ?_
    refine s_lshl hS dX9_runs_33 ?_
    refine s_ldc2 hS (z := (-1)) tw_776 (by decide +kernel) dX9_runs_34 ?_
    refine s_lxor hS dX9_runs_37 ?_
    refine s_land hS dX9_runs_38 ?_
    refine s_let fun v8 => ?_
    refine s_lstore hS dX9_runs_39 (Nat.le_of_ble_eq_true rfl) (ls' := [(6, 1, v8), (4, 1, v7), (0, 2, z0), (1, 0, z1), (2, 0, z2), (3, 0, z3)]) rfl ?_
    refine s_lload hS dX9_runs_41 0 rfl ?_
    refine ca_X9_174 hS ⟨Nat.le_of_ble_eq_true rfl, Nat.le_of_ble_eq_true rfl⟩ ⟨Nat.le_of_ble_eq_true rfl, Nat.le_of_ble_eq_true rfl⟩ (Nat.le_of_ble_eq_true rfl) dX9_runs_43 fun v9 h10 => ?_
    refine s_istore hS dX9_runs_46 (Nat.le_of_ble_eq_true rfl) (ls' := [(8, 0, v9), (6, 1, v8), (4, 1, v7), (0, 2, z0), (1, 0, z1), (2, 0, z2), (3, 0, z3)]) rfl ?_
    refine s_iload_n hS dX9_runs_48 rfl 5 rfl ?_
    refine s_iconst hS dX9_runs_49 ?_
    refine s_icmp_ne hS dX9_runs_50 rfl ?_ ?_
    · refine s_iload_n hS dX9_runs_56 rfl 5 rfl ?_
      refine s_if_lt hS dX9_runs_57 rfl ?_ ?_
      · refine s_bipush hS dX9_runs_75 (by decide +kernel) ?_
        exact s_iret hS rfl (Nat.le_of_ble_eq_true rfl) (Nat.le_of_ble_eq_true rfl) dX9_runs_77
      · refine s_iload_n hS dX9_runs_60 rfl 5 rfl ?_
        refine s_iload hS dX9_runs_61 0 rfl ?_
        refine s_icmp_ge hS dX9_runs_63 rfl ?_ ?_
        · refine s_bipush hS dX9_runs_75 (by decide +kernel) ?_
          exact s_iret hS rfl (Nat.le_of_ble_eq_true rfl) (Nat.le_of_ble_eq_true rfl) dX9_runs_77
        · refine s_iload_n hS dX9_runs_66 rfl 6 rfl ?_
          refine s_if_lt hS dX9_runs_67 rfl ?_ ?_
          · refine s_bipush hS dX9_runs_75 (by decide +kernel) ?_
            exact s_iret hS rfl (Nat.le_of_ble_eq_true rfl) (Nat.le_of_ble_eq_true rfl) dX9_runs_77
          · refine s_iload_n hS dX9_runs_70 rfl 6 rfl ?_
            refine s_iconst hS dX9_runs_71 ?_
            refine s_icmp_le hS dX9_runs_72 rfl ?_ ?_
            · refine s_iload_n hS dX9_runs_78 rfl 6 rfl ?_
              refine s_if_ne hS dX9_runs_79 rfl ?_ ?_
              · refine s_lload hS dX9_runs_87 2 rfl ?_
                refine s_lload hS dX9_runs_89 2 rfl ?_
                refine s_iconst hS dX9_runs_91 ?_
                refine s_lushr hS dX9_runs_92 ?_
                refine s_ldc2 hS (z := (-1)) tw_776 (by decide +kernel) dX9_runs_93 ?_
                refine s_lxor hS dX9_runs_96 ?_
                refine s_land hS dX9_runs_97 ?_
                refine s_ls [5] rfl ?_
                exact b_B_runs_98 hS _ _ _
              · refine s_lload hS dX9_runs_82 1 rfl ?_
                refine s_goto hS dX9_runs_84 rfl ?_
                refine s_ls [5] rfl ?_
                exact b_B_runs_98 hS _ _ _
            · refine s_bipush hS dX9_runs_75 (by decide +kernel) ?_
              exact s_iret hS rfl (Nat.le_of_ble_eq_true rfl) (Nat.le_of_ble_eq_true rfl) dX9_runs_77
    · refine s_iload hS dX9_runs_53 0 rfl ?_
      exact s_iret hS rfl (Nat.le_of_ble_eq_true rfl) (Nat.le_of_ble_eq_true rfl) dX9_runs_55
  · refine s_bipush hS dX9_runs_8 (by decide +kernel) ?_
    exact s_iret hS rfl (Nat.le_of_ble_eq_true rfl) (Nat.le_of_ble_eq_true rfl) dX9_runs_10
theorem c_B_runs (l : Launch) (G : GE) (z0 z1 z2 z3 : Int) (h : AH) : Con l yX9_runs cX9_runs 9 (some .int) 3 68 0 0 G [(2, z0), (0, z1), (0, z2), (0, z3)] h (f_B_runs z0 z1 z2 z3 h) :=
  con_of (by decide +kernel) (Nat.le_of_ble_eq_true rfl) fun X hX hS hi => b_B_runs hS z0 z1 z2 z3 h
abbrev S_B_areTwo (G : GE) (X : SMw) : SX := (G, X, 3, 0, 0, (some .boolean), 1, 21)
set_option maxRecDepth 100000 in
set_option maxHeartbeats 4000000 in
theorem b_B_areTwo {G : GE} {X : SMw} (hS : SO (S_B_areTwo G X) RX9 cX9_areTwo) (z0 z1 z2 : Int) (h : AH) : Sim (S_B_areTwo G X) 0 [(0, 2, z0), (1, 0, z1), (2, 0, z2)] [] 0 0 h (f_B_areTwo z0 z1 z2 h) := by
  unfold f_B_areTwo
  refine s_aload_n hS dX9_areTwo_0 rfl 0 rfl ?_
  refine s_iload_n hS dX9_areTwo_1 rfl 1 rfl ?_
  refine ca_X9_137 hS ⟨Nat.le_of_ble_eq_true rfl, Nat.le_of_ble_eq_true rfl⟩ ⟨Nat.le_of_ble_eq_true rfl, Nat.le_of_ble_eq_true rfl⟩ (Nat.le_of_ble_eq_true rfl) dX9_areTwo_2 fun v1 h2 => ?_
  refine s_if_eq hS dX9_areTwo_5 rfl ?_ ?_
  · refine s_iconst hS dX9_areTwo_25 ?_
    exact s_zret hS rfl (Nat.le_of_ble_eq_true rfl) (Nat.le_of_ble_eq_true rfl) dX9_areTwo_26
  · refine s_aload_n hS dX9_areTwo_8 rfl 0 rfl ?_
    refine s_iload_n hS dX9_areTwo_9 rfl 2 rfl ?_
    refine ca_X9_137 hS ⟨Nat.le_of_ble_eq_true rfl, Nat.le_of_ble_eq_true rfl⟩ ⟨Nat.le_of_ble_eq_true rfl, Nat.le_of_ble_eq_true rfl⟩ (Nat.le_of_ble_eq_true rfl) dX9_areTwo_10 fun v3 h4 => ?_
    refine s_if_eq hS dX9_areTwo_13 rfl ?_ ?_
    · refine s_iconst hS dX9_areTwo_25 ?_
      exact s_zret hS rfl (Nat.le_of_ble_eq_true rfl) (Nat.le_of_ble_eq_true rfl) dX9_areTwo_26
    · refine s_iload_n hS dX9_areTwo_16 rfl 1 rfl ?_
      refine s_iload_n hS dX9_areTwo_17 rfl 2 rfl ?_
      refine s_icmp_eq hS dX9_areTwo_18 rfl ?_ ?_
      · refine s_iconst hS dX9_areTwo_25 ?_
        exact s_zret hS rfl (Nat.le_of_ble_eq_true rfl) (Nat.le_of_ble_eq_true rfl) dX9_areTwo_26
      · refine s_iconst hS dX9_areTwo_21 ?_
        refine s_goto hS dX9_areTwo_22 rfl ?_
        exact s_zret hS rfl (Nat.le_of_ble_eq_true rfl) (Nat.le_of_ble_eq_true rfl) dX9_areTwo_26
theorem c_B_areTwo (l : Launch) (G : GE) (z0 z1 z2 : Int) (h : AH) : Con l yX9_areTwo cX9_areTwo 3 (some .boolean) 1 21 0 0 G [(2, z0), (0, z1), (0, z2)] h (f_B_areTwo z0 z1 z2 h) :=
  con_of (by decide +kernel) (Nat.le_of_ble_eq_true rfl) fun X hX hS hi => b_B_areTwo hS z0 z1 z2 h
theorem ca_X9_184 {S : SX} {cc : ByteArray} {pc : Nat} {ls : List (Nat × Nat × Int)} {st : List (Nat × Int)} {k n : Nat} {h : AH} {q0 q1 b : Int} {f : Int → AH → Option (Int × AH)} (hS : SO S RX9 cc) (hR : 1 + 1 ≤ S.2.2.2.2.2.2.1 ∧ 8 + (3 + 11) + 21 ≤ S.2.2.2.2.2.2.2) (hk : k + 0 ≤ S.2.2.2.1 ∧ n + 0 ≤ S.2.2.2.2.1) (hl : st.length ≤ 4) (d : decode cc pc = .ok (.invokevirtual 184, 3)) (kk : ∀ (r : Int) (h2 : AH), Sim S (pc + 3) ls ((0, r) :: st) (k + 0) (n + 0) h2 (f r h2)) : Sim S pc ls ((0, q1) :: (0, q0) :: (2, b) :: st) k n h (c_k h 10 b (bd_ (f_B_areTwo b q0 q1 h) f)) := s_callV hS mo_X9_areTwo rfl rfl (c_B_areTwo _ _ _ _ _ h) tw_792 tw_794 tw_18 hR hk rfl rfl hl d kk
theorem gf_X9_188 {S : SX} {cc : ByteArray} {pc : Nat} {ls : List (Nat × Nat × Int)} {st : List (Nat × Int)} {k n : Nat} {h : AH} {a : Int} {f : Int → Option (Int × AH)} (hS : SO S RX9 cc) (d : decode cc pc = .ok (.getfield 188, 3)) (kk : ∀ v : Int, Sim S (pc + 3) ls ((2, v) :: st) k n h (f v)) : Sim S pc ls ((2, a) :: st) k n h ((g_f h 6 a 5).bind f) := s_getf hS cx_5 5 (by decide) tw_296 rfl rfl rfl d kk
abbrev S_B_moved (G : GE) (X : SMw) : SX := (G, X, 3, 0, 0, (some .int), 2, 43)
set_option maxRecDepth 100000 in
set_option maxHeartbeats 4000000 in
theorem b_B_moved {G : GE} {X : SMw} (hS : SO (S_B_moved G X) RX9 cX9_moved) (z0 z1 z2 : Int) (h : AH) : Sim (S_B_moved G X) 0 [(0, 2, z0), (1, 0, z1), (2, 0, z2)] [] 0 0 h (f_B_moved z0 z1 z2 h) := by
  unfold f_B_moved
  refine s_aload_n hS dX9_moved_0 rfl 0 rfl ?_
  refine s_iload_n hS dX9_moved_1 rfl 1 rfl ?_
  refine s_iload_n hS dX9_moved_2 rfl 2 rfl ?_
  refine ca_X9_184 hS ⟨Nat.le_of_ble_eq_true rfl, Nat.le_of_ble_eq_true rfl⟩ ⟨Nat.le_of_ble_eq_true rfl, Nat.le_of_ble_eq_true rfl⟩ (Nat.le_of_ble_eq_true rfl) dX9_moved_3 fun v1 h2 => ?_
  refine s_if_eq hS dX9_moved_6 rfl ?_ ?_
  · refine s_iconst hS dX9_moved_28 ?_
    exact s_iret hS rfl (Nat.le_of_ble_eq_true rfl) (Nat.le_of_ble_eq_true rfl) dX9_moved_29
  · refine s_aload_n hS dX9_moved_9 rfl 0 rfl ?_
    refine gf_X9_41 hS dX9_moved_10 fun v3 => ?_
    refine gf_X9_95 hS dX9_moved_13 fun v4 => ?_
    refine gf_X9_188 hS dX9_moved_16 fun v5 => ?_
    refine s_iload_n hS dX9_moved_19 rfl 1 rfl ?_
    refine s_iconst hS dX9_moved_20 ?_
    refine s_imul hS dX9_moved_21 ?_
    refine s_iload_n hS dX9_moved_22 rfl 2 rfl ?_
    refine s_iadd hS dX9_moved_23 ?_
    refine s_iald hS dX9_moved_24 fun v6 => ?_
    refine s_goto hS dX9_moved_25 rfl ?_
    exact s_iret hS rfl (Nat.le_of_ble_eq_true rfl) (Nat.le_of_ble_eq_true rfl) dX9_moved_29
theorem c_B_moved (l : Launch) (G : GE) (z0 z1 z2 : Int) (h : AH) : Con l yX9_moved cX9_moved 3 (some .int) 2 43 0 0 G [(2, z0), (0, z1), (0, z2)] h (f_B_moved z0 z1 z2 h) :=
  con_of (by decide +kernel) (Nat.le_of_ble_eq_true rfl) fun X hX hS hi => b_B_moved hS z0 z1 z2 h
abbrev S_B_isKind (G : GE) (X : SMw) : SX := (G, X, 1, 0, 0, (some .boolean), 0, 0)
set_option maxRecDepth 100000 in
set_option maxHeartbeats 4000000 in
theorem b_B_isKind {G : GE} {X : SMw} (hS : SO (S_B_isKind G X) RX9 cX9_isKind) (z0 : Int) (h : AH) : Sim (S_B_isKind G X) 0 [(0, 0, z0)] [] 0 0 h (f_B_isKind z0 h) := by
  unfold f_B_isKind
  refine s_iload_n hS dX9_isKind_0 rfl 0 rfl ?_
  refine s_if_lt hS dX9_isKind_1 rfl ?_ ?_
  · refine s_iconst hS dX9_isKind_13 ?_
    exact s_zret hS rfl (Nat.le_of_ble_eq_true rfl) (Nat.le_of_ble_eq_true rfl) dX9_isKind_14
  · refine s_iload_n hS dX9_isKind_4 rfl 0 rfl ?_
    refine s_iconst hS dX9_isKind_5 ?_
    refine s_icmp_gt hS dX9_isKind_6 rfl ?_ ?_
    · refine s_iconst hS dX9_isKind_13 ?_
      exact s_zret hS rfl (Nat.le_of_ble_eq_true rfl) (Nat.le_of_ble_eq_true rfl) dX9_isKind_14
    · refine s_iconst hS dX9_isKind_9 ?_
      refine s_goto hS dX9_isKind_10 rfl ?_
      exact s_zret hS rfl (Nat.le_of_ble_eq_true rfl) (Nat.le_of_ble_eq_true rfl) dX9_isKind_14
theorem c_B_isKind (l : Launch) (G : GE) (z0 : Int) (h : AH) : Con l yX9_isKind cX9_isKind 1 (some .boolean) 0 0 0 0 G [(0, z0)] h (f_B_isKind z0 h) :=
  con_of (by decide +kernel) (Nat.le_of_ble_eq_true rfl) fun X hX hS hi => b_B_isKind hS z0 h
theorem ca_X9_191 {S : SX} {cc : ByteArray} {pc : Nat} {ls : List (Nat × Nat × Int)} {st : List (Nat × Int)} {k n : Nat} {h : AH} {q0 : Int} {f : Int → AH → Option (Int × AH)} (hS : SO S RX9 cc) (hR : 0 + 1 ≤ S.2.2.2.2.2.2.1 ∧ 8 + (1 + 11) + 0 ≤ S.2.2.2.2.2.2.2) (hk : k + 0 ≤ S.2.2.2.1 ∧ n + 0 ≤ S.2.2.2.2.1) (hl : st.length ≤ 4) (d : decode cc pc = .ok (.invokestatic 191, 3)) (kk : ∀ (r : Int) (h2 : AH), Sim S (pc + 3) ls ((0, r) :: st) (k + 0) (n + 0) h2 (f r h2)) : Sim S pc ls ((0, q0) :: st) k n h (bd_ (f_B_isKind q0 h) f) := s_callS hS mo_X9_isKind (c_B_isKind _ _ _ h) tw_800 tw_801 hR hk rfl rfl hl d kk
theorem gf_X9_194 {S : SX} {cc : ByteArray} {pc : Nat} {ls : List (Nat × Nat × Int)} {st : List (Nat × Int)} {k n : Nat} {h : AH} {a : Int} {f : Int → Option (Int × AH)} (hS : SO S RX9 cc) (d : decode cc pc = .ok (.getfield 194, 3)) (kk : ∀ v : Int, Sim S (pc + 3) ls ((2, v) :: st) k n h (f v)) : Sim S pc ls ((2, a) :: st) k n h ((g_f h 6 a 6).bind f) := s_getf hS cx_5 6 (by decide) tw_298 rfl rfl rfl d kk
abbrev S_B_told (G : GE) (X : SMw) : SX := (G, X, 3, 0, 0, (some .int), 1, 21)
set_option maxRecDepth 100000 in
set_option maxHeartbeats 4000000 in
theorem b_B_told {G : GE} {X : SMw} (hS : SO (S_B_told G X) RX9 cX9_told) (z0 z1 z2 : Int) (h : AH) : Sim (S_B_told G X) 0 [(0, 2, z0), (1, 0, z1), (2, 0, z2)] [] 0 0 h (f_B_told z0 z1 z2 h) := by
  unfold f_B_told
  refine s_aload_n hS dX9_told_0 rfl 0 rfl ?_
  refine s_iload_n hS dX9_told_1 rfl 1 rfl ?_
  refine ca_X9_137 hS ⟨Nat.le_of_ble_eq_true rfl, Nat.le_of_ble_eq_true rfl⟩ ⟨Nat.le_of_ble_eq_true rfl, Nat.le_of_ble_eq_true rfl⟩ (Nat.le_of_ble_eq_true rfl) dX9_told_2 fun v1 h2 => ?_
  refine s_if_eq hS dX9_told_5 rfl ?_ ?_
  · refine s_iconst hS dX9_told_15 ?_
    exact s_iret hS rfl (Nat.le_of_ble_eq_true rfl) (Nat.le_of_ble_eq_true rfl) dX9_told_16
  · refine s_iload_n hS dX9_told_8 rfl 2 rfl ?_
    refine ca_X9_191 hS ⟨Nat.le_of_ble_eq_true rfl, Nat.le_of_ble_eq_true rfl⟩ ⟨Nat.le_of_ble_eq_true rfl, Nat.le_of_ble_eq_true rfl⟩ (Nat.le_of_ble_eq_true rfl) dX9_told_9 fun v3 h4 => ?_
    refine s_if_ne hS dX9_told_12 rfl ?_ ?_
    · refine s_aload_n hS dX9_told_17 rfl 0 rfl ?_
      refine gf_X9_41 hS dX9_told_18 fun v5 => ?_
      refine gf_X9_95 hS dX9_told_21 fun v6 => ?_
      refine gf_X9_194 hS dX9_told_24 fun v7 => ?_
      refine s_iload_n hS dX9_told_27 rfl 1 rfl ?_
      refine s_iconst hS dX9_told_28 ?_
      refine s_imul hS dX9_told_29 ?_
      refine s_iload_n hS dX9_told_30 rfl 2 rfl ?_
      refine s_iadd hS dX9_told_31 ?_
      refine s_iald hS dX9_told_32 fun v8 => ?_
      exact s_iret hS rfl (Nat.le_of_ble_eq_true rfl) (Nat.le_of_ble_eq_true rfl) dX9_told_33
    · refine s_iconst hS dX9_told_15 ?_
      exact s_iret hS rfl (Nat.le_of_ble_eq_true rfl) (Nat.le_of_ble_eq_true rfl) dX9_told_16
theorem c_B_told (l : Launch) (G : GE) (z0 z1 z2 : Int) (h : AH) : Con l yX9_told cX9_told 3 (some .int) 1 21 0 0 G [(2, z0), (0, z1), (0, z2)] h (f_B_told z0 z1 z2 h) :=
  con_of (by decide +kernel) (Nat.le_of_ble_eq_true rfl) fun X hX hS hi => b_B_told hS z0 z1 z2 h
abbrev S_B_ruleNumbered (G : GE) (X : SMw) : SX := (G, X, 2, 0, 0, (some (.object "BallotBook$Rule")), 0, 0)
set_option maxRecDepth 100000 in
set_option maxHeartbeats 4000000 in
theorem b_B_ruleNumbered {G : GE} {X : SMw} (hS : SO (S_B_ruleNumbered G X) RX9 cX9_ruleNumbered) (z0 z1 : Int) (h : AH) : Sim (S_B_ruleNumbered G X) 0 [(0, 2, z0), (1, 0, z1)] [] 0 0 h (f_B_ruleNumbered z0 z1 h) := by
  unfold f_B_ruleNumbered
  refine s_iload_n hS dX9_ruleNumbered_0 rfl 1 rfl ?_
  refine s_if_lt hS dX9_ruleNumbered_1 rfl ?_ ?_
  · refine s_null hS dX9_ruleNumbered_21 ?_
    exact s_aret hS rfl (Or.inl ⟨_, rfl⟩) (Nat.le_of_ble_eq_true rfl) (Nat.le_of_ble_eq_true rfl) dX9_ruleNumbered_22
  · refine s_iload_n hS dX9_ruleNumbered_4 rfl 1 rfl ?_
    refine s_aload_n hS dX9_ruleNumbered_5 rfl 0 rfl ?_
    refine gf_X9_128 hS dX9_ruleNumbered_6 fun v1 => ?_
    refine s_icmp_ge hS dX9_ruleNumbered_9 rfl ?_ ?_
    · refine s_null hS dX9_ruleNumbered_21 ?_
      exact s_aret hS rfl (Or.inl ⟨_, rfl⟩) (Nat.le_of_ble_eq_true rfl) (Nat.le_of_ble_eq_true rfl) dX9_ruleNumbered_22
    · refine s_aload_n hS dX9_ruleNumbered_12 rfl 0 rfl ?_
      refine gf_X9_34 hS dX9_ruleNumbered_13 fun v2 => ?_
      refine s_iload_n hS dX9_ruleNumbered_16 rfl 1 rfl ?_
      refine s_aald hS (by decide) (by decide) dX9_ruleNumbered_17 fun v3 => ?_
      refine s_goto hS dX9_ruleNumbered_18 rfl ?_
      exact s_aret hS rfl (Or.inl ⟨_, rfl⟩) (Nat.le_of_ble_eq_true rfl) (Nat.le_of_ble_eq_true rfl) dX9_ruleNumbered_22
theorem c_B_ruleNumbered (l : Launch) (G : GE) (z0 z1 : Int) (h : AH) : Con l yX9_ruleNumbered cX9_ruleNumbered 2 (some (.object "BallotBook$Rule")) 0 0 0 0 G [(2, z0), (0, z1)] h (f_B_ruleNumbered z0 z1 h) :=
  con_of (by decide +kernel) (Nat.le_of_ble_eq_true rfl) fun X hX hS hi => b_B_ruleNumbered hS z0 z1 h
theorem ca_X9_306 {S : SX} {cc : ByteArray} {pc : Nat} {ls : List (Nat × Nat × Int)} {st : List (Nat × Int)} {k n : Nat} {h : AH} {q0 b : Int} {f : Int → AH → Option (Int × AH)} (hS : SO S RX9 cc) (hR : 0 + 1 ≤ S.2.2.2.2.2.2.1 ∧ 8 + (2 + 11) + 0 ≤ S.2.2.2.2.2.2.2) (hk : k + 0 ≤ S.2.2.2.1 ∧ n + 0 ≤ S.2.2.2.2.1) (hl : st.length ≤ 4) (d : decode cc pc = .ok (.invokevirtual 306, 3)) (kk : ∀ (r : Int) (h2 : AH), Sim S (pc + 3) ls ((2, r) :: st) (k + 0) (n + 0) h2 (f r h2)) : Sim S pc ls ((0, q0) :: (2, b) :: st) k n h (c_k h 10 b (bd_ (f_B_ruleNumbered b q0 h) f)) := s_callV hS mo_X9_ruleNumbered rfl rfl (c_B_ruleNumbered _ _ _ _ h) tw_822 tw_824 tw_20 hR hk rfl rfl hl d kk
abbrev S_B_ruleInForce (G : GE) (X : SMw) : SX := (G, X, 1, 0, 0, (some (.object "BallotBook$Rule")), 1, 21)
set_option maxRecDepth 100000 in
set_option maxHeartbeats 4000000 in
theorem b_B_ruleInForce {G : GE} {X : SMw} (hS : SO (S_B_ruleInForce G X) RX9 cX9_ruleInForce) (z0 : Int) (h : AH) : Sim (S_B_ruleInForce G X) 0 [(0, 2, z0)] [] 0 0 h (f_B_ruleInForce z0 h) := by
  unfold f_B_ruleInForce
  refine s_aload_n hS dX9_ruleInForce_0 rfl 0 rfl ?_
  refine s_aload_n hS dX9_ruleInForce_1 rfl 0 rfl ?_
  refine gf_X9_41 hS dX9_ruleInForce_2 fun v1 => ?_
  refine gf_X9_134 hS dX9_ruleInForce_5 fun v2 => ?_
  refine ca_X9_306 hS ⟨Nat.le_of_ble_eq_true rfl, Nat.le_of_ble_eq_true rfl⟩ ⟨Nat.le_of_ble_eq_true rfl, Nat.le_of_ble_eq_true rfl⟩ (Nat.le_of_ble_eq_true rfl) dX9_ruleInForce_8 fun v3 h4 => ?_
  exact s_aret hS rfl (Or.inl ⟨_, rfl⟩) (Nat.le_of_ble_eq_true rfl) (Nat.le_of_ble_eq_true rfl) dX9_ruleInForce_11
theorem c_B_ruleInForce (l : Launch) (G : GE) (z0 : Int) (h : AH) : Con l yX9_ruleInForce cX9_ruleInForce 1 (some (.object "BallotBook$Rule")) 1 21 0 0 G [(2, z0)] h (f_B_ruleInForce z0 h) :=
  con_of (by decide +kernel) (Nat.le_of_ble_eq_true rfl) fun X hX hS hi => b_B_ruleInForce hS z0 h
theorem gf_X9_115 {S : SX} {cc : ByteArray} {pc : Nat} {ls : List (Nat × Nat × Int)} {st : List (Nat × Int)} {k n : Nat} {h : AH} {a : Int} {f : Int → Option (Int × AH)} (hS : SO S RX9 cc) (d : decode cc pc = .ok (.getfield 115, 3)) (kk : ∀ v : Int, Sim S (pc + 3) ls ((0, v) :: st) k n h (f v)) : Sim S pc ls ((2, a) :: st) k n h ((g_f h 1 a 8).bind f) := s_getf hS cx_0 8 (by decide) tw_342 rfl rfl rfl d kk
theorem gf_X9_197 {S : SX} {cc : ByteArray} {pc : Nat} {ls : List (Nat × Nat × Int)} {st : List (Nat × Int)} {k n : Nat} {h : AH} {a : Int} {f : Int → Option (Int × AH)} (hS : SO S RX9 cc) (d : decode cc pc = .ok (.getfield 197, 3)) (kk : ∀ v : Int, Sim S (pc + 3) ls ((0, v) :: st) k n h (f v)) : Sim S pc ls ((2, a) :: st) k n h ((g_f h 8 a 5).bind f) := s_getf hS cx_7 5 (by decide) tw_262 rfl rfl rfl d kk
theorem ca_X9_200 {S : SX} {cc : ByteArray} {pc : Nat} {ls : List (Nat × Nat × Int)} {st : List (Nat × Int)} {k n : Nat} {h : AH} {q0 b : Int} {f : Int → AH → Option (Int × AH)} (hS : SO S RX9 cc) (hR : 3 + 1 ≤ S.2.2.2.2.2.2.1 ∧ 8 + (3 + 11) + 81 ≤ S.2.2.2.2.2.2.2) (hk : k + 12 ≤ S.2.2.2.1 ∧ n + 263 ≤ S.2.2.2.2.1) (hl : st.length ≤ 4) (d : decode cc pc = .ok (.invokevirtual 200, 3)) (kk : ∀ (r : Int) (h2 : AH), Sim S (pc + 3) ls (st) (k + 12) (n + 263) h2 (f r h2)) : Sim S pc ls ((2, q0) :: (2, b) :: st) k n h (c_k h 3 b (bd_ (f_H_keep b q0 h) f)) := s_callV hS mo_X2_keep rfl rfl (c_H_keep _ _ _ _ h) tw_807 tw_808 tw_809 hR hk rfl rfl hl d kk
theorem ca_X9_203 {S : SX} {cc : ByteArray} {pc : Nat} {ls : List (Nat × Nat × Int)} {st : List (Nat × Int)} {k n : Nat} {h : AH} {b : Int} {f : Int → AH → Option (Int × AH)} (hS : SO S RX9 cc) (hR : 1 + 1 ≤ S.2.2.2.2.2.2.1 ∧ 8 + (1 + 11) + 21 ≤ S.2.2.2.2.2.2.2) (hk : k + 0 ≤ S.2.2.2.1 ∧ n + 0 ≤ S.2.2.2.2.1) (hl : st.length ≤ 4) (d : decode cc pc = .ok (.invokevirtual 203, 3)) (kk : ∀ (r : Int) (h2 : AH), Sim S (pc + 3) ls ((2, r) :: st) (k + 0) (n + 0) h2 (f r h2)) : Sim S pc ls ((2, b) :: st) k n h (c_k h 10 b (bd_ (f_B_ruleInForce b h) f)) := s_callV hS mo_X9_ruleInForce rfl rfl (c_B_ruleInForce _ _ _ h) tw_818 tw_820 tw_19 hR hk rfl rfl hl d kk
theorem ca_X9_206 {S : SX} {cc : ByteArray} {pc : Nat} {ls : List (Nat × Nat × Int)} {st : List (Nat × Int)} {k n : Nat} {h : AH} {q0 b : Int} {f : Int → AH → Option (Int × AH)} (hS : SO S RX9 cc) (hR : 5 + 1 ≤ S.2.2.2.2.2.2.1 ∧ 8 + (6 + 11) + 118 ≤ S.2.2.2.2.2.2.2) (hk : k + 0 ≤ S.2.2.2.1 ∧ n + 0 ≤ S.2.2.2.2.1) (hl : st.length ≤ 4) (d : decode cc pc = .ok (.invokevirtual 206, 3)) (kk : ∀ (r : Int) (h2 : AH), Sim S (pc + 3) ls ((0, r) :: st) (k + 0) (n + 0) h2 (f r h2)) : Sim S pc ls ((2, q0) :: (2, b) :: st) k n h (c_k h 6 b (bd_ (f_S_passHourByHand b q0 h) f)) := s_callV hS mo_X5_passHourByHand rfl rfl (c_S_passHourByHand _ _ _ _ h) tw_826 tw_827 tw_828 hR hk rfl rfl hl d kk
abbrev S_B_hour (G : GE) (X : SMw) : SX := (G, X, 2, 12, 263, (some .int), 6, 143)
set_option maxRecDepth 100000 in
set_option maxHeartbeats 4000000 in
theorem b_B_hour {G : GE} {X : SMw} (hS : SO (S_B_hour G X) RX9 cX9_hour) (z0 : Int) (h : AH) : Sim (S_B_hour G X) 0 [(0, 2, z0)] [] 0 0 h (f_B_hour z0 h) := by
  unfold f_B_hour
  refine s_aload_n hS dX9_hour_0 rfl 0 rfl ?_
  refine gf_X9_41 hS dX9_hour_1 fun v1 => ?_
  refine gf_X9_115 hS dX9_hour_4 fun v2 => ?_
  refine s_if_eq hS dX9_hour_7 rfl ?_ ?_
  · refine s_iconst hS dX9_hour_29 ?_
    exact s_iret hS rfl (Nat.le_of_ble_eq_true rfl) (Nat.le_of_ble_eq_true rfl) dX9_hour_30
  · refine s_aload_n hS dX9_hour_10 rfl 0 rfl ?_
    refine gf_X9_41 hS dX9_hour_11 fun v3 => ?_
    refine gf_X9_95 hS dX9_hour_14 fun v4 => ?_
    refine gf_X9_106 hS dX9_hour_17 fun v5 => ?_
    refine gf_X9_197 hS dX9_hour_20 fun v6 => ?_
    refine s_sipush hS dX9_hour_23 (by decide +kernel) ?_
    refine s_icmp_lt hS dX9_hour_26 rfl ?_ ?_
    · refine s_aload_n hS dX9_hour_31 rfl 0 rfl ?_
      refine gf_X9_52 hS dX9_hour_32 fun v7 => ?_
      refine s_aload_n hS dX9_hour_35 rfl 0 rfl ?_
      refine gf_X9_41 hS dX9_hour_36 fun v8 => ?_
      refine gf_X9_95 hS dX9_hour_39 fun v9 => ?_
      refine ca_X9_200 hS ⟨Nat.le_of_ble_eq_true rfl, Nat.le_of_ble_eq_true rfl⟩ ⟨Nat.le_of_ble_eq_true rfl, Nat.le_of_ble_eq_true rfl⟩ (Nat.le_of_ble_eq_true rfl) dX9_hour_42 fun v10 h11 => ?_
      refine s_aload_n hS dX9_hour_45 rfl 0 rfl ?_
      refine gf_X9_41 hS dX9_hour_46 fun v12 => ?_
      refine gf_X9_95 hS dX9_hour_49 fun v13 => ?_
      refine s_aload_n hS dX9_hour_52 rfl 0 rfl ?_
      refine ca_X9_203 hS ⟨Nat.le_of_ble_eq_true rfl, Nat.le_of_ble_eq_true rfl⟩ ⟨Nat.le_of_ble_eq_true rfl, Nat.le_of_ble_eq_true rfl⟩ (Nat.le_of_ble_eq_true rfl) dX9_hour_53 fun v14 h15 => ?_
      refine ca_X9_206 hS ⟨Nat.le_of_ble_eq_true rfl, Nat.le_of_ble_eq_true rfl⟩ ⟨Nat.le_of_ble_eq_true rfl, Nat.le_of_ble_eq_true rfl⟩ (Nat.le_of_ble_eq_true rfl) dX9_hour_56 fun v16 h17 => ?_
      refine s_istore_n hS dX9_hour_59 rfl (Nat.le_of_ble_eq_true rfl) (ls' := [(1, 0, v16), (0, 2, z0)]) rfl ?_
      refine s_iload_n hS dX9_hour_60 rfl 0 rfl ?_
      refine s_iconst hS dX9_hour_61 ?_
      refine s_icmp_ne hS dX9_hour_62 rfl ?_ ?_
      · refine s_iload_n hS dX9_hour_70 rfl 0 rfl ?_
        exact s_iret hS rfl (Nat.le_of_ble_eq_true rfl) (Nat.le_of_ble_eq_true rfl) dX9_hour_71
      · refine s_bipush hS dX9_hour_65 (by decide +kernel) ?_
        refine s_goto hS dX9_hour_67 rfl ?_
        exact s_iret hS rfl (Nat.le_of_ble_eq_true rfl) (Nat.le_of_ble_eq_true rfl) dX9_hour_71
    · refine s_iconst hS dX9_hour_29 ?_
      exact s_iret hS rfl (Nat.le_of_ble_eq_true rfl) (Nat.le_of_ble_eq_true rfl) dX9_hour_30
theorem c_B_hour (l : Launch) (G : GE) (z0 : Int) (h : AH) : Con l yX9_hour cX9_hour 2 (some .int) 6 143 12 263 G [(2, z0)] h (f_B_hour z0 h) :=
  con_of (by decide +kernel) (Nat.le_of_ble_eq_true rfl) fun X hX hS hi => b_B_hour hS z0 h
abbrev S_B_isMany (G : GE) (X : SMw) : SX := (G, X, 1, 0, 0, (some .boolean), 0, 0)
set_option maxRecDepth 100000 in
set_option maxHeartbeats 4000000 in
theorem b_B_isMany {G : GE} {X : SMw} (hS : SO (S_B_isMany G X) RX9 cX9_isMany) (z0 : Int) (h : AH) : Sim (S_B_isMany G X) 0 [(0, 0, z0)] [] 0 0 h (f_B_isMany z0 h) := by
  unfold f_B_isMany
  refine s_iload_n hS dX9_isMany_0 rfl 0 rfl ?_
  refine s_iconst hS dX9_isMany_1 ?_
  refine s_icmp_lt hS dX9_isMany_2 rfl ?_ ?_
  · refine s_iconst hS dX9_isMany_15 ?_
    exact s_zret hS rfl (Nat.le_of_ble_eq_true rfl) (Nat.le_of_ble_eq_true rfl) dX9_isMany_16
  · refine s_iload_n hS dX9_isMany_5 rfl 0 rfl ?_
    refine s_bipush hS dX9_isMany_6 (by decide +kernel) ?_
    refine s_icmp_gt hS dX9_isMany_8 rfl ?_ ?_
    · refine s_iconst hS dX9_isMany_15 ?_
      exact s_zret hS rfl (Nat.le_of_ble_eq_true rfl) (Nat.le_of_ble_eq_true rfl) dX9_isMany_16
    · refine s_iconst hS dX9_isMany_11 ?_
      refine s_goto hS dX9_isMany_12 rfl ?_
      exact s_zret hS rfl (Nat.le_of_ble_eq_true rfl) (Nat.le_of_ble_eq_true rfl) dX9_isMany_16
theorem c_B_isMany (l : Launch) (G : GE) (z0 : Int) (h : AH) : Con l yX9_isMany cX9_isMany 1 (some .boolean) 0 0 0 0 G [(0, z0)] h (f_B_isMany z0 h) :=
  con_of (by decide +kernel) (Nat.le_of_ble_eq_true rfl) fun X hX hS hi => b_B_isMany hS z0 h
theorem ca_X9_210 {S : SX} {cc : ByteArray} {pc : Nat} {ls : List (Nat × Nat × Int)} {st : List (Nat × Int)} {k n : Nat} {h : AH} {q0 : Int} {f : Int → AH → Option (Int × AH)} (hS : SO S RX9 cc) (hR : 0 + 1 ≤ S.2.2.2.2.2.2.1 ∧ 8 + (1 + 11) + 0 ≤ S.2.2.2.2.2.2.2) (hk : k + 0 ≤ S.2.2.2.1 ∧ n + 0 ≤ S.2.2.2.2.1) (hl : st.length ≤ 4) (d : decode cc pc = .ok (.invokestatic 210, 3)) (kk : ∀ (r : Int) (h2 : AH), Sim S (pc + 3) ls ((0, r) :: st) (k + 0) (n + 0) h2 (f r h2)) : Sim S pc ls ((0, q0) :: st) k n h (bd_ (f_B_isMany q0 h) f) := s_callS hS mo_X9_isMany (c_B_isMany _ _ _ h) tw_875 tw_876 hR hk rfl rfl hl d kk
theorem gf_X9_213 {S : SX} {cc : ByteArray} {pc : Nat} {ls : List (Nat × Nat × Int)} {st : List (Nat × Int)} {k n : Nat} {h : AH} {a : Int} {f : Int → Option (Int × AH)} (hS : SO S RX9 cc) (d : decode cc pc = .ok (.getfield 213, 3)) (kk : ∀ v : Int, Sim S (pc + 3) ls ((2, v) :: st) k n h (f v)) : Sim S pc ls ((2, a) :: st) k n h ((g_f h 8 a 1).bind f) := s_getf hS cx_7 1 (by decide) tw_251 rfl rfl rfl d kk
theorem ca_X9_216 {S : SX} {cc : ByteArray} {pc : Nat} {ls : List (Nat × Nat × Int)} {st : List (Nat × Int)} {k n : Nat} {h : AH} {q0 q1 b : Int} {f : Int → AH → Option (Int × AH)} (hS : SO S RX9 cc) (hR : 0 + 1 ≤ S.2.2.2.2.2.2.1 ∧ 8 + (5 + 11) + 0 ≤ S.2.2.2.2.2.2.2) (hk : k + 0 ≤ S.2.2.2.1 ∧ n + 0 ≤ S.2.2.2.2.1) (hl : st.length ≤ 4) (d : decode cc pc = .ok (.invokevirtual 216, 3)) (kk : ∀ (r : Int) (h2 : AH), Sim S (pc + 3) ls ((0, r) :: st) (k + 0) (n + 0) h2 (f r h2)) : Sim S pc ls ((0, q1) :: (0, q0) :: (2, b) :: st) k n h (c_k h 6 b (bd_ (f_S_firstOf b q0 q1 h) f)) := s_callV hS mo_X5_firstOf rfl rfl (c_S_firstOf _ _ _ _ _ h) tw_878 tw_879 tw_880 hR hk rfl rfl hl d kk
theorem ca_X9_219 {S : SX} {cc : ByteArray} {pc : Nat} {ls : List (Nat × Nat × Int)} {st : List (Nat × Int)} {k n : Nat} {h : AH} {q0 q1 q2 q3 b : Int} {f : Int → AH → Option (Int × AH)} (hS : SO S RX9 cc) (hR : 2 + 1 ≤ S.2.2.2.2.2.2.1 ∧ 8 + (6 + 11) + 47 ≤ S.2.2.2.2.2.2.2) (hk : k + 0 ≤ S.2.2.2.1 ∧ n + 0 ≤ S.2.2.2.2.1) (hl : st.length ≤ 4) (d : decode cc pc = .ok (.invokevirtual 219, 3)) (kk : ∀ (r : Int) (h2 : AH), Sim S (pc + 3) ls (st) (k + 0) (n + 0) h2 (f r h2)) : Sim S pc ls ((0, q3) :: (0, q2) :: (0, q1) :: (0, q0) :: (2, b) :: st) k n h (c_k h 6 b (bd_ (f_S_shift b q0 q1 q2 q3 h) f)) := s_callV hS mo_X5_shift rfl rfl (c_S_shift _ _ _ _ _ _ _ h) tw_882 tw_883 tw_884 hR hk rfl rfl hl d kk
abbrev S_B_move (G : GE) (X : SMw) : SX := (G, X, 6, 12, 263, (some .int), 4, 103)
set_option maxRecDepth 100000 in
set_option maxHeartbeats 4000000 in
theorem B_B_move_53 {G : GE} {X : SMw} (hS : SO (S_B_move G X) RX9 cX9_move) (z1 z2 z3 z4 : Int) {k53 : Int → AH → Option (Int × AH)} (hk53 : ∀ (z5 : Int) (h : AH), Sim (S_B_move G X) 53 [(1, 0, z1), (2, 0, z2), (3, 0, z3), (4, 2, z4), (5, 0, z5)] [] 12 263 h (k53 z5 h)) (z5 : Int) (h : AH) : Sim (S_B_move G X) 53 [(1, 0, z1), (2, 0, z2), (3, 0, z3), (4, 2, z4), (5, 0, z5)] [] 12 263 h (F_B_move_53 z1 z2 z3 z4 k53 z5 h) := by
  unfold F_B_move_53
  refine s_iload hS dX9_move_53 4 rfl ?_
  refine s_iload_n hS dX9_move_55 rfl 2 rfl ?_
  refine s_icmp_ge hS dX9_move_56 rfl ?_ ?_
  · refine s_aload hS dX9_move_80 3 rfl ?_
    refine gf_X9_106 hS dX9_move_82 fun v1 => ?_
    refine gf_X9_213 hS dX9_move_85 fun v2 => ?_
    refine s_iload_n hS dX9_move_88 rfl 1 rfl ?_
    refine s_iald hS dX9_move_89 fun v3 => ?_
    exact s_iret hS rfl (Nat.le_of_ble_eq_true rfl) (Nat.le_of_ble_eq_true rfl) dX9_move_90
  · refine s_aload hS dX9_move_59 3 rfl ?_
    refine s_aload hS dX9_move_61 3 rfl ?_
    refine s_iload_n hS dX9_move_63 rfl 0 rfl ?_
    refine s_iconst hS dX9_move_64 ?_
    refine ca_X9_216 hS ⟨Nat.le_of_ble_eq_true rfl, Nat.le_of_ble_eq_true rfl⟩ ⟨Nat.le_of_ble_eq_true rfl, Nat.le_of_ble_eq_true rfl⟩ (Nat.le_of_ble_eq_true rfl) dX9_move_65 fun v4 h5 => ?_
    refine s_iload_n hS dX9_move_68 rfl 0 rfl ?_
    refine s_iload_n hS dX9_move_69 rfl 1 rfl ?_
    refine s_iconst hS dX9_move_70 ?_
    refine ca_X9_219 hS ⟨Nat.le_of_ble_eq_true rfl, Nat.le_of_ble_eq_true rfl⟩ ⟨Nat.le_of_ble_eq_true rfl, Nat.le_of_ble_eq_true rfl⟩ (Nat.le_of_ble_eq_true rfl) dX9_move_71 fun v6 h7 => ?_
    refine s_iinc hS dX9_move_74 4 rfl (Nat.le_of_ble_eq_true rfl) (ls' := [(5, 0, (z5 + 1)), (1, 0, z1), (2, 0, z2), (3, 0, z3), (4, 2, z4)]) rfl ?_
    refine s_goto hS dX9_move_77 rfl ?_
    refine s_ls [1, 2, 3, 4, 0] rfl ?_
    exact hk53 _ _
set_option maxRecDepth 100000 in
set_option maxHeartbeats 4000000 in
theorem b_B_move_53 {G : GE} {X : SMw} (hS : SO (S_B_move G X) RX9 cX9_move) (z1 z2 z3 z4 : Int) (z5 : Int) (h : AH) : Sim (S_B_move G X) 53 [(1, 0, z1), (2, 0, z2), (3, 0, z3), (4, 2, z4), (5, 0, z5)] [] 12 263 h (f_B_move_53 z1 z2 z3 z4 z5 h) := by
  exact s_loop (S := (S_B_move G X)) (lsf := fun s : Int × AH => [(1, 0, z1), (2, 0, z2), (3, 0, z3), (4, 2, z4), (5, 0, s.1)]) (hf := fun s => s.2) (fun kf hkf s => B_B_move_53 hS z1 z2 z3 z4 (fun a0 a1 => hkf (a0, a1)) s.1 s.2) fu_ (z5, h)
set_option maxRecDepth 100000 in
set_option maxHeartbeats 4000000 in
theorem b_B_move {G : GE} {X : SMw} (hS : SO (S_B_move G X) RX9 cX9_move) (z0 z1 z2 z3 : Int) (h : AH) : Sim (S_B_move G X) 0 [(0, 2, z0), (1, 0, z1), (2, 0, z2), (3, 0, z3)] [] 0 0 h (f_B_move z0 z1 z2 z3 h) := by
  unfold f_B_move
  refine s_aload_n hS dX9_move_0 rfl 0 rfl ?_
  refine gf_X9_41 hS dX9_move_1 fun v1 => ?_
  refine gf_X9_95 hS dX9_move_4 fun v2 => ?_
  refine s_astore hS dX9_move_7 (Nat.le_of_ble_eq_true rfl) (ls' := [(4, 2, v2), (0, 2, z0), (1, 0, z1), (2, 0, z2), (3, 0, z3)]) rfl ?_
  refine s_aload_n hS dX9_move_9 rfl 1 rfl ?_
  refine s_iload_n hS dX9_move_10 rfl 2 rfl ?_
  refine s_iload_n hS dX9_move_11 rfl 3 rfl ?_
  refine ca_X9_184 hS ⟨Nat.le_of_ble_eq_true rfl, Nat.le_of_ble_eq_true rfl⟩ ⟨Nat.le_of_ble_eq_true rfl, Nat.le_of_ble_eq_true rfl⟩ (Nat.le_of_ble_eq_true rfl) dX9_move_12 fun v3 h4 => ?_
  refine s_if_eq hS dX9_move_15 rfl ?_ ?_
  · refine s_iconst hS dX9_move_39 ?_
    exact s_iret hS rfl (Nat.le_of_ble_eq_true rfl) (Nat.le_of_ble_eq_true rfl) dX9_move_40
  · refine s_iload_n hS dX9_move_18 rfl 4 rfl ?_
    refine ca_X9_210 hS ⟨Nat.le_of_ble_eq_true rfl, Nat.le_of_ble_eq_true rfl⟩ ⟨Nat.le_of_ble_eq_true rfl, Nat.le_of_ble_eq_true rfl⟩ (Nat.le_of_ble_eq_true rfl) dX9_move_19 fun v5 h6 => ?_
    refine s_if_eq hS dX9_move_22 rfl ?_ ?_
    · refine s_iconst hS dX9_move_39 ?_
      exact s_iret hS rfl (Nat.le_of_ble_eq_true rfl) (Nat.le_of_ble_eq_true rfl) dX9_move_40
    · refine s_iload_n hS dX9_move_25 rfl 4 rfl ?_
      refine s_aload hS dX9_move_26 0 rfl ?_
      refine gf_X9_106 hS dX9_move_28 fun v7 => ?_
      refine gf_X9_213 hS dX9_move_31 fun v8 => ?_
      refine s_iload_n hS dX9_move_34 rfl 2 rfl ?_
      refine s_iald hS dX9_move_35 fun v9 => ?_
      refine s_icmp_le hS dX9_move_36 rfl ?_ ?_
      · refine s_aload_n hS dX9_move_41 rfl 1 rfl ?_
        refine gf_X9_52 hS dX9_move_42 fun v10 => ?_
        refine s_aload hS dX9_move_45 0 rfl ?_
        refine ca_X9_200 hS ⟨Nat.le_of_ble_eq_true rfl, Nat.le_of_ble_eq_true rfl⟩ ⟨Nat.le_of_ble_eq_true rfl, Nat.le_of_ble_eq_true rfl⟩ (Nat.le_of_ble_eq_true rfl) dX9_move_47 fun v11 h12 => ?_
        refine s_iconst hS dX9_move_50 ?_
        refine s_istore hS dX9_move_51 (Nat.le_of_ble_eq_true rfl) (ls' := [(5, 0, 0), (4, 2, v2), (0, 2, z0), (1, 0, z1), (2, 0, z2), (3, 0, z3)]) rfl ?_
        refine s_ls [3, 4, 5, 1, 0] rfl ?_
        exact b_B_move_53 hS _ _ _ _ _ _
      · refine s_iconst hS dX9_move_39 ?_
        exact s_iret hS rfl (Nat.le_of_ble_eq_true rfl) (Nat.le_of_ble_eq_true rfl) dX9_move_40
theorem c_B_move (l : Launch) (G : GE) (z0 z1 z2 z3 : Int) (h : AH) : Con l yX9_move cX9_move 6 (some .int) 4 103 12 263 G [(2, z0), (0, z1), (0, z2), (0, z3)] h (f_B_move z0 z1 z2 z3 h) :=
  con_of (by decide +kernel) (Nat.le_of_ble_eq_true rfl) fun X hX hS hi => b_B_move hS z0 z1 z2 z3 h
theorem ca_X9_223 {S : SX} {cc : ByteArray} {pc : Nat} {ls : List (Nat × Nat × Int)} {st : List (Nat × Int)} {k n : Nat} {h : AH} {q0 : Int} {f : Int → AH → Option (Int × AH)} (hS : SO S RX9 cc) (hR : 2 + 1 ≤ S.2.2.2.2.2.2.1 ∧ 8 + (2 + 11) + 43 ≤ S.2.2.2.2.2.2.2) (hk : k + 0 ≤ S.2.2.2.1 ∧ n + 0 ≤ S.2.2.2.2.1) (hl : st.length ≤ 4) (d : decode cc pc = .ok (.invokestatic 223, 3)) (kk : ∀ (r : Int) (h2 : AH), Sim S (pc + 3) ls ((0, r) :: st) (k + 0) (n + 0) h2 (f r h2)) : Sim S pc ls ((1, q0) :: st) k n h (bd_ (f_T_greatest q0 h) f) := s_callS hS mo_X7_greatest (c_T_greatest _ _ _ h) tw_893 tw_894 hR hk rfl rfl hl d kk
abbrev S_B_lend (G : GE) (X : SMw) : SX := (G, X, 6, 12, 263, (some .int), 4, 103)
set_option maxRecDepth 100000 in
set_option maxHeartbeats 4000000 in
theorem B_B_lend_53 {G : GE} {X : SMw} (hS : SO (S_B_lend G X) RX9 cX9_lend) (z1 z2 z3 z4 : Int) {k53 : Int → AH → Option (Int × AH)} (hk53 : ∀ (z5 : Int) (h : AH), Sim (S_B_lend G X) 53 [(1, 0, z1), (2, 0, z2), (3, 0, z3), (4, 2, z4), (5, 0, z5)] [] 12 263 h (k53 z5 h)) (z5 : Int) (h : AH) : Sim (S_B_lend G X) 53 [(1, 0, z1), (2, 0, z2), (3, 0, z3), (4, 2, z4), (5, 0, z5)] [] 12 263 h (F_B_lend_53 z1 z2 z3 z4 k53 z5 h) := by
  unfold F_B_lend_53
  refine s_iload hS dX9_lend_53 4 rfl ?_
  refine s_iload_n hS dX9_lend_55 rfl 2 rfl ?_
  refine s_icmp_ge hS dX9_lend_56 rfl ?_ ?_
  · refine s_aload hS dX9_lend_86 3 rfl ?_
    refine gf_X9_106 hS dX9_lend_88 fun v1 => ?_
    refine s_iload_n hS dX9_lend_91 rfl 1 rfl ?_
    refine s_iconst hS dX9_lend_92 ?_
    refine ca_X9_147 hS ⟨Nat.le_of_ble_eq_true rfl, Nat.le_of_ble_eq_true rfl⟩ ⟨Nat.le_of_ble_eq_true rfl, Nat.le_of_ble_eq_true rfl⟩ (Nat.le_of_ble_eq_true rfl) dX9_lend_93 fun v2 h3 => ?_
    exact s_iret hS rfl (Nat.le_of_ble_eq_true rfl) (Nat.le_of_ble_eq_true rfl) dX9_lend_96
  · refine s_aload hS dX9_lend_59 3 rfl ?_
    refine s_aload hS dX9_lend_61 3 rfl ?_
    refine gf_X9_106 hS dX9_lend_63 fun v4 => ?_
    refine gf_X9_168 hS dX9_lend_66 fun v5 => ?_
    refine s_iload_n hS dX9_lend_69 rfl 0 rfl ?_
    refine s_lald hS dX9_lend_70 fun v6 => ?_
    refine ca_X9_223 hS ⟨Nat.le_of_ble_eq_true rfl, Nat.le_of_ble_eq_true rfl⟩ ⟨Nat.le_of_ble_eq_true rfl, Nat.le_of_ble_eq_true rfl⟩ (Nat.le_of_ble_eq_true rfl) dX9_lend_71 fun v7 h8 => ?_
    refine s_iload_n hS dX9_lend_74 rfl 0 rfl ?_
    refine s_iload_n hS dX9_lend_75 rfl 1 rfl ?_
    refine s_iconst hS dX9_lend_76 ?_
    refine ca_X9_219 hS ⟨Nat.le_of_ble_eq_true rfl, Nat.le_of_ble_eq_true rfl⟩ ⟨Nat.le_of_ble_eq_true rfl, Nat.le_of_ble_eq_true rfl⟩ (Nat.le_of_ble_eq_true rfl) dX9_lend_77 fun v9 h10 => ?_
    refine s_iinc hS dX9_lend_80 4 rfl (Nat.le_of_ble_eq_true rfl) (ls' := [(5, 0, (z5 + 1)), (1, 0, z1), (2, 0, z2), (3, 0, z3), (4, 2, z4)]) rfl ?_
    refine s_goto hS dX9_lend_83 rfl ?_
    refine s_ls [1, 2, 3, 4, 0] rfl ?_
    exact hk53 _ _
set_option maxRecDepth 100000 in
set_option maxHeartbeats 4000000 in
theorem b_B_lend_53 {G : GE} {X : SMw} (hS : SO (S_B_lend G X) RX9 cX9_lend) (z1 z2 z3 z4 : Int) (z5 : Int) (h : AH) : Sim (S_B_lend G X) 53 [(1, 0, z1), (2, 0, z2), (3, 0, z3), (4, 2, z4), (5, 0, z5)] [] 12 263 h (f_B_lend_53 z1 z2 z3 z4 z5 h) := by
  exact s_loop (S := (S_B_lend G X)) (lsf := fun s : Int × AH => [(1, 0, z1), (2, 0, z2), (3, 0, z3), (4, 2, z4), (5, 0, s.1)]) (hf := fun s => s.2) (fun kf hkf s => B_B_lend_53 hS z1 z2 z3 z4 (fun a0 a1 => hkf (a0, a1)) s.1 s.2) fu_ (z5, h)
set_option maxRecDepth 100000 in
set_option maxHeartbeats 4000000 in
theorem b_B_lend {G : GE} {X : SMw} (hS : SO (S_B_lend G X) RX9 cX9_lend) (z0 z1 z2 z3 : Int) (h : AH) : Sim (S_B_lend G X) 0 [(0, 2, z0), (1, 0, z1), (2, 0, z2), (3, 0, z3)] [] 0 0 h (f_B_lend z0 z1 z2 z3 h) := by
  unfold f_B_lend
  refine s_aload_n hS dX9_lend_0 rfl 0 rfl ?_
  refine gf_X9_41 hS dX9_lend_1 fun v1 => ?_
  refine gf_X9_95 hS dX9_lend_4 fun v2 => ?_
  refine s_astore hS dX9_lend_7 (Nat.le_of_ble_eq_true rfl) (ls' := [(4, 2, v2), (0, 2, z0), (1, 0, z1), (2, 0, z2), (3, 0, z3)]) rfl ?_
  refine s_aload_n hS dX9_lend_9 rfl 1 rfl ?_
  refine s_iload_n hS dX9_lend_10 rfl 2 rfl ?_
  refine s_iload_n hS dX9_lend_11 rfl 3 rfl ?_
  refine ca_X9_184 hS ⟨Nat.le_of_ble_eq_true rfl, Nat.le_of_ble_eq_true rfl⟩ ⟨Nat.le_of_ble_eq_true rfl, Nat.le_of_ble_eq_true rfl⟩ (Nat.le_of_ble_eq_true rfl) dX9_lend_12 fun v3 h4 => ?_
  refine s_if_eq hS dX9_lend_15 rfl ?_ ?_
  · refine s_iconst hS dX9_lend_39 ?_
    exact s_iret hS rfl (Nat.le_of_ble_eq_true rfl) (Nat.le_of_ble_eq_true rfl) dX9_lend_40
  · refine s_iload_n hS dX9_lend_18 rfl 4 rfl ?_
    refine ca_X9_210 hS ⟨Nat.le_of_ble_eq_true rfl, Nat.le_of_ble_eq_true rfl⟩ ⟨Nat.le_of_ble_eq_true rfl, Nat.le_of_ble_eq_true rfl⟩ (Nat.le_of_ble_eq_true rfl) dX9_lend_19 fun v5 h6 => ?_
    refine s_if_eq hS dX9_lend_22 rfl ?_ ?_
    · refine s_iconst hS dX9_lend_39 ?_
      exact s_iret hS rfl (Nat.le_of_ble_eq_true rfl) (Nat.le_of_ble_eq_true rfl) dX9_lend_40
    · refine s_iload_n hS dX9_lend_25 rfl 4 rfl ?_
      refine s_aload hS dX9_lend_26 0 rfl ?_
      refine gf_X9_106 hS dX9_lend_28 fun v7 => ?_
      refine s_iload_n hS dX9_lend_31 rfl 2 rfl ?_
      refine s_iconst hS dX9_lend_32 ?_
      refine ca_X9_147 hS ⟨Nat.le_of_ble_eq_true rfl, Nat.le_of_ble_eq_true rfl⟩ ⟨Nat.le_of_ble_eq_true rfl, Nat.le_of_ble_eq_true rfl⟩ (Nat.le_of_ble_eq_true rfl) dX9_lend_33 fun v8 h9 => ?_
      refine s_icmp_le hS dX9_lend_36 rfl ?_ ?_
      · refine s_aload_n hS dX9_lend_41 rfl 1 rfl ?_
        refine gf_X9_52 hS dX9_lend_42 fun v10 => ?_
        refine s_aload hS dX9_lend_45 0 rfl ?_
        refine ca_X9_200 hS ⟨Nat.le_of_ble_eq_true rfl, Nat.le_of_ble_eq_true rfl⟩ ⟨Nat.le_of_ble_eq_true rfl, Nat.le_of_ble_eq_true rfl⟩ (Nat.le_of_ble_eq_true rfl) dX9_lend_47 fun v11 h12 => ?_
        refine s_iconst hS dX9_lend_50 ?_
        refine s_istore hS dX9_lend_51 (Nat.le_of_ble_eq_true rfl) (ls' := [(5, 0, 0), (4, 2, v2), (0, 2, z0), (1, 0, z1), (2, 0, z2), (3, 0, z3)]) rfl ?_
        refine s_ls [3, 4, 5, 1, 0] rfl ?_
        exact b_B_lend_53 hS _ _ _ _ _ _
      · refine s_iconst hS dX9_lend_39 ?_
        exact s_iret hS rfl (Nat.le_of_ble_eq_true rfl) (Nat.le_of_ble_eq_true rfl) dX9_lend_40
theorem c_B_lend (l : Launch) (G : GE) (z0 z1 z2 z3 : Int) (h : AH) : Con l yX9_lend cX9_lend 6 (some .int) 4 103 12 263 G [(2, z0), (0, z1), (0, z2), (0, z3)] h (f_B_lend z0 z1 z2 z3 h) :=
  con_of (by decide +kernel) (Nat.le_of_ble_eq_true rfl) fun X hX hS hi => b_B_lend hS z0 z1 z2 z3 h
theorem ca_X9_226 {S : SX} {cc : ByteArray} {pc : Nat} {ls : List (Nat × Nat × Int)} {st : List (Nat × Int)} {k n : Nat} {h : AH} {q0 q1 q2 b : Int} {f : Int → AH → Option (Int × AH)} (hS : SO S RX9 cc) (hR : 1 + 1 ≤ S.2.2.2.2.2.2.1 ∧ 8 + (4 + 11) + 24 ≤ S.2.2.2.2.2.2.2) (hk : k + 0 ≤ S.2.2.2.1 ∧ n + 0 ≤ S.2.2.2.2.1) (hl : st.length ≤ 4) (d : decode cc pc = .ok (.invokevirtual 226, 3)) (kk : ∀ (r : Int) (h2 : AH), Sim S (pc + 3) ls (st) (k + 0) (n + 0) h2 (f r h2)) : Sim S pc ls ((0, q2) :: (0, q1) :: (0, q0) :: (2, b) :: st) k n h (c_k h 6 b (bd_ (f_S_put b q0 q1 q2 h) f)) := s_callV hS mo_X5_put rfl rfl (c_S_put _ _ _ _ _ _ h) tw_906 tw_609 tw_610 hR hk rfl rfl hl d kk
theorem gf_X9_230 {S : SX} {cc : ByteArray} {pc : Nat} {ls : List (Nat × Nat × Int)} {st : List (Nat × Int)} {k n : Nat} {h : AH} {a : Int} {f : Int → Option (Int × AH)} (hS : SO S RX9 cc) (d : decode cc pc = .ok (.getfield 230, 3)) (kk : ∀ v : Int, Sim S (pc + 3) ls ((2, v) :: st) k n h (f v)) : Sim S pc ls ((2, a) :: st) k n h ((g_f h 8 a 2).bind f) := s_getf hS cx_7 2 (by decide) tw_254 rfl rfl rfl d kk
abbrev S_B_spoil (G : GE) (X : SMw) : SX := (G, X, 4, 12, 263, (some .int), 4, 103)
set_option maxRecDepth 100000 in
set_option maxHeartbeats 4000000 in
theorem b_B_spoil {G : GE} {X : SMw} (hS : SO (S_B_spoil G X) RX9 cX9_spoil) (z0 z1 : Int) (h : AH) : Sim (S_B_spoil G X) 0 [(0, 2, z0), (1, 0, z1)] [] 0 0 h (f_B_spoil z0 z1 h) := by
  unfold f_B_spoil
  refine s_aload_n hS dX9_spoil_0 rfl 0 rfl ?_
  refine gf_X9_41 hS dX9_spoil_1 fun v1 => ?_
  refine gf_X9_95 hS dX9_spoil_4 fun v2 => ?_
  refine s_astore_n hS dX9_spoil_7 rfl (Nat.le_of_ble_eq_true rfl) (ls' := [(2, 2, v2), (0, 2, z0), (1, 0, z1)]) rfl ?_
  refine s_aload_n hS dX9_spoil_8 rfl 0 rfl ?_
  refine s_iload_n hS dX9_spoil_9 rfl 2 rfl ?_
  refine ca_X9_151 hS ⟨Nat.le_of_ble_eq_true rfl, Nat.le_of_ble_eq_true rfl⟩ ⟨Nat.le_of_ble_eq_true rfl, Nat.le_of_ble_eq_true rfl⟩ (Nat.le_of_ble_eq_true rfl) dX9_spoil_10 fun v3 h4 => ?_
  refine s_if_eq hS dX9_spoil_13 rfl ?_ ?_
  · refine s_iconst hS dX9_spoil_25 ?_
    exact s_iret hS rfl (Nat.le_of_ble_eq_true rfl) (Nat.le_of_ble_eq_true rfl) dX9_spoil_26
  · refine s_aload_n hS dX9_spoil_16 rfl 0 rfl ?_
    refine s_iload_n hS dX9_spoil_17 rfl 2 rfl ?_
    refine ca_X9_158 hS ⟨Nat.le_of_ble_eq_true rfl, Nat.le_of_ble_eq_true rfl⟩ ⟨Nat.le_of_ble_eq_true rfl, Nat.le_of_ble_eq_true rfl⟩ (Nat.le_of_ble_eq_true rfl) dX9_spoil_18 fun v5 h6 => ?_
    refine s_iconst hS dX9_spoil_21 ?_
    refine s_icmp_ne hS dX9_spoil_22 rfl ?_ ?_
    · refine s_aload_n hS dX9_spoil_27 rfl 1 rfl ?_
      refine gf_X9_52 hS dX9_spoil_28 fun v7 => ?_
      refine s_aload_n hS dX9_spoil_31 rfl 0 rfl ?_
      refine ca_X9_200 hS ⟨Nat.le_of_ble_eq_true rfl, Nat.le_of_ble_eq_true rfl⟩ ⟨Nat.le_of_ble_eq_true rfl, Nat.le_of_ble_eq_true rfl⟩ (Nat.le_of_ble_eq_true rfl) dX9_spoil_32 fun v8 h9 => ?_
      refine s_aload_n hS dX9_spoil_35 rfl 0 rfl ?_
      refine s_iload_n hS dX9_spoil_36 rfl 2 rfl ?_
      refine ca_X9_154 hS ⟨Nat.le_of_ble_eq_true rfl, Nat.le_of_ble_eq_true rfl⟩ ⟨Nat.le_of_ble_eq_true rfl, Nat.le_of_ble_eq_true rfl⟩ (Nat.le_of_ble_eq_true rfl) dX9_spoil_37 fun v10 h11 => ?_
      refine s_istore_n hS dX9_spoil_40 rfl (Nat.le_of_ble_eq_true rfl) (ls' := [(3, 0, v10), (2, 2, v2), (0, 2, z0), (1, 0, z1)]) rfl ?_
      refine s_aload_n hS dX9_spoil_41 rfl 1 rfl ?_
      refine s_iload_n hS dX9_spoil_42 rfl 3 rfl ?_
      refine s_iload_n hS dX9_spoil_43 rfl 0 rfl ?_
      refine s_iconst hS dX9_spoil_44 ?_
      refine ca_X9_226 hS ⟨Nat.le_of_ble_eq_true rfl, Nat.le_of_ble_eq_true rfl⟩ ⟨Nat.le_of_ble_eq_true rfl, Nat.le_of_ble_eq_true rfl⟩ (Nat.le_of_ble_eq_true rfl) dX9_spoil_45 fun v12 h13 => ?_
      refine s_aload_n hS dX9_spoil_48 rfl 1 rfl ?_
      refine gf_X9_106 hS dX9_spoil_49 fun v14 => ?_
      refine gf_X9_230 hS dX9_spoil_52 fun v15 => ?_
      refine s_iload_n hS dX9_spoil_55 rfl 0 rfl ?_
      refine s_iald hS dX9_spoil_56 fun v16 => ?_
      exact s_iret hS rfl (Nat.le_of_ble_eq_true rfl) (Nat.le_of_ble_eq_true rfl) dX9_spoil_57
    · refine s_iconst hS dX9_spoil_25 ?_
      exact s_iret hS rfl (Nat.le_of_ble_eq_true rfl) (Nat.le_of_ble_eq_true rfl) dX9_spoil_26
theorem c_B_spoil (l : Launch) (G : GE) (z0 z1 : Int) (h : AH) : Con l yX9_spoil cX9_spoil 4 (some .int) 4 103 12 263 G [(2, z0), (0, z1)] h (f_B_spoil z0 z1 h) :=
  con_of (by decide +kernel) (Nat.le_of_ble_eq_true rfl) fun X hX hS hi => b_B_spoil hS z0 z1 h
abbrev S_B_find (G : GE) (X : SMw) : SX := (G, X, 4, 12, 263, (some .int), 4, 103)
set_option maxRecDepth 100000 in
set_option maxHeartbeats 4000000 in
theorem b_B_find {G : GE} {X : SMw} (hS : SO (S_B_find G X) RX9 cX9_find) (z0 z1 : Int) (h : AH) : Sim (S_B_find G X) 0 [(0, 2, z0), (1, 0, z1)] [] 0 0 h (f_B_find z0 z1 h) := by
  unfold f_B_find
  refine s_aload_n hS dX9_find_0 rfl 0 rfl ?_
  refine gf_X9_41 hS dX9_find_1 fun v1 => ?_
  refine gf_X9_95 hS dX9_find_4 fun v2 => ?_
  refine s_astore_n hS dX9_find_7 rfl (Nat.le_of_ble_eq_true rfl) (ls' := [(2, 2, v2), (0, 2, z0), (1, 0, z1)]) rfl ?_
  refine s_aload_n hS dX9_find_8 rfl 0 rfl ?_
  refine s_iload_n hS dX9_find_9 rfl 2 rfl ?_
  refine ca_X9_151 hS ⟨Nat.le_of_ble_eq_true rfl, Nat.le_of_ble_eq_true rfl⟩ ⟨Nat.le_of_ble_eq_true rfl, Nat.le_of_ble_eq_true rfl⟩ (Nat.le_of_ble_eq_true rfl) dX9_find_10 fun v3 h4 => ?_
  refine s_if_eq hS dX9_find_13 rfl ?_ ?_
  · refine s_iconst hS dX9_find_25 ?_
    exact s_iret hS rfl (Nat.le_of_ble_eq_true rfl) (Nat.le_of_ble_eq_true rfl) dX9_find_26
  · refine s_aload_n hS dX9_find_16 rfl 0 rfl ?_
    refine s_iload_n hS dX9_find_17 rfl 2 rfl ?_
    refine ca_X9_158 hS ⟨Nat.le_of_ble_eq_true rfl, Nat.le_of_ble_eq_true rfl⟩ ⟨Nat.le_of_ble_eq_true rfl, Nat.le_of_ble_eq_true rfl⟩ (Nat.le_of_ble_eq_true rfl) dX9_find_18 fun v5 h6 => ?_
    refine s_iconst hS dX9_find_21 ?_
    refine s_icmp_eq hS dX9_find_22 rfl ?_ ?_
    · refine s_aload_n hS dX9_find_27 rfl 1 rfl ?_
      refine gf_X9_52 hS dX9_find_28 fun v7 => ?_
      refine s_aload_n hS dX9_find_31 rfl 0 rfl ?_
      refine ca_X9_200 hS ⟨Nat.le_of_ble_eq_true rfl, Nat.le_of_ble_eq_true rfl⟩ ⟨Nat.le_of_ble_eq_true rfl, Nat.le_of_ble_eq_true rfl⟩ (Nat.le_of_ble_eq_true rfl) dX9_find_32 fun v8 h9 => ?_
      refine s_aload_n hS dX9_find_35 rfl 0 rfl ?_
      refine s_iload_n hS dX9_find_36 rfl 2 rfl ?_
      refine ca_X9_154 hS ⟨Nat.le_of_ble_eq_true rfl, Nat.le_of_ble_eq_true rfl⟩ ⟨Nat.le_of_ble_eq_true rfl, Nat.le_of_ble_eq_true rfl⟩ (Nat.le_of_ble_eq_true rfl) dX9_find_37 fun v10 h11 => ?_
      refine s_istore_n hS dX9_find_40 rfl (Nat.le_of_ble_eq_true rfl) (ls' := [(3, 0, v10), (2, 2, v2), (0, 2, z0), (1, 0, z1)]) rfl ?_
      refine s_aload_n hS dX9_find_41 rfl 1 rfl ?_
      refine s_iload_n hS dX9_find_42 rfl 3 rfl ?_
      refine s_iload_n hS dX9_find_43 rfl 0 rfl ?_
      refine s_iconst hS dX9_find_44 ?_
      refine ca_X9_226 hS ⟨Nat.le_of_ble_eq_true rfl, Nat.le_of_ble_eq_true rfl⟩ ⟨Nat.le_of_ble_eq_true rfl, Nat.le_of_ble_eq_true rfl⟩ (Nat.le_of_ble_eq_true rfl) dX9_find_45 fun v12 h13 => ?_
      refine s_aload_n hS dX9_find_48 rfl 1 rfl ?_
      refine gf_X9_106 hS dX9_find_49 fun v14 => ?_
      refine gf_X9_213 hS dX9_find_52 fun v15 => ?_
      refine s_iload_n hS dX9_find_55 rfl 0 rfl ?_
      refine s_iald hS dX9_find_56 fun v16 => ?_
      exact s_iret hS rfl (Nat.le_of_ble_eq_true rfl) (Nat.le_of_ble_eq_true rfl) dX9_find_57
    · refine s_iconst hS dX9_find_25 ?_
      exact s_iret hS rfl (Nat.le_of_ble_eq_true rfl) (Nat.le_of_ble_eq_true rfl) dX9_find_26
theorem c_B_find (l : Launch) (G : GE) (z0 z1 : Int) (h : AH) : Con l yX9_find cX9_find 4 (some .int) 4 103 12 263 G [(2, z0), (0, z1)] h (f_B_find z0 z1 h) :=
  con_of (by decide +kernel) (Nat.le_of_ble_eq_true rfl) fun X hX hS hi => b_B_find hS z0 z1 h
theorem gf_X9_233 {S : SX} {cc : ByteArray} {pc : Nat} {ls : List (Nat × Nat × Int)} {st : List (Nat × Int)} {k n : Nat} {h : AH} {a : Int} {f : Int → Option (Int × AH)} (hS : SO S RX9 cc) (d : decode cc pc = .ok (.getfield 233, 3)) (kk : ∀ v : Int, Sim S (pc + 3) ls ((2, v) :: st) k n h (f v)) : Sim S pc ls ((2, a) :: st) k n h ((g_f h 8 a 3).bind f) := s_getf hS cx_7 3 (by decide) tw_257 rfl rfl rfl d kk
abbrev S_B_send (G : GE) (X : SMw) : SX := (G, X, 5, 12, 263, (some .int), 4, 103)
set_option maxRecDepth 100000 in
set_option maxHeartbeats 4000000 in
theorem b_B_send {G : GE} {X : SMw} (hS : SO (S_B_send G X) RX9 cX9_send) (z0 z1 z2 z3 : Int) (h : AH) : Sim (S_B_send G X) 0 [(0, 2, z0), (1, 0, z1), (2, 0, z2), (3, 0, z3)] [] 0 0 h (f_B_send z0 z1 z2 z3 h) := by
  unfold f_B_send
  refine s_aload_n hS dX9_send_0 rfl 0 rfl ?_
  refine gf_X9_41 hS dX9_send_1 fun v1 => ?_
  refine gf_X9_95 hS dX9_send_4 fun v2 => ?_
  refine gf_X9_106 hS dX9_send_7 fun v3 => ?_
  refine s_astore hS dX9_send_10 (Nat.le_of_ble_eq_true rfl) (ls' := [(4, 2, v3), (0, 2, z0), (1, 0, z1), (2, 0, z2), (3, 0, z3)]) rfl ?_
  refine s_aload_n hS dX9_send_12 rfl 1 rfl ?_
  refine s_iload_n hS dX9_send_13 rfl 2 rfl ?_
  refine s_iload_n hS dX9_send_14 rfl 3 rfl ?_
  refine ca_X9_184 hS ⟨Nat.le_of_ble_eq_true rfl, Nat.le_of_ble_eq_true rfl⟩ ⟨Nat.le_of_ble_eq_true rfl, Nat.le_of_ble_eq_true rfl⟩ (Nat.le_of_ble_eq_true rfl) dX9_send_15 fun v4 h5 => ?_
  refine s_if_eq hS dX9_send_18 rfl ?_ ?_
  · refine s_iconst hS dX9_send_39 ?_
    exact s_iret hS rfl (Nat.le_of_ble_eq_true rfl) (Nat.le_of_ble_eq_true rfl) dX9_send_40
  · refine s_iload_n hS dX9_send_21 rfl 4 rfl ?_
    refine ca_X9_210 hS ⟨Nat.le_of_ble_eq_true rfl, Nat.le_of_ble_eq_true rfl⟩ ⟨Nat.le_of_ble_eq_true rfl, Nat.le_of_ble_eq_true rfl⟩ (Nat.le_of_ble_eq_true rfl) dX9_send_22 fun v6 h7 => ?_
    refine s_if_eq hS dX9_send_25 rfl ?_ ?_
    · refine s_iconst hS dX9_send_39 ?_
      exact s_iret hS rfl (Nat.le_of_ble_eq_true rfl) (Nat.le_of_ble_eq_true rfl) dX9_send_40
    · refine s_iload_n hS dX9_send_28 rfl 4 rfl ?_
      refine s_aload hS dX9_send_29 0 rfl ?_
      refine gf_X9_233 hS dX9_send_31 fun v8 => ?_
      refine s_iload_n hS dX9_send_34 rfl 2 rfl ?_
      refine s_iald hS dX9_send_35 fun v9 => ?_
      refine s_icmp_le hS dX9_send_36 rfl ?_ ?_
      · refine s_aload_n hS dX9_send_41 rfl 1 rfl ?_
        refine gf_X9_52 hS dX9_send_42 fun v10 => ?_
        refine s_aload_n hS dX9_send_45 rfl 1 rfl ?_
        refine gf_X9_41 hS dX9_send_46 fun v11 => ?_
        refine gf_X9_95 hS dX9_send_49 fun v12 => ?_
        refine ca_X9_200 hS ⟨Nat.le_of_ble_eq_true rfl, Nat.le_of_ble_eq_true rfl⟩ ⟨Nat.le_of_ble_eq_true rfl, Nat.le_of_ble_eq_true rfl⟩ (Nat.le_of_ble_eq_true rfl) dX9_send_52 fun v13 h14 => ?_
        refine s_aload hS dX9_send_55 0 rfl ?_
        refine gf_X9_233 hS dX9_send_57 fun v15 => ?_
        refine s_iload_n hS dX9_send_60 rfl 2 rfl ?_
        refine s_dup2 hS dX9_send_61 (by decide) (by decide) ?_
        refine s_iald hS dX9_send_62 fun v16 => ?_
        refine s_iload_n hS dX9_send_63 rfl 4 rfl ?_
        refine s_isub hS dX9_send_64 ?_
        refine s_iast hS dX9_send_65 fun h17 => ?_
        refine s_aload hS dX9_send_66 0 rfl ?_
        refine gf_X9_233 hS dX9_send_68 fun v18 => ?_
        refine s_iload_n hS dX9_send_71 rfl 3 rfl ?_
        refine s_dup2 hS dX9_send_72 (by decide) (by decide) ?_
        refine s_iald hS dX9_send_73 fun v19 => ?_
        refine s_iload_n hS dX9_send_74 rfl 4 rfl ?_
        refine s_iadd hS dX9_send_75 ?_
        refine s_iast hS dX9_send_76 fun h20 => ?_
        refine s_aload hS dX9_send_77 0 rfl ?_
        refine gf_X9_233 hS dX9_send_79 fun v21 => ?_
        refine s_iload_n hS dX9_send_82 rfl 3 rfl ?_
        refine s_iald hS dX9_send_83 fun v22 => ?_
        exact s_iret hS rfl (Nat.le_of_ble_eq_true rfl) (Nat.le_of_ble_eq_true rfl) dX9_send_84
      · refine s_iconst hS dX9_send_39 ?_
        exact s_iret hS rfl (Nat.le_of_ble_eq_true rfl) (Nat.le_of_ble_eq_true rfl) dX9_send_40
theorem c_B_send (l : Launch) (G : GE) (z0 z1 z2 z3 : Int) (h : AH) : Con l yX9_send cX9_send 5 (some .int) 4 103 12 263 G [(2, z0), (0, z1), (0, z2), (0, z3)] h (f_B_send z0 z1 z2 z3 h) :=
  con_of (by decide +kernel) (Nat.le_of_ble_eq_true rfl) fun X hX hS hi => b_B_send hS z0 z1 z2 z3 h
theorem ca_X9_236 {S : SX} {cc : ByteArray} {pc : Nat} {ls : List (Nat × Nat × Int)} {st : List (Nat × Int)} {k n : Nat} {h : AH} {q0 b : Int} {f : Int → AH → Option (Int × AH)} (hS : SO S RX9 cc) (hR : 0 + 1 ≤ S.2.2.2.2.2.2.1 ∧ 8 + (4 + 11) + 0 ≤ S.2.2.2.2.2.2.2) (hk : k + 0 ≤ S.2.2.2.1 ∧ n + 0 ≤ S.2.2.2.2.1) (hl : st.length ≤ 4) (d : decode cc pc = .ok (.invokevirtual 236, 3)) (kk : ∀ (r : Int) (h2 : AH), Sim S (pc + 3) ls ((0, r) :: st) (k + 0) (n + 0) h2 (f r h2)) : Sim S pc ls ((0, q0) :: (2, b) :: st) k n h (c_k h 6 b (bd_ (f_S_saidCount b q0 h) f)) := s_callV hS mo_X5_saidCount rfl rfl (c_S_saidCount _ _ _ _ h) tw_919 tw_920 tw_921 hR hk rfl rfl hl d kk
abbrev S_B_tell (G : GE) (X : SMw) : SX := (G, X, 5, 12, 263, (some .int), 4, 103)
set_option maxRecDepth 100000 in
set_option maxHeartbeats 4000000 in
theorem b_B_tell {G : GE} {X : SMw} (hS : SO (S_B_tell G X) RX9 cX9_tell) (z0 z1 z2 z3 : Int) (h : AH) : Sim (S_B_tell G X) 0 [(0, 2, z0), (1, 0, z1), (2, 0, z2), (3, 0, z3)] [] 0 0 h (f_B_tell z0 z1 z2 z3 h) := by
  unfold f_B_tell
  refine s_aload_n hS dX9_tell_0 rfl 0 rfl ?_
  refine gf_X9_41 hS dX9_tell_1 fun v1 => ?_
  refine gf_X9_95 hS dX9_tell_4 fun v2 => ?_
  refine s_astore hS dX9_tell_7 (Nat.le_of_ble_eq_true rfl) (ls' := [(4, 2, v2), (0, 2, z0), (1, 0, z1), (2, 0, z2), (3, 0, z3)]) rfl ?_
  refine s_aload_n hS dX9_tell_9 rfl 1 rfl ?_
  refine s_iload_n hS dX9_tell_10 rfl 2 rfl ?_
  refine ca_X9_137 hS ⟨Nat.le_of_ble_eq_true rfl, Nat.le_of_ble_eq_true rfl⟩ ⟨Nat.le_of_ble_eq_true rfl, Nat.le_of_ble_eq_true rfl⟩ (Nat.le_of_ble_eq_true rfl) dX9_tell_11 fun v3 h4 => ?_
  refine s_if_eq hS dX9_tell_14 rfl ?_ ?_
  · refine s_iconst hS dX9_tell_43 ?_
    exact s_iret hS rfl (Nat.le_of_ble_eq_true rfl) (Nat.le_of_ble_eq_true rfl) dX9_tell_44
  · refine s_iload_n hS dX9_tell_17 rfl 3 rfl ?_
    refine ca_X9_191 hS ⟨Nat.le_of_ble_eq_true rfl, Nat.le_of_ble_eq_true rfl⟩ ⟨Nat.le_of_ble_eq_true rfl, Nat.le_of_ble_eq_true rfl⟩ (Nat.le_of_ble_eq_true rfl) dX9_tell_18 fun v5 h6 => ?_
    refine s_if_eq hS dX9_tell_21 rfl ?_ ?_
    · refine s_iconst hS dX9_tell_43 ?_
      exact s_iret hS rfl (Nat.le_of_ble_eq_true rfl) (Nat.le_of_ble_eq_true rfl) dX9_tell_44
    · refine s_iload_n hS dX9_tell_24 rfl 4 rfl ?_
      refine s_if_lt hS dX9_tell_25 rfl ?_ ?_
      · refine s_iconst hS dX9_tell_43 ?_
        exact s_iret hS rfl (Nat.le_of_ble_eq_true rfl) (Nat.le_of_ble_eq_true rfl) dX9_tell_44
      · refine s_iload_n hS dX9_tell_28 rfl 4 rfl ?_
        refine s_bipush hS dX9_tell_29 (by decide +kernel) ?_
        refine s_icmp_gt hS dX9_tell_31 rfl ?_ ?_
        · refine s_iconst hS dX9_tell_43 ?_
          exact s_iret hS rfl (Nat.le_of_ble_eq_true rfl) (Nat.le_of_ble_eq_true rfl) dX9_tell_44
        · refine s_aload hS dX9_tell_34 0 rfl ?_
          refine s_iload_n hS dX9_tell_36 rfl 2 rfl ?_
          refine ca_X9_144 hS ⟨Nat.le_of_ble_eq_true rfl, Nat.le_of_ble_eq_true rfl⟩ ⟨Nat.le_of_ble_eq_true rfl, Nat.le_of_ble_eq_true rfl⟩ (Nat.le_of_ble_eq_true rfl) dX9_tell_37 fun v7 h8 => ?_
          refine s_if_eq hS dX9_tell_40 rfl ?_ ?_
          · refine s_aload_n hS dX9_tell_45 rfl 1 rfl ?_
            refine gf_X9_52 hS dX9_tell_46 fun v9 => ?_
            refine s_aload hS dX9_tell_49 0 rfl ?_
            refine ca_X9_200 hS ⟨Nat.le_of_ble_eq_true rfl, Nat.le_of_ble_eq_true rfl⟩ ⟨Nat.le_of_ble_eq_true rfl, Nat.le_of_ble_eq_true rfl⟩ (Nat.le_of_ble_eq_true rfl) dX9_tell_51 fun v10 h11 => ?_
            refine s_aload hS dX9_tell_54 0 rfl ?_
            refine gf_X9_194 hS dX9_tell_56 fun v12 => ?_
            refine s_iload_n hS dX9_tell_59 rfl 2 rfl ?_
            refine s_iconst hS dX9_tell_60 ?_
            refine s_imul hS dX9_tell_61 ?_
            refine s_iload_n hS dX9_tell_62 rfl 3 rfl ?_
            refine s_iadd hS dX9_tell_63 ?_
            refine s_iload_n hS dX9_tell_64 rfl 4 rfl ?_
            refine s_iast hS dX9_tell_65 fun h13 => ?_
            refine s_aload hS dX9_tell_66 0 rfl ?_
            refine s_iload_n hS dX9_tell_68 rfl 2 rfl ?_
            refine ca_X9_236 hS ⟨Nat.le_of_ble_eq_true rfl, Nat.le_of_ble_eq_true rfl⟩ ⟨Nat.le_of_ble_eq_true rfl, Nat.le_of_ble_eq_true rfl⟩ (Nat.le_of_ble_eq_true rfl) dX9_tell_69 fun v14 h15 => ?_
            exact s_iret hS rfl (Nat.le_of_ble_eq_true rfl) (Nat.le_of_ble_eq_true rfl) dX9_tell_72
          · refine s_iconst hS dX9_tell_43 ?_
            exact s_iret hS rfl (Nat.le_of_ble_eq_true rfl) (Nat.le_of_ble_eq_true rfl) dX9_tell_44
theorem c_B_tell (l : Launch) (G : GE) (z0 z1 z2 z3 : Int) (h : AH) : Con l yX9_tell cX9_tell 5 (some .int) 4 103 12 263 G [(2, z0), (0, z1), (0, z2), (0, z3)] h (f_B_tell z0 z1 z2 z3 h) :=
  con_of (by decide +kernel) (Nat.le_of_ble_eq_true rfl) fun X hX hS hi => b_B_tell hS z0 z1 z2 z3 h
abbrev S_J6_bitCount_0f7a4 (G : GE) (X : SMw) : SX := (G, X, 1, 0, 0, (some .int), 0, 0)
set_option maxRecDepth 100000 in
set_option maxHeartbeats 4000000 in
theorem b_J6_bitCount_0f7a4 {G : GE} {X : SMw} (hS : SO (S_J6_bitCount_0f7a4 G X) RJ6 cJ6_bitCount_0f7a4) (z0 : Int) (h : AH) : Sim (S_J6_bitCount_0f7a4 G X) 0 [(0, 0, z0)] [] 0 0 h (f_J6_bitCount_0f7a4 z0 h) := by
  unfold f_J6_bitCount_0f7a4
  refine s_iload_n hS dJ6_bitCount_0f7a4_0 rfl 0 rfl ?_
  refine s_iload_n hS dJ6_bitCount_0f7a4_1 rfl 0 rfl ?_
  refine s_iconst hS dJ6_bitCount_0f7a4_2 ?_
  refine s_iushr hS dJ6_bitCount_0f7a4_3 ?_
  refine s_ldcw hS (z := 1431655765) tw_930 (by decide +kernel) dJ6_bitCount_0f7a4_4 ?_
  refine s_iand hS dJ6_bitCount_0f7a4_7 ?_
  refine s_isub hS dJ6_bitCount_0f7a4_8 ?_
  refine s_let fun v1 => ?_
  refine s_istore_n hS dJ6_bitCount_0f7a4_9 rfl (Nat.le_of_ble_eq_true rfl) (ls' := [(0, 0, v1)]) rfl ?_
  refine s_iload_n hS dJ6_bitCount_0f7a4_10 rfl 0 rfl ?_
  refine s_ldcw hS (z := 858993459) tw_931 (by decide +kernel) dJ6_bitCount_0f7a4_11 ?_
  refine s_iand hS dJ6_bitCount_0f7a4_14 ?_
  refine s_iload_n hS dJ6_bitCount_0f7a4_15 rfl 0 rfl ?_
  refine s_iconst hS dJ6_bitCount_0f7a4_16 ?_
  refine s_iushr hS dJ6_bitCount_0f7a4_17 ?_
  refine s_ldcw hS (z := 858993459) tw_931 (by decide +kernel) dJ6_bitCount_0f7a4_18 ?_
  refine s_iand hS dJ6_bitCount_0f7a4_21 ?_
  refine s_iadd hS dJ6_bitCount_0f7a4_22 ?_
  refine s_let fun v2 => ?_
  refine s_istore_n hS dJ6_bitCount_0f7a4_23 rfl (Nat.le_of_ble_eq_true rfl) (ls' := [(0, 0, v2)]) rfl ?_
  refine s_iload_n hS dJ6_bitCount_0f7a4_24 rfl 0 rfl ?_
  refine s_iload_n hS dJ6_bitCount_0f7a4_25 rfl 0 rfl ?_
  refine s_iconst hS dJ6_bitCount_0f7a4_26 ?_
  refine s_iushr hS dJ6_bitCount_0f7a4_27 ?_
  refine s_iadd hS dJ6_bitCount_0f7a4_28 ?_
  refine s_ldcw hS (z := 252645135) tw_932 (by decide +kernel) dJ6_bitCount_0f7a4_29 ?_
  refine s_iand hS dJ6_bitCount_0f7a4_32 ?_
  refine s_let fun v3 => ?_
  refine s_istore_n hS dJ6_bitCount_0f7a4_33 rfl (Nat.le_of_ble_eq_true rfl) (ls' := [(0, 0, v3)]) rfl ?_
  refine s_iload_n hS dJ6_bitCount_0f7a4_34 rfl 0 rfl ?_
  refine s_iload_n hS dJ6_bitCount_0f7a4_35 rfl 0 rfl ?_
  refine s_bipush hS dJ6_bitCount_0f7a4_36 (by decide +kernel) ?_
  refine s_iushr hS dJ6_bitCount_0f7a4_38 ?_
  refine s_iadd hS dJ6_bitCount_0f7a4_39 ?_
  refine s_let fun v4 => ?_
  refine s_istore_n hS dJ6_bitCount_0f7a4_40 rfl (Nat.le_of_ble_eq_true rfl) (ls' := [(0, 0, v4)]) rfl ?_
  refine s_iload_n hS dJ6_bitCount_0f7a4_41 rfl 0 rfl ?_
  refine s_iload_n hS dJ6_bitCount_0f7a4_42 rfl 0 rfl ?_
  refine s_bipush hS dJ6_bitCount_0f7a4_43 (by decide +kernel) ?_
  refine s_iushr hS dJ6_bitCount_0f7a4_45 ?_
  refine s_iadd hS dJ6_bitCount_0f7a4_46 ?_
  refine s_let fun v5 => ?_
  refine s_istore_n hS dJ6_bitCount_0f7a4_47 rfl (Nat.le_of_ble_eq_true rfl) (ls' := [(0, 0, v5)]) rfl ?_
  refine s_iload_n hS dJ6_bitCount_0f7a4_48 rfl 0 rfl ?_
  refine s_bipush hS dJ6_bitCount_0f7a4_49 (by decide +kernel) ?_
  refine s_iand hS dJ6_bitCount_0f7a4_51 ?_
  exact s_iret hS rfl (Nat.le_of_ble_eq_true rfl) (Nat.le_of_ble_eq_true rfl) dJ6_bitCount_0f7a4_52
theorem c_J6_bitCount_0f7a4 (l : Launch) (G : GE) (z0 : Int) (h : AH) : Con l yJ6_bitCount_0f7a4 cJ6_bitCount_0f7a4 1 (some .int) 0 0 0 0 G [(0, z0)] h (f_J6_bitCount_0f7a4 z0 h) :=
  con_of (by decide +kernel) (Nat.le_of_ble_eq_true rfl) fun X hX hS hi => b_J6_bitCount_0f7a4 hS z0 h
theorem gf_X9_239 {S : SX} {cc : ByteArray} {pc : Nat} {ls : List (Nat × Nat × Int)} {st : List (Nat × Int)} {k n : Nat} {h : AH} {a : Int} {f : Int → Option (Int × AH)} (hS : SO S RX9 cc) (d : decode cc pc = .ok (.getfield 239, 3)) (kk : ∀ v : Int, Sim S (pc + 3) ls ((0, v) :: st) k n h (f v)) : Sim S pc ls ((2, a) :: st) k n h ((g_f h 6 a 8).bind f) := s_getf hS cx_5 8 (by decide) tw_303 rfl rfl rfl d kk
theorem pf_X9_239 {S : SX} {cc : ByteArray} {pc : Nat} {ls : List (Nat × Nat × Int)} {st : List (Nat × Int)} {k n : Nat} {h : AH} {a v : Int} {f : AH → Option (Int × AH)} (hS : SO S RX9 cc) (d : decode cc pc = .ok (.putfield 239, 3)) (kk : ∀ h2 : AH, Sim S (pc + 3) ls st k n h2 (f h2)) : Sim S pc ls ((0, v) :: (2, a) :: st) k n h ((s_f h 6 a 8 v).bind f) := s_putf hS cx_5 8 (by decide) tw_303 rfl rfl (Or.inl rfl) rfl rfl d kk
theorem ca_X9_242 {S : SX} {cc : ByteArray} {pc : Nat} {ls : List (Nat × Nat × Int)} {st : List (Nat × Int)} {k n : Nat} {h : AH} {q0 : Int} {f : Int → AH → Option (Int × AH)} (hS : SO S RX9 cc) (hR : 0 + 1 ≤ S.2.2.2.2.2.2.1 ∧ 8 + (1 + 11) + 0 ≤ S.2.2.2.2.2.2.2) (hk : k + 0 ≤ S.2.2.2.1 ∧ n + 0 ≤ S.2.2.2.2.1) (hl : st.length ≤ 4) (d : decode cc pc = .ok (.invokestatic 242, 3)) (kk : ∀ (r : Int) (h2 : AH), Sim S (pc + 3) ls ((0, r) :: st) (k + 0) (n + 0) h2 (f r h2)) : Sim S pc ls ((0, q0) :: st) k n h (bd_ (f_J6_bitCount_0f7a4 q0 h) f) := s_callS hS mo_J6_bitCount_0f7a4 (c_J6_bitCount_0f7a4 _ _ _ h) tw_927 tw_928 hR hk rfl rfl hl d kk
abbrev S_B_recount (G : GE) (X : SMw) : SX := (G, X, 4, 12, 263, (some .int), 4, 103)
set_option maxRecDepth 100000 in
set_option maxHeartbeats 4000000 in
theorem B_B_recount_36 {G : GE} {X : SMw} (hS : SO (S_B_recount G X) RX9 cX9_recount) (z1 z2 : Int) {k36 : Int → AH → Option (Int × AH)} (hk36 : ∀ (z3 : Int) (h : AH), Sim (S_B_recount G X) 36 [(1, 0, z1), (2, 2, z2), (3, 0, z3)] [] 12 263 h (k36 z3 h)) (z3 : Int) (h : AH) : Sim (S_B_recount G X) 36 [(1, 0, z1), (2, 2, z2), (3, 0, z3)] [] 12 263 h (F_B_recount_36 z1 z2 k36 z3 h) := by
  unfold F_B_recount_36
  refine s_iload_n hS dX9_recount_36 rfl 2 rfl ?_
  refine s_iconst hS dX9_recount_37 ?_
  refine s_icmp_gt hS dX9_recount_38 rfl ?_ ?_
  · refine s_aload_n hS dX9_recount_66 rfl 1 rfl ?_
    refine s_dup hS dX9_recount_67 (by decide) ?_
    refine gf_X9_239 hS dX9_recount_68 fun v1 => ?_
    refine s_iconst hS dX9_recount_71 ?_
    refine s_iload_n hS dX9_recount_72 rfl 0 rfl ?_
    refine s_ishl hS dX9_recount_73 ?_
    refine s_ior hS dX9_recount_74 ?_
    refine pf_X9_239 hS dX9_recount_75 fun h2 => ?_
    refine s_aload_n hS dX9_recount_78 rfl 1 rfl ?_
    refine gf_X9_239 hS dX9_recount_79 fun v3 => ?_
    refine ca_X9_242 hS ⟨Nat.le_of_ble_eq_true rfl, Nat.le_of_ble_eq_true rfl⟩ ⟨Nat.le_of_ble_eq_true rfl, Nat.le_of_ble_eq_true rfl⟩ (Nat.le_of_ble_eq_true rfl) dX9_recount_82 fun v4 h5 => ?_
    exact s_iret hS rfl (Nat.le_of_ble_eq_true rfl) (Nat.le_of_ble_eq_true rfl) dX9_recount_85
  · refine s_aload_n hS dX9_recount_41 rfl 1 rfl ?_
    refine gf_X9_194 hS dX9_recount_42 fun v6 => ?_
    refine s_iload_n hS dX9_recount_45 rfl 0 rfl ?_
    refine s_iconst hS dX9_recount_46 ?_
    refine s_imul hS dX9_recount_47 ?_
    refine s_iload_n hS dX9_recount_48 rfl 2 rfl ?_
    refine s_iadd hS dX9_recount_49 ?_
    refine s_aload_n hS dX9_recount_50 rfl 1 rfl ?_
    refine gf_X9_106 hS dX9_recount_51 fun v7 => ?_
    refine s_iload_n hS dX9_recount_54 rfl 0 rfl ?_
    refine s_iload_n hS dX9_recount_55 rfl 2 rfl ?_
    refine ca_X9_147 hS ⟨Nat.le_of_ble_eq_true rfl, Nat.le_of_ble_eq_true rfl⟩ ⟨Nat.le_of_ble_eq_true rfl, Nat.le_of_ble_eq_true rfl⟩ (Nat.le_of_ble_eq_true rfl) dX9_recount_56 fun v8 h9 => ?_
    refine s_iast hS dX9_recount_59 fun h10 => ?_
    refine s_iinc hS dX9_recount_60 2 rfl (Nat.le_of_ble_eq_true rfl) (ls' := [(3, 0, (z3 + 1)), (1, 0, z1), (2, 2, z2)]) rfl ?_
    refine s_goto hS dX9_recount_63 rfl ?_
    refine s_ls [1, 2, 0] rfl ?_
    exact hk36 _ _
set_option maxRecDepth 100000 in
set_option maxHeartbeats 4000000 in
theorem b_B_recount_36 {G : GE} {X : SMw} (hS : SO (S_B_recount G X) RX9 cX9_recount) (z1 z2 : Int) (z3 : Int) (h : AH) : Sim (S_B_recount G X) 36 [(1, 0, z1), (2, 2, z2), (3, 0, z3)] [] 12 263 h (f_B_recount_36 z1 z2 z3 h) := by
  exact s_loop (S := (S_B_recount G X)) (lsf := fun s : Int × AH => [(1, 0, z1), (2, 2, z2), (3, 0, s.1)]) (hf := fun s => s.2) (fun kf hkf s => B_B_recount_36 hS z1 z2 (fun a0 a1 => hkf (a0, a1)) s.1 s.2) fu_ (z3, h)
set_option maxRecDepth 100000 in
set_option maxHeartbeats 4000000 in
theorem b_B_recount {G : GE} {X : SMw} (hS : SO (S_B_recount G X) RX9 cX9_recount) (z0 z1 : Int) (h : AH) : Sim (S_B_recount G X) 0 [(0, 2, z0), (1, 0, z1)] [] 0 0 h (f_B_recount z0 z1 h) := by
  unfold f_B_recount
  refine s_aload_n hS dX9_recount_0 rfl 0 rfl ?_
  refine gf_X9_41 hS dX9_recount_1 fun v1 => ?_
  refine gf_X9_95 hS dX9_recount_4 fun v2 => ?_
  refine s_astore_n hS dX9_recount_7 rfl (Nat.le_of_ble_eq_true rfl) (ls' := [(2, 2, v2), (0, 2, z0), (1, 0, z1)]) rfl ?_
  refine s_aload_n hS dX9_recount_8 rfl 1 rfl ?_
  refine s_iload_n hS dX9_recount_9 rfl 2 rfl ?_
  refine ca_X9_137 hS ⟨Nat.le_of_ble_eq_true rfl, Nat.le_of_ble_eq_true rfl⟩ ⟨Nat.le_of_ble_eq_true rfl, Nat.le_of_ble_eq_true rfl⟩ (Nat.le_of_ble_eq_true rfl) dX9_recount_10 fun v3 h4 => ?_
  refine s_if_eq hS dX9_recount_13 rfl ?_ ?_
  · refine s_iconst hS dX9_recount_24 ?_
    exact s_iret hS rfl (Nat.le_of_ble_eq_true rfl) (Nat.le_of_ble_eq_true rfl) dX9_recount_25
  · refine s_aload_n hS dX9_recount_16 rfl 0 rfl ?_
    refine s_iload_n hS dX9_recount_17 rfl 2 rfl ?_
    refine ca_X9_144 hS ⟨Nat.le_of_ble_eq_true rfl, Nat.le_of_ble_eq_true rfl⟩ ⟨Nat.le_of_ble_eq_true rfl, Nat.le_of_ble_eq_true rfl⟩ (Nat.le_of_ble_eq_true rfl) dX9_recount_18 fun v5 h6 => ?_
    refine s_if_eq hS dX9_recount_21 rfl ?_ ?_
    · refine s_aload_n hS dX9_recount_26 rfl 1 rfl ?_
      refine gf_X9_52 hS dX9_recount_27 fun v7 => ?_
      refine s_aload_n hS dX9_recount_30 rfl 0 rfl ?_
      refine ca_X9_200 hS ⟨Nat.le_of_ble_eq_true rfl, Nat.le_of_ble_eq_true rfl⟩ ⟨Nat.le_of_ble_eq_true rfl, Nat.le_of_ble_eq_true rfl⟩ (Nat.le_of_ble_eq_true rfl) dX9_recount_31 fun v8 h9 => ?_
      refine s_iconst hS dX9_recount_34 ?_
      refine s_istore_n hS dX9_recount_35 rfl (Nat.le_of_ble_eq_true rfl) (ls' := [(3, 0, 0), (2, 2, v2), (0, 2, z0), (1, 0, z1)]) rfl ?_
      refine s_ls [3, 1, 0] rfl ?_
      exact b_B_recount_36 hS _ _ _ _
    · refine s_iconst hS dX9_recount_24 ?_
      exact s_iret hS rfl (Nat.le_of_ble_eq_true rfl) (Nat.le_of_ble_eq_true rfl) dX9_recount_25
theorem c_B_recount (l : Launch) (G : GE) (z0 z1 : Int) (h : AH) : Con l yX9_recount cX9_recount 4 (some .int) 4 103 12 263 G [(2, z0), (0, z1)] h (f_B_recount z0 z1 h) :=
  con_of (by decide +kernel) (Nat.le_of_ble_eq_true rfl) fun X hX hS hi => b_B_recount hS z0 z1 h
