theorem pf_X7_9 {S : SX} {cc : ByteArray} {pc : Nat} {ls : List (Nat × Nat × Int)} {st : List (Nat × Int)} {k n : Nat} {h : AH} {a v : Int} {f : AH → Option (Int × AH)} (hS : SO S RX7 cc) (hi : S.2.1.2.2.2.2.2.2.2.2.1.name = "<init>") (d : decode cc pc = .ok (.putfield 9, 3)) (kk : ∀ h2 : AH, Sim S (pc + 3) ls st k n h2 (f h2)) : Sim S pc ls ((2, v) :: (2, a) :: st) k n h ((s_f h 8 a 0 v).bind f) := s_putF hS hi cx_7 0 (by decide) tw_245 rfl rfl rfl (Or.inr (Or.inr (Or.inr ⟨_, rfl⟩))) rfl rfl d kk
theorem pf_X7_15 {S : SX} {cc : ByteArray} {pc : Nat} {ls : List (Nat × Nat × Int)} {st : List (Nat × Int)} {k n : Nat} {h : AH} {a v : Int} {f : AH → Option (Int × AH)} (hS : SO S RX7 cc) (hi : S.2.1.2.2.2.2.2.2.2.2.1.name = "<init>") (d : decode cc pc = .ok (.putfield 15, 3)) (kk : ∀ h2 : AH, Sim S (pc + 3) ls st k n h2 (f h2)) : Sim S pc ls ((2, v) :: (2, a) :: st) k n h ((s_f h 8 a 1 v).bind f) := s_putF hS hi cx_7 1 (by decide) tw_248 rfl rfl rfl (Or.inr (Or.inr (Or.inr ⟨_, rfl⟩))) rfl rfl d kk
theorem pf_X7_19 {S : SX} {cc : ByteArray} {pc : Nat} {ls : List (Nat × Nat × Int)} {st : List (Nat × Int)} {k n : Nat} {h : AH} {a v : Int} {f : AH → Option (Int × AH)} (hS : SO S RX7 cc) (hi : S.2.1.2.2.2.2.2.2.2.2.1.name = "<init>") (d : decode cc pc = .ok (.putfield 19, 3)) (kk : ∀ h2 : AH, Sim S (pc + 3) ls st k n h2 (f h2)) : Sim S pc ls ((2, v) :: (2, a) :: st) k n h ((s_f h 8 a 2 v).bind f) := s_putF hS hi cx_7 2 (by decide) tw_252 rfl rfl rfl (Or.inr (Or.inr (Or.inr ⟨_, rfl⟩))) rfl rfl d kk
theorem pf_X7_22 {S : SX} {cc : ByteArray} {pc : Nat} {ls : List (Nat × Nat × Int)} {st : List (Nat × Int)} {k n : Nat} {h : AH} {a v : Int} {f : AH → Option (Int × AH)} (hS : SO S RX7 cc) (hi : S.2.1.2.2.2.2.2.2.2.2.1.name = "<init>") (d : decode cc pc = .ok (.putfield 22, 3)) (kk : ∀ h2 : AH, Sim S (pc + 3) ls st k n h2 (f h2)) : Sim S pc ls ((2, v) :: (2, a) :: st) k n h ((s_f h 8 a 3 v).bind f) := s_putF hS hi cx_7 3 (by decide) tw_255 rfl rfl rfl (Or.inr (Or.inr (Or.inr ⟨_, rfl⟩))) rfl rfl d kk
abbrev S_T_init (G : GE) (X : SMw) : SX := (G, X, 1, 4, 20, none, 1, 20)
set_option maxRecDepth 100000 in
set_option maxHeartbeats 4000000 in
theorem b_T_init {G : GE} {X : SMw} (hS : SO (S_T_init G X) RX7 cX7_init) (hi : X.2.2.2.2.2.2.2.2.1.name = "<init>") (z0 : Int) (h : AH) : Sim (S_T_init G X) 0 [(0, 2, z0)] [] 0 0 h (f_T_init z0 h) := by
  unfold f_T_init
  refine s_aload_n hS dX7_init_0 rfl 0 rfl ?_
  refine s_obj hS (by decide) tw_244 tw_145 tw_146 ⟨Nat.le_of_ble_eq_true rfl, Nat.le_of_ble_eq_true rfl⟩ (Nat.le_of_ble_eq_true rfl) dX7_init_1 ?_
  refine s_aload_n hS dX7_init_4 rfl 0 rfl ?_
  refine s_iconst hS dX7_init_5 ?_
  refine s_newab hS (at_ := .long) (M := 5) rfl (by decide) (by decide) rfl (by decide) tw_205 (Nat.le_of_ble_eq_true rfl) (Nat.le_of_ble_eq_true rfl) dX7_init_6 fun x2 h1 => ?_
  refine pf_X7_9 hS hi dX7_init_8 fun h3 => ?_
  refine s_aload_n hS dX7_init_11 rfl 0 rfl ?_
  refine s_iconst hS dX7_init_12 ?_
  refine s_newab hS (at_ := .int) (M := 5) rfl (by decide) (by decide) rfl (by decide) tw_176 (Nat.le_of_ble_eq_true rfl) (Nat.le_of_ble_eq_true rfl) dX7_init_13 fun x5 h4 => ?_
  refine pf_X7_15 hS hi dX7_init_15 fun h6 => ?_
  refine s_aload_n hS dX7_init_18 rfl 0 rfl ?_
  refine s_iconst hS dX7_init_19 ?_
  refine s_newab hS (at_ := .int) (M := 5) rfl (by decide) (by decide) rfl (by decide) tw_176 (Nat.le_of_ble_eq_true rfl) (Nat.le_of_ble_eq_true rfl) dX7_init_20 fun x8 h7 => ?_
  refine pf_X7_19 hS hi dX7_init_22 fun h9 => ?_
  refine s_aload_n hS dX7_init_25 rfl 0 rfl ?_
  refine s_iconst hS dX7_init_26 ?_
  refine s_newab hS (at_ := .int) (M := 5) rfl (by decide) (by decide) rfl (by decide) tw_176 (Nat.le_of_ble_eq_true rfl) (Nat.le_of_ble_eq_true rfl) dX7_init_27 fun x11 h10 => ?_
  refine pf_X7_22 hS hi dX7_init_29 fun h12 => ?_
  exact s_vret hS rfl (Nat.le_of_ble_eq_true rfl) (Nat.le_of_ble_eq_true rfl) dX7_init_32
theorem c_T_init (l : Launch) (G : GE) (z0 : Int) (h : AH) : Con l yX7_init cX7_init 1 none 1 20 4 20 G [(2, z0)] h (f_T_init z0 h) :=
  con_of (by decide +kernel) (Nat.le_of_ble_eq_true rfl) fun X hX hS hi => b_T_init hS hi z0 h
abbrev S_J7_fill_53178 (G : GE) (X : SMw) : SX := (G, X, 4, 0, 0, none, 0, 0)
set_option maxRecDepth 100000 in
set_option maxHeartbeats 4000000 in
theorem B_J7_fill_53178_5 {G : GE} {X : SMw} (hS : SO (S_J7_fill_53178 G X) RJ7 cJ7_fill_53178) (z0 z1 z3 : Int) {k5 : Int → AH → Option (Int × AH)} (hk5 : ∀ (z2 : Int) (h : AH), Sim (S_J7_fill_53178 G X) 5 [(0, 2, z0), (1, 0, z1), (2, 0, z2), (3, 0, z3)] [] 0 0 h (k5 z2 h)) (z2 : Int) (h : AH) : Sim (S_J7_fill_53178 G X) 5 [(0, 2, z0), (1, 0, z1), (2, 0, z2), (3, 0, z3)] [] 0 0 h (F_J7_fill_53178_5 z0 z1 z3 k5 z2 h) := by
  unfold F_J7_fill_53178_5
  refine s_iload_n hS dJ7_fill_53178_5 rfl 2 rfl ?_
  refine s_iload_n hS dJ7_fill_53178_6 rfl 3 rfl ?_
  refine s_icmp_ge hS dJ7_fill_53178_7 rfl ?_ ?_
  · exact s_vret hS rfl (Nat.le_of_ble_eq_true rfl) (Nat.le_of_ble_eq_true rfl) dJ7_fill_53178_20
  · refine s_aload_n hS dJ7_fill_53178_10 rfl 0 rfl ?_
    refine s_iload_n hS dJ7_fill_53178_11 rfl 2 rfl ?_
    refine s_iload_n hS dJ7_fill_53178_12 rfl 1 rfl ?_
    refine s_iast hS dJ7_fill_53178_13 fun h1 => ?_
    refine s_iinc hS dJ7_fill_53178_14 2 rfl (Nat.le_of_ble_eq_true rfl) (ls' := [(2, 0, (z2 + 1)), (0, 2, z0), (1, 0, z1), (3, 0, z3)]) rfl ?_
    refine s_goto hS dJ7_fill_53178_17 rfl ?_
    refine s_ls [1, 2, 0, 3] rfl ?_
    exact hk5 _ _
set_option maxRecDepth 100000 in
set_option maxHeartbeats 4000000 in
theorem b_J7_fill_53178_5 {G : GE} {X : SMw} (hS : SO (S_J7_fill_53178 G X) RJ7 cJ7_fill_53178) (z0 z1 z3 : Int) (z2 : Int) (h : AH) : Sim (S_J7_fill_53178 G X) 5 [(0, 2, z0), (1, 0, z1), (2, 0, z2), (3, 0, z3)] [] 0 0 h (f_J7_fill_53178_5 z0 z1 z2 z3 h) := by
  exact s_loop (S := (S_J7_fill_53178 G X)) (lsf := fun s : Int × AH => [(0, 2, z0), (1, 0, z1), (2, 0, s.1), (3, 0, z3)]) (hf := fun s => s.2) (fun kf hkf s => B_J7_fill_53178_5 hS z0 z1 z3 (fun a0 a1 => hkf (a0, a1)) s.1 s.2) fu_ (z2, h)
set_option maxRecDepth 100000 in
set_option maxHeartbeats 4000000 in
theorem b_J7_fill_53178 {G : GE} {X : SMw} (hS : SO (S_J7_fill_53178 G X) RJ7 cJ7_fill_53178) (z0 z1 : Int) (h : AH) : Sim (S_J7_fill_53178 G X) 0 [(0, 2, z0), (1, 0, z1)] [] 0 0 h (f_J7_fill_53178 z0 z1 h) := by
  unfold f_J7_fill_53178
  refine s_iconst hS dJ7_fill_53178_0 ?_
  refine s_istore_n hS dJ7_fill_53178_1 rfl (Nat.le_of_ble_eq_true rfl) (ls' := [(2, 0, 0), (0, 2, z0), (1, 0, z1)]) rfl ?_
  refine s_aload_n hS dJ7_fill_53178_2 rfl 1 rfl ?_
  refine s_alen hS (by decide) (by decide) dJ7_fill_53178_3 fun v1 => ?_
  refine s_istore_n hS dJ7_fill_53178_4 rfl (Nat.le_of_ble_eq_true rfl) (ls' := [(3, 0, v1), (2, 0, 0), (0, 2, z0), (1, 0, z1)]) rfl ?_
  refine s_ls [2, 3, 1, 0] rfl ?_
  exact b_J7_fill_53178_5 hS _ _ _ _ _
theorem c_J7_fill_53178 (l : Launch) (G : GE) (z0 z1 : Int) (h : AH) : Con l yJ7_fill_53178 cJ7_fill_53178 4 none 0 0 0 0 G [(2, z0), (0, z1)] h (f_J7_fill_53178 z0 z1 h) :=
  con_of (by decide +kernel) (Nat.le_of_ble_eq_true rfl) fun X hX hS hi => b_J7_fill_53178 hS z0 z1 h
theorem ca_X5_11 {S : SX} {cc : ByteArray} {pc : Nat} {ls : List (Nat × Nat × Int)} {st : List (Nat × Int)} {k n : Nat} {h : AH} {b : Int} {f : Int → AH → Option (Int × AH)} (hS : SO S RX5 cc) (hR : 1 + 1 ≤ S.2.2.2.2.2.2.1 ∧ 8 + (1 + 11) + 20 ≤ S.2.2.2.2.2.2.2) (hk : k + 4 ≤ S.2.2.2.1 ∧ n + 20 ≤ S.2.2.2.2.1) (hl : st.length ≤ 4) (d : decode cc pc = .ok (.invokespecial 11, 3)) (kk : ∀ (r : Int) (h2 : AH), Sim S (pc + 3) ls (st) (k + 4) (n + 20) h2 (f r h2)) : Sim S pc ls ((2, b) :: st) k n h (c_k h 8 b (bd_ (f_T_init b h) f)) := s_callN hS mo_X7_init rfl (c_T_init _ _ _ h) (by decide) tn_241 tw_242 hR hk rfl rfl hl d kk
theorem pf_X5_12 {S : SX} {cc : ByteArray} {pc : Nat} {ls : List (Nat × Nat × Int)} {st : List (Nat × Int)} {k n : Nat} {h : AH} {a v : Int} {f : AH → Option (Int × AH)} (hS : SO S RX5 cc) (hi : S.2.1.2.2.2.2.2.2.2.2.1.name = "<init>") (d : decode cc pc = .ok (.putfield 12, 3)) (kk : ∀ h2 : AH, Sim S (pc + 3) ls st k n h2 (f h2)) : Sim S pc ls ((2, v) :: (2, a) :: st) k n h ((s_f h 6 a 0 v).bind f) := s_putF hS hi cx_5 0 (by decide) tw_286 rfl rfl rfl (Or.inr (Or.inr (Or.inl ⟨_, rfl⟩))) rfl rfl d kk
theorem pf_X5_18 {S : SX} {cc : ByteArray} {pc : Nat} {ls : List (Nat × Nat × Int)} {st : List (Nat × Int)} {k n : Nat} {h : AH} {a v : Int} {f : AH → Option (Int × AH)} (hS : SO S RX5 cc) (hi : S.2.1.2.2.2.2.2.2.2.2.1.name = "<init>") (d : decode cc pc = .ok (.putfield 18, 3)) (kk : ∀ h2 : AH, Sim S (pc + 3) ls st k n h2 (f h2)) : Sim S pc ls ((2, v) :: (2, a) :: st) k n h ((s_f h 6 a 1 v).bind f) := s_putF hS hi cx_5 1 (by decide) tw_289 rfl rfl rfl (Or.inr (Or.inr (Or.inr ⟨_, rfl⟩))) rfl rfl d kk
theorem pf_X5_22 {S : SX} {cc : ByteArray} {pc : Nat} {ls : List (Nat × Nat × Int)} {st : List (Nat × Int)} {k n : Nat} {h : AH} {a v : Int} {f : AH → Option (Int × AH)} (hS : SO S RX5 cc) (hi : S.2.1.2.2.2.2.2.2.2.2.1.name = "<init>") (d : decode cc pc = .ok (.putfield 22, 3)) (kk : ∀ h2 : AH, Sim S (pc + 3) ls st k n h2 (f h2)) : Sim S pc ls ((2, v) :: (2, a) :: st) k n h ((s_f h 6 a 2 v).bind f) := s_putF hS hi cx_5 2 (by decide) tw_292 rfl rfl rfl (Or.inr (Or.inr (Or.inr ⟨_, rfl⟩))) rfl rfl d kk
theorem pf_X5_25 {S : SX} {cc : ByteArray} {pc : Nat} {ls : List (Nat × Nat × Int)} {st : List (Nat × Int)} {k n : Nat} {h : AH} {a v : Int} {f : AH → Option (Int × AH)} (hS : SO S RX5 cc) (hi : S.2.1.2.2.2.2.2.2.2.2.1.name = "<init>") (d : decode cc pc = .ok (.putfield 25, 3)) (kk : ∀ h2 : AH, Sim S (pc + 3) ls st k n h2 (f h2)) : Sim S pc ls ((2, v) :: (2, a) :: st) k n h ((s_f h 6 a 3 v).bind f) := s_putF hS hi cx_5 3 (by decide) tw_293 rfl rfl rfl (Or.inr (Or.inr (Or.inr ⟨_, rfl⟩))) rfl rfl d kk
theorem pf_X5_28 {S : SX} {cc : ByteArray} {pc : Nat} {ls : List (Nat × Nat × Int)} {st : List (Nat × Int)} {k n : Nat} {h : AH} {a v : Int} {f : AH → Option (Int × AH)} (hS : SO S RX5 cc) (hi : S.2.1.2.2.2.2.2.2.2.2.1.name = "<init>") (d : decode cc pc = .ok (.putfield 28, 3)) (kk : ∀ h2 : AH, Sim S (pc + 3) ls st k n h2 (f h2)) : Sim S pc ls ((2, v) :: (2, a) :: st) k n h ((s_f h 6 a 4 v).bind f) := s_putF hS hi cx_5 4 (by decide) tw_294 rfl rfl rfl (Or.inr (Or.inr (Or.inr ⟨_, rfl⟩))) rfl rfl d kk
theorem pf_X5_32 {S : SX} {cc : ByteArray} {pc : Nat} {ls : List (Nat × Nat × Int)} {st : List (Nat × Int)} {k n : Nat} {h : AH} {a v : Int} {f : AH → Option (Int × AH)} (hS : SO S RX5 cc) (hi : S.2.1.2.2.2.2.2.2.2.2.1.name = "<init>") (d : decode cc pc = .ok (.putfield 32, 3)) (kk : ∀ h2 : AH, Sim S (pc + 3) ls st k n h2 (f h2)) : Sim S pc ls ((2, v) :: (2, a) :: st) k n h ((s_f h 6 a 5 v).bind f) := s_putF hS hi cx_5 5 (by decide) tw_295 rfl rfl rfl (Or.inr (Or.inr (Or.inr ⟨_, rfl⟩))) rfl rfl d kk
theorem pf_X5_35 {S : SX} {cc : ByteArray} {pc : Nat} {ls : List (Nat × Nat × Int)} {st : List (Nat × Int)} {k n : Nat} {h : AH} {a v : Int} {f : AH → Option (Int × AH)} (hS : SO S RX5 cc) (hi : S.2.1.2.2.2.2.2.2.2.2.1.name = "<init>") (d : decode cc pc = .ok (.putfield 35, 3)) (kk : ∀ h2 : AH, Sim S (pc + 3) ls st k n h2 (f h2)) : Sim S pc ls ((2, v) :: (2, a) :: st) k n h ((s_f h 6 a 6 v).bind f) := s_putF hS hi cx_5 6 (by decide) tw_297 rfl rfl rfl (Or.inr (Or.inr (Or.inr ⟨_, rfl⟩))) rfl rfl d kk
theorem gf_X5_22 {S : SX} {cc : ByteArray} {pc : Nat} {ls : List (Nat × Nat × Int)} {st : List (Nat × Int)} {k n : Nat} {h : AH} {a : Int} {f : Int → Option (Int × AH)} (hS : SO S RX5 cc) (d : decode cc pc = .ok (.getfield 22, 3)) (kk : ∀ v : Int, Sim S (pc + 3) ls ((2, v) :: st) k n h (f v)) : Sim S pc ls ((2, a) :: st) k n h ((g_f h 6 a 2).bind f) := s_getf hS cx_5 2 (by decide) tw_292 rfl rfl rfl d kk
theorem ca_X5_38 {S : SX} {cc : ByteArray} {pc : Nat} {ls : List (Nat × Nat × Int)} {st : List (Nat × Int)} {k n : Nat} {h : AH} {q0 q1 : Int} {f : Int → AH → Option (Int × AH)} (hS : SO S RX5 cc) (hR : 0 + 1 ≤ S.2.2.2.2.2.2.1 ∧ 8 + (4 + 11) + 0 ≤ S.2.2.2.2.2.2.2) (hk : k + 0 ≤ S.2.2.2.1 ∧ n + 0 ≤ S.2.2.2.2.1) (hl : st.length ≤ 4) (d : decode cc pc = .ok (.invokestatic 38, 3)) (kk : ∀ (r : Int) (h2 : AH), Sim S (pc + 3) ls (st) (k + 0) (n + 0) h2 (f r h2)) : Sim S pc ls ((0, q1) :: (2, q0) :: st) k n h (bd_ (f_J7_fill_53178 q0 q1 h) f) := s_callS hS mo_J7_fill_53178 (c_J7_fill_53178 _ _ _ _ h) tw_283 tw_284 hR hk rfl rfl hl d kk
theorem gf_X5_35 {S : SX} {cc : ByteArray} {pc : Nat} {ls : List (Nat × Nat × Int)} {st : List (Nat × Int)} {k n : Nat} {h : AH} {a : Int} {f : Int → Option (Int × AH)} (hS : SO S RX5 cc) (d : decode cc pc = .ok (.getfield 35, 3)) (kk : ∀ v : Int, Sim S (pc + 3) ls ((2, v) :: st) k n h (f v)) : Sim S pc ls ((2, a) :: st) k n h ((g_f h 6 a 6).bind f) := s_getf hS cx_5 6 (by decide) tw_297 rfl rfl rfl d kk
abbrev S_S_init (G : GE) (X : SMw) : SX := (G, X, 1, 11, 253, none, 2, 40)
set_option maxRecDepth 100000 in
set_option maxHeartbeats 4000000 in
theorem b_S_init {G : GE} {X : SMw} (hS : SO (S_S_init G X) RX5 cX5_init) (hi : X.2.2.2.2.2.2.2.2.1.name = "<init>") (z0 : Int) (h : AH) : Sim (S_S_init G X) 0 [(0, 2, z0)] [] 0 0 h (f_S_init z0 h) := by
  unfold f_S_init
  refine s_aload_n hS dX5_init_0 rfl 0 rfl ?_
  refine s_obj hS (by decide) tw_238 tw_145 tw_146 ⟨Nat.le_of_ble_eq_true rfl, Nat.le_of_ble_eq_true rfl⟩ (Nat.le_of_ble_eq_true rfl) dX5_init_1 ?_
  refine s_aload_n hS dX5_init_4 rfl 0 rfl ?_
  refine s_newb hS cx_7 rfl tw_239 tw_240 tw_124 (Nat.le_of_ble_eq_true rfl) (Nat.le_of_ble_eq_true rfl) dX5_init_5 fun x2 h1 => ?_
  refine s_dup hS dX5_init_8 (by decide) ?_
  refine ca_X5_11 hS ⟨Nat.le_of_ble_eq_true rfl, Nat.le_of_ble_eq_true rfl⟩ ⟨Nat.le_of_ble_eq_true rfl, Nat.le_of_ble_eq_true rfl⟩ (Nat.le_of_ble_eq_true rfl) dX5_init_9 fun v3 h4 => ?_
  refine pf_X5_12 hS hi dX5_init_12 fun h5 => ?_
  refine s_aload_n hS dX5_init_15 rfl 0 rfl ?_
  refine s_iconst hS dX5_init_16 ?_
  refine s_newab hS (at_ := .int) (M := 5) rfl (by decide) (by decide) rfl (by decide) tw_176 (Nat.le_of_ble_eq_true rfl) (Nat.le_of_ble_eq_true rfl) dX5_init_17 fun x7 h6 => ?_
  refine pf_X5_18 hS hi dX5_init_19 fun h8 => ?_
  refine s_aload_n hS dX5_init_22 rfl 0 rfl ?_
  refine s_bipush hS dX5_init_23 (by decide +kernel) ?_
  refine s_newab hS (at_ := .int) (M := 60) rfl (by decide) (by decide) rfl (by decide) tw_176 (Nat.le_of_ble_eq_true rfl) (Nat.le_of_ble_eq_true rfl) dX5_init_25 fun x10 h9 => ?_
  refine pf_X5_22 hS hi dX5_init_27 fun h11 => ?_
  refine s_aload_n hS dX5_init_30 rfl 0 rfl ?_
  refine s_bipush hS dX5_init_31 (by decide +kernel) ?_
  refine s_newab hS (at_ := .int) (M := 60) rfl (by decide) (by decide) rfl (by decide) tw_176 (Nat.le_of_ble_eq_true rfl) (Nat.le_of_ble_eq_true rfl) dX5_init_33 fun x13 h12 => ?_
  refine pf_X5_25 hS hi dX5_init_35 fun h14 => ?_
  refine s_aload_n hS dX5_init_38 rfl 0 rfl ?_
  refine s_bipush hS dX5_init_39 (by decide +kernel) ?_
  refine s_newab hS (at_ := .long) (M := 60) rfl (by decide) (by decide) rfl (by decide) tw_205 (Nat.le_of_ble_eq_true rfl) (Nat.le_of_ble_eq_true rfl) dX5_init_41 fun x16 h15 => ?_
  refine pf_X5_28 hS hi dX5_init_43 fun h17 => ?_
  refine s_aload_n hS dX5_init_46 rfl 0 rfl ?_
  refine s_bipush hS dX5_init_47 (by decide +kernel) ?_
  refine s_newab hS (at_ := .int) (M := 25) rfl (by decide) (by decide) rfl (by decide) tw_176 (Nat.le_of_ble_eq_true rfl) (Nat.le_of_ble_eq_true rfl) dX5_init_49 fun x19 h18 => ?_
  refine pf_X5_32 hS hi dX5_init_51 fun h20 => ?_
  refine s_aload_n hS dX5_init_54 rfl 0 rfl ?_
  refine s_bipush hS dX5_init_55 (by decide +kernel) ?_
  refine s_newab hS (at_ := .int) (M := 15) rfl (by decide) (by decide) rfl (by decide) tw_176 (Nat.le_of_ble_eq_true rfl) (Nat.le_of_ble_eq_true rfl) dX5_init_57 fun x22 h21 => ?_
  refine pf_X5_35 hS hi dX5_init_59 fun h23 => ?_
  refine s_aload_n hS dX5_init_62 rfl 0 rfl ?_
  refine gf_X5_22 hS dX5_init_63 fun v24 => ?_
  refine s_iconst hS dX5_init_66 ?_
  refine ca_X5_38 hS ⟨Nat.le_of_ble_eq_true rfl, Nat.le_of_ble_eq_true rfl⟩ ⟨Nat.le_of_ble_eq_true rfl, Nat.le_of_ble_eq_true rfl⟩ (Nat.le_of_ble_eq_true rfl) dX5_init_67 fun v25 h26 => ?_
  refine s_aload_n hS dX5_init_70 rfl 0 rfl ?_
  refine gf_X5_35 hS dX5_init_71 fun v27 => ?_
  refine s_bipush hS dX5_init_74 (by decide +kernel) ?_
  refine ca_X5_38 hS ⟨Nat.le_of_ble_eq_true rfl, Nat.le_of_ble_eq_true rfl⟩ ⟨Nat.le_of_ble_eq_true rfl, Nat.le_of_ble_eq_true rfl⟩ (Nat.le_of_ble_eq_true rfl) dX5_init_76 fun v28 h29 => ?_
  exact s_vret hS rfl (Nat.le_of_ble_eq_true rfl) (Nat.le_of_ble_eq_true rfl) dX5_init_79
theorem c_S_init (l : Launch) (G : GE) (z0 : Int) (h : AH) : Con l yX5_init cX5_init 1 none 2 40 11 253 G [(2, z0)] h (f_S_init z0 h) :=
  con_of (by decide +kernel) (Nat.le_of_ble_eq_true rfl) fun X hX hS hi => b_S_init hS hi z0 h
theorem ca_X0_11 {S : SX} {cc : ByteArray} {pc : Nat} {ls : List (Nat × Nat × Int)} {st : List (Nat × Int)} {k n : Nat} {h : AH} {b : Int} {f : Int → AH → Option (Int × AH)} (hS : SO S RX0 cc) (hR : 2 + 1 ≤ S.2.2.2.2.2.2.1 ∧ 8 + (1 + 11) + 40 ≤ S.2.2.2.2.2.2.2) (hk : k + 11 ≤ S.2.2.2.1 ∧ n + 253 ≤ S.2.2.2.2.1) (hl : st.length ≤ 4) (d : decode cc pc = .ok (.invokespecial 11, 3)) (kk : ∀ (r : Int) (h2 : AH), Sim S (pc + 3) ls (st) (k + 11) (n + 253) h2 (f r h2)) : Sim S pc ls ((2, b) :: st) k n h (c_k h 6 b (bd_ (f_S_init b h) f)) := s_callI hS mo_X5_init rfl (c_S_init _ _ _ h) (by decide) tw_235 tw_236 hR hk rfl rfl hl d kk
theorem pf_X0_12 {S : SX} {cc : ByteArray} {pc : Nat} {ls : List (Nat × Nat × Int)} {st : List (Nat × Int)} {k n : Nat} {h : AH} {a v : Int} {f : AH → Option (Int × AH)} (hS : SO S RX0 cc) (hi : S.2.1.2.2.2.2.2.2.2.2.1.name = "<init>") (d : decode cc pc = .ok (.putfield 12, 3)) (kk : ∀ h2 : AH, Sim S (pc + 3) ls st k n h2 (f h2)) : Sim S pc ls ((2, v) :: (2, a) :: st) k n h ((s_f h 1 a 0 v).bind f) := s_putF hS hi cx_0 0 (by decide) tw_328 rfl rfl rfl (Or.inr (Or.inr (Or.inl ⟨_, rfl⟩))) rfl rfl d kk
theorem ca_X0_20 {S : SX} {cc : ByteArray} {pc : Nat} {ls : List (Nat × Nat × Int)} {st : List (Nat × Int)} {k n : Nat} {h : AH} {b : Int} {f : Int → AH → Option (Int × AH)} (hS : SO S RX0 cc) (hR : 1 + 1 ≤ S.2.2.2.2.2.2.1 ∧ 8 + (1 + 11) + 20 ≤ S.2.2.2.2.2.2.2) (hk : k + 4 ≤ S.2.2.2.1 ∧ n + 20 ≤ S.2.2.2.2.1) (hl : st.length ≤ 4) (d : decode cc pc = .ok (.invokespecial 20, 3)) (kk : ∀ (r : Int) (h2 : AH), Sim S (pc + 3) ls (st) (k + 4) (n + 20) h2 (f r h2)) : Sim S pc ls ((2, b) :: st) k n h (c_k h 8 b (bd_ (f_T_init b h) f)) := s_callN hS mo_X7_init rfl (c_T_init _ _ _ h) (by decide) tn_327 tw_242 hR hk rfl rfl hl d kk
theorem pf_X0_21 {S : SX} {cc : ByteArray} {pc : Nat} {ls : List (Nat × Nat × Int)} {st : List (Nat × Int)} {k n : Nat} {h : AH} {a v : Int} {f : AH → Option (Int × AH)} (hS : SO S RX0 cc) (hi : S.2.1.2.2.2.2.2.2.2.2.1.name = "<init>") (d : decode cc pc = .ok (.putfield 21, 3)) (kk : ∀ h2 : AH, Sim S (pc + 3) ls st k n h2 (f h2)) : Sim S pc ls ((2, v) :: (2, a) :: st) k n h ((s_f h 1 a 1 v).bind f) := s_putF hS hi cx_0 1 (by decide) tw_330 rfl rfl rfl (Or.inr (Or.inr (Or.inl ⟨_, rfl⟩))) rfl rfl d kk
theorem pf_X0_25 {S : SX} {cc : ByteArray} {pc : Nat} {ls : List (Nat × Nat × Int)} {st : List (Nat × Int)} {k n : Nat} {h : AH} {a v : Int} {f : AH → Option (Int × AH)} (hS : SO S RX0 cc) (hi : S.2.1.2.2.2.2.2.2.2.2.1.name = "<init>") (d : decode cc pc = .ok (.putfield 25, 3)) (kk : ∀ h2 : AH, Sim S (pc + 3) ls st k n h2 (f h2)) : Sim S pc ls ((2, v) :: (2, a) :: st) k n h ((s_f h 1 a 2 v).bind f) := s_putF hS hi cx_0 2 (by decide) tw_332 rfl rfl rfl (Or.inr (Or.inr (Or.inr ⟨_, rfl⟩))) rfl rfl d kk
theorem pf_X0_29 {S : SX} {cc : ByteArray} {pc : Nat} {ls : List (Nat × Nat × Int)} {st : List (Nat × Int)} {k n : Nat} {h : AH} {a v : Int} {f : AH → Option (Int × AH)} (hS : SO S RX0 cc) (hi : S.2.1.2.2.2.2.2.2.2.2.1.name = "<init>") (d : decode cc pc = .ok (.putfield 29, 3)) (kk : ∀ h2 : AH, Sim S (pc + 3) ls st k n h2 (f h2)) : Sim S pc ls ((2, v) :: (2, a) :: st) k n h ((s_f h 1 a 3 v).bind f) := s_putF hS hi cx_0 3 (by decide) tw_333 rfl rfl rfl (Or.inr (Or.inr (Or.inr ⟨_, rfl⟩))) rfl rfl d kk
theorem pf_X0_32 {S : SX} {cc : ByteArray} {pc : Nat} {ls : List (Nat × Nat × Int)} {st : List (Nat × Int)} {k n : Nat} {h : AH} {a v : Int} {f : AH → Option (Int × AH)} (hS : SO S RX0 cc) (hi : S.2.1.2.2.2.2.2.2.2.2.1.name = "<init>") (d : decode cc pc = .ok (.putfield 32, 3)) (kk : ∀ h2 : AH, Sim S (pc + 3) ls st k n h2 (f h2)) : Sim S pc ls ((2, v) :: (2, a) :: st) k n h ((s_f h 1 a 4 v).bind f) := s_putF hS hi cx_0 4 (by decide) tw_334 rfl rfl rfl (Or.inr (Or.inr (Or.inr ⟨_, rfl⟩))) rfl rfl d kk
theorem pf_X0_35 {S : SX} {cc : ByteArray} {pc : Nat} {ls : List (Nat × Nat × Int)} {st : List (Nat × Int)} {k n : Nat} {h : AH} {a v : Int} {f : AH → Option (Int × AH)} (hS : SO S RX0 cc) (d : decode cc pc = .ok (.putfield 35, 3)) (kk : ∀ h2 : AH, Sim S (pc + 3) ls st k n h2 (f h2)) : Sim S pc ls ((0, v) :: (2, a) :: st) k n h ((s_f h 1 a 7 v).bind f) := s_putf hS cx_0 7 (by decide) tw_339 rfl rfl (Or.inl rfl) rfl rfl d kk
abbrev S_A_init (G : GE) (X : SMw) : SX := (G, X, 1, 20, 321, none, 3, 60)
set_option maxRecDepth 100000 in
set_option maxHeartbeats 4000000 in
theorem b_A_init {G : GE} {X : SMw} (hS : SO (S_A_init G X) RX0 cX0_init) (hi : X.2.2.2.2.2.2.2.2.1.name = "<init>") (z0 : Int) (h : AH) : Sim (S_A_init G X) 0 [(0, 2, z0)] [] 0 0 h (f_A_init z0 h) := by
  unfold f_A_init
  refine s_aload_n hS dX0_init_0 rfl 0 rfl ?_
  refine s_obj hS (by decide) tw_232 tw_145 tw_146 ⟨Nat.le_of_ble_eq_true rfl, Nat.le_of_ble_eq_true rfl⟩ (Nat.le_of_ble_eq_true rfl) dX0_init_1 ?_
  refine s_aload_n hS dX0_init_4 rfl 0 rfl ?_
  refine s_newb hS cx_5 rfl tw_233 tw_234 tw_123 (Nat.le_of_ble_eq_true rfl) (Nat.le_of_ble_eq_true rfl) dX0_init_5 fun x2 h1 => ?_
  refine s_dup hS dX0_init_8 (by decide) ?_
  refine ca_X0_11 hS ⟨Nat.le_of_ble_eq_true rfl, Nat.le_of_ble_eq_true rfl⟩ ⟨Nat.le_of_ble_eq_true rfl, Nat.le_of_ble_eq_true rfl⟩ (Nat.le_of_ble_eq_true rfl) dX0_init_9 fun v3 h4 => ?_
  refine pf_X0_12 hS hi dX0_init_12 fun h5 => ?_
  refine s_aload_n hS dX0_init_15 rfl 0 rfl ?_
  refine s_newb hS cx_7 rfl tw_326 tw_240 tw_124 (Nat.le_of_ble_eq_true rfl) (Nat.le_of_ble_eq_true rfl) dX0_init_16 fun x7 h6 => ?_
  refine s_dup hS dX0_init_19 (by decide) ?_
  refine ca_X0_20 hS ⟨Nat.le_of_ble_eq_true rfl, Nat.le_of_ble_eq_true rfl⟩ ⟨Nat.le_of_ble_eq_true rfl, Nat.le_of_ble_eq_true rfl⟩ (Nat.le_of_ble_eq_true rfl) dX0_init_20 fun v8 h9 => ?_
  refine pf_X0_21 hS hi dX0_init_23 fun h10 => ?_
  refine s_aload_n hS dX0_init_26 rfl 0 rfl ?_
  refine s_bipush hS dX0_init_27 (by decide +kernel) ?_
  refine s_newab hS (at_ := .int) (M := 10) rfl (by decide) (by decide) rfl (by decide) tw_176 (Nat.le_of_ble_eq_true rfl) (Nat.le_of_ble_eq_true rfl) dX0_init_29 fun x12 h11 => ?_
  refine pf_X0_25 hS hi dX0_init_31 fun h13 => ?_
  refine s_aload_n hS dX0_init_34 rfl 0 rfl ?_
  refine s_bipush hS dX0_init_35 (by decide +kernel) ?_
  refine s_newab hS (at_ := .int) (M := 10) rfl (by decide) (by decide) rfl (by decide) tw_176 (Nat.le_of_ble_eq_true rfl) (Nat.le_of_ble_eq_true rfl) dX0_init_37 fun x15 h14 => ?_
  refine pf_X0_29 hS hi dX0_init_39 fun h16 => ?_
  refine s_aload_n hS dX0_init_42 rfl 0 rfl ?_
  refine s_bipush hS dX0_init_43 (by decide +kernel) ?_
  refine s_newab hS (at_ := .int) (M := 10) rfl (by decide) (by decide) rfl (by decide) tw_176 (Nat.le_of_ble_eq_true rfl) (Nat.le_of_ble_eq_true rfl) dX0_init_45 fun x18 h17 => ?_
  refine pf_X0_32 hS hi dX0_init_47 fun h19 => ?_
  refine s_aload_n hS dX0_init_50 rfl 0 rfl ?_
  refine s_iconst hS dX0_init_51 ?_
  refine pf_X0_35 hS dX0_init_52 fun h20 => ?_
  exact s_vret hS rfl (Nat.le_of_ble_eq_true rfl) (Nat.le_of_ble_eq_true rfl) dX0_init_55
theorem c_A_init (l : Launch) (G : GE) (z0 : Int) (h : AH) : Con l yX0_init cX0_init 1 none 3 60 20 321 G [(2, z0)] h (f_A_init z0 h) :=
  con_of (by decide +kernel) (Nat.le_of_ble_eq_true rfl) fun X hX hS hi => b_A_init hS hi z0 h
theorem gf_X7_34 {S : SX} {cc : ByteArray} {pc : Nat} {ls : List (Nat × Nat × Int)} {st : List (Nat × Int)} {k n : Nat} {h : AH} {a : Int} {f : Int → Option (Int × AH)} (hS : SO S RX7 cc) (d : decode cc pc = .ok (.getfield 34, 3)) (kk : ∀ v : Int, Sim S (pc + 3) ls ((0, v) :: st) k n h (f v)) : Sim S pc ls ((2, a) :: st) k n h ((g_f h 8 a 4).bind f) := s_getf hS cx_7 4 (by decide) tw_258 rfl rfl rfl d kk
theorem pf_X7_34 {S : SX} {cc : ByteArray} {pc : Nat} {ls : List (Nat × Nat × Int)} {st : List (Nat × Int)} {k n : Nat} {h : AH} {a v : Int} {f : AH → Option (Int × AH)} (hS : SO S RX7 cc) (d : decode cc pc = .ok (.putfield 34, 3)) (kk : ∀ h2 : AH, Sim S (pc + 3) ls st k n h2 (f h2)) : Sim S pc ls ((0, v) :: (2, a) :: st) k n h ((s_f h 8 a 4 v).bind f) := s_putf hS cx_7 4 (by decide) tw_258 rfl rfl (Or.inl rfl) rfl rfl d kk
theorem gf_X7_38 {S : SX} {cc : ByteArray} {pc : Nat} {ls : List (Nat × Nat × Int)} {st : List (Nat × Int)} {k n : Nat} {h : AH} {a : Int} {f : Int → Option (Int × AH)} (hS : SO S RX7 cc) (d : decode cc pc = .ok (.getfield 38, 3)) (kk : ∀ v : Int, Sim S (pc + 3) ls ((0, v) :: st) k n h (f v)) : Sim S pc ls ((2, a) :: st) k n h ((g_f h 8 a 5).bind f) := s_getf hS cx_7 5 (by decide) tw_261 rfl rfl rfl d kk
theorem pf_X7_38 {S : SX} {cc : ByteArray} {pc : Nat} {ls : List (Nat × Nat × Int)} {st : List (Nat × Int)} {k n : Nat} {h : AH} {a v : Int} {f : AH → Option (Int × AH)} (hS : SO S RX7 cc) (d : decode cc pc = .ok (.putfield 38, 3)) (kk : ∀ h2 : AH, Sim S (pc + 3) ls st k n h2 (f h2)) : Sim S pc ls ((0, v) :: (2, a) :: st) k n h ((s_f h 8 a 5 v).bind f) := s_putf hS cx_7 5 (by decide) tw_261 rfl rfl (Or.inl rfl) rfl rfl d kk
theorem gf_X7_9 {S : SX} {cc : ByteArray} {pc : Nat} {ls : List (Nat × Nat × Int)} {st : List (Nat × Int)} {k n : Nat} {h : AH} {a : Int} {f : Int → Option (Int × AH)} (hS : SO S RX7 cc) (d : decode cc pc = .ok (.getfield 9, 3)) (kk : ∀ v : Int, Sim S (pc + 3) ls ((2, v) :: st) k n h (f v)) : Sim S pc ls ((2, a) :: st) k n h ((g_f h 8 a 0).bind f) := s_getf hS cx_7 0 (by decide) tw_245 rfl rfl rfl d kk
theorem gf_X7_15 {S : SX} {cc : ByteArray} {pc : Nat} {ls : List (Nat × Nat × Int)} {st : List (Nat × Int)} {k n : Nat} {h : AH} {a : Int} {f : Int → Option (Int × AH)} (hS : SO S RX7 cc) (d : decode cc pc = .ok (.getfield 15, 3)) (kk : ∀ v : Int, Sim S (pc + 3) ls ((2, v) :: st) k n h (f v)) : Sim S pc ls ((2, a) :: st) k n h ((g_f h 8 a 1).bind f) := s_getf hS cx_7 1 (by decide) tw_248 rfl rfl rfl d kk
theorem gf_X7_19 {S : SX} {cc : ByteArray} {pc : Nat} {ls : List (Nat × Nat × Int)} {st : List (Nat × Int)} {k n : Nat} {h : AH} {a : Int} {f : Int → Option (Int × AH)} (hS : SO S RX7 cc) (d : decode cc pc = .ok (.getfield 19, 3)) (kk : ∀ v : Int, Sim S (pc + 3) ls ((2, v) :: st) k n h (f v)) : Sim S pc ls ((2, a) :: st) k n h ((g_f h 8 a 2).bind f) := s_getf hS cx_7 2 (by decide) tw_252 rfl rfl rfl d kk
theorem gf_X7_22 {S : SX} {cc : ByteArray} {pc : Nat} {ls : List (Nat × Nat × Int)} {st : List (Nat × Int)} {k n : Nat} {h : AH} {a : Int} {f : Int → Option (Int × AH)} (hS : SO S RX7 cc) (d : decode cc pc = .ok (.getfield 22, 3)) (kk : ∀ v : Int, Sim S (pc + 3) ls ((2, v) :: st) k n h (f v)) : Sim S pc ls ((2, a) :: st) k n h ((g_f h 8 a 3).bind f) := s_getf hS cx_7 3 (by decide) tw_255 rfl rfl rfl d kk
abbrev S_T_copyFrom (G : GE) (X : SMw) : SX := (G, X, 3, 0, 0, none, 0, 0)
set_option maxRecDepth 100000 in
set_option maxHeartbeats 4000000 in
theorem B_T_copyFrom_2 {G : GE} {X : SMw} (hS : SO (S_T_copyFrom G X) RX7 cX7_copyFrom) (z0 z1 : Int) {k2 : Int → AH → Option (Int × AH)} (hk2 : ∀ (z2 : Int) (h : AH), Sim (S_T_copyFrom G X) 2 [(0, 2, z0), (1, 2, z1), (2, 0, z2)] [] 0 0 h (k2 z2 h)) (z2 : Int) (h : AH) : Sim (S_T_copyFrom G X) 2 [(0, 2, z0), (1, 2, z1), (2, 0, z2)] [] 0 0 h (F_T_copyFrom_2 z0 z1 k2 z2 h) := by
  unfold F_T_copyFrom_2
  refine s_iload_n hS dX7_copyFrom_2 rfl 2 rfl ?_
  refine s_iconst hS dX7_copyFrom_3 ?_
  refine s_icmp_ge hS dX7_copyFrom_4 rfl ?_ ?_
  · refine s_aload_n hS dX7_copyFrom_61 rfl 0 rfl ?_
    refine s_aload_n hS dX7_copyFrom_62 rfl 1 rfl ?_
    refine gf_X7_34 hS dX7_copyFrom_63 fun v1 => ?_
    refine pf_X7_34 hS dX7_copyFrom_66 fun h2 => ?_
    refine s_aload_n hS dX7_copyFrom_69 rfl 0 rfl ?_
    refine s_aload_n hS dX7_copyFrom_70 rfl 1 rfl ?_
    refine gf_X7_38 hS dX7_copyFrom_71 fun v3 => ?_
    refine pf_X7_38 hS dX7_copyFrom_74 fun h4 => ?_
    exact s_vret hS rfl (Nat.le_of_ble_eq_true rfl) (Nat.le_of_ble_eq_true rfl) dX7_copyFrom_77
  · refine s_aload_n hS dX7_copyFrom_7 rfl 0 rfl ?_
    refine gf_X7_9 hS dX7_copyFrom_8 fun v5 => ?_
    refine s_iload_n hS dX7_copyFrom_11 rfl 2 rfl ?_
    refine s_aload_n hS dX7_copyFrom_12 rfl 1 rfl ?_
    refine gf_X7_9 hS dX7_copyFrom_13 fun v6 => ?_
    refine s_iload_n hS dX7_copyFrom_16 rfl 2 rfl ?_
    refine s_lald hS dX7_copyFrom_17 fun v7 => ?_
    refine s_last hS dX7_copyFrom_18 fun h8 => ?_
    refine s_aload_n hS dX7_copyFrom_19 rfl 0 rfl ?_
    refine gf_X7_15 hS dX7_copyFrom_20 fun v9 => ?_
    refine s_iload_n hS dX7_copyFrom_23 rfl 2 rfl ?_
    refine s_aload_n hS dX7_copyFrom_24 rfl 1 rfl ?_
    refine gf_X7_15 hS dX7_copyFrom_25 fun v10 => ?_
    refine s_iload_n hS dX7_copyFrom_28 rfl 2 rfl ?_
    refine s_iald hS dX7_copyFrom_29 fun v11 => ?_
    refine s_iast hS dX7_copyFrom_30 fun h12 => ?_
    refine s_aload_n hS dX7_copyFrom_31 rfl 0 rfl ?_
    refine gf_X7_19 hS dX7_copyFrom_32 fun v13 => ?_
    refine s_iload_n hS dX7_copyFrom_35 rfl 2 rfl ?_
    refine s_aload_n hS dX7_copyFrom_36 rfl 1 rfl ?_
    refine gf_X7_19 hS dX7_copyFrom_37 fun v14 => ?_
    refine s_iload_n hS dX7_copyFrom_40 rfl 2 rfl ?_
    refine s_iald hS dX7_copyFrom_41 fun v15 => ?_
    refine s_iast hS dX7_copyFrom_42 fun h16 => ?_
    refine s_aload_n hS dX7_copyFrom_43 rfl 0 rfl ?_
    refine gf_X7_22 hS dX7_copyFrom_44 fun v17 => ?_
    refine s_iload_n hS dX7_copyFrom_47 rfl 2 rfl ?_
    refine s_aload_n hS dX7_copyFrom_48 rfl 1 rfl ?_
    refine gf_X7_22 hS dX7_copyFrom_49 fun v18 => ?_
    refine s_iload_n hS dX7_copyFrom_52 rfl 2 rfl ?_
    refine s_iald hS dX7_copyFrom_53 fun v19 => ?_
    refine s_iast hS dX7_copyFrom_54 fun h20 => ?_
    refine s_iinc hS dX7_copyFrom_55 2 rfl (Nat.le_of_ble_eq_true rfl) (ls' := [(2, 0, (z2 + 1)), (0, 2, z0), (1, 2, z1)]) rfl ?_
    refine s_goto hS dX7_copyFrom_58 rfl ?_
    refine s_ls [1, 2, 0] rfl ?_
    exact hk2 _ _
set_option maxRecDepth 100000 in
set_option maxHeartbeats 4000000 in
theorem b_T_copyFrom_2 {G : GE} {X : SMw} (hS : SO (S_T_copyFrom G X) RX7 cX7_copyFrom) (z0 z1 : Int) (z2 : Int) (h : AH) : Sim (S_T_copyFrom G X) 2 [(0, 2, z0), (1, 2, z1), (2, 0, z2)] [] 0 0 h (f_T_copyFrom_2 z0 z1 z2 h) := by
  exact s_loop (S := (S_T_copyFrom G X)) (lsf := fun s : Int × AH => [(0, 2, z0), (1, 2, z1), (2, 0, s.1)]) (hf := fun s => s.2) (fun kf hkf s => B_T_copyFrom_2 hS z0 z1 (fun a0 a1 => hkf (a0, a1)) s.1 s.2) fu_ (z2, h)
set_option maxRecDepth 100000 in
set_option maxHeartbeats 4000000 in
theorem b_T_copyFrom {G : GE} {X : SMw} (hS : SO (S_T_copyFrom G X) RX7 cX7_copyFrom) (z0 z1 : Int) (h : AH) : Sim (S_T_copyFrom G X) 0 [(0, 2, z0), (1, 2, z1)] [] 0 0 h (f_T_copyFrom z0 z1 h) := by
  unfold f_T_copyFrom
  refine s_iconst hS dX7_copyFrom_0 ?_
  refine s_istore_n hS dX7_copyFrom_1 rfl (Nat.le_of_ble_eq_true rfl) (ls' := [(2, 0, 0), (0, 2, z0), (1, 2, z1)]) rfl ?_
  refine s_ls [1, 2, 0] rfl ?_
  exact b_T_copyFrom_2 hS _ _ _ _
theorem c_T_copyFrom (l : Launch) (G : GE) (z0 z1 : Int) (h : AH) : Con l yX7_copyFrom cX7_copyFrom 3 none 0 0 0 0 G [(2, z0), (2, z1)] h (f_T_copyFrom z0 z1 h) :=
  con_of (by decide +kernel) (Nat.le_of_ble_eq_true rfl) fun X hX hS hi => b_T_copyFrom hS z0 z1 h
theorem gf_X5_12 {S : SX} {cc : ByteArray} {pc : Nat} {ls : List (Nat × Nat × Int)} {st : List (Nat × Int)} {k n : Nat} {h : AH} {a : Int} {f : Int → Option (Int × AH)} (hS : SO S RX5 cc) (d : decode cc pc = .ok (.getfield 12, 3)) (kk : ∀ v : Int, Sim S (pc + 3) ls ((2, v) :: st) k n h (f v)) : Sim S pc ls ((2, a) :: st) k n h ((g_f h 6 a 0).bind f) := s_getf hS cx_5 0 (by decide) tw_286 rfl rfl rfl d kk
theorem ca_X5_60 {S : SX} {cc : ByteArray} {pc : Nat} {ls : List (Nat × Nat × Int)} {st : List (Nat × Int)} {k n : Nat} {h : AH} {q0 b : Int} {f : Int → AH → Option (Int × AH)} (hS : SO S RX5 cc) (hR : 0 + 1 ≤ S.2.2.2.2.2.2.1 ∧ 8 + (3 + 11) + 0 ≤ S.2.2.2.2.2.2.2) (hk : k + 0 ≤ S.2.2.2.1 ∧ n + 0 ≤ S.2.2.2.2.1) (hl : st.length ≤ 4) (d : decode cc pc = .ok (.invokevirtual 60, 3)) (kk : ∀ (r : Int) (h2 : AH), Sim S (pc + 3) ls (st) (k + 0) (n + 0) h2 (f r h2)) : Sim S pc ls ((2, q0) :: (2, b) :: st) k n h (c_k h 8 b (bd_ (f_T_copyFrom b q0 h) f)) := s_callV hS mo_X7_copyFrom rfl rfl (c_T_copyFrom _ _ _ _ h) tw_816 tw_629 tw_630 hR hk rfl rfl hl d kk
theorem gf_X5_18 {S : SX} {cc : ByteArray} {pc : Nat} {ls : List (Nat × Nat × Int)} {st : List (Nat × Int)} {k n : Nat} {h : AH} {a : Int} {f : Int → Option (Int × AH)} (hS : SO S RX5 cc) (d : decode cc pc = .ok (.getfield 18, 3)) (kk : ∀ v : Int, Sim S (pc + 3) ls ((2, v) :: st) k n h (f v)) : Sim S pc ls ((2, a) :: st) k n h ((g_f h 6 a 1).bind f) := s_getf hS cx_5 1 (by decide) tw_289 rfl rfl rfl d kk
theorem gf_X5_25 {S : SX} {cc : ByteArray} {pc : Nat} {ls : List (Nat × Nat × Int)} {st : List (Nat × Int)} {k n : Nat} {h : AH} {a : Int} {f : Int → Option (Int × AH)} (hS : SO S RX5 cc) (d : decode cc pc = .ok (.getfield 25, 3)) (kk : ∀ v : Int, Sim S (pc + 3) ls ((2, v) :: st) k n h (f v)) : Sim S pc ls ((2, a) :: st) k n h ((g_f h 6 a 3).bind f) := s_getf hS cx_5 3 (by decide) tw_293 rfl rfl rfl d kk
theorem gf_X5_28 {S : SX} {cc : ByteArray} {pc : Nat} {ls : List (Nat × Nat × Int)} {st : List (Nat × Int)} {k n : Nat} {h : AH} {a : Int} {f : Int → Option (Int × AH)} (hS : SO S RX5 cc) (d : decode cc pc = .ok (.getfield 28, 3)) (kk : ∀ v : Int, Sim S (pc + 3) ls ((2, v) :: st) k n h (f v)) : Sim S pc ls ((2, a) :: st) k n h ((g_f h 6 a 4).bind f) := s_getf hS cx_5 4 (by decide) tw_294 rfl rfl rfl d kk
theorem gf_X5_32 {S : SX} {cc : ByteArray} {pc : Nat} {ls : List (Nat × Nat × Int)} {st : List (Nat × Int)} {k n : Nat} {h : AH} {a : Int} {f : Int → Option (Int × AH)} (hS : SO S RX5 cc) (d : decode cc pc = .ok (.getfield 32, 3)) (kk : ∀ v : Int, Sim S (pc + 3) ls ((2, v) :: st) k n h (f v)) : Sim S pc ls ((2, a) :: st) k n h ((g_f h 6 a 5).bind f) := s_getf hS cx_5 5 (by decide) tw_295 rfl rfl rfl d kk
theorem gf_X5_50 {S : SX} {cc : ByteArray} {pc : Nat} {ls : List (Nat × Nat × Int)} {st : List (Nat × Int)} {k n : Nat} {h : AH} {a : Int} {f : Int → Option (Int × AH)} (hS : SO S RX5 cc) (d : decode cc pc = .ok (.getfield 50, 3)) (kk : ∀ v : Int, Sim S (pc + 3) ls ((0, v) :: st) k n h (f v)) : Sim S pc ls ((2, a) :: st) k n h ((g_f h 6 a 7).bind f) := s_getf hS cx_5 7 (by decide) tw_299 rfl rfl rfl d kk
theorem pf_X5_50 {S : SX} {cc : ByteArray} {pc : Nat} {ls : List (Nat × Nat × Int)} {st : List (Nat × Int)} {k n : Nat} {h : AH} {a v : Int} {f : AH → Option (Int × AH)} (hS : SO S RX5 cc) (d : decode cc pc = .ok (.putfield 50, 3)) (kk : ∀ h2 : AH, Sim S (pc + 3) ls st k n h2 (f h2)) : Sim S pc ls ((0, v) :: (2, a) :: st) k n h ((s_f h 6 a 7 v).bind f) := s_putf hS cx_5 7 (by decide) tw_299 rfl rfl (Or.inl rfl) rfl rfl d kk
theorem gf_X5_54 {S : SX} {cc : ByteArray} {pc : Nat} {ls : List (Nat × Nat × Int)} {st : List (Nat × Int)} {k n : Nat} {h : AH} {a : Int} {f : Int → Option (Int × AH)} (hS : SO S RX5 cc) (d : decode cc pc = .ok (.getfield 54, 3)) (kk : ∀ v : Int, Sim S (pc + 3) ls ((0, v) :: st) k n h (f v)) : Sim S pc ls ((2, a) :: st) k n h ((g_f h 6 a 8).bind f) := s_getf hS cx_5 8 (by decide) tw_302 rfl rfl rfl d kk
theorem pf_X5_54 {S : SX} {cc : ByteArray} {pc : Nat} {ls : List (Nat × Nat × Int)} {st : List (Nat × Int)} {k n : Nat} {h : AH} {a v : Int} {f : AH → Option (Int × AH)} (hS : SO S RX5 cc) (d : decode cc pc = .ok (.putfield 54, 3)) (kk : ∀ h2 : AH, Sim S (pc + 3) ls st k n h2 (f h2)) : Sim S pc ls ((0, v) :: (2, a) :: st) k n h ((s_f h 6 a 8 v).bind f) := s_putf hS cx_5 8 (by decide) tw_302 rfl rfl (Or.inl rfl) rfl rfl d kk
theorem gf_X5_57 {S : SX} {cc : ByteArray} {pc : Nat} {ls : List (Nat × Nat × Int)} {st : List (Nat × Int)} {k n : Nat} {h : AH} {a : Int} {f : Int → Option (Int × AH)} (hS : SO S RX5 cc) (d : decode cc pc = .ok (.getfield 57, 3)) (kk : ∀ v : Int, Sim S (pc + 3) ls ((0, v) :: st) k n h (f v)) : Sim S pc ls ((2, a) :: st) k n h ((g_f h 6 a 9).bind f) := s_getf hS cx_5 9 (by decide) tw_304 rfl rfl rfl d kk
theorem pf_X5_57 {S : SX} {cc : ByteArray} {pc : Nat} {ls : List (Nat × Nat × Int)} {st : List (Nat × Int)} {k n : Nat} {h : AH} {a v : Int} {f : AH → Option (Int × AH)} (hS : SO S RX5 cc) (d : decode cc pc = .ok (.putfield 57, 3)) (kk : ∀ h2 : AH, Sim S (pc + 3) ls st k n h2 (f h2)) : Sim S pc ls ((0, v) :: (2, a) :: st) k n h ((s_f h 6 a 9 v).bind f) := s_putf hS cx_5 9 (by decide) tw_304 rfl rfl (Or.inl rfl) rfl rfl d kk
abbrev S_S_copyFrom (G : GE) (X : SMw) : SX := (G, X, 2, 0, 0, none, 1, 60)
set_option maxRecDepth 100000 in
set_option maxHeartbeats 4000000 in
theorem b_S_copyFrom {G : GE} {X : SMw} (hS : SO (S_S_copyFrom G X) RX5 cX5_copyFrom) (z0 z1 : Int) (h : AH) : Sim (S_S_copyFrom G X) 0 [(0, 2, z0), (1, 2, z1)] [] 0 0 h (f_S_copyFrom z0 z1 h) := by
  unfold f_S_copyFrom
  refine s_aload_n hS dX5_copyFrom_0 rfl 0 rfl ?_
  refine gf_X5_12 hS dX5_copyFrom_1 fun v1 => ?_
  refine s_aload_n hS dX5_copyFrom_4 rfl 1 rfl ?_
  refine gf_X5_12 hS dX5_copyFrom_5 fun v2 => ?_
  refine ca_X5_60 hS ⟨Nat.le_of_ble_eq_true rfl, Nat.le_of_ble_eq_true rfl⟩ ⟨Nat.le_of_ble_eq_true rfl, Nat.le_of_ble_eq_true rfl⟩ (Nat.le_of_ble_eq_true rfl) dX5_copyFrom_8 fun v3 h4 => ?_
  refine s_aload_n hS dX5_copyFrom_11 rfl 1 rfl ?_
  refine gf_X5_18 hS dX5_copyFrom_12 fun v5 => ?_
  refine s_iconst hS dX5_copyFrom_15 ?_
  refine s_aload_n hS dX5_copyFrom_16 rfl 0 rfl ?_
  refine gf_X5_18 hS dX5_copyFrom_17 fun v6 => ?_
  refine s_iconst hS dX5_copyFrom_20 ?_
  refine s_aload_n hS dX5_copyFrom_21 rfl 0 rfl ?_
  refine gf_X5_18 hS dX5_copyFrom_22 fun v7 => ?_
  refine s_alen hS (by decide) (by decide) dX5_copyFrom_25 fun v8 => ?_
  refine s_acopy hS (t := 20) (by decide) tw_817 tw_715 tw_714 tw_137 ⟨Nat.le_of_ble_eq_true rfl, Nat.le_of_ble_eq_true rfl⟩ (Nat.le_of_ble_eq_true rfl) dX5_copyFrom_26 fun h9 => ?_
  refine s_aload_n hS dX5_copyFrom_29 rfl 1 rfl ?_
  refine gf_X5_22 hS dX5_copyFrom_30 fun v10 => ?_
  refine s_iconst hS dX5_copyFrom_33 ?_
  refine s_aload_n hS dX5_copyFrom_34 rfl 0 rfl ?_
  refine gf_X5_22 hS dX5_copyFrom_35 fun v11 => ?_
  refine s_iconst hS dX5_copyFrom_38 ?_
  refine s_aload_n hS dX5_copyFrom_39 rfl 0 rfl ?_
  refine gf_X5_22 hS dX5_copyFrom_40 fun v12 => ?_
  refine s_alen hS (by decide) (by decide) dX5_copyFrom_43 fun v13 => ?_
  refine s_acopy hS (t := 20) (by decide) tw_817 tw_715 tw_714 tw_137 ⟨Nat.le_of_ble_eq_true rfl, Nat.le_of_ble_eq_true rfl⟩ (Nat.le_of_ble_eq_true rfl) dX5_copyFrom_44 fun h14 => ?_
  refine s_aload_n hS dX5_copyFrom_47 rfl 1 rfl ?_
  refine gf_X5_25 hS dX5_copyFrom_48 fun v15 => ?_
  refine s_iconst hS dX5_copyFrom_51 ?_
  refine s_aload_n hS dX5_copyFrom_52 rfl 0 rfl ?_
  refine gf_X5_25 hS dX5_copyFrom_53 fun v16 => ?_
  refine s_iconst hS dX5_copyFrom_56 ?_
  refine s_aload_n hS dX5_copyFrom_57 rfl 0 rfl ?_
  refine gf_X5_25 hS dX5_copyFrom_58 fun v17 => ?_
  refine s_alen hS (by decide) (by decide) dX5_copyFrom_61 fun v18 => ?_
  refine s_acopy hS (t := 20) (by decide) tw_817 tw_715 tw_714 tw_137 ⟨Nat.le_of_ble_eq_true rfl, Nat.le_of_ble_eq_true rfl⟩ (Nat.le_of_ble_eq_true rfl) dX5_copyFrom_62 fun h19 => ?_
  refine s_aload_n hS dX5_copyFrom_65 rfl 1 rfl ?_
  refine gf_X5_28 hS dX5_copyFrom_66 fun v20 => ?_
  refine s_iconst hS dX5_copyFrom_69 ?_
  refine s_aload_n hS dX5_copyFrom_70 rfl 0 rfl ?_
  refine gf_X5_28 hS dX5_copyFrom_71 fun v21 => ?_
  refine s_iconst hS dX5_copyFrom_74 ?_
  refine s_aload_n hS dX5_copyFrom_75 rfl 0 rfl ?_
  refine gf_X5_28 hS dX5_copyFrom_76 fun v22 => ?_
  refine s_alen hS (by decide) (by decide) dX5_copyFrom_79 fun v23 => ?_
  refine s_acopy hS (t := 21) (by decide) tw_817 tw_715 tw_714 tw_137 ⟨Nat.le_of_ble_eq_true rfl, Nat.le_of_ble_eq_true rfl⟩ (Nat.le_of_ble_eq_true rfl) dX5_copyFrom_80 fun h24 => ?_
  refine s_aload_n hS dX5_copyFrom_83 rfl 1 rfl ?_
  refine gf_X5_32 hS dX5_copyFrom_84 fun v25 => ?_
  refine s_iconst hS dX5_copyFrom_87 ?_
  refine s_aload_n hS dX5_copyFrom_88 rfl 0 rfl ?_
  refine gf_X5_32 hS dX5_copyFrom_89 fun v26 => ?_
  refine s_iconst hS dX5_copyFrom_92 ?_
  refine s_aload_n hS dX5_copyFrom_93 rfl 0 rfl ?_
  refine gf_X5_32 hS dX5_copyFrom_94 fun v27 => ?_
  refine s_alen hS (by decide) (by decide) dX5_copyFrom_97 fun v28 => ?_
  refine s_acopy hS (t := 20) (by decide) tw_817 tw_715 tw_714 tw_137 ⟨Nat.le_of_ble_eq_true rfl, Nat.le_of_ble_eq_true rfl⟩ (Nat.le_of_ble_eq_true rfl) dX5_copyFrom_98 fun h29 => ?_
  refine s_aload_n hS dX5_copyFrom_101 rfl 1 rfl ?_
  refine gf_X5_35 hS dX5_copyFrom_102 fun v30 => ?_
  refine s_iconst hS dX5_copyFrom_105 ?_
  refine s_aload_n hS dX5_copyFrom_106 rfl 0 rfl ?_
  refine gf_X5_35 hS dX5_copyFrom_107 fun v31 => ?_
  refine s_iconst hS dX5_copyFrom_110 ?_
  refine s_aload_n hS dX5_copyFrom_111 rfl 0 rfl ?_
  refine gf_X5_35 hS dX5_copyFrom_112 fun v32 => ?_
  refine s_alen hS (by decide) (by decide) dX5_copyFrom_115 fun v33 => ?_
  refine s_acopy hS (t := 20) (by decide) tw_817 tw_715 tw_714 tw_137 ⟨Nat.le_of_ble_eq_true rfl, Nat.le_of_ble_eq_true rfl⟩ (Nat.le_of_ble_eq_true rfl) dX5_copyFrom_116 fun h34 => ?_
  refine s_aload_n hS dX5_copyFrom_119 rfl 0 rfl ?_
  refine s_aload_n hS dX5_copyFrom_120 rfl 1 rfl ?_
  refine gf_X5_50 hS dX5_copyFrom_121 fun v35 => ?_
  refine pf_X5_50 hS dX5_copyFrom_124 fun h36 => ?_
  refine s_aload_n hS dX5_copyFrom_127 rfl 0 rfl ?_
  refine s_aload_n hS dX5_copyFrom_128 rfl 1 rfl ?_
  refine gf_X5_54 hS dX5_copyFrom_129 fun v37 => ?_
  refine pf_X5_54 hS dX5_copyFrom_132 fun h38 => ?_
  refine s_aload_n hS dX5_copyFrom_135 rfl 0 rfl ?_
  refine s_aload_n hS dX5_copyFrom_136 rfl 1 rfl ?_
  refine gf_X5_57 hS dX5_copyFrom_137 fun v39 => ?_
  refine pf_X5_57 hS dX5_copyFrom_140 fun h40 => ?_
  exact s_vret hS rfl (Nat.le_of_ble_eq_true rfl) (Nat.le_of_ble_eq_true rfl) dX5_copyFrom_143
theorem c_S_copyFrom (l : Launch) (G : GE) (z0 z1 : Int) (h : AH) : Con l yX5_copyFrom cX5_copyFrom 2 none 1 60 0 0 G [(2, z0), (2, z1)] h (f_S_copyFrom z0 z1 h) :=
  con_of (by decide +kernel) (Nat.le_of_ble_eq_true rfl) fun X hX hS hi => b_S_copyFrom hS z0 z1 h
theorem gf_X0_12 {S : SX} {cc : ByteArray} {pc : Nat} {ls : List (Nat × Nat × Int)} {st : List (Nat × Int)} {k n : Nat} {h : AH} {a : Int} {f : Int → Option (Int × AH)} (hS : SO S RX0 cc) (d : decode cc pc = .ok (.getfield 12, 3)) (kk : ∀ v : Int, Sim S (pc + 3) ls ((2, v) :: st) k n h (f v)) : Sim S pc ls ((2, a) :: st) k n h ((g_f h 1 a 0).bind f) := s_getf hS cx_0 0 (by decide) tw_328 rfl rfl rfl d kk
theorem ca_X0_39 {S : SX} {cc : ByteArray} {pc : Nat} {ls : List (Nat × Nat × Int)} {st : List (Nat × Int)} {k n : Nat} {h : AH} {q0 b : Int} {f : Int → AH → Option (Int × AH)} (hS : SO S RX0 cc) (hR : 1 + 1 ≤ S.2.2.2.2.2.2.1 ∧ 8 + (2 + 11) + 60 ≤ S.2.2.2.2.2.2.2) (hk : k + 0 ≤ S.2.2.2.1 ∧ n + 0 ≤ S.2.2.2.2.1) (hl : st.length ≤ 4) (d : decode cc pc = .ok (.invokevirtual 39, 3)) (kk : ∀ (r : Int) (h2 : AH), Sim S (pc + 3) ls (st) (k + 0) (n + 0) h2 (f r h2)) : Sim S pc ls ((2, q0) :: (2, b) :: st) k n h (c_k h 6 b (bd_ (f_S_copyFrom b q0 h) f)) := s_callV hS mo_X5_copyFrom rfl rfl (c_S_copyFrom _ _ _ _ h) tw_1125 tw_813 tw_814 hR hk rfl rfl hl d kk
theorem gf_X0_21 {S : SX} {cc : ByteArray} {pc : Nat} {ls : List (Nat × Nat × Int)} {st : List (Nat × Int)} {k n : Nat} {h : AH} {a : Int} {f : Int → Option (Int × AH)} (hS : SO S RX0 cc) (d : decode cc pc = .ok (.getfield 21, 3)) (kk : ∀ v : Int, Sim S (pc + 3) ls ((2, v) :: st) k n h (f v)) : Sim S pc ls ((2, a) :: st) k n h ((g_f h 1 a 1).bind f) := s_getf hS cx_0 1 (by decide) tw_330 rfl rfl rfl d kk
theorem ca_X0_43 {S : SX} {cc : ByteArray} {pc : Nat} {ls : List (Nat × Nat × Int)} {st : List (Nat × Int)} {k n : Nat} {h : AH} {q0 b : Int} {f : Int → AH → Option (Int × AH)} (hS : SO S RX0 cc) (hR : 0 + 1 ≤ S.2.2.2.2.2.2.1 ∧ 8 + (3 + 11) + 0 ≤ S.2.2.2.2.2.2.2) (hk : k + 0 ≤ S.2.2.2.1 ∧ n + 0 ≤ S.2.2.2.2.1) (hl : st.length ≤ 4) (d : decode cc pc = .ok (.invokevirtual 43, 3)) (kk : ∀ (r : Int) (h2 : AH), Sim S (pc + 3) ls (st) (k + 0) (n + 0) h2 (f r h2)) : Sim S pc ls ((2, q0) :: (2, b) :: st) k n h (c_k h 8 b (bd_ (f_T_copyFrom b q0 h) f)) := s_callV hS mo_X7_copyFrom rfl rfl (c_T_copyFrom _ _ _ _ h) tw_1126 tw_629 tw_630 hR hk rfl rfl hl d kk
theorem gf_X0_25 {S : SX} {cc : ByteArray} {pc : Nat} {ls : List (Nat × Nat × Int)} {st : List (Nat × Int)} {k n : Nat} {h : AH} {a : Int} {f : Int → Option (Int × AH)} (hS : SO S RX0 cc) (d : decode cc pc = .ok (.getfield 25, 3)) (kk : ∀ v : Int, Sim S (pc + 3) ls ((2, v) :: st) k n h (f v)) : Sim S pc ls ((2, a) :: st) k n h ((g_f h 1 a 2).bind f) := s_getf hS cx_0 2 (by decide) tw_332 rfl rfl rfl d kk
theorem gf_X0_29 {S : SX} {cc : ByteArray} {pc : Nat} {ls : List (Nat × Nat × Int)} {st : List (Nat × Int)} {k n : Nat} {h : AH} {a : Int} {f : Int → Option (Int × AH)} (hS : SO S RX0 cc) (d : decode cc pc = .ok (.getfield 29, 3)) (kk : ∀ v : Int, Sim S (pc + 3) ls ((2, v) :: st) k n h (f v)) : Sim S pc ls ((2, a) :: st) k n h ((g_f h 1 a 3).bind f) := s_getf hS cx_0 3 (by decide) tw_333 rfl rfl rfl d kk
theorem gf_X0_32 {S : SX} {cc : ByteArray} {pc : Nat} {ls : List (Nat × Nat × Int)} {st : List (Nat × Int)} {k n : Nat} {h : AH} {a : Int} {f : Int → Option (Int × AH)} (hS : SO S RX0 cc) (d : decode cc pc = .ok (.getfield 32, 3)) (kk : ∀ v : Int, Sim S (pc + 3) ls ((2, v) :: st) k n h (f v)) : Sim S pc ls ((2, a) :: st) k n h ((g_f h 1 a 4).bind f) := s_getf hS cx_0 4 (by decide) tw_334 rfl rfl rfl d kk
theorem gf_X0_52 {S : SX} {cc : ByteArray} {pc : Nat} {ls : List (Nat × Nat × Int)} {st : List (Nat × Int)} {k n : Nat} {h : AH} {a : Int} {f : Int → Option (Int × AH)} (hS : SO S RX0 cc) (d : decode cc pc = .ok (.getfield 52, 3)) (kk : ∀ v : Int, Sim S (pc + 3) ls ((0, v) :: st) k n h (f v)) : Sim S pc ls ((2, a) :: st) k n h ((g_f h 1 a 5).bind f) := s_getf hS cx_0 5 (by decide) tw_335 rfl rfl rfl d kk
theorem pf_X0_52 {S : SX} {cc : ByteArray} {pc : Nat} {ls : List (Nat × Nat × Int)} {st : List (Nat × Int)} {k n : Nat} {h : AH} {a v : Int} {f : AH → Option (Int × AH)} (hS : SO S RX0 cc) (d : decode cc pc = .ok (.putfield 52, 3)) (kk : ∀ h2 : AH, Sim S (pc + 3) ls st k n h2 (f h2)) : Sim S pc ls ((0, v) :: (2, a) :: st) k n h ((s_f h 1 a 5 v).bind f) := s_putf hS cx_0 5 (by decide) tw_335 rfl rfl (Or.inl rfl) rfl rfl d kk
theorem gf_X0_55 {S : SX} {cc : ByteArray} {pc : Nat} {ls : List (Nat × Nat × Int)} {st : List (Nat × Int)} {k n : Nat} {h : AH} {a : Int} {f : Int → Option (Int × AH)} (hS : SO S RX0 cc) (d : decode cc pc = .ok (.getfield 55, 3)) (kk : ∀ v : Int, Sim S (pc + 3) ls ((0, v) :: st) k n h (f v)) : Sim S pc ls ((2, a) :: st) k n h ((g_f h 1 a 6).bind f) := s_getf hS cx_0 6 (by decide) tw_337 rfl rfl rfl d kk
theorem pf_X0_55 {S : SX} {cc : ByteArray} {pc : Nat} {ls : List (Nat × Nat × Int)} {st : List (Nat × Int)} {k n : Nat} {h : AH} {a v : Int} {f : AH → Option (Int × AH)} (hS : SO S RX0 cc) (d : decode cc pc = .ok (.putfield 55, 3)) (kk : ∀ h2 : AH, Sim S (pc + 3) ls st k n h2 (f h2)) : Sim S pc ls ((0, v) :: (2, a) :: st) k n h ((s_f h 1 a 6 v).bind f) := s_putf hS cx_0 6 (by decide) tw_337 rfl rfl (Or.inl rfl) rfl rfl d kk
theorem gf_X0_35 {S : SX} {cc : ByteArray} {pc : Nat} {ls : List (Nat × Nat × Int)} {st : List (Nat × Int)} {k n : Nat} {h : AH} {a : Int} {f : Int → Option (Int × AH)} (hS : SO S RX0 cc) (d : decode cc pc = .ok (.getfield 35, 3)) (kk : ∀ v : Int, Sim S (pc + 3) ls ((0, v) :: st) k n h (f v)) : Sim S pc ls ((2, a) :: st) k n h ((g_f h 1 a 7).bind f) := s_getf hS cx_0 7 (by decide) tw_339 rfl rfl rfl d kk
theorem gf_X0_58 {S : SX} {cc : ByteArray} {pc : Nat} {ls : List (Nat × Nat × Int)} {st : List (Nat × Int)} {k n : Nat} {h : AH} {a : Int} {f : Int → Option (Int × AH)} (hS : SO S RX0 cc) (d : decode cc pc = .ok (.getfield 58, 3)) (kk : ∀ v : Int, Sim S (pc + 3) ls ((0, v) :: st) k n h (f v)) : Sim S pc ls ((2, a) :: st) k n h ((g_f h 1 a 8).bind f) := s_getf hS cx_0 8 (by decide) tw_341 rfl rfl rfl d kk
theorem pf_X0_58 {S : SX} {cc : ByteArray} {pc : Nat} {ls : List (Nat × Nat × Int)} {st : List (Nat × Int)} {k n : Nat} {h : AH} {a v : Int} {f : AH → Option (Int × AH)} (hS : SO S RX0 cc) (d : decode cc pc = .ok (.putfield 58, 3)) (kk : ∀ h2 : AH, Sim S (pc + 3) ls st k n h2 (f h2)) : Sim S pc ls ((0, v) :: (2, a) :: st) k n h ((s_fb h 1 a 8 v).bind f) := s_putz hS cx_0 8 (by decide) tw_341 rfl rfl rfl rfl d kk
abbrev S_A_copyFrom (G : GE) (X : SMw) : SX := (G, X, 2, 0, 0, none, 2, 81)
set_option maxRecDepth 100000 in
set_option maxHeartbeats 4000000 in
theorem b_A_copyFrom {G : GE} {X : SMw} (hS : SO (S_A_copyFrom G X) RX0 cX0_copyFrom) (z0 z1 : Int) (h : AH) : Sim (S_A_copyFrom G X) 0 [(0, 2, z0), (1, 2, z1)] [] 0 0 h (f_A_copyFrom z0 z1 h) := by
  unfold f_A_copyFrom
  refine s_aload_n hS dX0_copyFrom_0 rfl 0 rfl ?_
  refine gf_X0_12 hS dX0_copyFrom_1 fun v1 => ?_
  refine s_aload_n hS dX0_copyFrom_4 rfl 1 rfl ?_
  refine gf_X0_12 hS dX0_copyFrom_5 fun v2 => ?_
  refine ca_X0_39 hS ⟨Nat.le_of_ble_eq_true rfl, Nat.le_of_ble_eq_true rfl⟩ ⟨Nat.le_of_ble_eq_true rfl, Nat.le_of_ble_eq_true rfl⟩ (Nat.le_of_ble_eq_true rfl) dX0_copyFrom_8 fun v3 h4 => ?_
  refine s_aload_n hS dX0_copyFrom_11 rfl 0 rfl ?_
  refine gf_X0_21 hS dX0_copyFrom_12 fun v5 => ?_
  refine s_aload_n hS dX0_copyFrom_15 rfl 1 rfl ?_
  refine gf_X0_21 hS dX0_copyFrom_16 fun v6 => ?_
  refine ca_X0_43 hS ⟨Nat.le_of_ble_eq_true rfl, Nat.le_of_ble_eq_true rfl⟩ ⟨Nat.le_of_ble_eq_true rfl, Nat.le_of_ble_eq_true rfl⟩ (Nat.le_of_ble_eq_true rfl) dX0_copyFrom_19 fun v7 h8 => ?_
  refine s_aload_n hS dX0_copyFrom_22 rfl 1 rfl ?_
  refine gf_X0_25 hS dX0_copyFrom_23 fun v9 => ?_
  refine s_iconst hS dX0_copyFrom_26 ?_
  refine s_aload_n hS dX0_copyFrom_27 rfl 0 rfl ?_
  refine gf_X0_25 hS dX0_copyFrom_28 fun v10 => ?_
  refine s_iconst hS dX0_copyFrom_31 ?_
  refine s_bipush hS dX0_copyFrom_32 (by decide +kernel) ?_
  refine s_acopy hS (t := 20) (by decide) tw_1127 tw_715 tw_714 tw_137 ⟨Nat.le_of_ble_eq_true rfl, Nat.le_of_ble_eq_true rfl⟩ (Nat.le_of_ble_eq_true rfl) dX0_copyFrom_34 fun h11 => ?_
  refine s_aload_n hS dX0_copyFrom_37 rfl 1 rfl ?_
  refine gf_X0_29 hS dX0_copyFrom_38 fun v12 => ?_
  refine s_iconst hS dX0_copyFrom_41 ?_
  refine s_aload_n hS dX0_copyFrom_42 rfl 0 rfl ?_
  refine gf_X0_29 hS dX0_copyFrom_43 fun v13 => ?_
  refine s_iconst hS dX0_copyFrom_46 ?_
  refine s_bipush hS dX0_copyFrom_47 (by decide +kernel) ?_
  refine s_acopy hS (t := 20) (by decide) tw_1127 tw_715 tw_714 tw_137 ⟨Nat.le_of_ble_eq_true rfl, Nat.le_of_ble_eq_true rfl⟩ (Nat.le_of_ble_eq_true rfl) dX0_copyFrom_49 fun h14 => ?_
  refine s_aload_n hS dX0_copyFrom_52 rfl 1 rfl ?_
  refine gf_X0_32 hS dX0_copyFrom_53 fun v15 => ?_
  refine s_iconst hS dX0_copyFrom_56 ?_
  refine s_aload_n hS dX0_copyFrom_57 rfl 0 rfl ?_
  refine gf_X0_32 hS dX0_copyFrom_58 fun v16 => ?_
  refine s_iconst hS dX0_copyFrom_61 ?_
  refine s_bipush hS dX0_copyFrom_62 (by decide +kernel) ?_
  refine s_acopy hS (t := 20) (by decide) tw_1127 tw_715 tw_714 tw_137 ⟨Nat.le_of_ble_eq_true rfl, Nat.le_of_ble_eq_true rfl⟩ (Nat.le_of_ble_eq_true rfl) dX0_copyFrom_64 fun h17 => ?_
  refine s_aload_n hS dX0_copyFrom_67 rfl 0 rfl ?_
  refine s_aload_n hS dX0_copyFrom_68 rfl 1 rfl ?_
  refine gf_X0_52 hS dX0_copyFrom_69 fun v18 => ?_
  refine pf_X0_52 hS dX0_copyFrom_72 fun h19 => ?_
  refine s_aload_n hS dX0_copyFrom_75 rfl 0 rfl ?_
  refine s_aload_n hS dX0_copyFrom_76 rfl 1 rfl ?_
  refine gf_X0_55 hS dX0_copyFrom_77 fun v20 => ?_
  refine pf_X0_55 hS dX0_copyFrom_80 fun h21 => ?_
  refine s_aload_n hS dX0_copyFrom_83 rfl 0 rfl ?_
  refine s_aload_n hS dX0_copyFrom_84 rfl 1 rfl ?_
  refine gf_X0_35 hS dX0_copyFrom_85 fun v22 => ?_
  refine pf_X0_35 hS dX0_copyFrom_88 fun h23 => ?_
  refine s_aload_n hS dX0_copyFrom_91 rfl 0 rfl ?_
  refine s_aload_n hS dX0_copyFrom_92 rfl 1 rfl ?_
  refine gf_X0_58 hS dX0_copyFrom_93 fun v24 => ?_
  refine pf_X0_58 hS dX0_copyFrom_96 fun h25 => ?_
  exact s_vret hS rfl (Nat.le_of_ble_eq_true rfl) (Nat.le_of_ble_eq_true rfl) dX0_copyFrom_99
theorem c_A_copyFrom (l : Launch) (G : GE) (z0 z1 : Int) (h : AH) : Con l yX0_copyFrom cX0_copyFrom 2 none 2 81 0 0 G [(2, z0), (2, z1)] h (f_A_copyFrom z0 z1 h) :=
  con_of (by decide +kernel) (Nat.le_of_ble_eq_true rfl) fun X hX hS hi => b_A_copyFrom hS z0 z1 h
abbrev S_A_addNote (G : GE) (X : SMw) : SX := (G, X, 4, 0, 0, (some .boolean), 0, 0)
set_option maxRecDepth 100000 in
set_option maxHeartbeats 4000000 in
theorem b_A_addNote {G : GE} {X : SMw} (hS : SO (S_A_addNote G X) RX0 cX0_addNote) (z0 z1 z2 z3 : Int) (h : AH) : Sim (S_A_addNote G X) 0 [(0, 2, z0), (1, 0, z1), (2, 0, z2), (3, 0, z3)] [] 0 0 h (f_A_addNote z0 z1 z2 z3 h) := by
  unfold f_A_addNote
  refine s_aload_n hS dX0_addNote_0 rfl 0 rfl ?_
  refine gf_X0_52 hS dX0_addNote_1 fun v1 => ?_
  refine s_bipush hS dX0_addNote_4 (by decide +kernel) ?_
  refine s_icmp_lt hS dX0_addNote_6 rfl ?_ ?_
  · refine s_aload_n hS dX0_addNote_11 rfl 0 rfl ?_
    refine gf_X0_25 hS dX0_addNote_12 fun v2 => ?_
    refine s_aload_n hS dX0_addNote_15 rfl 0 rfl ?_
    refine gf_X0_52 hS dX0_addNote_16 fun v3 => ?_
    refine s_iload_n hS dX0_addNote_19 rfl 1 rfl ?_
    refine s_iast hS dX0_addNote_20 fun h4 => ?_
    refine s_aload_n hS dX0_addNote_21 rfl 0 rfl ?_
    refine gf_X0_29 hS dX0_addNote_22 fun v5 => ?_
    refine s_aload_n hS dX0_addNote_25 rfl 0 rfl ?_
    refine gf_X0_52 hS dX0_addNote_26 fun v6 => ?_
    refine s_iload_n hS dX0_addNote_29 rfl 2 rfl ?_
    refine s_iast hS dX0_addNote_30 fun h7 => ?_
    refine s_aload_n hS dX0_addNote_31 rfl 0 rfl ?_
    refine gf_X0_32 hS dX0_addNote_32 fun v8 => ?_
    refine s_aload_n hS dX0_addNote_35 rfl 0 rfl ?_
    refine gf_X0_52 hS dX0_addNote_36 fun v9 => ?_
    refine s_iload_n hS dX0_addNote_39 rfl 3 rfl ?_
    refine s_iast hS dX0_addNote_40 fun h10 => ?_
    refine s_aload_n hS dX0_addNote_41 rfl 0 rfl ?_
    refine s_dup hS dX0_addNote_42 (by decide) ?_
    refine gf_X0_52 hS dX0_addNote_43 fun v11 => ?_
    refine s_iconst hS dX0_addNote_46 ?_
    refine s_iadd hS dX0_addNote_47 ?_
    refine pf_X0_52 hS dX0_addNote_48 fun h12 => ?_
    refine s_iconst hS dX0_addNote_51 ?_
    exact s_zret hS rfl (Nat.le_of_ble_eq_true rfl) (Nat.le_of_ble_eq_true rfl) dX0_addNote_52
  · refine s_iconst hS dX0_addNote_9 ?_
    exact s_zret hS rfl (Nat.le_of_ble_eq_true rfl) (Nat.le_of_ble_eq_true rfl) dX0_addNote_10
theorem c_A_addNote (l : Launch) (G : GE) (z0 z1 z2 z3 : Int) (h : AH) : Con l yX0_addNote cX0_addNote 4 (some .boolean) 0 0 0 0 G [(2, z0), (0, z1), (0, z2), (0, z3)] h (f_A_addNote z0 z1 z2 z3 h) :=
  con_of (by decide +kernel) (Nat.le_of_ble_eq_true rfl) fun X hX hS hi => b_A_addNote hS z0 z1 z2 z3 h
abbrev S_T_canServe (G : GE) (X : SMw) : SX := (G, X, 2, 0, 0, (some .boolean), 0, 0)
set_option maxRecDepth 100000 in
set_option maxHeartbeats 4000000 in
theorem b_T_canServe {G : GE} {X : SMw} (hS : SO (S_T_canServe G X) RX7 cX7_canServe) (z0 z1 : Int) (h : AH) : Sim (S_T_canServe G X) 0 [(0, 2, z0), (1, 0, z1)] [] 0 0 h (f_T_canServe z0 z1 h) := by
  unfold f_T_canServe
  refine s_aload_n hS dX7_canServe_0 rfl 0 rfl ?_
  refine gf_X7_22 hS dX7_canServe_1 fun v1 => ?_
  refine s_iload_n hS dX7_canServe_4 rfl 1 rfl ?_
  refine s_iald hS dX7_canServe_5 fun v2 => ?_
  refine s_if_le hS dX7_canServe_6 rfl ?_ ?_
  · refine s_iconst hS dX7_canServe_24 ?_
    exact s_zret hS rfl (Nat.le_of_ble_eq_true rfl) (Nat.le_of_ble_eq_true rfl) dX7_canServe_25
  · refine s_aload_n hS dX7_canServe_9 rfl 0 rfl ?_
    refine gf_X7_9 hS dX7_canServe_10 fun v3 => ?_
    refine s_iload_n hS dX7_canServe_13 rfl 1 rfl ?_
    refine s_lald hS dX7_canServe_14 fun v4 => ?_
    refine s_lconst0 hS dX7_canServe_15 ?_
    refine s_lcmp hS dX7_canServe_16 ?_
    refine s_if_eq hS dX7_canServe_17 rfl ?_ ?_
    · refine s_iconst hS dX7_canServe_24 ?_
      exact s_zret hS rfl (Nat.le_of_ble_eq_true rfl) (Nat.le_of_ble_eq_true rfl) dX7_canServe_25
    · refine s_iconst hS dX7_canServe_20 ?_
      refine s_goto hS dX7_canServe_21 rfl ?_
      exact s_zret hS rfl (Nat.le_of_ble_eq_true rfl) (Nat.le_of_ble_eq_true rfl) dX7_canServe_25
theorem c_T_canServe (l : Launch) (G : GE) (z0 z1 : Int) (h : AH) : Con l yX7_canServe cX7_canServe 2 (some .boolean) 0 0 0 0 G [(2, z0), (0, z1)] h (f_T_canServe z0 z1 h) :=
  con_of (by decide +kernel) (Nat.le_of_ble_eq_true rfl) fun X hX hS hi => b_T_canServe hS z0 z1 h
theorem ca_X7_62 {S : SX} {cc : ByteArray} {pc : Nat} {ls : List (Nat × Nat × Int)} {st : List (Nat × Int)} {k n : Nat} {h : AH} {q0 b : Int} {f : Int → AH → Option (Int × AH)} (hS : SO S RX7 cc) (hR : 0 + 1 ≤ S.2.2.2.2.2.2.1 ∧ 8 + (2 + 11) + 0 ≤ S.2.2.2.2.2.2.2) (hk : k + 0 ≤ S.2.2.2.1 ∧ n + 0 ≤ S.2.2.2.2.1) (hl : st.length ≤ 4) (d : decode cc pc = .ok (.invokevirtual 62, 3)) (kk : ∀ (r : Int) (h2 : AH), Sim S (pc + 3) ls ((0, r) :: st) (k + 0) (n + 0) h2 (f r h2)) : Sim S pc ls ((0, q0) :: (2, b) :: st) k n h (c_k h 8 b (bd_ (f_T_canServe b q0 h) f)) := s_callV hS mo_X7_canServe rfl rfl (c_T_canServe _ _ _ _ h) tw_838 tw_839 tw_840 hR hk rfl rfl hl d kk
abbrev S_T_serverBits (G : GE) (X : SMw) : SX := (G, X, 3, 0, 0, (some .int), 1, 21)
set_option maxRecDepth 100000 in
set_option maxHeartbeats 4000000 in
theorem B_T_serverBits_4 {G : GE} {X : SMw} (hS : SO (S_T_serverBits G X) RX7 cX7_serverBits) (z0 : Int) {k4 : Int → Int → AH → Option (Int × AH)} (hk4 : ∀ (z1 z2 : Int) (h : AH), Sim (S_T_serverBits G X) 4 [(0, 2, z0), (1, 0, z1), (2, 0, z2)] [] 0 0 h (k4 z1 z2 h)) (z1 z2 : Int) (h : AH) : Sim (S_T_serverBits G X) 4 [(0, 2, z0), (1, 0, z1), (2, 0, z2)] [] 0 0 h (F_T_serverBits_4 z0 k4 z1 z2 h) := by
  unfold F_T_serverBits_4
  refine s_iload_n hS dX7_serverBits_4 rfl 2 rfl ?_
  refine s_aload_n hS dX7_serverBits_5 rfl 0 rfl ?_
  refine gf_X7_34 hS dX7_serverBits_6 fun v1 => ?_
  refine s_icmp_ge hS dX7_serverBits_9 rfl ?_ ?_
  · refine s_iload_n hS dX7_serverBits_32 rfl 1 rfl ?_
    exact s_iret hS rfl (Nat.le_of_ble_eq_true rfl) (Nat.le_of_ble_eq_true rfl) dX7_serverBits_33
  · refine s_aload_n hS dX7_serverBits_12 rfl 0 rfl ?_
    refine s_iload_n hS dX7_serverBits_13 rfl 2 rfl ?_
    refine ca_X7_62 hS ⟨Nat.le_of_ble_eq_true rfl, Nat.le_of_ble_eq_true rfl⟩ ⟨Nat.le_of_ble_eq_true rfl, Nat.le_of_ble_eq_true rfl⟩ (Nat.le_of_ble_eq_true rfl) dX7_serverBits_14 fun v2 h3 => ?_
    refine s_if_eq hS dX7_serverBits_17 rfl ?_ ?_
    · refine s_iinc hS dX7_serverBits_26 2 rfl (Nat.le_of_ble_eq_true rfl) (ls' := [(2, 0, (z2 + 1)), (0, 2, z0), (1, 0, z1)]) rfl ?_
      refine s_goto hS dX7_serverBits_29 rfl ?_
      refine s_ls [1, 2, 0] rfl ?_
      exact hk4 _ _ _
    · refine s_iload_n hS dX7_serverBits_20 rfl 1 rfl ?_
      refine s_iconst hS dX7_serverBits_21 ?_
      refine s_iload_n hS dX7_serverBits_22 rfl 2 rfl ?_
      refine s_ishl hS dX7_serverBits_23 ?_
      refine s_ior hS dX7_serverBits_24 ?_
      refine s_let fun v4 => ?_
      refine s_istore_n hS dX7_serverBits_25 rfl (Nat.le_of_ble_eq_true rfl) (ls' := [(1, 0, v4), (0, 2, z0), (2, 0, z2)]) rfl ?_
      refine s_iinc hS dX7_serverBits_26 2 rfl (Nat.le_of_ble_eq_true rfl) (ls' := [(2, 0, (z2 + 1)), (1, 0, v4), (0, 2, z0)]) rfl ?_
      refine s_goto hS dX7_serverBits_29 rfl ?_
      refine s_ls [2, 1, 0] rfl ?_
      exact hk4 _ _ _
set_option maxRecDepth 100000 in
set_option maxHeartbeats 4000000 in
theorem b_T_serverBits_4 {G : GE} {X : SMw} (hS : SO (S_T_serverBits G X) RX7 cX7_serverBits) (z0 : Int) (z1 z2 : Int) (h : AH) : Sim (S_T_serverBits G X) 4 [(0, 2, z0), (1, 0, z1), (2, 0, z2)] [] 0 0 h (f_T_serverBits_4 z0 z1 z2 h) := by
  exact s_loop (S := (S_T_serverBits G X)) (lsf := fun s : Int × Int × AH => [(0, 2, z0), (1, 0, s.1), (2, 0, s.2.1)]) (hf := fun s => s.2.2) (fun kf hkf s => B_T_serverBits_4 hS z0 (fun a0 a1 a2 => hkf (a0, a1, a2)) s.1 s.2.1 s.2.2) fu_ (z1, z2, h)
set_option maxRecDepth 100000 in
set_option maxHeartbeats 4000000 in
theorem b_T_serverBits {G : GE} {X : SMw} (hS : SO (S_T_serverBits G X) RX7 cX7_serverBits) (z0 : Int) (h : AH) : Sim (S_T_serverBits G X) 0 [(0, 2, z0)] [] 0 0 h (f_T_serverBits z0 h) := by
  unfold f_T_serverBits
  refine s_iconst hS dX7_serverBits_0 ?_
  refine s_istore_n hS dX7_serverBits_1 rfl (Nat.le_of_ble_eq_true rfl) (ls' := [(1, 0, 0), (0, 2, z0)]) rfl ?_
  refine s_iconst hS dX7_serverBits_2 ?_
  refine s_istore_n hS dX7_serverBits_3 rfl (Nat.le_of_ble_eq_true rfl) (ls' := [(2, 0, 0), (1, 0, 0), (0, 2, z0)]) rfl ?_
  refine s_ls [2, 1, 0] rfl ?_
  exact b_T_serverBits_4 hS _ _ _ _
theorem c_T_serverBits (l : Launch) (G : GE) (z0 : Int) (h : AH) : Con l yX7_serverBits cX7_serverBits 3 (some .int) 1 21 0 0 G [(2, z0)] h (f_T_serverBits z0 h) :=
  con_of (by decide +kernel) (Nat.le_of_ble_eq_true rfl) fun X hX hS hi => b_T_serverBits hS z0 h
abbrev S_J6_numberOfTrailingZeros_0f7a4 (G : GE) (X : SMw) : SX := (G, X, 2, 0, 0, (some .int), 0, 0)
set_option maxRecDepth 100000 in
set_option maxHeartbeats 4000000 in
theorem b_J6_numberOfTrailingZeros_0f7a4_62 {G : GE} {X : SMw} (hS : SO (S_J6_numberOfTrailingZeros_0f7a4 G X) RJ6 cJ6_numberOfTrailingZeros_0f7a4) (z0 z1 : Int) (h : AH) : Sim (S_J6_numberOfTrailingZeros_0f7a4 G X) 62 [(0, 0, z0), (1, 0, z1)] [] 0 0 h (f_J6_numberOfTrailingZeros_0f7a4_62 z0 z1 h) := by
  unfold f_J6_numberOfTrailingZeros_0f7a4_62
  refine s_iload_n hS dJ6_numberOfTrailingZeros_0f7a4_62 rfl 0 rfl ?_
  refine s_iconst hS dJ6_numberOfTrailingZeros_0f7a4_63 ?_
  refine s_icmp_le hS dJ6_numberOfTrailingZeros_0f7a4_64 rfl ?_ ?_
  · refine s_iload_n hS dJ6_numberOfTrailingZeros_0f7a4_74 rfl 1 rfl ?_
    refine s_iload_n hS dJ6_numberOfTrailingZeros_0f7a4_75 rfl 0 rfl ?_
    refine s_iconst hS dJ6_numberOfTrailingZeros_0f7a4_76 ?_
    refine s_iushr hS dJ6_numberOfTrailingZeros_0f7a4_77 ?_
    refine s_iadd hS dJ6_numberOfTrailingZeros_0f7a4_78 ?_
    exact s_iret hS rfl (Nat.le_of_ble_eq_true rfl) (Nat.le_of_ble_eq_true rfl) dJ6_numberOfTrailingZeros_0f7a4_79
  · refine s_iinc hS dJ6_numberOfTrailingZeros_0f7a4_67 1 rfl (Nat.le_of_ble_eq_true rfl) (ls' := [(1, 0, (z1 + 2)), (0, 0, z0)]) rfl ?_
    refine s_iload_n hS dJ6_numberOfTrailingZeros_0f7a4_70 rfl 1 rfl ?_
    refine s_iconst hS dJ6_numberOfTrailingZeros_0f7a4_71 ?_
    refine s_iushr hS dJ6_numberOfTrailingZeros_0f7a4_72 ?_
    refine s_let fun v1 => ?_
    refine s_istore_n hS dJ6_numberOfTrailingZeros_0f7a4_73 rfl (Nat.le_of_ble_eq_true rfl) (ls' := [(0, 0, v1), (1, 0, (z1 + 2))]) rfl ?_
    refine s_iload_n hS dJ6_numberOfTrailingZeros_0f7a4_74 rfl 1 rfl ?_
    refine s_iload_n hS dJ6_numberOfTrailingZeros_0f7a4_75 rfl 0 rfl ?_
    refine s_iconst hS dJ6_numberOfTrailingZeros_0f7a4_76 ?_
    refine s_iushr hS dJ6_numberOfTrailingZeros_0f7a4_77 ?_
    refine s_iadd hS dJ6_numberOfTrailingZeros_0f7a4_78 ?_
    exact s_iret hS rfl (Nat.le_of_ble_eq_true rfl) (Nat.le_of_ble_eq_true rfl) dJ6_numberOfTrailingZeros_0f7a4_79
set_option maxRecDepth 100000 in
set_option maxHeartbeats 4000000 in
theorem b_J6_numberOfTrailingZeros_0f7a4_49 {G : GE} {X : SMw} (hS : SO (S_J6_numberOfTrailingZeros_0f7a4 G X) RJ6 cJ6_numberOfTrailingZeros_0f7a4) (z0 z1 : Int) (h : AH) : Sim (S_J6_numberOfTrailingZeros_0f7a4 G X) 49 [(0, 0, z0), (1, 0, z1)] [] 0 0 h (f_J6_numberOfTrailingZeros_0f7a4_49 z0 z1 h) := by
  unfold f_J6_numberOfTrailingZeros_0f7a4_49
  refine s_iload_n hS dJ6_numberOfTrailingZeros_0f7a4_49 rfl 0 rfl ?_
  refine s_bipush hS dJ6_numberOfTrailingZeros_0f7a4_50 (by decide +kernel) ?_
  refine s_icmp_le hS dJ6_numberOfTrailingZeros_0f7a4_52 rfl ?_ ?_
  · exact b_J6_numberOfTrailingZeros_0f7a4_62 hS _ _ _
  · refine s_iinc hS dJ6_numberOfTrailingZeros_0f7a4_55 1 rfl (Nat.le_of_ble_eq_true rfl) (ls' := [(1, 0, (z1 + 4)), (0, 0, z0)]) rfl ?_
    refine s_iload_n hS dJ6_numberOfTrailingZeros_0f7a4_58 rfl 1 rfl ?_
    refine s_iconst hS dJ6_numberOfTrailingZeros_0f7a4_59 ?_
    refine s_iushr hS dJ6_numberOfTrailingZeros_0f7a4_60 ?_
    refine s_let fun v1 => ?_
    refine s_istore_n hS dJ6_numberOfTrailingZeros_0f7a4_61 rfl (Nat.le_of_ble_eq_true rfl) (ls' := [(0, 0, v1), (1, 0, (z1 + 4))]) rfl ?_
    exact b_J6_numberOfTrailingZeros_0f7a4_62 hS _ _ _
set_option maxRecDepth 100000 in
set_option maxHeartbeats 4000000 in
theorem b_J6_numberOfTrailingZeros_0f7a4_34 {G : GE} {X : SMw} (hS : SO (S_J6_numberOfTrailingZeros_0f7a4 G X) RJ6 cJ6_numberOfTrailingZeros_0f7a4) (z0 z1 : Int) (h : AH) : Sim (S_J6_numberOfTrailingZeros_0f7a4 G X) 34 [(0, 0, z0), (1, 0, z1)] [] 0 0 h (f_J6_numberOfTrailingZeros_0f7a4_34 z0 z1 h) := by
  unfold f_J6_numberOfTrailingZeros_0f7a4_34
  refine s_iload_n hS dJ6_numberOfTrailingZeros_0f7a4_34 rfl 0 rfl ?_
  refine s_sipush hS dJ6_numberOfTrailingZeros_0f7a4_35 (by decide +kernel) ?_
  refine s_icmp_le hS dJ6_numberOfTrailingZeros_0f7a4_38 rfl ?_ ?_
  · exact b_J6_numberOfTrailingZeros_0f7a4_49 hS _ _ _
  · refine s_iinc hS dJ6_numberOfTrailingZeros_0f7a4_41 1 rfl (Nat.le_of_ble_eq_true rfl) (ls' := [(1, 0, (z1 + 8)), (0, 0, z0)]) rfl ?_
    refine s_iload_n hS dJ6_numberOfTrailingZeros_0f7a4_44 rfl 1 rfl ?_
    refine s_bipush hS dJ6_numberOfTrailingZeros_0f7a4_45 (by decide +kernel) ?_
    refine s_iushr hS dJ6_numberOfTrailingZeros_0f7a4_47 ?_
    refine s_let fun v1 => ?_
    refine s_istore_n hS dJ6_numberOfTrailingZeros_0f7a4_48 rfl (Nat.le_of_ble_eq_true rfl) (ls' := [(0, 0, v1), (1, 0, (z1 + 8))]) rfl ?_
    exact b_J6_numberOfTrailingZeros_0f7a4_49 hS _ _ _
set_option maxRecDepth 100000 in
set_option maxHeartbeats 4000000 in
theorem b_J6_numberOfTrailingZeros_0f7a4 {G : GE} {X : SMw} (hS : SO (S_J6_numberOfTrailingZeros_0f7a4 G X) RJ6 cJ6_numberOfTrailingZeros_0f7a4) (z0 : Int) (h : AH) : Sim (S_J6_numberOfTrailingZeros_0f7a4 G X) 0 [(0, 0, z0)] [] 0 0 h (f_J6_numberOfTrailingZeros_0f7a4 z0 h) := by
  unfold f_J6_numberOfTrailingZeros_0f7a4
  refine s_iload_n hS dJ6_numberOfTrailingZeros_0f7a4_0 rfl 0 rfl ?_
  refine s_iconst hS dJ6_numberOfTrailingZeros_0f7a4_1 ?_
  refine s_ixor hS dJ6_numberOfTrailingZeros_0f7a4_2 ?_
  refine s_iload_n hS dJ6_numberOfTrailingZeros_0f7a4_3 rfl 0 rfl ?_
  refine s_iconst hS dJ6_numberOfTrailingZeros_0f7a4_4 ?_
  refine s_isub hS dJ6_numberOfTrailingZeros_0f7a4_5 ?_
  refine s_iand hS dJ6_numberOfTrailingZeros_0f7a4_6 ?_
  refine s_let fun v1 => ?_
  refine s_istore_n hS dJ6_numberOfTrailingZeros_0f7a4_7 rfl (Nat.le_of_ble_eq_true rfl) (ls' := [(0, 0, v1)]) rfl ?_
  refine s_iload_n hS dJ6_numberOfTrailingZeros_0f7a4_8 rfl 0 rfl ?_
  refine s_if_gt hS dJ6_numberOfTrailingZeros_0f7a4_9 rfl ?_ ?_
  · refine s_iconst hS dJ6_numberOfTrailingZeros_0f7a4_17 ?_
    refine s_istore_n hS dJ6_numberOfTrailingZeros_0f7a4_18 rfl (Nat.le_of_ble_eq_true rfl) (ls' := [(1, 0, 1), (0, 0, v1)]) rfl ?_
    refine s_iload_n hS dJ6_numberOfTrailingZeros_0f7a4_19 rfl 1 rfl ?_
    refine s_ldcw hS (z := 65536) tw_787 (by decide +kernel) dJ6_numberOfTrailingZeros_0f7a4_20 ?_
    refine s_icmp_le hS dJ6_numberOfTrailingZeros_0f7a4_23 rfl ?_ ?_
    · refine s_ls [1, 0] rfl ?_
      exact b_J6_numberOfTrailingZeros_0f7a4_34 hS _ _ _
    · refine s_iinc hS dJ6_numberOfTrailingZeros_0f7a4_26 0 rfl (Nat.le_of_ble_eq_true rfl) (ls' := [(1, 0, (1 + 16)), (0, 0, v1)]) rfl ?_
      refine s_iload_n hS dJ6_numberOfTrailingZeros_0f7a4_29 rfl 1 rfl ?_
      refine s_bipush hS dJ6_numberOfTrailingZeros_0f7a4_30 (by decide +kernel) ?_
      refine s_iushr hS dJ6_numberOfTrailingZeros_0f7a4_32 ?_
      refine s_let fun v2 => ?_
      refine s_istore_n hS dJ6_numberOfTrailingZeros_0f7a4_33 rfl (Nat.le_of_ble_eq_true rfl) (ls' := [(0, 0, v2), (1, 0, (1 + 16))]) rfl ?_
      exact b_J6_numberOfTrailingZeros_0f7a4_34 hS _ _ _
  · refine s_iload_n hS dJ6_numberOfTrailingZeros_0f7a4_12 rfl 0 rfl ?_
    refine s_bipush hS dJ6_numberOfTrailingZeros_0f7a4_13 (by decide +kernel) ?_
    refine s_iand hS dJ6_numberOfTrailingZeros_0f7a4_15 ?_
    exact s_iret hS rfl (Nat.le_of_ble_eq_true rfl) (Nat.le_of_ble_eq_true rfl) dJ6_numberOfTrailingZeros_0f7a4_16
theorem c_J6_numberOfTrailingZeros_0f7a4 (l : Launch) (G : GE) (z0 : Int) (h : AH) : Con l yJ6_numberOfTrailingZeros_0f7a4 cJ6_numberOfTrailingZeros_0f7a4 2 (some .int) 0 0 0 0 G [(0, z0)] h (f_J6_numberOfTrailingZeros_0f7a4 z0 h) :=
  con_of (by decide +kernel) (Nat.le_of_ble_eq_true rfl) fun X hX hS hi => b_J6_numberOfTrailingZeros_0f7a4 hS z0 h
abbrev S_J13_bitCount_95d88 (G : GE) (X : SMw) : SX := (G, X, 2, 0, 0, (some .int), 0, 0)
set_option maxRecDepth 100000 in
set_option maxHeartbeats 4000000 in
theorem b_J13_bitCount_95d88 {G : GE} {X : SMw} (hS : SO (S_J13_bitCount_95d88 G X) RJ13 cJ13_bitCount_95d88) (z0 : Int) (h : AH) : Sim (S_J13_bitCount_95d88 G X) 0 [(0, 1, z0)] [] 0 0 h (f_J13_bitCount_95d88 z0 h) := by
  unfold f_J13_bitCount_95d88
  refine s_lload_n hS dJ13_bitCount_95d88_0 rfl 0 rfl ?_
  refine s_lload_n hS dJ13_bitCount_95d88_1 rfl 0 rfl ?_
  refine s_iconst hS dJ13_bitCount_95d88_2 ?_
  refine s_lushr hS dJ13_bitCount_95d88_3 ?_
  refine s_ldc2 hS (z := 6148914691236517205) tw_605 (by decide +kernel) dJ13_bitCount_95d88_4 ?_
  refine s_land hS dJ13_bitCount_95d88_7 ?_
  refine s_lsub hS dJ13_bitCount_95d88_8 ?_
  refine s_let fun v1 => ?_
  refine s_lstore_n hS dJ13_bitCount_95d88_9 rfl (Nat.le_of_ble_eq_true rfl) (ls' := [(0, 1, v1)]) rfl ?_
  refine s_lload_n hS dJ13_bitCount_95d88_10 rfl 0 rfl ?_
  refine s_ldc2 hS (z := 3689348814741910323) tw_606 (by decide +kernel) dJ13_bitCount_95d88_11 ?_
  refine s_land hS dJ13_bitCount_95d88_14 ?_
  refine s_lload_n hS dJ13_bitCount_95d88_15 rfl 0 rfl ?_
  refine s_iconst hS dJ13_bitCount_95d88_16 ?_
  refine s_lushr hS dJ13_bitCount_95d88_17 ?_
  refine s_ldc2 hS (z := 3689348814741910323) tw_606 (by decide +kernel) dJ13_bitCount_95d88_18 ?_
  refine s_land hS dJ13_bitCount_95d88_21 ?_
  refine s_ladd hS dJ13_bitCount_95d88_22 ?_
  refine s_let fun v2 => ?_
  refine s_lstore_n hS dJ13_bitCount_95d88_23 rfl (Nat.le_of_ble_eq_true rfl) (ls' := [(0, 1, v2)]) rfl ?_
  refine s_lload_n hS dJ13_bitCount_95d88_24 rfl 0 rfl ?_
  refine s_lload_n hS dJ13_bitCount_95d88_25 rfl 0 rfl ?_
  refine s_iconst hS dJ13_bitCount_95d88_26 ?_
  refine s_lushr hS dJ13_bitCount_95d88_27 ?_
  refine s_ladd hS dJ13_bitCount_95d88_28 ?_
  refine s_ldc2 hS (z := 1085102592571150095) tw_607 (by decide +kernel) dJ13_bitCount_95d88_29 ?_
  refine s_land hS dJ13_bitCount_95d88_32 ?_
  refine s_let fun v3 => ?_
  refine s_lstore_n hS dJ13_bitCount_95d88_33 rfl (Nat.le_of_ble_eq_true rfl) (ls' := [(0, 1, v3)]) rfl ?_
  refine s_lload_n hS dJ13_bitCount_95d88_34 rfl 0 rfl ?_
  refine s_lload_n hS dJ13_bitCount_95d88_35 rfl 0 rfl ?_
  refine s_bipush hS dJ13_bitCount_95d88_36 (by decide +kernel) ?_
  refine s_lushr hS dJ13_bitCount_95d88_38 ?_
  refine s_ladd hS dJ13_bitCount_95d88_39 ?_
  refine s_let fun v4 => ?_
  refine s_lstore_n hS dJ13_bitCount_95d88_40 rfl (Nat.le_of_ble_eq_true rfl) (ls' := [(0, 1, v4)]) rfl ?_
  refine s_lload_n hS dJ13_bitCount_95d88_41 rfl 0 rfl ?_
  refine s_lload_n hS dJ13_bitCount_95d88_42 rfl 0 rfl ?_
  refine s_bipush hS dJ13_bitCount_95d88_43 (by decide +kernel) ?_
  refine s_lushr hS dJ13_bitCount_95d88_45 ?_
  refine s_ladd hS dJ13_bitCount_95d88_46 ?_
  refine s_let fun v5 => ?_
  refine s_lstore_n hS dJ13_bitCount_95d88_47 rfl (Nat.le_of_ble_eq_true rfl) (ls' := [(0, 1, v5)]) rfl ?_
  refine s_lload_n hS dJ13_bitCount_95d88_48 rfl 0 rfl ?_
  refine s_lload_n hS dJ13_bitCount_95d88_49 rfl 0 rfl ?_
  refine s_bipush hS dJ13_bitCount_95d88_50 (by decide +kernel) ?_
  refine s_lushr hS dJ13_bitCount_95d88_52 ?_
  refine s_ladd hS dJ13_bitCount_95d88_53 ?_
  refine s_let fun v6 => ?_
  refine s_lstore_n hS dJ13_bitCount_95d88_54 rfl (Nat.le_of_ble_eq_true rfl) (ls' := [(0, 1, v6)]) rfl ?_
  refine s_lload_n hS dJ13_bitCount_95d88_55 rfl 0 rfl ?_
  refine s_l2i hS dJ13_bitCount_95d88_56 ?_
  refine s_bipush hS dJ13_bitCount_95d88_57 (by decide +kernel) ?_
  refine s_iand hS dJ13_bitCount_95d88_59 ?_
  exact s_iret hS rfl (Nat.le_of_ble_eq_true rfl) (Nat.le_of_ble_eq_true rfl) dJ13_bitCount_95d88_60
theorem c_J13_bitCount_95d88 (l : Launch) (G : GE) (z0 : Int) (h : AH) : Con l yJ13_bitCount_95d88 cJ13_bitCount_95d88 2 (some .int) 0 0 0 0 G [(1, z0)] h (f_J13_bitCount_95d88 z0 h) :=
  con_of (by decide +kernel) (Nat.le_of_ble_eq_true rfl) fun X hX hS hi => b_J13_bitCount_95d88 hS z0 h
theorem ca_X7_41 {S : SX} {cc : ByteArray} {pc : Nat} {ls : List (Nat × Nat × Int)} {st : List (Nat × Int)} {k n : Nat} {h : AH} {q0 : Int} {f : Int → AH → Option (Int × AH)} (hS : SO S RX7 cc) (hR : 0 + 1 ≤ S.2.2.2.2.2.2.1 ∧ 8 + (2 + 11) + 0 ≤ S.2.2.2.2.2.2.2) (hk : k + 0 ≤ S.2.2.2.1 ∧ n + 0 ≤ S.2.2.2.2.1) (hl : st.length ≤ 4) (d : decode cc pc = .ok (.invokestatic 41, 3)) (kk : ∀ (r : Int) (h2 : AH), Sim S (pc + 3) ls ((0, r) :: st) (k + 0) (n + 0) h2 (f r h2)) : Sim S pc ls ((1, q0) :: st) k n h (bd_ (f_J13_bitCount_95d88 q0 h) f) := s_callS hS mo_J13_bitCount_95d88 (c_J13_bitCount_95d88 _ _ _ h) tw_747 tw_603 hR hk rfl rfl hl d kk
abbrev S_T_numberOf (G : GE) (X : SMw) : SX := (G, X, 3, 0, 0, (some .int), 1, 21)
set_option maxRecDepth 100000 in
set_option maxHeartbeats 4000000 in
theorem b_T_numberOf {G : GE} {X : SMw} (hS : SO (S_T_numberOf G X) RX7 cX7_numberOf) (z0 z1 z2 : Int) (h : AH) : Sim (S_T_numberOf G X) 0 [(0, 2, z0), (1, 0, z1), (2, 0, z2)] [] 0 0 h (f_T_numberOf z0 z1 z2 h) := by
  unfold f_T_numberOf
  refine s_iload_n hS dX7_numberOf_0 rfl 2 rfl ?_
  refine s_swI hS 0 dX7_numberOf_1 (by decide) (by decide) rfl rfl ?_ fun e0 => ?_
  · refine s_aload_n hS dX7_numberOf_32 rfl 0 rfl ?_
    refine gf_X7_9 hS dX7_numberOf_33 fun v1 => ?_
    refine s_iload_n hS dX7_numberOf_36 rfl 1 rfl ?_
    refine s_lald hS dX7_numberOf_37 fun v2 => ?_
    refine ca_X7_41 hS ⟨Nat.le_of_ble_eq_true rfl, Nat.le_of_ble_eq_true rfl⟩ ⟨Nat.le_of_ble_eq_true rfl, Nat.le_of_ble_eq_true rfl⟩ (Nat.le_of_ble_eq_true rfl) dX7_numberOf_38 fun v3 h4 => ?_
    exact s_iret hS rfl (Nat.le_of_ble_eq_true rfl) (Nat.le_of_ble_eq_true rfl) dX7_numberOf_41
  refine s_swI hS 1 dX7_numberOf_1 (by decide) (by decide) rfl rfl ?_ fun e1 => ?_
  · refine s_aload_n hS dX7_numberOf_42 rfl 0 rfl ?_
    refine gf_X7_15 hS dX7_numberOf_43 fun v5 => ?_
    refine s_iload_n hS dX7_numberOf_46 rfl 1 rfl ?_
    refine s_iald hS dX7_numberOf_47 fun v6 => ?_
    exact s_iret hS rfl (Nat.le_of_ble_eq_true rfl) (Nat.le_of_ble_eq_true rfl) dX7_numberOf_48
  refine s_swI hS 2 dX7_numberOf_1 (by decide) (by decide) rfl rfl ?_ fun e2 => ?_
  · refine s_aload_n hS dX7_numberOf_49 rfl 0 rfl ?_
    refine gf_X7_19 hS dX7_numberOf_50 fun v7 => ?_
    refine s_iload_n hS dX7_numberOf_53 rfl 1 rfl ?_
    refine s_iald hS dX7_numberOf_54 fun v8 => ?_
    exact s_iret hS rfl (Nat.le_of_ble_eq_true rfl) (Nat.le_of_ble_eq_true rfl) dX7_numberOf_55
  refine s_swI hS 3 dX7_numberOf_1 (by decide) (by decide) rfl rfl ?_ fun e3 => ?_
  · refine s_aload_n hS dX7_numberOf_56 rfl 0 rfl ?_
    refine gf_X7_22 hS dX7_numberOf_57 fun v9 => ?_
    refine s_iload_n hS dX7_numberOf_60 rfl 1 rfl ?_
    refine s_iald hS dX7_numberOf_61 fun v10 => ?_
    exact s_iret hS rfl (Nat.le_of_ble_eq_true rfl) (Nat.le_of_ble_eq_true rfl) dX7_numberOf_62
  refine s_swO hS dX7_numberOf_1 (by omega) rfl ?_
  refine s_iconst hS dX7_numberOf_63 ?_
  exact s_iret hS rfl (Nat.le_of_ble_eq_true rfl) (Nat.le_of_ble_eq_true rfl) dX7_numberOf_64
theorem c_T_numberOf (l : Launch) (G : GE) (z0 z1 z2 : Int) (h : AH) : Con l yX7_numberOf cX7_numberOf 3 (some .int) 1 21 0 0 G [(2, z0), (0, z1), (0, z2)] h (f_T_numberOf z0 z1 z2 h) :=
  con_of (by decide +kernel) (Nat.le_of_ble_eq_true rfl) fun X hX hS hi => b_T_numberOf hS z0 z1 z2 h
theorem ca_X7_47 {S : SX} {cc : ByteArray} {pc : Nat} {ls : List (Nat × Nat × Int)} {st : List (Nat × Int)} {k n : Nat} {h : AH} {q0 q1 b : Int} {f : Int → AH → Option (Int × AH)} (hS : SO S RX7 cc) (hR : 1 + 1 ≤ S.2.2.2.2.2.2.1 ∧ 8 + (3 + 11) + 21 ≤ S.2.2.2.2.2.2.2) (hk : k + 0 ≤ S.2.2.2.1 ∧ n + 0 ≤ S.2.2.2.2.1) (hl : st.length ≤ 4) (d : decode cc pc = .ok (.invokevirtual 47, 3)) (kk : ∀ (r : Int) (h2 : AH), Sim S (pc + 3) ls ((0, r) :: st) (k + 0) (n + 0) h2 (f r h2)) : Sim S pc ls ((0, q1) :: (0, q0) :: (2, b) :: st) k n h (c_k h 8 b (bd_ (f_T_numberOf b q0 q1 h) f)) := s_callV hS mo_X7_numberOf rfl rfl (c_T_numberOf _ _ _ _ _ h) tw_847 tw_744 tw_745 hR hk rfl rfl hl d kk
abbrev S_T_sumOf (G : GE) (X : SMw) : SX := (G, X, 4, 0, 0, (some .int), 2, 43)
set_option maxRecDepth 100000 in
set_option maxHeartbeats 4000000 in
theorem B_T_sumOf_4 {G : GE} {X : SMw} (hS : SO (S_T_sumOf G X) RX7 cX7_sumOf) (z0 z1 : Int) {k4 : Int → Int → AH → Option (Int × AH)} (hk4 : ∀ (z2 z3 : Int) (h : AH), Sim (S_T_sumOf G X) 4 [(0, 2, z0), (1, 0, z1), (2, 0, z2), (3, 0, z3)] [] 0 0 h (k4 z2 z3 h)) (z2 z3 : Int) (h : AH) : Sim (S_T_sumOf G X) 4 [(0, 2, z0), (1, 0, z1), (2, 0, z2), (3, 0, z3)] [] 0 0 h (F_T_sumOf_4 z0 z1 k4 z2 z3 h) := by
  unfold F_T_sumOf_4
  refine s_iload_n hS dX7_sumOf_4 rfl 3 rfl ?_
  refine s_aload_n hS dX7_sumOf_5 rfl 0 rfl ?_
  refine gf_X7_34 hS dX7_sumOf_6 fun v1 => ?_
  refine s_icmp_ge hS dX7_sumOf_9 rfl ?_ ?_
  · refine s_iload_n hS dX7_sumOf_27 rfl 2 rfl ?_
    exact s_iret hS rfl (Nat.le_of_ble_eq_true rfl) (Nat.le_of_ble_eq_true rfl) dX7_sumOf_28
  · refine s_iload_n hS dX7_sumOf_12 rfl 2 rfl ?_
    refine s_aload_n hS dX7_sumOf_13 rfl 0 rfl ?_
    refine s_iload_n hS dX7_sumOf_14 rfl 3 rfl ?_
    refine s_iload_n hS dX7_sumOf_15 rfl 1 rfl ?_
    refine ca_X7_47 hS ⟨Nat.le_of_ble_eq_true rfl, Nat.le_of_ble_eq_true rfl⟩ ⟨Nat.le_of_ble_eq_true rfl, Nat.le_of_ble_eq_true rfl⟩ (Nat.le_of_ble_eq_true rfl) dX7_sumOf_16 fun v2 h3 => ?_
    refine s_iadd hS dX7_sumOf_19 ?_
    refine s_let fun v4 => ?_
    refine s_istore_n hS dX7_sumOf_20 rfl (Nat.le_of_ble_eq_true rfl) (ls' := [(2, 0, v4), (0, 2, z0), (1, 0, z1), (3, 0, z3)]) rfl ?_
    refine s_iinc hS dX7_sumOf_21 3 rfl (Nat.le_of_ble_eq_true rfl) (ls' := [(3, 0, (z3 + 1)), (2, 0, v4), (0, 2, z0), (1, 0, z1)]) rfl ?_
    refine s_goto hS dX7_sumOf_24 rfl ?_
    refine s_ls [2, 3, 1, 0] rfl ?_
    exact hk4 _ _ _
set_option maxRecDepth 100000 in
set_option maxHeartbeats 4000000 in
theorem b_T_sumOf_4 {G : GE} {X : SMw} (hS : SO (S_T_sumOf G X) RX7 cX7_sumOf) (z0 z1 : Int) (z2 z3 : Int) (h : AH) : Sim (S_T_sumOf G X) 4 [(0, 2, z0), (1, 0, z1), (2, 0, z2), (3, 0, z3)] [] 0 0 h (f_T_sumOf_4 z0 z1 z2 z3 h) := by
  exact s_loop (S := (S_T_sumOf G X)) (lsf := fun s : Int × Int × AH => [(0, 2, z0), (1, 0, z1), (2, 0, s.1), (3, 0, s.2.1)]) (hf := fun s => s.2.2) (fun kf hkf s => B_T_sumOf_4 hS z0 z1 (fun a0 a1 a2 => hkf (a0, a1, a2)) s.1 s.2.1 s.2.2) fu_ (z2, z3, h)
set_option maxRecDepth 100000 in
set_option maxHeartbeats 4000000 in
theorem b_T_sumOf {G : GE} {X : SMw} (hS : SO (S_T_sumOf G X) RX7 cX7_sumOf) (z0 z1 : Int) (h : AH) : Sim (S_T_sumOf G X) 0 [(0, 2, z0), (1, 0, z1)] [] 0 0 h (f_T_sumOf z0 z1 h) := by
  unfold f_T_sumOf
  refine s_iconst hS dX7_sumOf_0 ?_
  refine s_istore_n hS dX7_sumOf_1 rfl (Nat.le_of_ble_eq_true rfl) (ls' := [(2, 0, 0), (0, 2, z0), (1, 0, z1)]) rfl ?_
  refine s_iconst hS dX7_sumOf_2 ?_
  refine s_istore_n hS dX7_sumOf_3 rfl (Nat.le_of_ble_eq_true rfl) (ls' := [(3, 0, 0), (2, 0, 0), (0, 2, z0), (1, 0, z1)]) rfl ?_
  refine s_ls [2, 3, 1, 0] rfl ?_
  exact b_T_sumOf_4 hS _ _ _ _ _
theorem c_T_sumOf (l : Launch) (G : GE) (z0 z1 : Int) (h : AH) : Con l yX7_sumOf cX7_sumOf 4 (some .int) 2 43 0 0 G [(2, z0), (0, z1)] h (f_T_sumOf z0 z1 h) :=
  con_of (by decide +kernel) (Nat.le_of_ble_eq_true rfl) fun X hX hS hi => b_T_sumOf hS z0 z1 h
theorem ca_J13_311 {S : SX} {cc : ByteArray} {pc : Nat} {ls : List (Nat × Nat × Int)} {st : List (Nat × Int)} {k n : Nat} {h : AH} {q0 : Int} {f : Int → AH → Option (Int × AH)} (hS : SO S RJ13 cc) (hR : 0 + 1 ≤ S.2.2.2.2.2.2.1 ∧ 8 + (2 + 11) + 0 ≤ S.2.2.2.2.2.2.2) (hk : k + 0 ≤ S.2.2.2.1 ∧ n + 0 ≤ S.2.2.2.2.1) (hl : st.length ≤ 4) (d : decode cc pc = .ok (.invokestatic 311, 3)) (kk : ∀ (r : Int) (h2 : AH), Sim S (pc + 3) ls ((0, r) :: st) (k + 0) (n + 0) h2 (f r h2)) : Sim S pc ls ((0, q0) :: st) k n h (bd_ (f_J6_numberOfTrailingZeros_0f7a4 q0 h) f) := s_callS hS mo_J6_numberOfTrailingZeros_0f7a4 (c_J6_numberOfTrailingZeros_0f7a4 _ _ _ h) tw_784 tw_785 hR hk rfl rfl hl d kk
abbrev S_J13_numberOfTrailingZeros_95d88 (G : GE) (X : SMw) : SX := (G, X, 3, 0, 0, (some .int), 1, 21)
set_option maxRecDepth 100000 in
set_option maxHeartbeats 4000000 in
theorem b_J13_numberOfTrailingZeros_95d88 {G : GE} {X : SMw} (hS : SO (S_J13_numberOfTrailingZeros_95d88 G X) RJ13 cJ13_numberOfTrailingZeros_95d88) (z0 : Int) (h : AH) : Sim (S_J13_numberOfTrailingZeros_95d88 G X) 0 [(0, 1, z0)] [] 0 0 h (f_J13_numberOfTrailingZeros_95d88 z0 h) := by
  unfold f_J13_numberOfTrailingZeros_95d88
  refine s_lload_n hS dJ13_numberOfTrailingZeros_95d88_0 rfl 0 rfl ?_
  refine s_l2i hS dJ13_numberOfTrailingZeros_95d88_1 ?_
  refine s_let fun v1 => ?_
  refine s_istore_n hS dJ13_numberOfTrailingZeros_95d88_2 rfl (Nat.le_of_ble_eq_true rfl) (ls' := [(2, 0, v1), (0, 1, z0)]) rfl ?_
  refine s_iload_n hS dJ13_numberOfTrailingZeros_95d88_3 rfl 0 rfl ?_
  refine s_if_ne hS dJ13_numberOfTrailingZeros_95d88_4 rfl ?_ ?_
  · refine s_iload_n hS dJ13_numberOfTrailingZeros_95d88_21 rfl 0 rfl ?_
    refine ca_J13_311 hS ⟨Nat.le_of_ble_eq_true rfl, Nat.le_of_ble_eq_true rfl⟩ ⟨Nat.le_of_ble_eq_true rfl, Nat.le_of_ble_eq_true rfl⟩ (Nat.le_of_ble_eq_true rfl) dJ13_numberOfTrailingZeros_95d88_22 fun v2 h3 => ?_
    exact s_iret hS rfl (Nat.le_of_ble_eq_true rfl) (Nat.le_of_ble_eq_true rfl) dJ13_numberOfTrailingZeros_95d88_25
  · refine s_bipush hS dJ13_numberOfTrailingZeros_95d88_7 (by decide +kernel) ?_
    refine s_lload_n hS dJ13_numberOfTrailingZeros_95d88_9 rfl 1 rfl ?_
    refine s_bipush hS dJ13_numberOfTrailingZeros_95d88_10 (by decide +kernel) ?_
    refine s_lushr hS dJ13_numberOfTrailingZeros_95d88_12 ?_
    refine s_l2i hS dJ13_numberOfTrailingZeros_95d88_13 ?_
    refine ca_J13_311 hS ⟨Nat.le_of_ble_eq_true rfl, Nat.le_of_ble_eq_true rfl⟩ ⟨Nat.le_of_ble_eq_true rfl, Nat.le_of_ble_eq_true rfl⟩ (Nat.le_of_ble_eq_true rfl) dJ13_numberOfTrailingZeros_95d88_14 fun v4 h5 => ?_
    refine s_iadd hS dJ13_numberOfTrailingZeros_95d88_17 ?_
    refine s_goto hS dJ13_numberOfTrailingZeros_95d88_18 rfl ?_
    exact s_iret hS rfl (Nat.le_of_ble_eq_true rfl) (Nat.le_of_ble_eq_true rfl) dJ13_numberOfTrailingZeros_95d88_25
theorem c_J13_numberOfTrailingZeros_95d88 (l : Launch) (G : GE) (z0 : Int) (h : AH) : Con l yJ13_numberOfTrailingZeros_95d88 cJ13_numberOfTrailingZeros_95d88 3 (some .int) 1 21 0 0 G [(1, z0)] h (f_J13_numberOfTrailingZeros_95d88 z0 h) :=
  con_of (by decide +kernel) (Nat.le_of_ble_eq_true rfl) fun X hX hS hi => b_J13_numberOfTrailingZeros_95d88 hS z0 h
theorem ca_X7_51 {S : SX} {cc : ByteArray} {pc : Nat} {ls : List (Nat × Nat × Int)} {st : List (Nat × Int)} {k n : Nat} {h : AH} {q0 : Int} {f : Int → AH → Option (Int × AH)} (hS : SO S RX7 cc) (hR : 1 + 1 ≤ S.2.2.2.2.2.2.1 ∧ 8 + (3 + 11) + 21 ≤ S.2.2.2.2.2.2.2) (hk : k + 0 ≤ S.2.2.2.1 ∧ n + 0 ≤ S.2.2.2.2.1) (hl : st.length ≤ 4) (d : decode cc pc = .ok (.invokestatic 51, 3)) (kk : ∀ (r : Int) (h2 : AH), Sim S (pc + 3) ls ((0, r) :: st) (k + 0) (n + 0) h2 (f r h2)) : Sim S pc ls ((1, q0) :: st) k n h (bd_ (f_J13_numberOfTrailingZeros_95d88 q0 h) f) := s_callS hS mo_J13_numberOfTrailingZeros_95d88 (c_J13_numberOfTrailingZeros_95d88 _ _ _ h) tw_781 tw_782 hR hk rfl rfl hl d kk
theorem gf_X7_56 {S : SX} {cc : ByteArray} {pc : Nat} {ls : List (Nat × Nat × Int)} {st : List (Nat × Int)} {k n : Nat} {h : AH} {a : Int} {f : Int → Option (Int × AH)} (hS : SO S RX7 cc) (d : decode cc pc = .ok (.getfield 56, 3)) (kk : ∀ v : Int, Sim S (pc + 3) ls ((0, v) :: st) k n h (f v)) : Sim S pc ls ((2, a) :: st) k n h ((g_f h 8 a 6).bind f) := s_getf hS cx_7 6 (by decide) tw_264 rfl rfl rfl d kk
theorem gf_X7_59 {S : SX} {cc : ByteArray} {pc : Nat} {ls : List (Nat × Nat × Int)} {st : List (Nat × Int)} {k n : Nat} {h : AH} {a : Int} {f : Int → Option (Int × AH)} (hS : SO S RX7 cc) (d : decode cc pc = .ok (.getfield 59, 3)) (kk : ∀ v : Int, Sim S (pc + 3) ls ((0, v) :: st) k n h (f v)) : Sim S pc ls ((2, a) :: st) k n h ((g_f h 8 a 7).bind f) := s_getf hS cx_7 7 (by decide) tw_265 rfl rfl rfl d kk
abbrev S_T_wordValue (G : GE) (X : SMw) : SX := (G, X, 3, 0, 0, (some .long), 2, 43)
set_option maxRecDepth 100000 in
set_option maxHeartbeats 4000000 in
theorem b_T_wordValue {G : GE} {X : SMw} (hS : SO (S_T_wordValue G X) RX7 cX7_wordValue) (z0 z1 z2 : Int) (h : AH) : Sim (S_T_wordValue G X) 0 [(0, 2, z0), (1, 0, z1), (2, 0, z2)] [] 0 0 h (f_T_wordValue z0 z1 z2 h) := by
  unfold f_T_wordValue
  refine s_iload_n hS dX7_wordValue_0 rfl 1 rfl ?_
  refine s_swI hS 0 dX7_wordValue_1 (by decide) (by decide) rfl rfl ?_ fun e0 => ?_
  · refine s_iload_n hS dX7_wordValue_52 rfl 2 rfl ?_
    refine s_i2l hS dX7_wordValue_53 ?_
    exact s_lret hS rfl (Nat.le_of_ble_eq_true rfl) (Nat.le_of_ble_eq_true rfl) dX7_wordValue_54
  refine s_swI hS 1 dX7_wordValue_1 (by decide) (by decide) rfl rfl ?_ fun e1 => ?_
  · refine s_aload_n hS dX7_wordValue_55 rfl 0 rfl ?_
    refine gf_X7_22 hS dX7_wordValue_56 fun v1 => ?_
    refine s_iload_n hS dX7_wordValue_59 rfl 2 rfl ?_
    refine s_iald hS dX7_wordValue_60 fun v2 => ?_
    refine s_i2l hS dX7_wordValue_61 ?_
    exact s_lret hS rfl (Nat.le_of_ble_eq_true rfl) (Nat.le_of_ble_eq_true rfl) dX7_wordValue_62
  refine s_swI hS 2 dX7_wordValue_1 (by decide) (by decide) rfl rfl ?_ fun e2 => ?_
  · refine s_aload_n hS dX7_wordValue_63 rfl 0 rfl ?_
    refine gf_X7_9 hS dX7_wordValue_64 fun v3 => ?_
    refine s_iload_n hS dX7_wordValue_67 rfl 2 rfl ?_
    refine s_lald hS dX7_wordValue_68 fun v4 => ?_
    refine ca_X7_41 hS ⟨Nat.le_of_ble_eq_true rfl, Nat.le_of_ble_eq_true rfl⟩ ⟨Nat.le_of_ble_eq_true rfl, Nat.le_of_ble_eq_true rfl⟩ (Nat.le_of_ble_eq_true rfl) dX7_wordValue_69 fun v5 h6 => ?_
    refine s_i2l hS dX7_wordValue_72 ?_
    exact s_lret hS rfl (Nat.le_of_ble_eq_true rfl) (Nat.le_of_ble_eq_true rfl) dX7_wordValue_73
  refine s_swI hS 3 dX7_wordValue_1 (by decide) (by decide) rfl rfl ?_ fun e3 => ?_
  · refine s_aload_n hS dX7_wordValue_74 rfl 0 rfl ?_
    refine gf_X7_15 hS dX7_wordValue_75 fun v7 => ?_
    refine s_iload_n hS dX7_wordValue_78 rfl 2 rfl ?_
    refine s_iald hS dX7_wordValue_79 fun v8 => ?_
    refine s_i2l hS dX7_wordValue_80 ?_
    exact s_lret hS rfl (Nat.le_of_ble_eq_true rfl) (Nat.le_of_ble_eq_true rfl) dX7_wordValue_81
  refine s_swI hS 4 dX7_wordValue_1 (by decide) (by decide) rfl rfl ?_ fun e4 => ?_
  · refine s_aload_n hS dX7_wordValue_82 rfl 0 rfl ?_
    refine gf_X7_19 hS dX7_wordValue_83 fun v9 => ?_
    refine s_iload_n hS dX7_wordValue_86 rfl 2 rfl ?_
    refine s_iald hS dX7_wordValue_87 fun v10 => ?_
    refine s_i2l hS dX7_wordValue_88 ?_
    exact s_lret hS rfl (Nat.le_of_ble_eq_true rfl) (Nat.le_of_ble_eq_true rfl) dX7_wordValue_89
  refine s_swI hS 5 dX7_wordValue_1 (by decide) (by decide) rfl rfl ?_ fun e5 => ?_
  · refine s_aload_n hS dX7_wordValue_90 rfl 0 rfl ?_
    refine gf_X7_9 hS dX7_wordValue_91 fun v11 => ?_
    refine s_iload_n hS dX7_wordValue_94 rfl 2 rfl ?_
    refine s_lald hS dX7_wordValue_95 fun v12 => ?_
    refine ca_X7_51 hS ⟨Nat.le_of_ble_eq_true rfl, Nat.le_of_ble_eq_true rfl⟩ ⟨Nat.le_of_ble_eq_true rfl, Nat.le_of_ble_eq_true rfl⟩ (Nat.le_of_ble_eq_true rfl) dX7_wordValue_96 fun v13 h14 => ?_
    refine s_i2l hS dX7_wordValue_99 ?_
    exact s_lret hS rfl (Nat.le_of_ble_eq_true rfl) (Nat.le_of_ble_eq_true rfl) dX7_wordValue_100
  refine s_swI hS 6 dX7_wordValue_1 (by decide) (by decide) rfl rfl ?_ fun e6 => ?_
  · refine s_aload_n hS dX7_wordValue_101 rfl 0 rfl ?_
    refine gf_X7_9 hS dX7_wordValue_102 fun v15 => ?_
    refine s_iload_n hS dX7_wordValue_105 rfl 2 rfl ?_
    refine s_lald hS dX7_wordValue_106 fun v16 => ?_
    refine s_aload_n hS dX7_wordValue_107 rfl 0 rfl ?_
    refine gf_X7_9 hS dX7_wordValue_108 fun v17 => ?_
    refine s_iload_n hS dX7_wordValue_111 rfl 2 rfl ?_
    refine s_lald hS dX7_wordValue_112 fun v18 => ?_
    refine s_iconst hS dX7_wordValue_113 ?_
    refine s_lshl hS dX7_wordValue_114 ?_
    refine s_ldc2 hS (z := (-1)) tw_856 (by decide +kernel) dX7_wordValue_115 ?_
    refine s_lxor hS dX7_wordValue_118 ?_
    refine s_land hS dX7_wordValue_119 ?_
    refine ca_X7_41 hS ⟨Nat.le_of_ble_eq_true rfl, Nat.le_of_ble_eq_true rfl⟩ ⟨Nat.le_of_ble_eq_true rfl, Nat.le_of_ble_eq_true rfl⟩ (Nat.le_of_ble_eq_true rfl) dX7_wordValue_120 fun v19 h20 => ?_
    refine s_i2l hS dX7_wordValue_123 ?_
    exact s_lret hS rfl (Nat.le_of_ble_eq_true rfl) (Nat.le_of_ble_eq_true rfl) dX7_wordValue_124
  refine s_swI hS 7 dX7_wordValue_1 (by decide) (by decide) rfl rfl ?_ fun e7 => ?_
  · refine s_aload_n hS dX7_wordValue_125 rfl 0 rfl ?_
    refine gf_X7_56 hS dX7_wordValue_126 fun v21 => ?_
    refine s_i2l hS dX7_wordValue_129 ?_
    exact s_lret hS rfl (Nat.le_of_ble_eq_true rfl) (Nat.le_of_ble_eq_true rfl) dX7_wordValue_130
  refine s_swI hS 8 dX7_wordValue_1 (by decide) (by decide) rfl rfl ?_ fun e8 => ?_
  · refine s_aload_n hS dX7_wordValue_131 rfl 0 rfl ?_
    refine gf_X7_59 hS dX7_wordValue_132 fun v22 => ?_
    refine s_i2l hS dX7_wordValue_135 ?_
    exact s_lret hS rfl (Nat.le_of_ble_eq_true rfl) (Nat.le_of_ble_eq_true rfl) dX7_wordValue_136
  refine s_swO hS dX7_wordValue_1 (by omega) rfl ?_
  refine s_aload_n hS dX7_wordValue_137 rfl 0 rfl ?_
  refine gf_X7_38 hS dX7_wordValue_138 fun v23 => ?_
  refine s_i2l hS dX7_wordValue_141 ?_
  exact s_lret hS rfl (Nat.le_of_ble_eq_true rfl) (Nat.le_of_ble_eq_true rfl) dX7_wordValue_142
theorem c_T_wordValue (l : Launch) (G : GE) (z0 z1 z2 : Int) (h : AH) : Con l yX7_wordValue cX7_wordValue 3 (some .long) 2 43 0 0 G [(2, z0), (0, z1), (0, z2)] h (f_T_wordValue z0 z1 z2 h) :=
  con_of (by decide +kernel) (Nat.le_of_ble_eq_true rfl) fun X hX hS hi => b_T_wordValue hS z0 z1 z2 h
abbrev S_R_truth (G : GE) (X : SMw) : SX := (G, X, 1, 0, 0, (some .long), 0, 0)
set_option maxRecDepth 100000 in
set_option maxHeartbeats 4000000 in
theorem b_R_truth {G : GE} {X : SMw} (hS : SO (S_R_truth G X) RX3 cX3_truth) (z0 : Int) (h : AH) : Sim (S_R_truth G X) 0 [(0, 0, z0)] [] 0 0 h (f_R_truth z0 h) := by
  unfold f_R_truth
  refine s_iload_n hS dX3_truth_0 rfl 0 rfl ?_
  refine s_if_eq hS dX3_truth_1 rfl ?_ ?_
  · refine s_lconst0 hS dX3_truth_8 ?_
    exact s_lret hS rfl (Nat.le_of_ble_eq_true rfl) (Nat.le_of_ble_eq_true rfl) dX3_truth_9
  · refine s_lconst1 hS dX3_truth_4 ?_
    refine s_goto hS dX3_truth_5 rfl ?_
    exact s_lret hS rfl (Nat.le_of_ble_eq_true rfl) (Nat.le_of_ble_eq_true rfl) dX3_truth_9
theorem c_R_truth (l : Launch) (G : GE) (z0 : Int) (h : AH) : Con l yX3_truth cX3_truth 1 (some .long) 0 0 0 0 G [(0, z0)] h (f_R_truth z0 h) :=
  con_of (by decide +kernel) (Nat.le_of_ble_eq_true rfl) fun X hX hS hi => b_R_truth hS z0 h
theorem ca_X3_25 {S : SX} {cc : ByteArray} {pc : Nat} {ls : List (Nat × Nat × Int)} {st : List (Nat × Int)} {k n : Nat} {h : AH} {q0 : Int} {f : Int → AH → Option (Int × AH)} (hS : SO S RX3 cc) (hR : 0 + 1 ≤ S.2.2.2.2.2.2.1 ∧ 8 + (1 + 11) + 0 ≤ S.2.2.2.2.2.2.2) (hk : k + 0 ≤ S.2.2.2.1 ∧ n + 0 ≤ S.2.2.2.2.1) (hl : st.length ≤ 4) (d : decode cc pc = .ok (.invokestatic 25, 3)) (kk : ∀ (r : Int) (h2 : AH), Sim S (pc + 3) ls ((1, r) :: st) (k + 0) (n + 0) h2 (f r h2)) : Sim S pc ls ((0, q0) :: st) k n h (bd_ (f_R_truth q0 h) f) := s_callS hS mo_X3_truth (c_R_truth _ _ _ h) tw_857 tw_858 hR hk rfl rfl hl d kk
abbrev S_R_joined (G : GE) (X : SMw) : SX := (G, X, 5, 0, 0, (some .long), 1, 20)
set_option maxRecDepth 100000 in
set_option maxHeartbeats 4000000 in
theorem b_R_joined_171 {G : GE} {X : SMw} (hS : SO (S_R_joined G X) RX3 cX3_joined) (w0 : Int) (h : AH) : Sim (S_R_joined G X) 171 [] [(0, w0)] 0 0 h (f_R_joined_171 w0 h) := by
  unfold f_R_joined_171
  refine ca_X3_25 hS ⟨Nat.le_of_ble_eq_true rfl, Nat.le_of_ble_eq_true rfl⟩ ⟨Nat.le_of_ble_eq_true rfl, Nat.le_of_ble_eq_true rfl⟩ (Nat.le_of_ble_eq_true rfl) dX3_joined_171 fun v1 h2 => ?_
  exact s_lret hS rfl (Nat.le_of_ble_eq_true rfl) (Nat.le_of_ble_eq_true rfl) dX3_joined_174
set_option maxRecDepth 100000 in
set_option maxHeartbeats 4000000 in
theorem b_R_joined_156 {G : GE} {X : SMw} (hS : SO (S_R_joined G X) RX3 cX3_joined) (w0 : Int) (h : AH) : Sim (S_R_joined G X) 156 [] [(0, w0)] 0 0 h (f_R_joined_156 w0 h) := by
  unfold f_R_joined_156
  refine ca_X3_25 hS ⟨Nat.le_of_ble_eq_true rfl, Nat.le_of_ble_eq_true rfl⟩ ⟨Nat.le_of_ble_eq_true rfl, Nat.le_of_ble_eq_true rfl⟩ (Nat.le_of_ble_eq_true rfl) dX3_joined_156 fun v1 h2 => ?_
  exact s_lret hS rfl (Nat.le_of_ble_eq_true rfl) (Nat.le_of_ble_eq_true rfl) dX3_joined_159
set_option maxRecDepth 100000 in
set_option maxHeartbeats 4000000 in
theorem b_R_joined_141 {G : GE} {X : SMw} (hS : SO (S_R_joined G X) RX3 cX3_joined) (w0 : Int) (h : AH) : Sim (S_R_joined G X) 141 [] [(0, w0)] 0 0 h (f_R_joined_141 w0 h) := by
  unfold f_R_joined_141
  refine ca_X3_25 hS ⟨Nat.le_of_ble_eq_true rfl, Nat.le_of_ble_eq_true rfl⟩ ⟨Nat.le_of_ble_eq_true rfl, Nat.le_of_ble_eq_true rfl⟩ (Nat.le_of_ble_eq_true rfl) dX3_joined_141 fun v1 h2 => ?_
  exact s_lret hS rfl (Nat.le_of_ble_eq_true rfl) (Nat.le_of_ble_eq_true rfl) dX3_joined_144
set_option maxRecDepth 100000 in
set_option maxHeartbeats 4000000 in
theorem b_R_joined_126 {G : GE} {X : SMw} (hS : SO (S_R_joined G X) RX3 cX3_joined) (w0 : Int) (h : AH) : Sim (S_R_joined G X) 126 [] [(0, w0)] 0 0 h (f_R_joined_126 w0 h) := by
  unfold f_R_joined_126
  refine ca_X3_25 hS ⟨Nat.le_of_ble_eq_true rfl, Nat.le_of_ble_eq_true rfl⟩ ⟨Nat.le_of_ble_eq_true rfl, Nat.le_of_ble_eq_true rfl⟩ (Nat.le_of_ble_eq_true rfl) dX3_joined_126 fun v1 h2 => ?_
  exact s_lret hS rfl (Nat.le_of_ble_eq_true rfl) (Nat.le_of_ble_eq_true rfl) dX3_joined_129
set_option maxRecDepth 100000 in
set_option maxHeartbeats 4000000 in
theorem b_R_joined_111 {G : GE} {X : SMw} (hS : SO (S_R_joined G X) RX3 cX3_joined) (w0 : Int) (h : AH) : Sim (S_R_joined G X) 111 [] [(0, w0)] 0 0 h (f_R_joined_111 w0 h) := by
  unfold f_R_joined_111
  refine ca_X3_25 hS ⟨Nat.le_of_ble_eq_true rfl, Nat.le_of_ble_eq_true rfl⟩ ⟨Nat.le_of_ble_eq_true rfl, Nat.le_of_ble_eq_true rfl⟩ (Nat.le_of_ble_eq_true rfl) dX3_joined_111 fun v1 h2 => ?_
  exact s_lret hS rfl (Nat.le_of_ble_eq_true rfl) (Nat.le_of_ble_eq_true rfl) dX3_joined_114
set_option maxRecDepth 100000 in
set_option maxHeartbeats 4000000 in
theorem b_R_joined {G : GE} {X : SMw} (hS : SO (S_R_joined G X) RX3 cX3_joined) (z0 z1 z3 : Int) (h : AH) : Sim (S_R_joined G X) 0 [(0, 0, z0), (1, 1, z1), (3, 1, z3)] [] 0 0 h (f_R_joined z0 z1 z3 h) := by
  unfold f_R_joined
  refine s_iload_n hS dX3_joined_0 rfl 0 rfl ?_
  refine s_swI hS 2 dX3_joined_1 (by decide) (by decide) rfl rfl ?_ fun e0 => ?_
  · refine s_lload_n hS dX3_joined_60 rfl 1 rfl ?_
    refine s_lload_n hS dX3_joined_61 rfl 2 rfl ?_
    refine s_ladd hS dX3_joined_62 ?_
    exact s_lret hS rfl (Nat.le_of_ble_eq_true rfl) (Nat.le_of_ble_eq_true rfl) dX3_joined_63
  refine s_swI hS 3 dX3_joined_1 (by decide) (by decide) rfl rfl ?_ fun e1 => ?_
  · refine s_lload_n hS dX3_joined_64 rfl 1 rfl ?_
    refine s_lload_n hS dX3_joined_65 rfl 2 rfl ?_
    refine s_lsub hS dX3_joined_66 ?_
    exact s_lret hS rfl (Nat.le_of_ble_eq_true rfl) (Nat.le_of_ble_eq_true rfl) dX3_joined_67
  refine s_swI hS 4 dX3_joined_1 (by decide) (by decide) rfl rfl ?_ fun e2 => ?_
  · refine s_lload_n hS dX3_joined_68 rfl 1 rfl ?_
    refine s_lload_n hS dX3_joined_69 rfl 2 rfl ?_
    refine s_lmul hS dX3_joined_70 ?_
    exact s_lret hS rfl (Nat.le_of_ble_eq_true rfl) (Nat.le_of_ble_eq_true rfl) dX3_joined_71
  refine s_swI hS 5 dX3_joined_1 (by decide) (by decide) rfl rfl ?_ fun e3 => ?_
  · refine s_lload_n hS dX3_joined_72 rfl 2 rfl ?_
    refine s_lconst0 hS dX3_joined_73 ?_
    refine s_lcmp hS dX3_joined_74 ?_
    refine s_if_ne hS dX3_joined_75 rfl ?_ ?_
    · refine s_lload_n hS dX3_joined_82 rfl 1 rfl ?_
      refine s_lload_n hS dX3_joined_83 rfl 2 rfl ?_
      refine s_ldiv hS dX3_joined_84 fun v1 => ?_
      exact s_lret hS rfl (Nat.le_of_ble_eq_true rfl) (Nat.le_of_ble_eq_true rfl) dX3_joined_85
    · refine s_lconst0 hS dX3_joined_78 ?_
      refine s_goto hS dX3_joined_79 rfl ?_
      exact s_lret hS rfl (Nat.le_of_ble_eq_true rfl) (Nat.le_of_ble_eq_true rfl) dX3_joined_85
  refine s_swI hS 6 dX3_joined_1 (by decide) (by decide) rfl rfl ?_ fun e4 => ?_
  · refine s_lload_n hS dX3_joined_86 rfl 2 rfl ?_
    refine s_lconst0 hS dX3_joined_87 ?_
    refine s_lcmp hS dX3_joined_88 ?_
    refine s_if_ne hS dX3_joined_89 rfl ?_ ?_
    · refine s_lload_n hS dX3_joined_96 rfl 1 rfl ?_
      refine s_lload_n hS dX3_joined_97 rfl 2 rfl ?_
      refine s_lrem hS dX3_joined_98 fun v2 => ?_
      exact s_lret hS rfl (Nat.le_of_ble_eq_true rfl) (Nat.le_of_ble_eq_true rfl) dX3_joined_99
    · refine s_lconst0 hS dX3_joined_92 ?_
      refine s_goto hS dX3_joined_93 rfl ?_
      exact s_lret hS rfl (Nat.le_of_ble_eq_true rfl) (Nat.le_of_ble_eq_true rfl) dX3_joined_99
  refine s_swI hS 7 dX3_joined_1 (by decide) (by decide) rfl rfl ?_ fun e5 => ?_
  · refine s_lload_n hS dX3_joined_100 rfl 1 rfl ?_
    refine s_lload_n hS dX3_joined_101 rfl 2 rfl ?_
    refine s_lcmp hS dX3_joined_102 ?_
    refine s_if_ge hS dX3_joined_103 rfl ?_ ?_
    · refine s_iconst hS dX3_joined_110 ?_
      refine s_ls [] rfl ?_
      exact b_R_joined_111 hS _ _
    · refine s_iconst hS dX3_joined_106 ?_
      refine s_goto hS dX3_joined_107 rfl ?_
      refine s_ls [] rfl ?_
      exact b_R_joined_111 hS _ _
  refine s_swI hS 8 dX3_joined_1 (by decide) (by decide) rfl rfl ?_ fun e6 => ?_
  · refine s_lload_n hS dX3_joined_115 rfl 1 rfl ?_
    refine s_lload_n hS dX3_joined_116 rfl 2 rfl ?_
    refine s_lcmp hS dX3_joined_117 ?_
    refine s_if_gt hS dX3_joined_118 rfl ?_ ?_
    · refine s_iconst hS dX3_joined_125 ?_
      refine s_ls [] rfl ?_
      exact b_R_joined_126 hS _ _
    · refine s_iconst hS dX3_joined_121 ?_
      refine s_goto hS dX3_joined_122 rfl ?_
      refine s_ls [] rfl ?_
      exact b_R_joined_126 hS _ _
  refine s_swI hS 9 dX3_joined_1 (by decide) (by decide) rfl rfl ?_ fun e7 => ?_
  · refine s_lload_n hS dX3_joined_130 rfl 1 rfl ?_
    refine s_lload_n hS dX3_joined_131 rfl 2 rfl ?_
    refine s_lcmp hS dX3_joined_132 ?_
    refine s_if_ne hS dX3_joined_133 rfl ?_ ?_
    · refine s_iconst hS dX3_joined_140 ?_
      refine s_ls [] rfl ?_
      exact b_R_joined_141 hS _ _
    · refine s_iconst hS dX3_joined_136 ?_
      refine s_goto hS dX3_joined_137 rfl ?_
      refine s_ls [] rfl ?_
      exact b_R_joined_141 hS _ _
  refine s_swI hS 10 dX3_joined_1 (by decide) (by decide) rfl rfl ?_ fun e8 => ?_
  · refine s_lload_n hS dX3_joined_145 rfl 1 rfl ?_
    refine s_lload_n hS dX3_joined_146 rfl 2 rfl ?_
    refine s_lcmp hS dX3_joined_147 ?_
    refine s_if_lt hS dX3_joined_148 rfl ?_ ?_
    · refine s_iconst hS dX3_joined_155 ?_
      refine s_ls [] rfl ?_
      exact b_R_joined_156 hS _ _
    · refine s_iconst hS dX3_joined_151 ?_
      refine s_goto hS dX3_joined_152 rfl ?_
      refine s_ls [] rfl ?_
      exact b_R_joined_156 hS _ _
  refine s_swI hS 11 dX3_joined_1 (by decide) (by decide) rfl rfl ?_ fun e9 => ?_
  · refine s_lload_n hS dX3_joined_160 rfl 1 rfl ?_
    refine s_lload_n hS dX3_joined_161 rfl 2 rfl ?_
    refine s_lcmp hS dX3_joined_162 ?_
    refine s_if_le hS dX3_joined_163 rfl ?_ ?_
    · refine s_iconst hS dX3_joined_170 ?_
      refine s_ls [] rfl ?_
      exact b_R_joined_171 hS _ _
    · refine s_iconst hS dX3_joined_166 ?_
      refine s_goto hS dX3_joined_167 rfl ?_
      refine s_ls [] rfl ?_
      exact b_R_joined_171 hS _ _
  refine s_swI hS 12 dX3_joined_1 (by decide) (by decide) rfl rfl ?_ fun e10 => ?_
  · refine s_lload_n hS dX3_joined_175 rfl 1 rfl ?_
    refine s_lload_n hS dX3_joined_176 rfl 2 rfl ?_
    refine s_land hS dX3_joined_177 ?_
    exact s_lret hS rfl (Nat.le_of_ble_eq_true rfl) (Nat.le_of_ble_eq_true rfl) dX3_joined_178
  refine s_swO hS dX3_joined_1 (by omega) rfl ?_
  refine s_lload_n hS dX3_joined_179 rfl 1 rfl ?_
  refine s_lload_n hS dX3_joined_180 rfl 2 rfl ?_
  refine s_lor hS dX3_joined_181 ?_
  exact s_lret hS rfl (Nat.le_of_ble_eq_true rfl) (Nat.le_of_ble_eq_true rfl) dX3_joined_182
theorem c_R_joined (l : Launch) (G : GE) (z0 z1 z3 : Int) (h : AH) : Con l yX3_joined cX3_joined 5 (some .long) 1 20 0 0 G [(0, z0), (1, z1), (1, z3)] h (f_R_joined z0 z1 z3 h) :=
  con_of (by decide +kernel) (Nat.le_of_ble_eq_true rfl) fun X hX hS hi => b_R_joined hS z0 z1 z3 h
theorem gf_X3_15 {S : SX} {cc : ByteArray} {pc : Nat} {ls : List (Nat × Nat × Int)} {st : List (Nat × Int)} {k n : Nat} {h : AH} {a : Int} {f : Int → Option (Int × AH)} (hS : SO S RX3 cc) (d : decode cc pc = .ok (.getfield 15, 3)) (kk : ∀ v : Int, Sim S (pc + 3) ls ((2, v) :: st) k n h (f v)) : Sim S pc ls ((2, a) :: st) k n h ((g_f h 4 a 0).bind f) := s_getf hS cx_3 0 (by decide) tw_720 rfl rfl rfl d kk
theorem gf_X3_9 {S : SX} {cc : ByteArray} {pc : Nat} {ls : List (Nat × Nat × Int)} {st : List (Nat × Int)} {k n : Nat} {h : AH} {a : Int} {f : Int → Option (Int × AH)} (hS : SO S RX3 cc) (d : decode cc pc = .ok (.getfield 9, 3)) (kk : ∀ v : Int, Sim S (pc + 3) ls ((2, v) :: st) k n h (f v)) : Sim S pc ls ((2, a) :: st) k n h ((g_f h 4 a 1).bind f) := s_getf hS cx_3 1 (by decide) tw_721 rfl rfl rfl d kk
theorem ca_X3_29 {S : SX} {cc : ByteArray} {pc : Nat} {ls : List (Nat × Nat × Int)} {st : List (Nat × Int)} {k n : Nat} {h : AH} {q0 q1 q2 : Int} {f : Int → AH → Option (Int × AH)} (hS : SO S RX3 cc) (hR : 1 + 1 ≤ S.2.2.2.2.2.2.1 ∧ 8 + (5 + 11) + 20 ≤ S.2.2.2.2.2.2.2) (hk : k + 0 ≤ S.2.2.2.1 ∧ n + 0 ≤ S.2.2.2.2.1) (hl : st.length ≤ 4) (d : decode cc pc = .ok (.invokestatic 29, 3)) (kk : ∀ (r : Int) (h2 : AH), Sim S (pc + 3) ls ((1, r) :: st) (k + 0) (n + 0) h2 (f r h2)) : Sim S pc ls ((1, q2) :: (1, q1) :: (0, q0) :: st) k n h (bd_ (f_R_joined q0 q1 q2 h) f) := s_callS hS mo_X3_joined (c_R_joined _ _ _ _ _ h) tw_860 tw_861 hR hk rfl rfl hl d kk
theorem ca_X3_19 {S : SX} {cc : ByteArray} {pc : Nat} {ls : List (Nat × Nat × Int)} {st : List (Nat × Int)} {k n : Nat} {h : AH} {q0 q1 b : Int} {f : Int → AH → Option (Int × AH)} (hS : SO S RX3 cc) (hR : 2 + 1 ≤ S.2.2.2.2.2.2.1 ∧ 8 + (3 + 11) + 43 ≤ S.2.2.2.2.2.2.2) (hk : k + 0 ≤ S.2.2.2.1 ∧ n + 0 ≤ S.2.2.2.2.1) (hl : st.length ≤ 4) (d : decode cc pc = .ok (.invokevirtual 19, 3)) (kk : ∀ (r : Int) (h2 : AH), Sim S (pc + 3) ls ((1, r) :: st) (k + 0) (n + 0) h2 (f r h2)) : Sim S pc ls ((0, q1) :: (0, q0) :: (2, b) :: st) k n h (c_k h 8 b (bd_ (f_T_wordValue b q0 q1 h) f)) := s_callV hS mo_X7_wordValue rfl rfl (c_T_wordValue _ _ _ _ _ h) tw_852 tw_853 tw_854 hR hk rfl rfl hl d kk
abbrev S_R_worth (G : GE) (X : SMw) : SX := (G, X, 7, 0, 0, (some .long), 3, 65)
set_option maxRecDepth 100000 in
set_option maxHeartbeats 4000000 in
theorem b_R_worth_157 {G : GE} {X : SMw} (hS : SO (S_R_worth G X) RX3 cX3_worth) (z0 z1 z2 : Int) {k5 : Int → Int → AH → Option (Int × AH)} (hk5 : ∀ (z3 z4 : Int) (h : AH), Sim (S_R_worth G X) 5 [(0, 2, z0), (1, 2, z1), (2, 0, z2), (3, 0, z3), (4, 0, z4)] [] 0 0 h (k5 z3 z4 h)) (z3 z4 w0 w1 w2 : Int) (h : AH) : Sim (S_R_worth G X) 157 [(0, 2, z0), (1, 2, z1), (2, 0, z2), (3, 0, z3), (4, 0, z4)] [(0, w2), (0, w1), (2, w0)] 0 0 h (f_R_worth_157 k5 z0 z1 z2 z3 z4 w0 w1 w2 h) := by
  unfold f_R_worth_157
  refine ca_X3_25 hS ⟨Nat.le_of_ble_eq_true rfl, Nat.le_of_ble_eq_true rfl⟩ ⟨Nat.le_of_ble_eq_true rfl, Nat.le_of_ble_eq_true rfl⟩ (Nat.le_of_ble_eq_true rfl) dX3_worth_157 fun v1 h2 => ?_
  refine s_last hS dX3_worth_160 fun h3 => ?_
  refine s_goto hS dX3_worth_161 rfl ?_
  refine s_iinc hS dX3_worth_231 4 rfl (Nat.le_of_ble_eq_true rfl) (ls' := [(4, 0, (z4 + 1)), (0, 2, z0), (1, 2, z1), (2, 0, z2), (3, 0, z3)]) rfl ?_
  refine s_goto hS dX3_worth_234 rfl ?_
  refine s_ls [1, 2, 3, 4, 0] rfl ?_
  exact hk5 _ _ _
set_option maxRecDepth 100000 in
set_option maxHeartbeats 4000000 in
theorem b_R_worth_114 {G : GE} {X : SMw} (hS : SO (S_R_worth G X) RX3 cX3_worth) (z0 z3 : Int) (h : AH) : Sim (S_R_worth G X) 114 [(0, 2, z0), (3, 0, z3)] [] 0 0 h (f_R_worth_114 z0 z3 h) := by
  unfold f_R_worth_114
  refine s_iload_n hS dX3_worth_114 rfl 1 rfl ?_
  refine s_iconst hS dX3_worth_115 ?_
  refine s_icmp_ge hS dX3_worth_116 rfl ?_ ?_
  · refine s_aload_n hS dX3_worth_123 rfl 0 rfl ?_
    refine gf_X3_9 hS dX3_worth_124 fun v1 => ?_
    refine s_iload_n hS dX3_worth_127 rfl 1 rfl ?_
    refine s_iconst hS dX3_worth_128 ?_
    refine s_isub hS dX3_worth_129 ?_
    refine s_lald hS dX3_worth_130 fun v2 => ?_
    exact s_lret hS rfl (Nat.le_of_ble_eq_true rfl) (Nat.le_of_ble_eq_true rfl) dX3_worth_131
  · refine s_lconst0 hS dX3_worth_119 ?_
    refine s_goto hS dX3_worth_120 rfl ?_
    exact s_lret hS rfl (Nat.le_of_ble_eq_true rfl) (Nat.le_of_ble_eq_true rfl) dX3_worth_131
set_option maxRecDepth 100000 in
set_option maxHeartbeats 4000000 in
theorem b_R_worth_102 {G : GE} {X : SMw} (hS : SO (S_R_worth G X) RX3 cX3_worth) (z0 z1 z2 : Int) {k5 : Int → Int → AH → Option (Int × AH)} (hk5 : ∀ (z3 z4 : Int) (h : AH), Sim (S_R_worth G X) 5 [(0, 2, z0), (1, 2, z1), (2, 0, z2), (3, 0, z3), (4, 0, z4)] [] 0 0 h (k5 z3 z4 h)) (z3 z4 z5 : Int) (h : AH) : Sim (S_R_worth G X) 102 [(0, 2, z0), (1, 2, z1), (2, 0, z2), (3, 0, z3), (4, 0, z4), (5, 0, z5)] [] 0 0 h (f_R_worth_102 k5 z0 z1 z2 z3 z4 z5 h) := by
  unfold f_R_worth_102
  refine s_iload_n hS dX3_worth_102 rfl 3 rfl ?_
  refine s_iconst hS dX3_worth_103 ?_
  refine s_icmp_lt hS dX3_worth_104 rfl ?_ ?_
  · refine s_ls [0, 3] rfl ?_
    exact b_R_worth_114 hS _ _ _
  · refine s_iload hS dX3_worth_107 5 rfl ?_
    refine s_bipush hS dX3_worth_109 (by decide +kernel) ?_
    refine s_icmp_ne hS dX3_worth_111 rfl ?_ ?_
    · refine s_aload_n hS dX3_worth_132 rfl 0 rfl ?_
      refine gf_X3_9 hS dX3_worth_133 fun v1 => ?_
      refine s_iload_n hS dX3_worth_136 rfl 3 rfl ?_
      refine s_iconst hS dX3_worth_137 ?_
      refine s_isub hS dX3_worth_138 ?_
      refine s_aload_n hS dX3_worth_139 rfl 0 rfl ?_
      refine gf_X3_9 hS dX3_worth_140 fun v2 => ?_
      refine s_iload_n hS dX3_worth_143 rfl 3 rfl ?_
      refine s_iconst hS dX3_worth_144 ?_
      refine s_isub hS dX3_worth_145 ?_
      refine s_lald hS dX3_worth_146 fun v3 => ?_
      refine s_lconst0 hS dX3_worth_147 ?_
      refine s_lcmp hS dX3_worth_148 ?_
      refine s_if_ne hS dX3_worth_149 rfl ?_ ?_
      · refine s_iconst hS dX3_worth_156 ?_
        refine s_ls [0, 1, 2, 3, 4] rfl ?_
        exact b_R_worth_157 hS _ _ _ hk5 _ _ _ _ _ _
      · refine s_iconst hS dX3_worth_152 ?_
        refine s_goto hS dX3_worth_153 rfl ?_
        refine s_ls [0, 1, 2, 3, 4] rfl ?_
        exact b_R_worth_157 hS _ _ _ hk5 _ _ _ _ _ _
    · refine s_ls [0, 3] rfl ?_
      exact b_R_worth_114 hS _ _ _
set_option maxRecDepth 100000 in
set_option maxHeartbeats 4000000 in
theorem b_R_worth_49 {G : GE} {X : SMw} (hS : SO (S_R_worth G X) RX3 cX3_worth) (z0 z1 z2 : Int) {k5 : Int → Int → AH → Option (Int × AH)} (hk5 : ∀ (z3 z4 : Int) (h : AH), Sim (S_R_worth G X) 5 [(0, 2, z0), (1, 2, z1), (2, 0, z2), (3, 0, z3), (4, 0, z4)] [] 0 0 h (k5 z3 z4 h)) (z3 z4 z5 z6 : Int) (h : AH) : Sim (S_R_worth G X) 49 [(0, 2, z0), (1, 2, z1), (2, 0, z2), (3, 0, z3), (4, 0, z4), (5, 0, z5), (6, 0, z6)] [] 0 0 h (f_R_worth_49 k5 z0 z1 z2 z3 z4 z5 z6 h) := by
  unfold f_R_worth_49
  refine s_iload_n hS dX3_worth_49 rfl 3 rfl ?_
  refine s_aload_n hS dX3_worth_50 rfl 0 rfl ?_
  refine gf_X3_9 hS dX3_worth_51 fun v1 => ?_
  refine s_alen hS (by decide) (by decide) dX3_worth_54 fun v2 => ?_
  refine s_icmp_ge hS dX3_worth_55 rfl ?_ ?_
  · refine s_iinc hS dX3_worth_231 4 rfl (Nat.le_of_ble_eq_true rfl) (ls' := [(4, 0, (z4 + 1)), (0, 2, z0), (1, 2, z1), (2, 0, z2), (3, 0, z3), (5, 0, z5), (6, 0, z6)]) rfl ?_
    refine s_goto hS dX3_worth_234 rfl ?_
    refine s_ls [1, 2, 3, 4, 0] rfl ?_
    exact hk5 _ _ _
  · refine s_aload_n hS dX3_worth_58 rfl 0 rfl ?_
    refine gf_X3_9 hS dX3_worth_59 fun v3 => ?_
    refine s_iload_n hS dX3_worth_62 rfl 3 rfl ?_
    refine s_iload hS dX3_worth_63 5 rfl ?_
    refine s_if_ne hS dX3_worth_65 rfl ?_ ?_
    · refine s_aload_n hS dX3_worth_74 rfl 1 rfl ?_
      refine s_iload hS dX3_worth_75 6 rfl ?_
      refine s_iload_n hS dX3_worth_77 rfl 2 rfl ?_
      refine ca_X3_19 hS ⟨Nat.le_of_ble_eq_true rfl, Nat.le_of_ble_eq_true rfl⟩ ⟨Nat.le_of_ble_eq_true rfl, Nat.le_of_ble_eq_true rfl⟩ (Nat.le_of_ble_eq_true rfl) dX3_worth_78 fun v4 h5 => ?_
      refine s_last hS dX3_worth_81 fun h6 => ?_
      refine s_iinc hS dX3_worth_82 3 rfl (Nat.le_of_ble_eq_true rfl) (ls' := [(3, 0, (z3 + 1)), (0, 2, z0), (1, 2, z1), (2, 0, z2), (4, 0, z4), (5, 0, z5), (6, 0, z6)]) rfl ?_
      refine s_goto hS dX3_worth_85 rfl ?_
      refine s_iinc hS dX3_worth_231 4 rfl (Nat.le_of_ble_eq_true rfl) (ls' := [(4, 0, (z4 + 1)), (3, 0, (z3 + 1)), (0, 2, z0), (1, 2, z1), (2, 0, z2), (5, 0, z5), (6, 0, z6)]) rfl ?_
      refine s_goto hS dX3_worth_234 rfl ?_
      refine s_ls [2, 3, 4, 1, 0] rfl ?_
      exact hk5 _ _ _
    · refine s_iload hS dX3_worth_68 6 rfl ?_
      refine s_i2l hS dX3_worth_70 ?_
      refine s_goto hS dX3_worth_71 rfl ?_
      refine s_last hS dX3_worth_81 fun h7 => ?_
      refine s_iinc hS dX3_worth_82 3 rfl (Nat.le_of_ble_eq_true rfl) (ls' := [(3, 0, (z3 + 1)), (0, 2, z0), (1, 2, z1), (2, 0, z2), (4, 0, z4), (5, 0, z5), (6, 0, z6)]) rfl ?_
      refine s_goto hS dX3_worth_85 rfl ?_
      refine s_iinc hS dX3_worth_231 4 rfl (Nat.le_of_ble_eq_true rfl) (ls' := [(4, 0, (z4 + 1)), (3, 0, (z3 + 1)), (0, 2, z0), (1, 2, z1), (2, 0, z2), (5, 0, z5), (6, 0, z6)]) rfl ?_
      refine s_goto hS dX3_worth_234 rfl ?_
      refine s_ls [2, 3, 4, 1, 0] rfl ?_
      exact hk5 _ _ _
set_option maxRecDepth 100000 in
set_option maxHeartbeats 4000000 in
theorem B_R_worth_5 {G : GE} {X : SMw} (hS : SO (S_R_worth G X) RX3 cX3_worth) (z0 z1 z2 : Int) {k5 : Int → Int → AH → Option (Int × AH)} (hk5 : ∀ (z3 z4 : Int) (h : AH), Sim (S_R_worth G X) 5 [(0, 2, z0), (1, 2, z1), (2, 0, z2), (3, 0, z3), (4, 0, z4)] [] 0 0 h (k5 z3 z4 h)) (z3 z4 : Int) (h : AH) : Sim (S_R_worth G X) 5 [(0, 2, z0), (1, 2, z1), (2, 0, z2), (3, 0, z3), (4, 0, z4)] [] 0 0 h (F_R_worth_5 z0 z1 z2 k5 z3 z4 h) := by
  unfold F_R_worth_5
  refine s_iload hS dX3_worth_5 4 rfl ?_
  refine s_aload_n hS dX3_worth_7 rfl 0 rfl ?_
  refine gf_X3_15 hS dX3_worth_8 fun v1 => ?_
  refine s_alen hS (by decide) (by decide) dX3_worth_11 fun v2 => ?_
  refine s_icmp_ge hS dX3_worth_12 rfl ?_ ?_
  · refine s_lconst0 hS dX3_worth_237 ?_
    exact s_lret hS rfl (Nat.le_of_ble_eq_true rfl) (Nat.le_of_ble_eq_true rfl) dX3_worth_238
  · refine s_aload_n hS dX3_worth_15 rfl 0 rfl ?_
    refine gf_X3_15 hS dX3_worth_16 fun v3 => ?_
    refine s_iload hS dX3_worth_19 4 rfl ?_
    refine s_iald hS dX3_worth_21 fun v4 => ?_
    refine s_bipush hS dX3_worth_22 (by decide +kernel) ?_
    refine s_iand hS dX3_worth_24 ?_
    refine s_let fun v5 => ?_
    refine s_istore hS dX3_worth_25 (Nat.le_of_ble_eq_true rfl) (ls' := [(5, 0, v5), (0, 2, z0), (1, 2, z1), (2, 0, z2), (3, 0, z3), (4, 0, z4)]) rfl ?_
    refine s_aload_n hS dX3_worth_27 rfl 1 rfl ?_
    refine gf_X3_15 hS dX3_worth_28 fun v6 => ?_
    refine s_iload hS dX3_worth_31 5 rfl ?_
    refine s_iald hS dX3_worth_33 fun v7 => ?_
    refine s_iconst hS dX3_worth_34 ?_
    refine s_ishr hS dX3_worth_35 ?_
    refine s_let fun v8 => ?_
    refine s_istore hS dX3_worth_36 (Nat.le_of_ble_eq_true rfl) (ls' := [(6, 0, v8), (5, 0, v5), (0, 2, z0), (1, 2, z1), (2, 0, z2), (3, 0, z3), (4, 0, z4)]) rfl ?_
    refine s_iload hS dX3_worth_38 1 rfl ?_
    refine s_if_eq hS dX3_worth_40 rfl ?_ ?_
    · refine s_ls [2, 3, 4, 5, 6, 1, 0] rfl ?_
      exact b_R_worth_49 hS _ _ _ hk5 _ _ _ _ _
    · refine s_iload hS dX3_worth_43 1 rfl ?_
      refine s_iconst hS dX3_worth_45 ?_
      refine s_icmp_ne hS dX3_worth_46 rfl ?_ ?_
      · refine s_iload hS dX3_worth_88 1 rfl ?_
        refine s_bipush hS dX3_worth_90 (by decide +kernel) ?_
        refine s_icmp_eq hS dX3_worth_92 rfl ?_ ?_
        · refine s_ls [2, 3, 4, 5, 6, 1] rfl ?_
          exact b_R_worth_102 hS _ _ _ hk5 _ _ _ _
        · refine s_iload hS dX3_worth_95 1 rfl ?_
          refine s_bipush hS dX3_worth_97 (by decide +kernel) ?_
          refine s_icmp_ne hS dX3_worth_99 rfl ?_ ?_
          · refine s_iload_n hS dX3_worth_164 rfl 5 rfl ?_
            refine s_iconst hS dX3_worth_165 ?_
            refine s_icmp_ge hS dX3_worth_166 rfl ?_ ?_
            · refine s_iload hS dX3_worth_171 1 rfl ?_
              refine s_bipush hS dX3_worth_173 (by decide +kernel) ?_
              refine s_icmp_ne hS dX3_worth_175 rfl ?_ ?_
              · refine s_iinc hS dX3_worth_201 5 rfl (Nat.le_of_ble_eq_true rfl) (ls' := [(3, 0, (z3 + (-1))), (6, 0, v8), (5, 0, v5), (0, 2, z0), (1, 2, z1), (2, 0, z2), (4, 0, z4)]) rfl ?_
                refine s_aload_n hS dX3_worth_204 rfl 3 rfl ?_
                refine gf_X3_9 hS dX3_worth_205 fun v9 => ?_
                refine s_iload_n hS dX3_worth_208 rfl 0 rfl ?_
                refine s_iconst hS dX3_worth_209 ?_
                refine s_isub hS dX3_worth_210 ?_
                refine s_iload hS dX3_worth_211 2 rfl ?_
                refine s_aload_n hS dX3_worth_213 rfl 3 rfl ?_
                refine gf_X3_9 hS dX3_worth_214 fun v10 => ?_
                refine s_iload_n hS dX3_worth_217 rfl 0 rfl ?_
                refine s_iconst hS dX3_worth_218 ?_
                refine s_isub hS dX3_worth_219 ?_
                refine s_lald hS dX3_worth_220 fun v11 => ?_
                refine s_aload_n hS dX3_worth_221 rfl 3 rfl ?_
                refine gf_X3_9 hS dX3_worth_222 fun v12 => ?_
                refine s_iload_n hS dX3_worth_225 rfl 0 rfl ?_
                refine s_lald hS dX3_worth_226 fun v13 => ?_
                refine ca_X3_29 hS ⟨Nat.le_of_ble_eq_true rfl, Nat.le_of_ble_eq_true rfl⟩ ⟨Nat.le_of_ble_eq_true rfl, Nat.le_of_ble_eq_true rfl⟩ (Nat.le_of_ble_eq_true rfl) dX3_worth_227 fun v14 h15 => ?_
                refine s_last hS dX3_worth_230 fun h16 => ?_
                refine s_iinc hS dX3_worth_231 6 rfl (Nat.le_of_ble_eq_true rfl) (ls' := [(4, 0, (z4 + 1)), (3, 0, (z3 + (-1))), (6, 0, v8), (5, 0, v5), (0, 2, z0), (1, 2, z1), (2, 0, z2)]) rfl ?_
                refine s_goto hS dX3_worth_234 rfl ?_
                refine s_ls [4, 5, 6, 1, 0] rfl ?_
                exact hk5 _ _ _
              · refine s_iinc hS dX3_worth_178 5 rfl (Nat.le_of_ble_eq_true rfl) (ls' := [(3, 0, (z3 + (-2))), (6, 0, v8), (5, 0, v5), (0, 2, z0), (1, 2, z1), (2, 0, z2), (4, 0, z4)]) rfl ?_
                refine s_aload_n hS dX3_worth_181 rfl 3 rfl ?_
                refine gf_X3_9 hS dX3_worth_182 fun v17 => ?_
                refine s_iload_n hS dX3_worth_185 rfl 0 rfl ?_
                refine s_iconst hS dX3_worth_186 ?_
                refine s_iadd hS dX3_worth_187 ?_
                refine s_lald hS dX3_worth_188 fun v18 => ?_
                refine s_lconst0 hS dX3_worth_189 ?_
                refine s_lcmp hS dX3_worth_190 ?_
                refine s_if_eq hS dX3_worth_191 rfl ?_ ?_
                · refine s_iinc hS dX3_worth_231 6 rfl (Nat.le_of_ble_eq_true rfl) (ls' := [(4, 0, (z4 + 1)), (3, 0, (z3 + (-2))), (6, 0, v8), (5, 0, v5), (0, 2, z0), (1, 2, z1), (2, 0, z2)]) rfl ?_
                  refine s_goto hS dX3_worth_234 rfl ?_
                  refine s_ls [4, 5, 6, 1, 0] rfl ?_
                  exact hk5 _ _ _
                · refine s_aload_n hS dX3_worth_194 rfl 3 rfl ?_
                  refine gf_X3_9 hS dX3_worth_195 fun v19 => ?_
                  refine s_iload_n hS dX3_worth_198 rfl 0 rfl ?_
                  refine s_lald hS dX3_worth_199 fun v20 => ?_
                  exact s_lret hS rfl (Nat.le_of_ble_eq_true rfl) (Nat.le_of_ble_eq_true rfl) dX3_worth_200
            · refine s_lconst0 hS dX3_worth_169 ?_
              exact s_lret hS rfl (Nat.le_of_ble_eq_true rfl) (Nat.le_of_ble_eq_true rfl) dX3_worth_170
          · refine s_ls [2, 3, 4, 5, 6, 1] rfl ?_
            exact b_R_worth_102 hS _ _ _ hk5 _ _ _ _
      · refine s_ls [2, 3, 4, 5, 6, 1, 0] rfl ?_
        exact b_R_worth_49 hS _ _ _ hk5 _ _ _ _ _
set_option maxRecDepth 100000 in
set_option maxHeartbeats 4000000 in
theorem b_R_worth_5 {G : GE} {X : SMw} (hS : SO (S_R_worth G X) RX3 cX3_worth) (z0 z1 z2 : Int) (z3 z4 : Int) (h : AH) : Sim (S_R_worth G X) 5 [(0, 2, z0), (1, 2, z1), (2, 0, z2), (3, 0, z3), (4, 0, z4)] [] 0 0 h (f_R_worth_5 z0 z1 z2 z3 z4 h) := by
  exact s_loop (S := (S_R_worth G X)) (lsf := fun s : Int × Int × AH => [(0, 2, z0), (1, 2, z1), (2, 0, z2), (3, 0, s.1), (4, 0, s.2.1)]) (hf := fun s => s.2.2) (fun kf hkf s => B_R_worth_5 hS z0 z1 z2 (fun a0 a1 a2 => hkf (a0, a1, a2)) s.1 s.2.1 s.2.2) fu_ (z3, z4, h)
set_option maxRecDepth 100000 in
set_option maxHeartbeats 4000000 in
theorem b_R_worth {G : GE} {X : SMw} (hS : SO (S_R_worth G X) RX3 cX3_worth) (z0 z1 z2 : Int) (h : AH) : Sim (S_R_worth G X) 0 [(0, 2, z0), (1, 2, z1), (2, 0, z2)] [] 0 0 h (f_R_worth z0 z1 z2 h) := by
  unfold f_R_worth
  refine s_iconst hS dX3_worth_0 ?_
  refine s_istore_n hS dX3_worth_1 rfl (Nat.le_of_ble_eq_true rfl) (ls' := [(3, 0, 0), (0, 2, z0), (1, 2, z1), (2, 0, z2)]) rfl ?_
  refine s_iconst hS dX3_worth_2 ?_
  refine s_istore hS dX3_worth_3 (Nat.le_of_ble_eq_true rfl) (ls' := [(4, 0, 0), (3, 0, 0), (0, 2, z0), (1, 2, z1), (2, 0, z2)]) rfl ?_
  refine s_ls [2, 3, 4, 1, 0] rfl ?_
  exact b_R_worth_5 hS _ _ _ _ _ _
theorem c_R_worth (l : Launch) (G : GE) (z0 z1 z2 : Int) (h : AH) : Con l yX3_worth cX3_worth 7 (some .long) 3 65 0 0 G [(2, z0), (2, z1), (0, z2)] h (f_R_worth z0 z1 z2 h) :=
  con_of (by decide +kernel) (Nat.le_of_ble_eq_true rfl) fun X hX hS hi => b_R_worth hS z0 z1 z2 h
theorem ca_X7_87 {S : SX} {cc : ByteArray} {pc : Nat} {ls : List (Nat × Nat × Int)} {st : List (Nat × Int)} {k n : Nat} {h : AH} {q0 b : Int} {f : Int → AH → Option (Int × AH)} (hS : SO S RX7 cc) (hR : 2 + 1 ≤ S.2.2.2.2.2.2.1 ∧ 8 + (4 + 11) + 43 ≤ S.2.2.2.2.2.2.2) (hk : k + 0 ≤ S.2.2.2.1 ∧ n + 0 ≤ S.2.2.2.2.1) (hl : st.length ≤ 4) (d : decode cc pc = .ok (.invokevirtual 87, 3)) (kk : ∀ (r : Int) (h2 : AH), Sim S (pc + 3) ls ((0, r) :: st) (k + 0) (n + 0) h2 (f r h2)) : Sim S pc ls ((0, q0) :: (2, b) :: st) k n h (c_k h 8 b (bd_ (f_T_sumOf b q0 h) f)) := s_callV hS mo_X7_sumOf rfl rfl (c_T_sumOf _ _ _ _ h) tw_843 tw_844 tw_845 hR hk rfl rfl hl d kk
theorem pf_X7_56 {S : SX} {cc : ByteArray} {pc : Nat} {ls : List (Nat × Nat × Int)} {st : List (Nat × Int)} {k n : Nat} {h : AH} {a v : Int} {f : AH → Option (Int × AH)} (hS : SO S RX7 cc) (d : decode cc pc = .ok (.putfield 56, 3)) (kk : ∀ h2 : AH, Sim S (pc + 3) ls st k n h2 (f h2)) : Sim S pc ls ((0, v) :: (2, a) :: st) k n h ((s_f h 8 a 6 v).bind f) := s_putf hS cx_7 6 (by decide) tw_264 rfl rfl (Or.inl rfl) rfl rfl d kk
theorem pf_X7_59 {S : SX} {cc : ByteArray} {pc : Nat} {ls : List (Nat × Nat × Int)} {st : List (Nat × Int)} {k n : Nat} {h : AH} {a v : Int} {f : AH → Option (Int × AH)} (hS : SO S RX7 cc) (d : decode cc pc = .ok (.putfield 59, 3)) (kk : ∀ h2 : AH, Sim S (pc + 3) ls st k n h2 (f h2)) : Sim S pc ls ((0, v) :: (2, a) :: st) k n h ((s_f h 8 a 7 v).bind f) := s_putf hS cx_7 7 (by decide) tw_265 rfl rfl (Or.inl rfl) rfl rfl d kk
theorem ca_X7_78 {S : SX} {cc : ByteArray} {pc : Nat} {ls : List (Nat × Nat × Int)} {st : List (Nat × Int)} {k n : Nat} {h : AH} {b : Int} {f : Int → AH → Option (Int × AH)} (hS : SO S RX7 cc) (hR : 1 + 1 ≤ S.2.2.2.2.2.2.1 ∧ 8 + (3 + 11) + 21 ≤ S.2.2.2.2.2.2.2) (hk : k + 0 ≤ S.2.2.2.1 ∧ n + 0 ≤ S.2.2.2.2.1) (hl : st.length ≤ 4) (d : decode cc pc = .ok (.invokevirtual 78, 3)) (kk : ∀ (r : Int) (h2 : AH), Sim S (pc + 3) ls ((0, r) :: st) (k + 0) (n + 0) h2 (f r h2)) : Sim S pc ls ((2, b) :: st) k n h (c_k h 8 b (bd_ (f_T_serverBits b h) f)) := s_callV hS mo_X7_serverBits rfl rfl (c_T_serverBits _ _ _ h) tw_834 tw_835 tw_836 hR hk rfl rfl hl d kk
theorem ca_X7_82 {S : SX} {cc : ByteArray} {pc : Nat} {ls : List (Nat × Nat × Int)} {st : List (Nat × Int)} {k n : Nat} {h : AH} {q0 : Int} {f : Int → AH → Option (Int × AH)} (hS : SO S RX7 cc) (hR : 0 + 1 ≤ S.2.2.2.2.2.2.1 ∧ 8 + (2 + 11) + 0 ≤ S.2.2.2.2.2.2.2) (hk : k + 0 ≤ S.2.2.2.1 ∧ n + 0 ≤ S.2.2.2.2.1) (hl : st.length ≤ 4) (d : decode cc pc = .ok (.invokestatic 82, 3)) (kk : ∀ (r : Int) (h2 : AH), Sim S (pc + 3) ls ((0, r) :: st) (k + 0) (n + 0) h2 (f r h2)) : Sim S pc ls ((0, q0) :: st) k n h (bd_ (f_J6_numberOfTrailingZeros_0f7a4 q0 h) f) := s_callS hS mo_J6_numberOfTrailingZeros_0f7a4 (c_J6_numberOfTrailingZeros_0f7a4 _ _ _ h) tw_842 tw_785 hR hk rfl rfl hl d kk
theorem ca_X7_90 {S : SX} {cc : ByteArray} {pc : Nat} {ls : List (Nat × Nat × Int)} {st : List (Nat × Int)} {k n : Nat} {h : AH} {q0 q1 b : Int} {f : Int → AH → Option (Int × AH)} (hS : SO S RX7 cc) (hR : 3 + 1 ≤ S.2.2.2.2.2.2.1 ∧ 8 + (7 + 11) + 65 ≤ S.2.2.2.2.2.2.2) (hk : k + 0 ≤ S.2.2.2.1 ∧ n + 0 ≤ S.2.2.2.2.1) (hl : st.length ≤ 4) (d : decode cc pc = .ok (.invokevirtual 90, 3)) (kk : ∀ (r : Int) (h2 : AH), Sim S (pc + 3) ls ((1, r) :: st) (k + 0) (n + 0) h2 (f r h2)) : Sim S pc ls ((0, q1) :: (2, q0) :: (2, b) :: st) k n h (c_k h 4 b (bd_ (f_R_worth b q0 q1 h) f)) := s_callV hS mo_X3_worth rfl rfl (c_R_worth _ _ _ _ _ h) tw_848 tw_849 tw_850 hR hk rfl rfl hl d kk
abbrev S_T_choose (G : GE) (X : SMw) : SX := (G, X, 8, 0, 0, (some .int), 4, 91)
set_option maxRecDepth 100000 in
set_option maxHeartbeats 4000000 in
theorem B_T_choose_47 {G : GE} {X : SMw} (hS : SO (S_T_choose G X) RX7 cX7_choose) (z0 z1 : Int) {k47 : Int → Int → Int → AH → Option (Int × AH)} (hk47 : ∀ (z2 z3 z5 : Int) (h : AH), Sim (S_T_choose G X) 47 [(0, 2, z0), (1, 2, z1), (2, 0, z2), (3, 1, z3), (5, 0, z5)] [] 0 0 h (k47 z2 z3 z5 h)) (z2 z3 z5 : Int) (h : AH) : Sim (S_T_choose G X) 47 [(0, 2, z0), (1, 2, z1), (2, 0, z2), (3, 1, z3), (5, 0, z5)] [] 0 0 h (F_T_choose_47 z0 z1 k47 z2 z3 z5 h) := by
  unfold F_T_choose_47
  refine s_iload hS dX7_choose_47 4 rfl ?_
  refine s_aload_n hS dX7_choose_49 rfl 0 rfl ?_
  refine gf_X7_34 hS dX7_choose_50 fun v1 => ?_
  refine s_icmp_ge hS dX7_choose_53 rfl ?_ ?_
  · refine s_iload_n hS dX7_choose_93 rfl 2 rfl ?_
    exact s_iret hS rfl (Nat.le_of_ble_eq_true rfl) (Nat.le_of_ble_eq_true rfl) dX7_choose_94
  · refine s_aload_n hS dX7_choose_56 rfl 0 rfl ?_
    refine s_iload hS dX7_choose_57 4 rfl ?_
    refine ca_X7_62 hS ⟨Nat.le_of_ble_eq_true rfl, Nat.le_of_ble_eq_true rfl⟩ ⟨Nat.le_of_ble_eq_true rfl, Nat.le_of_ble_eq_true rfl⟩ (Nat.le_of_ble_eq_true rfl) dX7_choose_59 fun v2 h3 => ?_
    refine s_if_eq hS dX7_choose_62 rfl ?_ ?_
    · refine s_iinc hS dX7_choose_87 4 rfl (Nat.le_of_ble_eq_true rfl) (ls' := [(5, 0, (z5 + 1)), (0, 2, z0), (1, 2, z1), (2, 0, z2), (3, 1, z3)]) rfl ?_
      refine s_goto hS dX7_choose_90 rfl ?_
      refine s_ls [1, 2, 3, 4, 0] rfl ?_
      exact hk47 _ _ _ _
    · refine s_aload_n hS dX7_choose_65 rfl 1 rfl ?_
      refine s_aload_n hS dX7_choose_66 rfl 0 rfl ?_
      refine s_iload hS dX7_choose_67 4 rfl ?_
      refine ca_X7_90 hS ⟨Nat.le_of_ble_eq_true rfl, Nat.le_of_ble_eq_true rfl⟩ ⟨Nat.le_of_ble_eq_true rfl, Nat.le_of_ble_eq_true rfl⟩ (Nat.le_of_ble_eq_true rfl) dX7_choose_69 fun v4 h5 => ?_
      refine s_lstore hS dX7_choose_72 (Nat.le_of_ble_eq_true rfl) (ls' := [(6, 1, v4), (0, 2, z0), (1, 2, z1), (2, 0, z2), (3, 1, z3), (5, 0, z5)]) rfl ?_
      refine s_lload hS dX7_choose_74 0 rfl ?_
      refine s_lload_n hS dX7_choose_76 rfl 4 rfl ?_
      refine s_lcmp hS dX7_choose_77 ?_
      refine s_if_le hS dX7_choose_78 rfl ?_ ?_
      · refine s_iinc hS dX7_choose_87 5 rfl (Nat.le_of_ble_eq_true rfl) (ls' := [(5, 0, (z5 + 1)), (6, 1, v4), (0, 2, z0), (1, 2, z1), (2, 0, z2), (3, 1, z3)]) rfl ?_
        refine s_goto hS dX7_choose_90 rfl ?_
        refine s_ls [2, 3, 4, 5, 0] rfl ?_
        exact hk47 _ _ _ _
      · refine s_lload hS dX7_choose_81 0 rfl ?_
        refine s_lstore_n hS dX7_choose_83 rfl (Nat.le_of_ble_eq_true rfl) (ls' := [(3, 1, v4), (6, 1, v4), (0, 2, z0), (1, 2, z1), (2, 0, z2), (5, 0, z5)]) rfl ?_
        refine s_iload hS dX7_choose_84 5 rfl ?_
        refine s_istore_n hS dX7_choose_86 rfl (Nat.le_of_ble_eq_true rfl) (ls' := [(2, 0, z5), (3, 1, v4), (6, 1, v4), (0, 2, z0), (1, 2, z1), (5, 0, z5)]) rfl ?_
        refine s_iinc hS dX7_choose_87 5 rfl (Nat.le_of_ble_eq_true rfl) (ls' := [(5, 0, (z5 + 1)), (2, 0, z5), (3, 1, v4), (6, 1, v4), (0, 2, z0), (1, 2, z1)]) rfl ?_
        refine s_goto hS dX7_choose_90 rfl ?_
        refine s_ls [4, 5, 1, 2, 0] rfl ?_
        exact hk47 _ _ _ _
set_option maxRecDepth 100000 in
set_option maxHeartbeats 4000000 in
theorem b_T_choose_47 {G : GE} {X : SMw} (hS : SO (S_T_choose G X) RX7 cX7_choose) (z0 z1 : Int) (z2 z3 z5 : Int) (h : AH) : Sim (S_T_choose G X) 47 [(0, 2, z0), (1, 2, z1), (2, 0, z2), (3, 1, z3), (5, 0, z5)] [] 0 0 h (f_T_choose_47 z0 z1 z2 z3 z5 h) := by
  exact s_loop (S := (S_T_choose G X)) (lsf := fun s : Int × Int × Int × AH => [(0, 2, z0), (1, 2, z1), (2, 0, s.1), (3, 1, s.2.1), (5, 0, s.2.2.1)]) (hf := fun s => s.2.2.2) (fun kf hkf s => B_T_choose_47 hS z0 z1 (fun a0 a1 a2 a3 => hkf (a0, a1, a2, a3)) s.1 s.2.1 s.2.2.1 s.2.2.2) fu_ (z2, z3, z5, h)
set_option maxRecDepth 100000 in
set_option maxHeartbeats 4000000 in
theorem b_T_choose {G : GE} {X : SMw} (hS : SO (S_T_choose G X) RX7 cX7_choose) (z0 z1 : Int) (h : AH) : Sim (S_T_choose G X) 0 [(0, 2, z0), (1, 2, z1)] [] 0 0 h (f_T_choose z0 z1 h) := by
  unfold f_T_choose
  refine s_aload_n hS dX7_choose_0 rfl 1 rfl ?_
  refine s_ifnonnull hS dX7_choose_1 rfl ?_ ?_
  · refine s_aload_n hS dX7_choose_22 rfl 0 rfl ?_
    refine s_aload_n hS dX7_choose_23 rfl 0 rfl ?_
    refine s_iconst hS dX7_choose_24 ?_
    refine ca_X7_87 hS ⟨Nat.le_of_ble_eq_true rfl, Nat.le_of_ble_eq_true rfl⟩ ⟨Nat.le_of_ble_eq_true rfl, Nat.le_of_ble_eq_true rfl⟩ (Nat.le_of_ble_eq_true rfl) dX7_choose_25 fun v1 h2 => ?_
    refine pf_X7_56 hS dX7_choose_28 fun h3 => ?_
    refine s_aload_n hS dX7_choose_31 rfl 0 rfl ?_
    refine s_aload_n hS dX7_choose_32 rfl 0 rfl ?_
    refine s_iconst hS dX7_choose_33 ?_
    refine ca_X7_87 hS ⟨Nat.le_of_ble_eq_true rfl, Nat.le_of_ble_eq_true rfl⟩ ⟨Nat.le_of_ble_eq_true rfl, Nat.le_of_ble_eq_true rfl⟩ (Nat.le_of_ble_eq_true rfl) dX7_choose_34 fun v4 h5 => ?_
    refine pf_X7_59 hS dX7_choose_37 fun h6 => ?_
    refine s_iconst hS dX7_choose_40 ?_
    refine s_istore_n hS dX7_choose_41 rfl (Nat.le_of_ble_eq_true rfl) (ls' := [(2, 0, (-1)), (0, 2, z0), (1, 2, z1)]) rfl ?_
    refine s_lconst0 hS dX7_choose_42 ?_
    refine s_lstore_n hS dX7_choose_43 rfl (Nat.le_of_ble_eq_true rfl) (ls' := [(3, 1, 0), (2, 0, (-1)), (0, 2, z0), (1, 2, z1)]) rfl ?_
    refine s_iconst hS dX7_choose_44 ?_
    refine s_istore hS dX7_choose_45 (Nat.le_of_ble_eq_true rfl) (ls' := [(5, 0, 0), (3, 1, 0), (2, 0, (-1)), (0, 2, z0), (1, 2, z1)]) rfl ?_
    refine s_ls [3, 4, 2, 1, 0] rfl ?_
    exact b_T_choose_47 hS _ _ _ _ _ _
  · refine s_aload_n hS dX7_choose_4 rfl 0 rfl ?_
    refine ca_X7_78 hS ⟨Nat.le_of_ble_eq_true rfl, Nat.le_of_ble_eq_true rfl⟩ ⟨Nat.le_of_ble_eq_true rfl, Nat.le_of_ble_eq_true rfl⟩ (Nat.le_of_ble_eq_true rfl) dX7_choose_5 fun v7 h8 => ?_
    refine s_istore_n hS dX7_choose_8 rfl (Nat.le_of_ble_eq_true rfl) (ls' := [(2, 0, v7), (0, 2, z0), (1, 2, z1)]) rfl ?_
    refine s_iload_n hS dX7_choose_9 rfl 0 rfl ?_
    refine s_if_ne hS dX7_choose_10 rfl ?_ ?_
    · refine s_iload_n hS dX7_choose_17 rfl 0 rfl ?_
      refine ca_X7_82 hS ⟨Nat.le_of_ble_eq_true rfl, Nat.le_of_ble_eq_true rfl⟩ ⟨Nat.le_of_ble_eq_true rfl, Nat.le_of_ble_eq_true rfl⟩ (Nat.le_of_ble_eq_true rfl) dX7_choose_18 fun v9 h10 => ?_
      exact s_iret hS rfl (Nat.le_of_ble_eq_true rfl) (Nat.le_of_ble_eq_true rfl) dX7_choose_21
    · refine s_iconst hS dX7_choose_13 ?_
      refine s_goto hS dX7_choose_14 rfl ?_
      exact s_iret hS rfl (Nat.le_of_ble_eq_true rfl) (Nat.le_of_ble_eq_true rfl) dX7_choose_21
theorem c_T_choose (l : Launch) (G : GE) (z0 z1 : Int) (h : AH) : Con l yX7_choose cX7_choose 8 (some .int) 4 91 0 0 G [(2, z0), (2, z1)] h (f_T_choose z0 z1 h) :=
  con_of (by decide +kernel) (Nat.le_of_ble_eq_true rfl) fun X hX hS hi => b_T_choose hS z0 z1 h
