section SB
variable {S : SX} {own : String} {cc : ByteArray} {pc : Nat} {ls : List (Nat × Nat × Int)} {st : List (Nat × Int)} {k n : Nat} {h : AH} {o o1 o2 : Option (Int × AH)}
theorem s_iadd (hS : SO S own cc) {x y : Int} (d : decode cc pc = .ok (.iadd, 1)) (kk : Sim S (pc + 1) ls ((0, x + y) :: st) k n h o) : Sim S pc ls ((0, y) :: (0, x) :: st) k n h o := by
  intro r h' ho H locs la hH hf hv
  have K := kk r h' ho H locs la hH hf hv
  simp only [List.map_cons, gv0, i32_add] at K ⊢
  exact lv_iadd hS.1 hS.2.1 d K
theorem s_isub (hS : SO S own cc) {x y : Int} (d : decode cc pc = .ok (.isub, 1)) (kk : Sim S (pc + 1) ls ((0, x - y) :: st) k n h o) : Sim S pc ls ((0, y) :: (0, x) :: st) k n h o := by
  intro r h' ho H locs la hH hf hv
  have K := kk r h' ho H locs la hH hf hv
  simp only [List.map_cons, gv0, i32_sub] at K ⊢
  exact lv_isub hS.1 hS.2.1 d K
theorem s_imul (hS : SO S own cc) {x y : Int} (d : decode cc pc = .ok (.imul, 1)) (kk : Sim S (pc + 1) ls ((0, x * y) :: st) k n h o) : Sim S pc ls ((0, y) :: (0, x) :: st) k n h o := by
  intro r h' ho H locs la hH hf hv
  have K := kk r h' ho H locs la hH hf hv
  simp only [List.map_cons, gv0, i32_mul] at K ⊢
  exact lv_imul hS.1 hS.2.1 d K
theorem s_ladd (hS : SO S own cc) {x y : Int} (d : decode cc pc = .ok (.ladd, 1)) (kk : Sim S (pc + 1) ls ((1, x + y) :: st) k n h o) : Sim S pc ls ((1, y) :: (1, x) :: st) k n h o := by
  intro r h' ho H locs la hH hf hv
  have K := kk r h' ho H locs la hH hf hv
  simp only [List.map_cons, gv1, i64_add] at K ⊢
  exact lv_ladd hS.1 hS.2.1 d K
theorem s_lsub (hS : SO S own cc) {x y : Int} (d : decode cc pc = .ok (.lsub, 1)) (kk : Sim S (pc + 1) ls ((1, x - y) :: st) k n h o) : Sim S pc ls ((1, y) :: (1, x) :: st) k n h o := by
  intro r h' ho H locs la hH hf hv
  have K := kk r h' ho H locs la hH hf hv
  simp only [List.map_cons, gv1, i64_sub] at K ⊢
  exact lv_lsub hS.1 hS.2.1 d K
theorem s_lmul (hS : SO S own cc) {x y : Int} (d : decode cc pc = .ok (.lmul, 1)) (kk : Sim S (pc + 1) ls ((1, x * y) :: st) k n h o) : Sim S pc ls ((1, y) :: (1, x) :: st) k n h o := by
  intro r h' ho H locs la hH hf hv
  have K := kk r h' ho H locs la hH hf hv
  simp only [List.map_cons, gv1, i64_mul] at K ⊢
  exact lv_lmul hS.1 hS.2.1 d K
theorem s_iand (hS : SO S own cc) {x y : Int} (d : decode cc pc = .ok (.iand, 1)) (kk : Sim S (pc + 1) ls ((0, o_and x y) :: st) k n h o) : Sim S pc ls ((0, y) :: (0, x) :: st) k n h o := by
  intro r h' ho H locs la hH hf hv
  have K := kk r h' ho H locs la hH hf hv
  simp only [List.map_cons, gv0, o_and, i32_of] at K ⊢
  exact lv_iand hS.1 hS.2.1 d K
theorem s_ior (hS : SO S own cc) {x y : Int} (d : decode cc pc = .ok (.ior, 1)) (kk : Sim S (pc + 1) ls ((0, o_or x y) :: st) k n h o) : Sim S pc ls ((0, y) :: (0, x) :: st) k n h o := by
  intro r h' ho H locs la hH hf hv
  have K := kk r h' ho H locs la hH hf hv
  simp only [List.map_cons, gv0, o_or, i32_of] at K ⊢
  exact lv_ior hS.1 hS.2.1 d K
theorem s_ixor (hS : SO S own cc) {x y : Int} (d : decode cc pc = .ok (.ixor, 1)) (kk : Sim S (pc + 1) ls ((0, o_xor x y) :: st) k n h o) : Sim S pc ls ((0, y) :: (0, x) :: st) k n h o := by
  intro r h' ho H locs la hH hf hv
  have K := kk r h' ho H locs la hH hf hv
  simp only [List.map_cons, gv0, o_xor, i32_of] at K ⊢
  exact lv_ixor hS.1 hS.2.1 d K
theorem s_ishl (hS : SO S own cc) {x y : Int} (d : decode cc pc = .ok (.ishl, 1)) (kk : Sim S (pc + 1) ls ((0, o_shl x y) :: st) k n h o) : Sim S pc ls ((0, y) :: (0, x) :: st) k n h o := by
  intro r h' ho H locs la hH hf hv
  have K := kk r h' ho H locs la hH hf hv
  simp only [List.map_cons, gv0, o_shl, i32_of] at K ⊢
  exact lv_ishl hS.1 hS.2.1 d K
theorem s_ishr (hS : SO S own cc) {x y : Int} (d : decode cc pc = .ok (.ishr, 1)) (kk : Sim S (pc + 1) ls ((0, o_shr x y) :: st) k n h o) : Sim S pc ls ((0, y) :: (0, x) :: st) k n h o := by
  intro r h' ho H locs la hH hf hv
  have K := kk r h' ho H locs la hH hf hv
  simp only [List.map_cons, gv0, o_shr, i32_of] at K ⊢
  exact lv_ishr hS.1 hS.2.1 d K
theorem s_land (hS : SO S own cc) {x y : Int} (d : decode cc pc = .ok (.land, 1)) (kk : Sim S (pc + 1) ls ((1, l_and x y) :: st) k n h o) : Sim S pc ls ((1, y) :: (1, x) :: st) k n h o := by
  intro r h' ho H locs la hH hf hv
  have K := kk r h' ho H locs la hH hf hv
  simp only [List.map_cons, gv1, l_and, i64_of] at K ⊢
  exact lv_land hS.1 hS.2.1 d K
theorem s_lor (hS : SO S own cc) {x y : Int} (d : decode cc pc = .ok (.lor, 1)) (kk : Sim S (pc + 1) ls ((1, l_or x y) :: st) k n h o) : Sim S pc ls ((1, y) :: (1, x) :: st) k n h o := by
  intro r h' ho H locs la hH hf hv
  have K := kk r h' ho H locs la hH hf hv
  simp only [List.map_cons, gv1, l_or, i64_of] at K ⊢
  exact lv_lor hS.1 hS.2.1 d K
theorem s_lxor (hS : SO S own cc) {x y : Int} (d : decode cc pc = .ok (.lxor, 1)) (kk : Sim S (pc + 1) ls ((1, l_xor x y) :: st) k n h o) : Sim S pc ls ((1, y) :: (1, x) :: st) k n h o := by
  intro r h' ho H locs la hH hf hv
  have K := kk r h' ho H locs la hH hf hv
  simp only [List.map_cons, gv1, l_xor, i64_of] at K ⊢
  exact lv_lxor hS.1 hS.2.1 d K
theorem s_iushr (hS : SO S own cc) {x y : Int} (d : decode cc pc = .ok (.iushr, 1)) (kk : Sim S (pc + 1) ls ((0, o_ushr x y) :: st) k n h o) : Sim S pc ls ((0, y) :: (0, x) :: st) k n h o := by
  intro r h' ho H locs la hH hf hv
  have K := kk r h' ho H locs la hH hf hv
  simp only [List.map_cons, gv0, o_ushr, i32_of] at K ⊢
  exact lv_iushr hS.1 hS.2.1 d rfl K
theorem s_lshl (hS : SO S own cc) {x y : Int} (d : decode cc pc = .ok (.lshl, 1)) (kk : Sim S (pc + 1) ls ((1, l_shl x y) :: st) k n h o) : Sim S pc ls ((0, y) :: (1, x) :: st) k n h o := by
  intro r h' ho H locs la hH hf hv
  have K := kk r h' ho H locs la hH hf hv
  simp only [List.map_cons, gv0, gv1, l_shl, i64_of] at K ⊢
  exact lv_lshl hS.1 hS.2.1 d rfl K
theorem s_lushr (hS : SO S own cc) {x y : Int} (d : decode cc pc = .ok (.lushr, 1)) (kk : Sim S (pc + 1) ls ((1, l_ushr x y) :: st) k n h o) : Sim S pc ls ((0, y) :: (1, x) :: st) k n h o := by
  intro r h' ho H locs la hH hf hv
  have K := kk r h' ho H locs la hH hf hv
  simp only [List.map_cons, gv0, gv1, l_ushr, i64_of] at K ⊢
  exact lv_lushr hS.1 hS.2.1 d rfl K
theorem s_lcmp (hS : SO S own cc) {x y : Int} (d : decode cc pc = .ok (.lcmp, 1)) (kk : Sim S (pc + 1) ls ((0, l_cmp x y) :: st) k n h o) : Sim S pc ls ((1, y) :: (1, x) :: st) k n h o := by
  intro r h' ho H locs la hH hf hv
  have K := kk r h' ho H locs la hH hf hv
  simp only [List.map_cons, gv0, gv1, l_cmp, i32_of] at K ⊢
  exact W.lcmp hS.1 hS.2.1 d K
theorem s_ineg (hS : SO S own cc) {x : Int} (d : decode cc pc = .ok (.ineg, 1)) (kk : Sim S (pc + 1) ls ((0, -x) :: st) k n h o) : Sim S pc ls ((0, x) :: st) k n h o := by
  intro r h' ho H locs la hH hf hv
  have K := kk r h' ho H locs la hH hf hv
  simp only [List.map_cons, gv0, i32_neg] at K ⊢
  exact lv_ineg hS.1 hS.2.1 d K
theorem s_i2l (hS : SO S own cc) {x : Int} (d : decode cc pc = .ok (.i2l, 1)) (kk : Sim S (pc + 1) ls ((1, o_i2l x) :: st) k n h o) : Sim S pc ls ((0, x) :: st) k n h o := by
  intro r h' ho H locs la hH hf hv
  have K := kk r h' ho H locs la hH hf hv
  simp only [List.map_cons, gv0, gv1, o_i2l, i64_of] at K ⊢
  exact lv_i2l hS.1 hS.2.1 d rfl K
theorem s_l2i (hS : SO S own cc) {x : Int} (d : decode cc pc = .ok (.l2i, 1)) (kk : Sim S (pc + 1) ls ((0, o_l2i x) :: st) k n h o) : Sim S pc ls ((1, x) :: st) k n h o := by
  intro r h' ho H locs la hH hf hv
  have K := kk r h' ho H locs la hH hf hv
  simp only [List.map_cons, gv0, gv1, o_l2i, i32_of] at K ⊢
  exact lv_l2i hS.1 hS.2.1 d rfl K
theorem s_i2b (hS : SO S own cc) {x : Int} (d : decode cc pc = .ok (.i2b, 1)) (kk : Sim S (pc + 1) ls ((0, o_i2b x) :: st) k n h o) : Sim S pc ls ((0, x) :: st) k n h o := by
  intro r h' ho H locs la hH hf hv
  have K := kk r h' ho H locs la hH hf hv
  simp only [List.map_cons, gv0, o_i2b, i32_of] at K ⊢
  exact lv_i2b hS.1 hS.2.1 d rfl K
theorem s_idiv (hS : SO S own cc) {x y : Int} {f : Int → Option (Int × AH)} (d : decode cc pc = .ok (.idiv, 1)) (kk : ∀ v : Int, Sim S (pc + 1) ls ((0, v) :: st) k n h (f v)) : Sim S pc ls ((0, y) :: (0, x) :: st) k n h ((p_div x y).bind f) := by
  unfold p_div
  by_cases e : nm y = 0
  · rw [if_pos e]; exact s_none
  · rw [if_neg e]
    intro r h' ho H locs la hH hf hv
    have K := kk (o_div x y) r h' ho H locs la hH hf hv
    simp only [List.map_cons, gv0, o_div, i32_of] at K ⊢
    exact lv_idiv hS.1 hS.2.1 d (fun q => e ((i32_eq0 y).mp q)) K
theorem s_irem (hS : SO S own cc) {x y : Int} {f : Int → Option (Int × AH)} (d : decode cc pc = .ok (.irem, 1)) (kk : ∀ v : Int, Sim S (pc + 1) ls ((0, v) :: st) k n h (f v)) : Sim S pc ls ((0, y) :: (0, x) :: st) k n h ((p_rem x y).bind f) := by
  unfold p_rem
  by_cases e : nm y = 0
  · rw [if_pos e]; exact s_none
  · rw [if_neg e]
    intro r h' ho H locs la hH hf hv
    have K := kk (o_rem x y) r h' ho H locs la hH hf hv
    simp only [List.map_cons, gv0, o_rem, i32_of] at K ⊢
    exact lv_irem hS.1 hS.2.1 d (fun q => e ((i32_eq0 y).mp q)) K
theorem s_ldiv (hS : SO S own cc) {x y : Int} {f : Int → Option (Int × AH)} (d : decode cc pc = .ok (.ldiv, 1)) (kk : ∀ v : Int, Sim S (pc + 1) ls ((1, v) :: st) k n h (f v)) : Sim S pc ls ((1, y) :: (1, x) :: st) k n h ((q_div x y).bind f) := by
  unfold q_div
  by_cases e : nl y = 0
  · rw [if_pos e]; exact s_none
  · rw [if_neg e]
    intro r h' ho H locs la hH hf hv
    have K := kk (l_div x y) r h' ho H locs la hH hf hv
    simp only [List.map_cons, gv1, l_div, i64_of] at K ⊢
    exact lv_ldiv hS.1 hS.2.1 d (fun q => e ((i64_eq0 y).mp q)) K
theorem s_lrem (hS : SO S own cc) {x y : Int} {f : Int → Option (Int × AH)} (d : decode cc pc = .ok (.lrem, 1)) (kk : ∀ v : Int, Sim S (pc + 1) ls ((1, v) :: st) k n h (f v)) : Sim S pc ls ((1, y) :: (1, x) :: st) k n h ((q_rem x y).bind f) := by
  unfold q_rem
  by_cases e : nl y = 0
  · rw [if_pos e]; exact s_none
  · rw [if_neg e]
    intro r h' ho H locs la hH hf hv
    have K := kk (l_rem x y) r h' ho H locs la hH hf hv
    simp only [List.map_cons, gv1, l_rem, i64_of] at K ⊢
    exact lv_lrem hS.1 hS.2.1 d (fun q => e ((i64_eq0 y).mp q)) K
theorem s_icmp_eq (hS : SO S own cc) {x y : Int} {off : Int} {tgt : Nat} (d : decode cc pc = .ok (.if_icmp .eq off, 3)) (ht : (pc : Int) + off = (tgt : Int)) (k1 : Sim S tgt ls st k n h o1) (k2 : Sim S (pc + 3) ls st k n h o2) : Sim S pc ls ((0, y) :: (0, x) :: st) k n h (if nm x = nm y then o1 else o2) := by
  intro r h' ho H locs la hH hf hv
  refine lv_icmp_eq hS.1 hS.2.1 d ht (fun q => ?_) (fun q => ?_)
  · exact k1 r h' (by rw [if_pos ((i32_inj x y).mp q)] at ho; exact ho) H locs la hH hf hv
  · exact k2 r h' (by rw [if_neg (fun z => q ((i32_inj x y).mpr z))] at ho; exact ho) H locs la hH hf hv
theorem s_icmp_ne (hS : SO S own cc) {x y : Int} {off : Int} {tgt : Nat} (d : decode cc pc = .ok (.if_icmp .ne off, 3)) (ht : (pc : Int) + off = (tgt : Int)) (k1 : Sim S tgt ls st k n h o1) (k2 : Sim S (pc + 3) ls st k n h o2) : Sim S pc ls ((0, y) :: (0, x) :: st) k n h (if nm x ≠ nm y then o1 else o2) := by
  intro r h' ho H locs la hH hf hv
  refine lv_icmp_ne hS.1 hS.2.1 d ht (fun q => ?_) (fun q => ?_)
  · exact k1 r h' (by rw [if_pos (fun z => q ((i32_inj x y).mpr z))] at ho; exact ho) H locs la hH hf hv
  · exact k2 r h' (by rw [if_neg (fun z => z ((i32_inj x y).mp q))] at ho; exact ho) H locs la hH hf hv
theorem s_icmp_lt (hS : SO S own cc) {x y : Int} {off : Int} {tgt : Nat} (d : decode cc pc = .ok (.if_icmp .lt off, 3)) (ht : (pc : Int) + off = (tgt : Int)) (k1 : Sim S tgt ls st k n h o1) (k2 : Sim S (pc + 3) ls st k n h o2) : Sim S pc ls ((0, y) :: (0, x) :: st) k n h (if nm x < nm y then o1 else o2) := by
  intro r h' ho H locs la hH hf hv
  refine lv_icmp_lt hS.1 hS.2.1 d ht (fun q => ?_) (fun q => ?_)
  · exact k1 r h' (by rw [if_pos ((i32_lt x y).mp q)] at ho; exact ho) H locs la hH hf hv
  · exact k2 r h' (by rw [if_neg (fun z => q ((i32_lt x y).mpr z))] at ho; exact ho) H locs la hH hf hv
theorem s_icmp_ge (hS : SO S own cc) {x y : Int} {off : Int} {tgt : Nat} (d : decode cc pc = .ok (.if_icmp .ge off, 3)) (ht : (pc : Int) + off = (tgt : Int)) (k1 : Sim S tgt ls st k n h o1) (k2 : Sim S (pc + 3) ls st k n h o2) : Sim S pc ls ((0, y) :: (0, x) :: st) k n h (if nm y ≤ nm x then o1 else o2) := by
  intro r h' ho H locs la hH hf hv
  refine lv_icmp_ge hS.1 hS.2.1 d ht (fun q => ?_) (fun q => ?_)
  · exact k1 r h' (by rw [if_pos ((i32_le y x).mp q)] at ho; exact ho) H locs la hH hf hv
  · exact k2 r h' (by rw [if_neg (fun z => q ((i32_le y x).mpr z))] at ho; exact ho) H locs la hH hf hv
theorem s_icmp_gt (hS : SO S own cc) {x y : Int} {off : Int} {tgt : Nat} (d : decode cc pc = .ok (.if_icmp .gt off, 3)) (ht : (pc : Int) + off = (tgt : Int)) (k1 : Sim S tgt ls st k n h o1) (k2 : Sim S (pc + 3) ls st k n h o2) : Sim S pc ls ((0, y) :: (0, x) :: st) k n h (if nm y < nm x then o1 else o2) := by
  intro r h' ho H locs la hH hf hv
  refine lv_icmp_gt hS.1 hS.2.1 d ht (fun q => ?_) (fun q => ?_)
  · exact k1 r h' (by rw [if_pos ((i32_lt y x).mp q)] at ho; exact ho) H locs la hH hf hv
  · exact k2 r h' (by rw [if_neg (fun z => q ((i32_lt y x).mpr z))] at ho; exact ho) H locs la hH hf hv
theorem s_icmp_le (hS : SO S own cc) {x y : Int} {off : Int} {tgt : Nat} (d : decode cc pc = .ok (.if_icmp .le off, 3)) (ht : (pc : Int) + off = (tgt : Int)) (k1 : Sim S tgt ls st k n h o1) (k2 : Sim S (pc + 3) ls st k n h o2) : Sim S pc ls ((0, y) :: (0, x) :: st) k n h (if nm x ≤ nm y then o1 else o2) := by
  intro r h' ho H locs la hH hf hv
  refine lv_icmp_le hS.1 hS.2.1 d ht (fun q => ?_) (fun q => ?_)
  · exact k1 r h' (by rw [if_pos ((i32_le x y).mp q)] at ho; exact ho) H locs la hH hf hv
  · exact k2 r h' (by rw [if_neg (fun z => q ((i32_le x y).mpr z))] at ho; exact ho) H locs la hH hf hv
theorem s_if_eq (hS : SO S own cc) {x : Int} {off : Int} {tgt : Nat} (d : decode cc pc = .ok (.ifCond .eq off, 3)) (ht : (pc : Int) + off = (tgt : Int)) (k1 : Sim S tgt ls st k n h o1) (k2 : Sim S (pc + 3) ls st k n h o2) : Sim S pc ls ((0, x) :: st) k n h (if nm x = 0 then o1 else o2) := by
  intro r h' ho H locs la hH hf hv
  refine lv_if_eq hS.1 hS.2.1 d ht (fun q => ?_) (fun q => ?_)
  · exact k1 r h' (by rw [if_pos ((i32_eq0 x).mp q)] at ho; exact ho) H locs la hH hf hv
  · exact k2 r h' (by rw [if_neg (fun z => q ((i32_eq0 x).mpr z))] at ho; exact ho) H locs la hH hf hv
theorem s_if_ne (hS : SO S own cc) {x : Int} {off : Int} {tgt : Nat} (d : decode cc pc = .ok (.ifCond .ne off, 3)) (ht : (pc : Int) + off = (tgt : Int)) (k1 : Sim S tgt ls st k n h o1) (k2 : Sim S (pc + 3) ls st k n h o2) : Sim S pc ls ((0, x) :: st) k n h (if nm x ≠ 0 then o1 else o2) := by
  intro r h' ho H locs la hH hf hv
  refine lv_if_ne hS.1 hS.2.1 d ht (fun q => ?_) (fun q => ?_)
  · exact k1 r h' (by rw [if_pos (fun z => q ((i32_eq0 x).mpr z))] at ho; exact ho) H locs la hH hf hv
  · exact k2 r h' (by rw [if_neg (fun z => z ((i32_eq0 x).mp q))] at ho; exact ho) H locs la hH hf hv
theorem z_lt {x : Int} : i32 x < 0 ↔ nm x < 0 := by rw [← i32_0, i32_lt, nm_0]
theorem z_ge {x : Int} : 0 ≤ i32 x ↔ 0 ≤ nm x := by rw [← i32_0, i32_le, nm_0]
theorem z_gt {x : Int} : 0 < i32 x ↔ 0 < nm x := by rw [← i32_0, i32_lt, nm_0]
theorem z_le {x : Int} : i32 x ≤ 0 ↔ nm x ≤ 0 := by rw [← i32_0, i32_le, nm_0]
theorem s_if_lt (hS : SO S own cc) {x : Int} {off : Int} {tgt : Nat} (d : decode cc pc = .ok (.ifCond .lt off, 3)) (ht : (pc : Int) + off = (tgt : Int)) (k1 : Sim S tgt ls st k n h o1) (k2 : Sim S (pc + 3) ls st k n h o2) : Sim S pc ls ((0, x) :: st) k n h (if nm x < 0 then o1 else o2) := by
  intro r h' ho H locs la hH hf hv
  refine lv_if_lt hS.1 hS.2.1 d ht (fun q => ?_) (fun q => ?_)
  · exact k1 r h' (by rw [if_pos (z_lt.mp q)] at ho; exact ho) H locs la hH hf hv
  · exact k2 r h' (by rw [if_neg (fun z => q (z_lt.mpr z))] at ho; exact ho) H locs la hH hf hv
theorem s_if_ge (hS : SO S own cc) {x : Int} {off : Int} {tgt : Nat} (d : decode cc pc = .ok (.ifCond .ge off, 3)) (ht : (pc : Int) + off = (tgt : Int)) (k1 : Sim S tgt ls st k n h o1) (k2 : Sim S (pc + 3) ls st k n h o2) : Sim S pc ls ((0, x) :: st) k n h (if 0 ≤ nm x then o1 else o2) := by
  intro r h' ho H locs la hH hf hv
  refine lv_if_ge hS.1 hS.2.1 d ht (fun q => ?_) (fun q => ?_)
  · exact k1 r h' (by rw [if_pos (z_ge.mp q)] at ho; exact ho) H locs la hH hf hv
  · exact k2 r h' (by rw [if_neg (fun z => q (z_ge.mpr z))] at ho; exact ho) H locs la hH hf hv
theorem s_if_gt (hS : SO S own cc) {x : Int} {off : Int} {tgt : Nat} (d : decode cc pc = .ok (.ifCond .gt off, 3)) (ht : (pc : Int) + off = (tgt : Int)) (k1 : Sim S tgt ls st k n h o1) (k2 : Sim S (pc + 3) ls st k n h o2) : Sim S pc ls ((0, x) :: st) k n h (if 0 < nm x then o1 else o2) := by
  intro r h' ho H locs la hH hf hv
  refine lv_if_gt hS.1 hS.2.1 d ht (fun q => ?_) (fun q => ?_)
  · exact k1 r h' (by rw [if_pos (z_gt.mp q)] at ho; exact ho) H locs la hH hf hv
  · exact k2 r h' (by rw [if_neg (fun z => q (z_gt.mpr z))] at ho; exact ho) H locs la hH hf hv
theorem s_if_le (hS : SO S own cc) {x : Int} {off : Int} {tgt : Nat} (d : decode cc pc = .ok (.ifCond .le off, 3)) (ht : (pc : Int) + off = (tgt : Int)) (k1 : Sim S tgt ls st k n h o1) (k2 : Sim S (pc + 3) ls st k n h o2) : Sim S pc ls ((0, x) :: st) k n h (if nm x ≤ 0 then o1 else o2) := by
  intro r h' ho H locs la hH hf hv
  refine lv_if_le hS.1 hS.2.1 d ht (fun q => ?_) (fun q => ?_)
  · exact k1 r h' (by rw [if_pos (z_le.mp q)] at ho; exact ho) H locs la hH hf hv
  · exact k2 r h' (by rw [if_neg (fun z => q (z_le.mpr z))] at ho; exact ho) H locs la hH hf hv
theorem s_ifnull (hS : SO S own cc) {x : Int} {off : Int} {tgt : Nat} (d : decode cc pc = .ok (.ifnull off, 3)) (ht : (pc : Int) + off = (tgt : Int)) (k1 : Sim S tgt ls st k n h o1) (k2 : Sim S (pc + 3) ls st k n h o2) : Sim S pc ls ((2, x) :: st) k n h (if x = 0 then o1 else o2) := by
  intro r h' ho H locs la hH hf hv
  by_cases e : x = 0
  · rw [if_pos e] at ho
    subst e
    exact lv_ifnullN hS.1 hS.2.1 d ht (k1 r h' ho H locs la hH hf hv)
  · rw [if_neg e] at ho
    simp only [List.map_cons, gv2 _ e]
    exact lv_ifnull hS.1 hS.2.1 d (k2 r h' ho H locs la hH hf hv)
theorem s_ifnonnull (hS : SO S own cc) {x : Int} {off : Int} {tgt : Nat} (d : decode cc pc = .ok (.ifnonnull off, 3)) (ht : (pc : Int) + off = (tgt : Int)) (k1 : Sim S tgt ls st k n h o1) (k2 : Sim S (pc + 3) ls st k n h o2) : Sim S pc ls ((2, x) :: st) k n h (if x ≠ 0 then o1 else o2) := by
  intro r h' ho H locs la hH hf hv
  by_cases e : x = 0
  · rw [if_neg (fun q => q e)] at ho
    subst e
    exact lv_ifnonnullN hS.1 hS.2.1 d (k2 r h' ho H locs la hH hf hv)
  · rw [if_pos e] at ho
    simp only [List.map_cons, gv2 _ e]
    exact lv_ifnonnull hS.1 hS.2.1 d ht (k1 r h' ho H locs la hH hf hv)
/-- a switch: one arm, then the rest -/
theorem s_swI (hS : SO S own cc) {x dflt lo hi off : Int} {offs : Array Int} {len tgt : Nat} (v : Int) (d : decode cc pc = .ok (.tableswitch dflt lo hi offs, len)) (h1 : lo ≤ v) (h2 : v ≤ hi) (ho' : offs[(v - lo).toNat]? = some off) (ht : (pc : Int) + off = (tgt : Int)) (k1 : Sim S tgt ls st k n h o1) (k2 : nm x ≠ v → Sim S pc ls ((0, x) :: st) k n h o2) : Sim S pc ls ((0, x) :: st) k n h (if nm x = v then o1 else o2) := by
  by_cases e : nm x = v
  · rw [if_pos e]
    intro r h' ho H locs la hH hf hv
    refine lv_tableIn hS.1 hS.2.1 d ?_ ?_ ?_ ht (k1 r h' ho H locs la hH hf hv)
    · rw [i32_nm, e]; omega
    · rw [i32_nm, e]; omega
    · rw [i32_nm, e]; exact ho'
  · rw [if_neg e]; exact k2 e
theorem s_swO (hS : SO S own cc) {x dflt lo hi : Int} {offs : Array Int} {len tgt : Nat} (d : decode cc pc = .ok (.tableswitch dflt lo hi offs, len)) (ho' : nm x < lo ∨ hi < nm x) (ht : (pc : Int) + dflt = (tgt : Int)) (k1 : Sim S tgt ls st k n h o1) : Sim S pc ls ((0, x) :: st) k n h o1 := by
  intro r h' ho H locs la hH hf hv
  refine lv_tableOut hS.1 hS.2.1 d ?_ ht (k1 r h' ho H locs la hH hf hv)
  rw [i32_nm]; exact ho'
end SB
