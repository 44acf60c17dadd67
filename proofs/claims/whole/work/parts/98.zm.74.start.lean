/-! ===== the start of the law: ghosts, tables, literals, script ===== -/
def fl_ : List Cond := flatC (Jvm.Cond.and given_1 narrow_1)
def tmw_ (i : Nat) : Term := Term.string (sx_.getD i ("", 0, "")).1 (sx_.getD i ("", 0, "")).2.1
theorem fl_ex : ∀ i, i < 6 → Cond.exactly (tmw_ i) "java/lang/String" ∈ fl_ := by decide +kernel
theorem fl_co : ∀ i, i < 6 → Cond.eq (.field (tmw_ i) "java/lang/String" "coder" "B") (.int 0) ∈ fl_ := by decide +kernel
theorem fl_ar : ∀ i, i < 6 → Cond.arrayOf (.field (tmw_ i) "java/lang/String" "value" "[B") .byte ∈ fl_ := by decide +kernel
theorem fl_le : ∀ i, i < 6 → Cond.eq (.length (.field (tmw_ i) "java/lang/String" "value" "[B")) (.int (Int32.ofNat (sl_.getD i 0))) ∈ fl_ := by decide +kernel
theorem fl_el : ∀ i, i < 6 → ∀ j, j < sl_.getD i 0 → Cond.eq (.elem (.field (tmw_ i) "java/lang/String" "value" "[B") (.int (Int32.ofNat j))) (.int ((sb_.getD i []).getD j 0)) ∈ fl_ := by decide +kernel
theorem fl_ne : ∀ i, i < 6 → ∀ j, j < 6 → i ≠ j → (Cond.not (Cond.eq (tmw_ i) (tmw_ j)) ∈ fl_ ∨ Cond.not (Cond.eq (tmw_ j) (tmw_ i)) ∈ fl_) := by decide +kernel
theorem fl_cs : Cond.eq (.static "java/lang/String" "COMPACT_STRINGS" "Z") (.int 1) ∈ fl_ := by decide +kernel
theorem fl_fm : Cond.isRef (.static "jdk/internal/util/Preconditions" "SIOOBE_FORMATTER" "Ljava/util/function/BiFunction;") ∈ fl_ := by decide +kernel
theorem sl_small : ∀ i, i < 6 → sl_.getD i 0 < 2 ^ 31 := by decide +kernel
theorem tb_s0 : Cond.stringRef RX1 64 "papers station voters spoiled" ∈ lw_tbl := tk_2 _ (List.mem_of_getElem? (i := 142) (by decide +kernel))
theorem tb_s1 : Cond.stringRef RX4 38 "serve" ∈ lw_tbl := tk_3 _ (List.mem_of_getElem? (i := 50) (by decide +kernel))
theorem tb_s2 : Cond.stringRef RX4 116 "station waiting stock box spoiled next runs crowd left hour" ∈ lw_tbl := tk_3 _ (List.mem_of_getElem? (i := 68) (by decide +kernel))
theorem tb_s3 : Cond.stringRef RX4 52 "if" ∈ lw_tbl := tk_3 _ (List.mem_of_getElem? (i := 77) (by decide +kernel))
theorem tb_s4 : Cond.stringRef RX4 82 "not" ∈ lw_tbl := tk_3 _ (List.mem_of_getElem? (i := 86) (by decide +kernel))
theorem tb_s5 : Cond.stringRef RX4 80 "or and" ∈ lw_tbl := tk_3 _ (List.mem_of_getElem? (i := 100) (by decide +kernel))
theorem tb_ls : Cond.laysStatic "java/lang/String" "COMPACT_STRINGS" "Z" ∈ lw_tbl := tk_2 _ (List.mem_of_getElem? (i := 157) (by decide +kernel))
theorem tb_lf : Cond.laysStatic "jdk/internal/util/Preconditions" "SIOOBE_FORMATTER" "Ljava/util/function/BiFunction;" ∈ lw_tbl := tk_2 _ (List.mem_of_getElem? (i := 173) (by decide +kernel))
theorem tb_a3 : Cond.arrayOver (.object RX3) ∈ lw_tbl := tk_1 _ (List.mem_of_getElem? (i := 109) (by decide +kernel))
theorem tb_a0 : Cond.arrayOver (.object RX0) ∈ lw_tbl := tk_2 _ (List.mem_of_getElem? (i := 5) (by decide +kernel))
theorem tb_a5 : Cond.arrayOver (.object RX5) ∈ lw_tbl := tk_2 _ (List.mem_of_getElem? (i := 13) (by decide +kernel))
theorem tb_ai : Cond.arrayClass .int ∈ lw_tbl := tk_1 _ (List.mem_of_getElem? (i := 59) (by decide +kernel))
theorem tb_al : Cond.arrayClass .long ∈ lw_tbl := tk_1 _ (List.mem_of_getElem? (i := 88) (by decide +kernel))
theorem tb_ab : Cond.arrayClass .byte ∈ lw_tbl := tk_3 _ (List.mem_of_getElem? (i := 39) (by decide +kernel))
theorem tb_az : Cond.arrayClass .boolean ∈ lw_tbl := tk_5 _ (List.mem_of_getElem? (i := 188) (by decide +kernel))
theorem tb_i0 : Cond.instantiable RX0 9 ∈ lw_tbl := tk_1 _ (List.mem_of_getElem? (i := 111) (by decide +kernel))
theorem tb_i1 : Cond.instantiable RX1 7 ∈ lw_tbl := tk_1 _ (List.mem_of_getElem? (i := 61) (by decide +kernel))
theorem tb_i2 : Cond.instantiable RX2 3 ∈ lw_tbl := tk_2 _ (List.mem_of_getElem? (i := 7) (by decide +kernel))
theorem tb_i3 : Cond.instantiable RX3 2 ∈ lw_tbl := tk_3 _ (List.mem_of_getElem? (i := 102) (by decide +kernel))
theorem tb_i4 : Cond.instantiable RX4 4 ∈ lw_tbl := tk_1 _ (List.mem_of_getElem? (i := 90) (by decide +kernel))
theorem tb_i5 : Cond.instantiable RX5 10 ∈ lw_tbl := tk_1 _ (List.mem_of_getElem? (i := 117) (by decide +kernel))
theorem tb_i6 : Cond.instantiable RX6 10 ∈ lw_tbl := tk_2 _ (List.mem_of_getElem? (i := 28) (by decide +kernel))
theorem tb_i7 : Cond.instantiable RX7 8 ∈ lw_tbl := tk_1 _ (List.mem_of_getElem? (i := 123) (by decide +kernel))
theorem tb_i8 : Cond.instantiable RX8 5 ∈ lw_tbl := tk_1 _ (List.mem_of_getElem? (i := 31) (by decide +kernel))
theorem tb_i9 : Cond.instantiable RX9 13 ∈ lw_tbl := tk_1 _ (List.mem_of_getElem? (i := 23) (by decide +kernel))
theorem tb_i10 : Cond.instantiable RX10 42 ∈ lw_tbl := tk_5 _ (List.mem_of_getElem? (i := 56) (by decide +kernel))
theorem st_prim {args : Array Value} {s : State} {ty : FieldType} (h : (Cond.arrayClass ty).before args s = true) : ∃ c : ClassId, ArrOfT s c ty ∧ s.vm.findClass ("[" ++ ty.toString) = some c := by
  obtain ⟨c, k, comp, h1, h2, h3⟩ := Cond.arrayClass_spec h
  exact ⟨c, fun n z => ⟨(fun k h => by cases h), k, h2, comp, h3⟩, h1⟩
theorem st_obj {args : Array Value} {s : State} {C : String} (h : (Cond.arrayOver (.object C)).before args s = true) : ∃ c : ClassId, ArrOfT s c (.object C) ∧ va_RA s c (.object C) := by
  obtain ⟨comp, c, k, h1, -, h2, h3, h4⟩ := Cond.arrayOver_spec h
  exact ⟨c, fun n z => ⟨(fun k h => by cases h), k, h2, comp, h3⟩, k, comp, h2, h3, h1, h4⟩
set_option maxHeartbeats 4000000 in
theorem whole_of (hpure : ∀ (L : Int) (xs : Int → Int), 0 ≤ L → L ≤ 3072 → (∀ j, -2147483648 ≤ xs j ∧ xs j < 2147483648) → ∃ h' : AH, f_law L xs h0_ = some (1, h'))
    {p : Program} {e : Env} {s : State} {m : MethodId} {below : List Frame} {meth : Method} {c : Code} (l : Launch) {b L : Nat} {xs : Nat → Int32} (hL : L ≤ 3072) (C0 : lw_At p s m meth c b L xs) : W p l e room_1 s m #[Value.ref b] below meth c s.heap [] 0 0 (lw_Z below #[Value.ref b] s) (entryFrame m ([Value.ref b] : List Value).toArray 4) := by
  obtain ⟨hx, hb, hr, hml, hown, hts, hX, hbl, hlocks, hgv⟩ := id C0
  have hg : ∀ w ∈ gw_, w.before #[Value.ref b] s = true := fun w hw => hts w (List.mem_filter.mp hw).1
  have hfl : ∀ w ∈ fl_, w.before #[Value.ref b] s = true := flat_of_before _ hgv
  have hA : ∀ a : Nat, a < s.heap.size → ¬ (fun q : Nat => s.heap.size ≤ q) a := fun a h => Nat.not_le.mpr h
  obtain ⟨adK, adV, hlS, hlE⟩ := vk_Sof (args := #[Value.ref b]) (s := s) (N := 6) (tm := tmw_) (len := sl_) (byt := sb_) (A := fun q => s.heap.size ≤ q) sl_small (fun i hi => hfl _ (fl_ex i hi)) (fun i hi => hfl _ (fl_co i hi)) (fun i hi => hfl _ (fl_ar i hi)) (fun i hi => hfl _ (fl_le i hi)) (fun i hi j hj => hfl _ (fl_el i hi j hj)) (fun i j hi hj hn => (fl_ne i hi j hj hn).imp (hfl _) (hfl _)) hA
  have hZc : va_Z "java/lang/String" "COMPACT_STRINGS" "Z" (.int 1) (fun q => s.heap.size ≤ q) s s.heap := va_Zof (hts _ tb_ls) (hg _ tw_129) (va_eqi (hfl _ fl_cs)) hA
  have hZf : va_Zq "jdk/internal/util/Preconditions" "SIOOBE_FORMATTER" "Ljava/util/function/BiFunction;" (fun q => s.heap.size ≤ q) s s.heap := va_Zqof (hts _ tb_lf) (hg _ tw_131) (hfl _ fl_fm) hA
  obtain ⟨fm, hfm⟩ : ∃ fm : Nat, va_Z "jdk/internal/util/Preconditions" "SIOOBE_FORMATTER" "Ljava/util/function/BiFunction;" .null (fun q => s.heap.size ≤ q) s s.heap ∨ va_Z "jdk/internal/util/Preconditions" "SIOOBE_FORMATTER" "Ljava/util/function/BiFunction;" (.ref fm) (fun q => s.heap.size ≤ q) s s.heap := by
    rcases hZf with h | ⟨t, h⟩
    · exact ⟨0, Or.inl h⟩
    · exact ⟨t, Or.inr h⟩
  have hcl : ∀ k : Nat, ∃ x : ClassId × (Nat → Nat), ∀ q : vw_C, vwCl[k]? = some q → u_Kn s q.1 q.2.1 q.2.2 x.1 x.2 := by
    intro k
    match k with
    | 0 => obtain ⟨c, i, h⟩ := u_known (C := RX0) (T := TX0) (N := 9) (n := 9) hg cw_0 (hts _ tb_i0); exact ⟨(c, i), fun q hq => by cases hq; exact h⟩
    | 1 => obtain ⟨c, i, h⟩ := u_known (C := RX1) (T := TX1) (N := 7) (n := 7) hg cw_1 (hts _ tb_i1); exact ⟨(c, i), fun q hq => by cases hq; exact h⟩
    | 2 => obtain ⟨c, i, h⟩ := u_known (C := RX2) (T := TX2) (N := 3) (n := 3) hg cw_2 (hts _ tb_i2); exact ⟨(c, i), fun q hq => by cases hq; exact h⟩
    | 3 => obtain ⟨c, i, h⟩ := u_known (C := RX3) (T := TX3) (N := 2) (n := 2) hg cw_3 (hts _ tb_i3); exact ⟨(c, i), fun q hq => by cases hq; exact h⟩
    | 4 => obtain ⟨c, i, h⟩ := u_known (C := RX4) (T := TX4) (N := 4) (n := 4) hg cw_4 (hts _ tb_i4); exact ⟨(c, i), fun q hq => by cases hq; exact h⟩
    | 5 => obtain ⟨c, i, h⟩ := u_known (C := RX5) (T := TX5) (N := 10) (n := 10) hg cw_5 (hts _ tb_i5); exact ⟨(c, i), fun q hq => by cases hq; exact h⟩
    | 6 => obtain ⟨c, i, h⟩ := u_known (C := RX6) (T := TX6) (N := 10) (n := 10) hg cw_6 (hts _ tb_i6); exact ⟨(c, i), fun q hq => by cases hq; exact h⟩
    | 7 => obtain ⟨c, i, h⟩ := u_known (C := RX7) (T := TX7) (N := 8) (n := 8) hg cw_7 (hts _ tb_i7); exact ⟨(c, i), fun q hq => by cases hq; exact h⟩
    | 8 => obtain ⟨c, i, h⟩ := u_known (C := RX8) (T := TX8) (N := 5) (n := 5) hg cw_8 (hts _ tb_i8); exact ⟨(c, i), fun q hq => by cases hq; exact h⟩
    | 9 => obtain ⟨c, i, h⟩ := u_known (C := RX9) (T := TX9) (N := 13) (n := 13) hg cw_9 (hts _ tb_i9); exact ⟨(c, i), fun q hq => by cases hq; exact h⟩
    | 10 => obtain ⟨c, i, h⟩ := u_known (C := RX10) (T := TX10) (N := 42) (n := 42) hg cw_10 (hts _ tb_i10); exact ⟨(c, i), fun q hq => by cases hq; exact h⟩
    | k + 11 => exact ⟨(0, fun _ => 0), fun q hq => by simp at hq⟩
  obtain ⟨dK, hdK⟩ := Classical.axiomOfChoice hcl
  have harr : ∀ t : Int, ∃ c : ClassId, 20 ≤ t → t ≤ 26 → ArrOfT s c (e_ty t) ∧ va_RA s c (e_ty t) := by
    intro t
    by_cases h : 20 ≤ t ∧ t ≤ 26
    · rcases (show t = 20 ∨ t = 21 ∨ t = 22 ∨ t = 23 ∨ t = 24 ∨ t = 25 ∨ t = 26 by omega) with rfl | rfl | rfl | rfl | rfl | rfl | rfl
      · obtain ⟨c, h1, h2⟩ := st_prim (hts _ tb_ai); exact ⟨c, fun _ _ => ⟨h1, h2⟩⟩
      · obtain ⟨c, h1, h2⟩ := st_prim (hts _ tb_al); exact ⟨c, fun _ _ => ⟨h1, h2⟩⟩
      · obtain ⟨c, h1, h2⟩ := st_prim (hts _ tb_ab); exact ⟨c, fun _ _ => ⟨h1, h2⟩⟩
      · obtain ⟨c, h1, h2⟩ := st_prim (hts _ tb_az); exact ⟨c, fun _ _ => ⟨h1, h2⟩⟩
      · obtain ⟨c, h1, h2⟩ := st_obj (hts _ tb_a3); exact ⟨c, fun _ _ => ⟨h1, h2⟩⟩
      · obtain ⟨c, h1, h2⟩ := st_obj (hts _ tb_a0); exact ⟨c, fun _ _ => ⟨h1, h2⟩⟩
      · obtain ⟨c, h1, h2⟩ := st_obj (hts _ tb_a5); exact ⟨c, fun _ _ => ⟨h1, h2⟩⟩
    · exact ⟨0, fun h1 h2 => absurd ⟨h1, h2⟩ h⟩
  obtain ⟨dA, hdA⟩ := Classical.axiomOfChoice harr
  obtain ⟨G, hG⟩ : ∃ G : GE, G = (s.heap.size, (fun i => if i < 6 then adK i else if i < 12 then adV (i - 6) else if i = 12 then fm else b), (fun k => (dK k).1, fun k => (dK k).2), dA, s.heap) := ⟨_, rfl⟩
  have hEO : EO G s := by
    subst hG
    refine ⟨fun k q hq => hdK k q hq, fun t h1 h2 => hdA t h1 h2, fun w hw hn => ?_, ⟨hts _ tb_a3, hts _ tb_a0, hts _ tb_a5⟩, ?_, fun i q hq => ?_, hZc, hfm⟩
    · have h := hts w hw
      cases w <;> first | exact va_Nw.of rfl h | cases hn
    · refine ⟨fun i hi => ?_, fun i j hi hj he => hlS.2 i j hi hj ?_⟩
      · have e1 : (if i < 6 then adK i else if i < 12 then adV (i - 6) else if i = 12 then fm else b) = adK i := if_pos hi
        have e2 : (if 6 + i < 6 then adK (6 + i) else if 6 + i < 12 then adV (6 + i - 6) else if 6 + i = 12 then fm else b) = adV i := by rw [if_neg (by omega), if_pos (by omega)]; congr 1; omega
        have h := hlS.1 i hi
        rw [← e1, ← e2] at h
        exact h
      · have e1 : (if i < 6 then adK i else if i < 12 then adV (i - 6) else if i = 12 then fm else b) = adK i := if_pos hi
        have e2 : (if j < 6 then adK j else if j < 12 then adV (j - 6) else if j = 12 then fm else b) = adK j := if_pos hj
        have he : (if i < 6 then adK i else if i < 12 then adV (i - 6) else if i = 12 then fm else b) = (if j < 6 then adK j else if j < 12 then adV (j - 6) else if j = 12 then fm else b) := he
        rw [e1, e2] at he
        exact he
    · have hi : i < 6 := (List.getElem?_eq_some_iff.mp hq).1
      show vk_R q.1 q.2.1 q.2.2 (if i < 6 then adK i else if i < 12 then adV (i - 6) else if i = 12 then fm else b) s
      rw [if_pos hi]
      have hE := hlE i hi
      rcases (show i = 0 ∨ i = 1 ∨ i = 2 ∨ i = 3 ∨ i = 4 ∨ i = 5 by omega) with rfl | rfl | rfl | rfl | rfl | rfl <;> cases hq
      · exact vk_R.of (hts _ tb_s0) hE
      · exact vk_R.of (hts _ tb_s1) hE
      · exact vk_R.of (hts _ tb_s2) hE
      · exact vk_R.of (hts _ tb_s3) hE
      · exact vk_R.of (hts _ tb_s4) hE
      · exact vk_R.of (hts _ tb_s5) hE
  have g1 : G.1 = s.heap.size := by rw [hG]
  have g2 : G.2.1 13 = b := by rw [hG]; rfl
  have g3 : G.2.2.2.2 = s.heap := by rw [hG]
  have hSO : SO (S_law G (p, l, e, room_1, s, m, #[Value.ref b], below, meth, c)) RLw cL_law := ⟨hx, hb, hml, hown, hg, hEO, hr, hlocks, Nat.le_of_ble_eq_true rfl, Nat.le_of_ble_eq_true rfl, Nat.le_of_ble_eq_true rfl, Nat.le_of_ble_eq_true rfl⟩
  have hsc : scr_ G s (L : Int) (fun j => (xs j.toNat).toInt) := ⟨L, xs, by rw [g2, g3]; exact hX, by rw [g1, g2]; exact hbl, rfl, hL, fun j _ => rfl⟩
  obtain ⟨h', hh'⟩ := hpure (L : Int) (fun j => (xs j.toNat).toInt) (by omega) (by omega) (fun j => ⟨Int32.le_toInt _, Int32.toInt_lt _⟩)
  have hHO : HO G h0_ s.heap := by
    refine ⟨Int.le_refl 1, by rw [g1]; rfl, fun q _ => by rw [g3], fun a ha => absurd rfl ha, fun a h1 h2 => ?_⟩
    have : a < 1 := h2
    omega
  have hl := lv_entry ([.ref b]) (n := 4) (Nat.le_of_ble_eq_true rfl)
  rw [lg_entry_eq]
  have K := b_law hSO hsc h0_ 1 h' hh' s.heap [] _ hHO (fun q hq => by cases hq) (by
    show lv_has _ 4 [(0, g_v G (2, -14))]
    rw [lit_ref G (by decide), show (-(-14 : Int) - 1).toNat = 13 by decide, g2]
    exact hl)
  intro T hT X
  obtain ⟨t, st, o, q1, q2, q3, LL, q4, q5⟩ := K T hT X
  refine ⟨t, st, o, q1, q2, q3.1.trans (by show Outcome.returned (some (Value.int (i32 1))) = _; rw [show i32 1 = 1 by decide +kernel]), q4.1, q4.2.1, q4.2.2.weaken (fun y hy hlt => ?_) (Nat.le_refl _) (Nat.le_refl _)⟩
  have hy2 : G.1 ≤ y.base := q5 y hy
  rw [g1] at hy2
  exact absurd (show y.base < s.heap.size from hlt) (Nat.not_lt.mpr hy2)
