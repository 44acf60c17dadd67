/-! ===== slips, must, free, leaves: the class's answers ===== -/
section
variable {n : Nat} {g : Int → Int} {fx : Int → Bool} {sd : Int → Int} {h : AH}
def mD (sd : Int → Int) : Int × Int × Int × (Int → Int) := mF (sd 2).toNat (gp sd (-1)) (fxs sd (-1))
def fnd (sd : Int → Int) : Bool := atd sd (-1) && decide ((mD sd).1 ≠ 999999)
def sli_ (sd : Int → Int) (w : Int) : Int := if sd 2 = 0 ∨ w < 0 ∨ 3 + sd 2 ≤ w then -3 else if fnd sd = true then (if w = 0 then (mD sd).1 else if w = 1 then (mD sd).2.1 else if w = 2 then (mD sd).2.2.1 else (mD sd).2.2.2 (w - 3) + 100) else -2
def muP (sd : Int → Int) (s : Int) : Bool := decide (s < sd 2) && !fxs sd (-1) s && decide ((mD sd).1 < (mF (sd 2).toNat (gp sd (-1)) (fxs sd s)).1)
def mst_ (sd : Int → Int) : Int := if sd 2 = 0 then -3 else if fnd sd = true then bz (muP sd) else -2
def fre_ (sd : Int → Int) : Int := if sd 2 = 0 then -3 else if fnd sd = true then bz (fun s => decide (s < sd 2) && !muP sd s) else -2
def lea_ (sd : Int → Int) (s : Int) : Int := if st_ sd s = true ∧ sd (1110 + s) = 0 then (if (atd sd s && decide ((mF (sd 2).toNat (gp sd s) (fxs sd s)).1 ≠ 999999)) = true then (mF (sd 2).toNat (gp sd s) (fxs sd s)).1 else -2) else -1
theorem bz5_mask : ∀ (n : Fin 6) (b0 b1 b2 b3 b4 : Bool), o_and ((o_shl 1 n.val) - 1) (o_xor (bz5 b0 b1 b2 b3 b4) (-1)) = bz5 (decide (0 < n.val) && !b0) (decide (1 < n.val) && !b1) (decide (2 < n.val) && !b2) (decide (3 < n.val) && !b3) (decide (4 < n.val) && !b4) := by decide +kernel
theorem bz_mask (fx : Int → Bool) {m : Int} (m0 : 0 ≤ m) (m5 : m ≤ 5) : o_and ((o_shl 1 m) - 1) (o_xor (bz fx) (-1)) = bz (fun s => decide (s < m) && !fx s) := by
  have V := bz5_mask ⟨m.toNat, by omega⟩ (fx 0) (fx 1) (fx 2) (fx 3) (fx 4)
  have e : ((m.toNat : Nat) : Int) = m := by omega
  simp only [e] at V
  unfold bz
  rw [V]
  have q : ∀ k : Nat, decide (k < m.toNat) = decide ((k : Int) < m) := fun k => by
    by_cases c : k < m.toNat
    · rw [decide_eq_true c, decide_eq_true (by omega)]
    · rw [decide_eq_false c, decide_eq_false (by omega)]
  rw [q 0, q 1, q 2, q 3, q 4]
  rfl
theorem bz_b (fx : Int → Bool) : 0 ≤ bz fx ∧ bz fx < 32 := by
  have : ∀ b : Bool, 0 ≤ b01 b ∧ b01 b ≤ 1 := by decide
  have r0 := this (fx 0)
  have r1 := this (fx 1)
  have r2 := this (fx 2)
  have r3 := this (fx 3)
  have r4 := this (fx 4)
  unfold bz bz5
  omega
theorem bz_0 : bz (fun _ => false) = 0 := rfl
theorem c_slips (K : BP h) (S : SR sd 11 h) (hw : WS sd) (hx : WX sd) {w : Int} (hv : R32 w) : ∃ h', f_B_slips 1 w h = some (sli_ sd w, h') ∧ Ag XG h h' := by
  have w2 := hw.2.2.1
  have T : TR sd 12 h := S.2.1
  obtain ⟨v0, v1⟩ := hv
  obtain ⟨h', e', g', q'⟩ := c_search K S hw hx (Or.inl rfl)
  have K' := K.ag g' bp_xg
  unfold f_B_slips sli_
  rw [K.g1_5, Option.bind_some, K.g10_0, Option.bind_some, K.g11_0, Option.bind_some, gf_pos K.k12, Option.bind_some, T.2.1.1, nmi (z := sd 2) (by omega) (by omega), nmi (z := w) (by omega) (by omega), nmi (z := 3 + sd 2) (by omega) (by omega)]
  by_cases a1 : sd 2 = 0
  · rw [if_pos a1, if_pos (Or.inl a1)]; exact ⟨h, rfl, Ag.rf⟩
  by_cases a2 : w < 0
  · rw [if_neg a1, if_pos a2, if_pos (Or.inr (Or.inl a2))]; exact ⟨h, rfl, Ag.rf⟩
  by_cases a3 : 3 + sd 2 ≤ w
  · rw [if_neg a1, if_neg a2, if_neg (by omega), if_pos (Or.inr (Or.inr a3))]; exact ⟨h, rfl, Ag.rf⟩
  rw [if_neg a1, if_neg a2, if_pos (by omega), if_neg (by omega), ck_pos K.k1, e', bd_some]
  by_cases f : fnd sd = true
  · have f' := f
    unfold fnd mD at f'
    rw [f', if_pos b01_t, if_pos f]
    rw [Bool.and_eq_true] at f'
    obtain ⟨q1, q2⟩ := q' f'.1
    obtain ⟨p1, p2, p3, p4⟩ := q2 (of_decide_eq_true f'.2)
    rw [K'.g1_9, Option.bind_some, gf_pos K'.k39, Option.bind_some, p1, Option.bind_some, gf_pos K'.k39, Option.bind_some, p2, Option.bind_some, gf_pos K'.k39, Option.bind_some, p3, Option.bind_some, K'.g39_1, Option.bind_some]
    by_cases b0 : w = 0
    · rw [if_pos b0, if_pos b0]; exact ⟨h', rfl, g'⟩
    rw [if_neg b0, if_neg b0]
    by_cases b1 : w = 1
    · rw [if_pos b1, if_pos b1]; exact ⟨h', rfl, g'⟩
    rw [if_neg b1, if_neg b1]
    by_cases b2 : w = 2
    · rw [if_pos b2, if_pos b2]; exact ⟨h', rfl, g'⟩
    rw [if_neg b2, if_neg b2, ag_pos K'.k41.1 K'.k41.2 (by decide) (by omega) (by omega), Option.bind_some, p4 (w - 3) (by omega) (by omega)]
    exact ⟨h', rfl, g'⟩
  · have f' := f
    unfold fnd mD at f'
    rw [Bool.eq_false_iff.2 f', if_neg (fun z => z b01_f), if_neg f]
    exact ⟨h', rfl, g'⟩
theorem c_must_loop (hw : WS sd) (hx : WX sd) (hm : (mD sd).1 ≠ 999999) (hm0 : 0 ≤ (mD sd).1 ∧ (mD sd).1 ≤ 999999) : ∀ (k e s : Nat) (h : AH), (s : Int) + k = sd 2 → BP h → SR sd 11 h → (∀ i : Int, 0 ≤ i → i < sd 2 → h_V h 40 i = gp sd (-1) i) →
    ∃ h', it_ (fun (k : Int × Int × AH → Option (Int × AH)) (q : Int × Int × AH) => F_B_stationsThatMustSlip_21 1 11 (mD sd).1 (fun a0 a1 a2 => k (a0, a1, a2)) q.1 q.2.1 q.2.2) (k + 1 + e) (bz (fun i => decide (i < s) && muP sd i), (s : Int), h) = some (bz (muP sd), h') ∧ Ag XE h h'
  | 0, e, s, h, es, K, S, hG => by
    have w2 := hw.2.2.1
    have T : TR sd 12 h := S.2.1
    refine ⟨h, ?_, Ag.rf⟩
    rw [show 0 + 1 + e = e + 1 by omega, it_un]
    unfold F_B_stationsThatMustSlip_21
    dsimp only
    rw [K.g11_0, Option.bind_some, gf_pos K.k12, Option.bind_some, T.2.1.1, nmi (z := sd 2) (by omega) (by omega), nmi (z := (s : Int)) (by omega) (by omega), if_pos (by omega)]
    rw [bz_cg (gx := muP sd) fun i i0 i1 => ?_]
    by_cases c : i < (s : Int)
    · rw [decide_eq_true c, Bool.true_and]
    · rw [decide_eq_false c, Bool.false_and]
      unfold muP
      rw [decide_eq_false (by omega), Bool.false_and, Bool.false_and]
  | k + 1, e, s, h, es, K, S, hG => by
    have w2 := hw.2.2.1
    have T : TR sd 12 h := S.2.1
    have gl := GL_gp hw hx (-1)
    have en : ((sd 2).toNat : Int) = sd 2 := by omega
    obtain ⟨h1, e1, S1, C1, g1⟩ := q_run (fx := fxs sd s) gl K (fun i i0 i1 => hG i i0 (by omega)) (L := (mD sd).1) (by omega) (by omega)
    have fl := F_lim (n := (sd 2).toNat) (g := gp sd (-1)) (fx := fxs sd s) (L := (mD sd).1) hm0.1 (by omega) (SL_zb gl)
    rw [en] at e1
    have K1 := K.ag g1 bp_xe
    have g1' : Ag XG h h1 := g1.mono fun a i z => by unfold XE at z; unfold XG; omega
    have S1 := S.xg g1'
    have hG1 : ∀ i : Int, 0 ≤ i → i < sd 2 → h_V h1 40 i = gp sd (-1) i := fun i i0 i1 => by rw [g1.2.2.2 _ _ (by unfold XE; omega)]; exact hG i i0 i1
    have rr := (hx.2.1 s (by omega) (by omega)).1
    have fs : fxs sd (-1) s = decide (sd (1110 + s) = 1) := by unfold fxs; rw [decide_eq_false (show ¬ (s : Int) = -1 by omega), Bool.or_false]
    have nx : ∀ q : Bool, muP sd s = q → bz (fun i => decide (i < ((s + 1 : Nat) : Int)) && muP sd i) = bz (fun i => (decide (i < (s : Int)) && muP sd i) || (q && decide (i = s))) := fun q eq => by
      refine bz_cg fun i i0 i1 => ?_
      by_cases c : i < (s : Int)
      · rw [decide_eq_true c, decide_eq_true (show i < ((s + 1 : Nat) : Int) by omega), decide_eq_false (show ¬ i = (s : Int) by omega), Bool.and_false, Bool.or_false]
      · rw [decide_eq_false c, Bool.false_and, Bool.false_or]
        by_cases d : i = s
        · rw [decide_eq_true d, d, decide_eq_true (show (s : Int) < ((s + 1 : Nat) : Int) by omega), Bool.true_and, Bool.and_true, eq]
        · rw [decide_eq_false d, decide_eq_false (show ¬ i < ((s + 1 : Nat) : Int) by omega), Bool.false_and, Bool.and_false]
    have st : ∀ kf : Int × Int × AH → Option (Int × AH), F_B_stationsThatMustSlip_21 1 11 (mD sd).1 (fun a0 a1 a2 => kf (a0, a1, a2)) (bz (fun i => decide (i < (s : Int)) && muP sd i)) s h = if sd (1110 + s) = 1 then kf (bz (fun i => decide (i < (s : Int)) && muP sd i), (s : Int) + 1, h) else (if (mD sd).1 < (mF (sd 2).toNat (gp sd (-1)) (fxs sd s)).1 then kf (bz (fun i => (decide (i < (s : Int)) && muP sd i) || decide (i = s)), (s : Int) + 1, h1) else kf (bz (fun i => decide (i < (s : Int)) && muP sd i), (s : Int) + 1, h1)) := by
      intro kf
      unfold F_B_stationsThatMustSlip_21
      rw [K.g11_0, Option.bind_some, gf_pos K.k12, Option.bind_some, T.2.1.1, nmi (z := sd 2) (by omega) (by omega), nmi (z := (s : Int)) (by omega) (by omega), if_neg (by omega), ck_pos K.k11, s_isRecounted S.1 S.2.2 hx (by omega) (by omega), bd_some, nmi (z := sd (1110 + s)) (by omega) (by omega)]
      by_cases c : sd (1110 + s) = 1
      · rw [if_pos (by omega), if_pos c]
      · rw [if_neg (by omega), if_neg c, K.g1_9, Option.bind_some, K.g11_0, Option.bind_some, gf_pos K.k12, Option.bind_some, T.2.1.1, gf_pos K.k11, Option.bind_some, S.2.2.2.2.2.2.2.1.2.1, rb_bz hx, fxs_or (by omega) (by omega), ck_pos K.k39, e1, bd_some]
        by_cases d : (mD sd).1 < (mF (sd 2).toNat (gp sd (-1)) (fxs sd s)).1
        · rw [if_pos d, decide_eq_false (fun z => z (fl.2 d)), if_neg (fun z => z b01_f), Option.bind_some, bz_or _ (by omega) (by omega)]
        · rw [if_neg d, decide_eq_true (show (cF (sd 2).toNat (gp sd (-1)) (fxs sd s) (mD sd).1).2.1 ≠ -1 from fun z => d (fl.1 z)), if_pos b01_t]
    rw [show k + 1 + 1 + e = (k + 1 + e) + 1 by omega, it_un]
    by_cases c : sd (1110 + s) = 1
    · obtain ⟨h', e', g'⟩ := c_must_loop hw hx hm hm0 k e (s + 1) h (by omega) K S hG
      refine ⟨h', ?_, g'⟩
      rw [nx false (by unfold muP; rw [fs, decide_eq_true c]; simp)] at e'
      refine (st _).trans ?_
      rw [if_pos c, ← e']
      simp only [Bool.false_and, Bool.or_false]
      rfl
    · by_cases d : (mD sd).1 < (mF (sd 2).toNat (gp sd (-1)) (fxs sd s)).1
      · obtain ⟨h', e', g'⟩ := c_must_loop hw hx hm hm0 k e (s + 1) h1 (by omega) K1 S1 hG1
        refine ⟨h', ?_, g1.tr g'⟩
        rw [nx true (by unfold muP; rw [fs, decide_eq_false c, decide_eq_true d, decide_eq_true (show (s : Int) < sd 2 by omega)]; rfl)] at e'
        refine (st _).trans ?_
        rw [if_neg c, if_pos d, ← e']
        simp only [Bool.true_and]
        rfl
      · obtain ⟨h', e', g'⟩ := c_must_loop hw hx hm hm0 k e (s + 1) h1 (by omega) K1 S1 hG1
        refine ⟨h', ?_, g1.tr g'⟩
        rw [nx false (by unfold muP; rw [decide_eq_false d, Bool.and_false])] at e'
        refine (st _).trans ?_
        rw [if_neg c, if_neg d, ← e']
        simp only [Bool.false_and, Bool.or_false]
        rfl
theorem mD_b (hw : WS sd) (hx : WX sd) (h9 : (mD sd).1 ≠ 999999) : 0 ≤ (mD sd).1 ∧ (mD sd).1 ≤ 999999 := by
  obtain ⟨f1, f2, f3, f4⟩ := F_free (n := (sd 2).toNat) (g := gp sd (-1)) (fx := fxs sd (-1)) (L := 2147483647) (by decide) (SL_zb (GL_gp hw hx (-1)))
  exact ⟨f4 h9, f3⟩
theorem c_mustbits (K : BP h) (S : SR sd 11 h) (hw : WS sd) (hx : WX sd) (hm : (mD sd).1 ≠ 999999) (h7 : h_V h 39 7 = (mD sd).1) (hG : ∀ i : Int, 0 ≤ i → i < sd 2 → h_V h 40 i = gp sd (-1) i) : ∃ h', f_B_stationsThatMustSlip 1 h = some (bz (muP sd), h') ∧ Ag XG h h' := by
  have w2 := hw.2.2.1
  obtain ⟨h', e', g'⟩ := c_must_loop hw hx hm (mD_b hw hx hm) (sd 2).toNat (1000000 - (sd 2).toNat - 1) 0 h (by omega) K S hG
  rw [show (sd 2).toNat + 1 + (1000000 - (sd 2).toNat - 1) = fu_ by unfold fu_; omega, bz_cg (gx := fun _ => false) (fun i i0 i1 => by rw [decide_eq_false (by omega), Bool.false_and]), bz_0] at e'
  refine ⟨h', ?_, g'.mono fun a i z => by unfold XE at z; unfold XG; omega⟩
  unfold f_B_stationsThatMustSlip
  rw [K.g1_5, Option.bind_some, K.g10_0, Option.bind_some, K.g1_9, Option.bind_some, gf_pos K.k39, Option.bind_some, h7]
  exact e'
theorem c_must (K : BP h) (S : SR sd 11 h) (hw : WS sd) (hx : WX sd) : ∃ h', f_B_must 1 h = some (mst_ sd, h') ∧ Ag XG h h' := by
  have w2 := hw.2.2.1
  have T : TR sd 12 h := S.2.1
  obtain ⟨h', e', g', q'⟩ := c_search K S hw hx (Or.inl rfl)
  have K' := K.ag g' bp_xg
  unfold f_B_must mst_
  rw [K.g1_5, Option.bind_some, K.g10_0, Option.bind_some, K.g11_0, Option.bind_some, gf_pos K.k12, Option.bind_some, T.2.1.1, nmi (z := sd 2) (by omega) (by omega)]
  by_cases a1 : sd 2 = 0
  · rw [if_neg (fun z => z a1), if_pos a1]; exact ⟨h, rfl, Ag.rf⟩
  rw [if_pos a1, if_neg a1, ck_pos K.k1, e', bd_some]
  by_cases f : fnd sd = true
  · have f' := f
    unfold fnd mD at f'
    rw [f', if_neg b01_t, if_pos f, ck_pos K'.k1]
    rw [Bool.and_eq_true] at f'
    obtain ⟨q1, q2⟩ := q' f'.1
    have ne := of_decide_eq_true f'.2
    obtain ⟨h2, e2, g2⟩ := c_mustbits K' (S.xg g') hw hx ne (q2 ne).1 q1
    rw [e2, bd_some]
    exact ⟨h2, rfl, g'.tr g2⟩
  · have f' := f
    unfold fnd mD at f'
    rw [Bool.eq_false_iff.2 f', if_pos b01_f, if_neg f]
    exact ⟨h', rfl, g'⟩
theorem c_free (K : BP h) (S : SR sd 11 h) (hw : WS sd) (hx : WX sd) : ∃ h', f_B_free 1 h = some (fre_ sd, h') ∧ Ag XG h h' := by
  have w2 := hw.2.2.1
  have T : TR sd 12 h := S.2.1
  obtain ⟨h', e', g', q'⟩ := c_search K S hw hx (Or.inl rfl)
  have K' := K.ag g' bp_xg
  unfold f_B_free fre_
  rw [K.g1_5, Option.bind_some, K.g10_0, Option.bind_some, K.g11_0, Option.bind_some, gf_pos K.k12, Option.bind_some, T.2.1.1, nmi (z := sd 2) (by omega) (by omega)]
  by_cases a1 : sd 2 = 0
  · rw [if_neg (fun z => z a1), if_pos a1]; exact ⟨h, rfl, Ag.rf⟩
  rw [if_pos a1, if_neg a1, ck_pos K.k1, e', bd_some]
  by_cases f : fnd sd = true
  · have f' := f
    unfold fnd mD at f'
    rw [f', if_neg b01_t, if_pos f, ck_pos K'.k1]
    rw [Bool.and_eq_true] at f'
    obtain ⟨q1, q2⟩ := q' f'.1
    have ne := of_decide_eq_true f'.2
    obtain ⟨h2, e2, g2⟩ := c_mustbits K' (S.xg g') hw hx ne (q2 ne).1 q1
    rw [e2, bd_some, bz_mask _ w2.1 w2.2]
    exact ⟨h2, rfl, g'.tr g2⟩
  · have f' := f
    unfold fnd mD at f'
    rw [Bool.eq_false_iff.2 f', if_pos b01_f, if_neg f]
    exact ⟨h', rfl, g'⟩
theorem c_leaves (K : BP h) (S : SR sd 11 h) (hw : WS sd) (hx : WX sd) {s : Int} (hs : R32 s) : ∃ h', f_B_leaves 1 s h = some (lea_ sd s, h') ∧ Ag XG h h' := by
  have w2 := hw.2.2.1
  have T : TR sd 12 h := S.2.1
  unfold f_B_leaves lea_
  rw [ck_pos K.k1, b_isStation K T.2.1.1 w2 hs, bd_some]
  cases c : st_ sd s
  · rw [if_pos b01_f, if_neg (by simp)]; exact ⟨h, rfl, Ag.rf⟩
  · have rs := st_r c
    have rr := (hx.2.1 s rs.1 (by omega)).1
    rw [if_neg b01_t, K.g1_5, Option.bind_some, K.g10_0, Option.bind_some, ck_pos K.k11, s_isRecounted S.1 S.2.2 hx rs.1 (by omega), bd_some, nmi (z := sd (1110 + s)) (by omega) (by omega)]
    by_cases d : sd (1110 + s) = 0
    · obtain ⟨h', e', g', q'⟩ := c_search K S hw hx (Or.inr rs)
      have K' := K.ag g' bp_xg
      rw [if_pos d, if_pos ⟨rfl, d⟩, ck_pos K.k1, e', bd_some]
      by_cases f : (atd sd s && decide ((mF (sd 2).toNat (gp sd s) (fxs sd s)).1 ≠ 999999)) = true
      · rw [f, if_neg b01_t, if_pos rfl, K'.g1_9, Option.bind_some, gf_pos K'.k39, Option.bind_some]
        rw [Bool.and_eq_true] at f
        rw [((q' f.1).2 (of_decide_eq_true f.2)).1]
        exact ⟨h', rfl, g'⟩
      · rw [Bool.eq_false_iff.2 f, if_pos b01_f, if_neg (by decide)]
        exact ⟨h', rfl, g'⟩
    · rw [if_neg d, if_neg (fun z => d z.2)]
      exact ⟨h, rfl, Ag.rf⟩
end
