/-! ===== look: the class ===== -/
def BBr (R : Int → (Int → Int) → Int) (sd : Int → Int) (n : Int) (h : AH) (rows r : Int) : Prop := rows = cn_ (rP R sd) 0 r ∧ ∀ s, 0 ≤ s → s < sd 2 → (∀ j, 0 ≤ j → j < rows → 0 ≤ h_V h 45 (j * 5 + s) ∧ h_V h 45 (j * 5 + s) ≤ 60) ∧ ∀ x, cn_ (fun j => decide (x = h_V h 45 (j * 5 + s))) 0 rows = cn_ (fun a => rP R sd a && decide (x = bx_ R sd n a s)) 0 r
theorem c_fillBoxes {B : Int} {sd : Int → Int} {R : Int → (Int → Int) → Int} {fo rn : Int} {h : AH} (H : QA sd R fo rn h) (hw : WB B sd) (he : WE sd) (hn : WN sd) (TB : TR (bg_ sd) 23 h) (N : NR sd h) {n : Int} (n0 : 0 ≤ n) (n1 : n ≤ 60) : ∃ h' rows, f_B_fillBoxesBehind 1 n h = some (rows, h') ∧ BBr R sd n h' rows (rn + 1) ∧ Ag (XQ h) h h' := by
  have rb := H.2.2.1.2.1
  have w2 := hw.1.2.2.1
  have Wb := bg_WB hw.1 he
  refine it_2 (F := F_B_fillBoxesBehind_4 1 n) (fun rows k h1 o => Ag (XQ h) h h1 → -1 ≤ k → k ≤ rn → BBr R sd n h1 rows (k + 1) → ∃ h' rows, o = some (rows, h') ∧ BBr R sd n h' rows (rn + 1) ∧ Ag (XQ h) h h') (fun _ k _ => (rn - k).toNat) ?_ fu_ 0 (-1) h (fu_gt (by omega)) Ag.rf (by decide) (by omega) ⟨(cn_e (by decide)).symm, fun s _ _ => ⟨fun j a b => by omega, fun x => by rw [cn_e (Int.le_refl 0), cn_e (by decide)]⟩⟩
  intro kf rows k h1 ih G k0 k1 bb
  have H1 := H.ag G
  have K1 := H1.1
  have cb := cn_nn (rP R sd) 0 (k + 1)
  have cl := cn_le (P := rP R sd) (show (0 : Int) ≤ k + 1 by omega)
  have er := bb.1
  unfold F_B_fillBoxesBehind_4
  rw [gf_pos K1.k1, H1.2.2.1.1, Option.bind_some, nmi (z := rn) (by omega) (by omega), nmi (z := k) (by omega) (by omega)]
  by_cases d : rn ≤ k
  · have : k = rn := by omega
    subst this
    rw [if_pos d]; exact ⟨h1, rows, rfl, bb, G⟩
  · obtain ⟨h2, q, h3, e2, eq, e3, G2, G3, t2, cq, tq, o3⟩ := c_fits H hw he hn TB N G (r := k + 1) (by omega) (by omega)
    rw [show k + 1 - 1 = k by omega] at eq
    have K2 := (H.ag G2).1
    have K3 := (H.ag G3).1
    rw [if_neg d, K1.g1_8, Option.bind_some, K1.g1_5, Option.bind_some, K1.g10_1, Option.bind_some, ck_pos K1.k34, e2, bd_some, K2.g1_5, Option.bind_some, K2.g1_8, Option.bind_some, ck_pos K2.k1, eq, bd_some, ck_pos K2.k10, e3, bd_some]
    have rc := cn_r (P := rP R sd) (a := 0) (b := k + 1) (by omega)
    cases y : rP R sd (k + 1)
    · rw [if_pos b01_f]
      refine ih _ _ _ (by omega) G3 (by omega) (by omega) ⟨?_, fun s s0 s1 => ?_⟩
      · rw [rc, y, er]; simp [b01]
      · obtain ⟨b1, b2⟩ := bb.2 s s0 s1
        refine ⟨fun j j0 j1 => by rw [o3]; exact b1 j j0 j1, fun x => ?_⟩
        rw [cn_r (P := fun a => rP R sd a && decide (x = bx_ R sd n a s)) (a := 0) (b := k + 1) (by omega), y, ← b2 x]
        simp only [o3]
        simp [b01]
    · rw [if_neg b01_t]
      obtain ⟨h4, e4, t4, g4⟩ := t_copyTR (t := 34) (sd := bg_ sd) Wb.1.2.2.1.2 K3.ts34 (TB.ag G3 fun a i z => by rcases z with z | z <;> omega) (by omega)
      have G4 : Ag (XQ h) h h4 := XQ_tr G3 (g4.mono XT_XQ)
      have H4 := H.ag G4
      have K4 := H4.1
      obtain ⟨q2, eq2, cq2, tq2⟩ := c_ruleNumbered K4 H4.2.2.1 (k := k) (by omega) (by omega)
      obtain ⟨h5, e5, t5, g5⟩ := t_passHours Wb (by decide) t4 (by decide) cq2 (n := n + 1) (by omega) (by omega)
      have G5 : Ag (XQ h) h h5 := XQ_tr G4 (g5.mono (XP_XQ tq2))
      have K5 := (H.ag G5).1
      have o5 : ∀ i, h_V h5 45 i = h_V h1 45 i := fun i => by rw [g5.2.2.2 _ _ (by unfold XP XT; omega), g4.2.2.2 _ _ (by unfold XT; omega), o3]
      rw [K3.g1_8, Option.bind_some, K3.g1_5, Option.bind_some, K3.g10_1, Option.bind_some, ck_pos K3.k34, e4, bd_some, K4.g1_8, Option.bind_some, ck_pos K4.k1, eq2, bd_some, ck_pos K4.k34, e5, bd_some, K5.g1_8, Option.bind_some, t5.1.g1, Option.bind_some, K5.g1_12, Option.bind_some, ac_pos (M := 5) (N := 35) t5.1.2.2.2.1.1 K5.k45.1 t5.1.2.2.2.1.2 K5.k45.2 (by decide) (by decide) (by decide) (by omega) (by decide) (by omega) (by omega), Option.bind_some]
      have v : ∀ j, h_V (hC h5 (34 + 2) 0 45 (rows * 5) 5) 45 j = if rows * 5 ≤ j ∧ j < rows * 5 + 5 then h_V h5 36 (j - rows * 5) else h_V h1 45 j := fun j => by
        rw [hV_C]
        by_cases c : rows * 5 ≤ j ∧ j < rows * 5 + 5
        · rw [if_pos ⟨rfl, c⟩, if_pos c, Int.zero_add]; rfl
        · rw [if_neg (fun z => c z.2), if_neg c, o5]
      have vn : ∀ s, 0 ≤ s → s < sd 2 → h_V (hC h5 (34 + 2) 0 45 (rows * 5) 5) 45 (rows * 5 + s) = bx_ R sd n (k + 1) s := fun s s0 s1 => by
        rw [v, if_pos (by omega), show rows * 5 + s - rows * 5 = s by omega]
        have := (t5.2.2 s s0 (by rw [pn_o Wb (Or.inl (by decide)), bg_out (Or.inl (by decide))]; exact s1)).2.1
        unfold bx_
        rw [show k + 1 - 1 = k by omega]
        exact this
      refine ih _ _ _ (by omega) (hC_ag G5 fun i _ _ => Or.inl (by omega)) (by omega) (by omega) ⟨?_, fun s s0 s1 => ?_⟩
      · rw [rc, y, er]; rfl
      · obtain ⟨b1, b2⟩ := bb.2 s s0 s1
        refine ⟨fun j j0 j1 => ?_, fun x => ?_⟩
        · by_cases c : j = rows
          · rw [c, vn s s0 s1]; exact bx_b hw.1 he n (k + 1) s
          · rw [v, if_neg (by omega)]; exact b1 j j0 (by omega)
        · rw [cn_r (P := fun a => rP R sd a && decide (x = bx_ R sd n a s)) (a := 0) (b := k + 1) (by omega), y, ← b2 x, cn_r (P := fun j => decide (x = h_V (hC h5 (34 + 2) 0 45 (rows * 5) 5) 45 (j * 5 + s))) (a := 0) (b := rows) (by omega), vn s s0 s1]
          rw [cn_cg (Q := fun j => decide (x = h_V h1 45 (j * 5 + s))) fun i i0 i1 => by rw [v, if_neg (by omega)]]
          simp
theorem c_mostAlike {h : AH} (K : BP h) {rows s : Int} (r0 : 0 ≤ rows) (r1 : rows ≤ 7) (s0 : 0 ≤ s) (s1 : s < 5) (hb : ∀ j, 0 ≤ j → j < rows → 0 ≤ h_V h 45 (j * 5 + s) ∧ h_V h 45 (j * 5 + s) ≤ 60) : f_B_mostAlike 1 s rows h = some (mxa (fun i => cn_ (fun j => decide (h_V h 45 (i * 5 + s) = h_V h 45 (j * 5 + s))) 0 rows) rows.toNat 0 0, h) := by
  have L := it_2 (F := F_B_mostAlike_5 1 s rows) (fun m i h2 o => h = h2 → 0 ≤ i → i ≤ rows → (0 ≤ m ∧ m ≤ 7) → o = some (mxa (fun i => cn_ (fun j => decide (h_V h 45 (i * 5 + s) = h_V h 45 (j * 5 + s))) 0 rows) (rows - i).toNat m i, h)) (fun _ i _ => (rows - i).toNat) ?_ fu_ 0 0 h (fu_gt (by omega)) rfl (by omega) (by omega) (by omega)
  · rw [Int.sub_zero] at L; exact L
  intro kf m i h2 ih eh i0 i1 hm
  subst eh
  unfold F_B_mostAlike_5
  rw [nmi (z := rows) (by omega) (by omega), nmi (z := i) (by omega) (by omega)]
  by_cases d : rows ≤ i
  · rw [if_pos d, show (rows - i).toNat = 0 by omega]; rfl
  · rw [if_neg d, show (rows - i).toNat = (rows - (i + 1)).toNat + 1 by omega]
    refine it_2 (F := F_B_mostAlike_17 kf 1 s rows m i) (fun c j h2 o => h = h2 → 0 ≤ j → j ≤ rows → c = cn_ (fun j => decide (h_V h 45 (i * 5 + s) = h_V h 45 (j * 5 + s))) 0 j → o = some (mxa (fun i => cn_ (fun j => decide (h_V h 45 (i * 5 + s) = h_V h 45 (j * 5 + s))) 0 rows) ((rows - (i + 1)).toNat + 1) m i, h)) (fun _ j _ => (rows - j).toNat) ?_ fu_ 0 0 h (fu_gt (by omega)) rfl (by omega) (by omega) (cn_e (Int.le_refl 0)).symm
    intro kg c j h2 ih2 eh j0 j1 ec
    subst eh
    have cb := cn_nn (fun j => decide (h_V h 45 (i * 5 + s) = h_V h 45 (j * 5 + s))) 0 j
    have cl := cn_le (P := fun j => decide (h_V h 45 (i * 5 + s) = h_V h 45 (j * 5 + s))) j0
    unfold F_B_mostAlike_17
    rw [nmi (z := rows) (by omega) (by omega), nmi (z := j) (by omega) (by omega)]
    by_cases d2 : rows ≤ j
    · have : j = rows := by omega
      subst this
      rw [if_pos d2, m_max_e ⟨by omega, by omega⟩ ⟨by omega, by omega⟩, Option.bind_some, ec]
      refine ih _ _ _ (by omega) rfl (by omega) (by omega) ?_
      split <;> omega
    · have x1 := hb i i0 (by omega)
      have x2 := hb j j0 (by omega)
      rw [if_neg d2, K.g1_12, Option.bind_some, ag_pos K.k45.1 K.k45.2 (by decide) (by omega) (by omega), Option.bind_some, Option.bind_some, ag_pos K.k45.1 K.k45.2 (by decide) (by omega) (by omega), Option.bind_some, nmi (z := h_V h 45 (i * 5 + s)) (by omega) (by omega), nmi (z := h_V h 45 (j * 5 + s)) (by omega) (by omega)]
      have rc := cn_r (P := fun j => decide (h_V h 45 (i * 5 + s) = h_V h 45 (j * 5 + s))) j0
      by_cases q : h_V h 45 (i * 5 + s) = h_V h 45 (j * 5 + s)
      · rw [if_neg (fun z => z q)]
        refine ih2 _ _ _ (by omega) rfl (by omega) (by omega) ?_
        rw [rc, ec, decide_eq_true q]; rfl
      · rw [if_pos q]
        refine ih2 _ _ _ (by omega) rfl (by omega) (by omega) ?_
        rw [rc, ec, decide_eq_false q]; simp [b01]
theorem c_look {B : Int} {sd : Int → Int} {R : Int → (Int → Int) → Int} {fo rn : Int} {h : AH} (H : QA sd R fo rn h) (hw : WB B sd) (he : WE sd) (hn : WN sd) (TB : TR (bg_ sd) 23 h) (N : NR sd h) (hh : h_V h 10 8 = if sd 0 = 1 then 1 else 0) {n w : Int} (hm : R32 n) (hq : R32 w) : ∃ h', f_B_look 1 n w h = some (lok_ R rn sd n w, h') ∧ Ag (XQ h) h h' := by
  have K := H.1
  have rb := H.2.2.1.2.1
  have w2 := hw.1.2.2.1
  unfold f_B_look lok_
  rw [K.g1_5, Option.bind_some, gf_pos K.k10, hh, Option.bind_some, nmi hm.1 hm.2, nmi hq.1 hq.2, nm1, nmi (z := 60) (by decide) (by decide)]
  by_cases c0 : sd 0 = 1
  · rw [if_pos c0, if_neg (by decide +kernel)]
    by_cases c1 : n < 0
    · rw [if_pos c1, if_neg (by omega)]; exact ⟨h, rfl, Ag.rf⟩
    · rw [if_neg c1]
      by_cases c2 : 60 < n
      · rw [if_pos c2, if_neg (by omega)]; exact ⟨h, rfl, Ag.rf⟩
      · rw [if_neg c2]
        by_cases c3 : w < 0
        · rw [if_pos c3, if_neg (by omega)]; exact ⟨h, rfl, Ag.rf⟩
        · rw [if_neg c3]
          by_cases c4 : w ≤ 1
          · rw [if_pos c4, if_pos ⟨c0, by omega, by omega⟩, ck_pos K.k1]
            obtain ⟨h1, rows, e1, bb, G⟩ := c_fillBoxes H hw he hn TB N (n := n) (by omega) (by omega)
            have cb := cn_nn (rP R sd) 0 (rn + 1)
            have cl := cn_le (P := rP R sd) (show (0 : Int) ≤ rn + 1 by omega)
            have er := bb.1
            have K1 := (H.ag G).1
            have TB1 : TR (bg_ sd) 23 h1 := TB.ag G fun a i z => by rcases z with z | z <;> omega
            rw [e1, bd_some, nmi (z := rows) (by omega) (by omega)]
            by_cases z : rows = 0
            · have A0 : ∀ s, lkA R rn sd n s = 0 := fun s => lka_0 (by omega) (by omega)
              have l0 : ∀ (k : Nat) (s : Int), lkn (lkA R rn sd n) k (-2) (-2) s = (-2, -2) := by
                intro k
                induction k with
                | zero => intro s; rfl
                | succ k ih => intro s; rw [lkn_n (Or.inl (A0 s)), ih]
              rw [if_neg (fun y => y z), l0]
              refine ⟨h1, ?_, G⟩
              split <;> rfl
            · rw [if_pos z, Option.bind_some]
              have L := it_3 (F := F_B_look_56 1 w rows) (fun b m s h2 o => h1 = h2 → 0 ≤ s → s ≤ sd 2 → ∀ m', (-2 ≤ b ∧ b ≤ 5) → (1 ≤ m ∧ m ≤ 8) → (b = -2 ∧ m = rows + 1 ∧ m' = -2 ∨ 0 ≤ b ∧ m' = m) → ∃ h', o = some (if w = 0 then (lkn (lkA R rn sd n) (sd 2 - s).toNat b m' s).1 else (lkn (lkA R rn sd n) (sd 2 - s).toNat b m' s).2, h') ∧ Ag (XQ h) h h') (fun _ _ s _ => (5 - s).toNat) ?_ fu_ (-2) (rows + 1) 0 h1 (fu_gt (by omega)) rfl (by omega) (by omega) (-2) (by omega) (by omega) (Or.inl ⟨rfl, rfl, rfl⟩)
              · rw [Int.sub_zero] at L; exact L
              intro kf b m s h2 ih eh s0 q1 m' hb hmm rel
              subst eh
              unfold F_B_look_56
              rw [K1.g1_5, Option.bind_some, K1.g10_1, Option.bind_some, gf_pos TB1.1.1, TB1.2.1.1, Option.bind_some, bg_out (Or.inl (by decide)), nmi (z := sd 2) (by omega) (by omega), nmi (z := s) (by omega) (by omega), nmi (z := w) (by omega) (by omega), nmi (z := b) (by omega) (by omega), nmi (z := -2) (by decide) (by decide), nmi (z := m) (by omega) (by omega)]
              by_cases d : sd 2 ≤ s
              · rw [if_pos d, show (sd 2 - s).toNat = 0 by omega]
                refine ⟨h1, ?_, G⟩
                by_cases w0 : w = 0
                · rw [if_pos w0, if_pos w0]; rfl
                · rw [if_neg w0, if_neg w0]
                  show _ = some (m', h1)
                  by_cases b0 : b = -2
                  · rw [if_neg (fun y => y b0)]; congr 2; omega
                  · rw [if_pos b0]; congr 2; omega
              · obtain ⟨b1, b2⟩ := bb.2 s s0 (by omega)
                have ma := c_mostAlike K1 (rows := rows) (s := s) (by omega) (by omega) s0 (by omega) b1
                have ae : mxa (fun i => cn_ (fun j => decide (h_V h1 45 (i * 5 + s) = h_V h1 45 (j * 5 + s))) 0 rows) rows.toNat 0 0 = lkA R rn sd n s :=
                  lka_rows (P := rP R sd) (v := fun r => bx_ R sd n r s) (m := rn + 1) (by omega) (b := fun j => h_V h1 45 (j * 5 + s)) (by omega) b2
                rw [ae] at ma
                have a1 : 1 ≤ lkA R rn sd n s := lka_1 (by omega) (by omega)
                have a2 : lkA R rn sd n s ≤ rows := by rw [er]; exact lka_le
                rw [if_neg d, ck_pos K1.k1, ma, bd_some, nmi (z := lkA R rn sd n s) (by omega) (by omega), show (sd 2 - s).toNat = (sd 2 - (s + 1)).toNat + 1 by omega]
                by_cases q : m ≤ lkA R rn sd n s
                · rw [if_pos q, lkn_n (by omega)]
                  exact ih _ _ _ _ (by omega) rfl (by omega) (by omega) m' hb hmm rel
                · rw [if_neg q, lkn_y (by omega)]
                  exact ih _ _ _ _ (by omega) rfl (by omega) (by omega) _ (by omega) (by omega) (Or.inr ⟨s0, rfl⟩)
          · rw [if_neg c4, if_neg (by omega)]; exact ⟨h, rfl, Ag.rf⟩
  · rw [if_neg c0, if_pos (by decide +kernel), if_neg (fun z => c0 z.1)]; exact ⟨h, rfl, Ag.rf⟩
