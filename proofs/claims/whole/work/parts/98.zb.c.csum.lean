/-! ===== a rule's sum: the class ===== -/
section
variable {b : Int → Int} {L m p q : Int} {cs : List CD} {h h' : AH} {r : PR}
theorem c_sum97 (H : CQ L b cs m p h) {w : Int} (hw : w = -1 ∨ w = 2 ∨ w = 3) (hl : (cs.length : Int) + pn w ≤ p) : CJ L b cs h (f_D_readSum_97 7 w h) (emt (wc w) m p) := by
  have l := H.1.hL
  have p1 := H.1.2.2.2.2
  unfold f_D_readSum_97 wc
  by_cases c : w = -1
  · rw [c, if_pos rfl, cb_1, if_pos rfl]
    exact ⟨h, rfl, Ag.rf, fun _ => by rw [show (emt [] m p).2.1 = [] from rfl, List.append_nil]; exact H, fun z => absurd rfl z⟩
  · have e1 : pn w = 1 := by unfold pn; rw [if_neg c]
    obtain ⟨h1, e1', H1, g1⟩ := c_add H (by omega) (op := w) (v := 0) (by omega) (by omega) (by decide) (by decide)
    rw [if_neg (by rw [nmi (by omega) (by omega), nmi (by decide) (by decide)]; exact c), if_neg c, ck_pos H.1.1.k7, e1', bd_some, cb_1]
    exact ⟨h1, rfl, g1, fun _ => H1, fun z => absurd rfl z⟩
theorem c_sum13 : ∀ (n e : Nat) (w m p i : Int) (cs : List CD) (h : AH), i + n = 400 → 0 ≤ i → L - p < n → (w = -1 ∨ w = 2 ∨ w = 3) → 0 ≤ m → m ≤ 60 → (cs.length : Int) + pn w ≤ p → CQ L b cs m p h → CJ L b cs h (it_ (fun (k : Int × Int × AH → Option (Int × AH)) (s : Int × Int × AH) => F_D_readSum_13 7 (fun a0 a1 a2 => k (a0, a1, a2)) s.1 s.2.1 s.2.2) (n + e) (w, i, h)) (pS b L n w m p)
  | 0, e, w, m, p, i, cs, h, en, i0, hn, hw, m0, m1, hl, H => by have := H.1.2.2.2.2; omega
  | n + 1, e, w, m, p, i, cs, h, en, i0, hn, hw, m0, m1, hl, H => by
    have l := H.1.hL
    have p0 := H.1.2.2.2.1
    have p1 := H.1.2.2.2.2
    obtain ⟨h1, e1, H1, g1⟩ := c_op H
    have ob := opc_b (ch b L (sk b L p))
    have lt := opc_lt (b := b) (L := L) (q := sk b L p)
    have g := sk_ge (b := b) (L := L) p
    have pw := pn_b w
    rw [show n + 1 + e = (n + e) + 1 by omega, it_un]
    unfold pS
    generalize eo : opc (ch b L (sk b L p)) = o at *
    have st : ∀ kf : Int → Int → AH → Option (Int × AH), F_D_readSum_13 7 kf w i h = if o = -1 then f_D_readSum_97 7 w h1 else f_D_readSum_48 kf 7 w i o (if o ≤ 3 then 1 else 0) h1 := fun kf => by
      unfold F_D_readSum_13
      rw [nmi (z := 400) (by decide) (by decide), nmi (z := i) (by omega) (by omega), if_neg (by omega), ck_pos H.1.1.k7, e1, bd_some, nmi (z := o) (by omega) (by omega), nmi (z := -1) (by decide) (by decide), nmi (z := 2) (by decide) (by decide), nmi (z := 3) (by decide) (by decide)]
      by_cases c : o = -1
      · rw [if_neg (fun z => z c), if_pos c]
      · rw [if_pos c, if_neg c]
        by_cases c2 : o = 2
        · rw [if_pos c2, if_pos (by omega)]
        · rw [if_neg c2]
          by_cases c3 : o = 3
          · rw [if_neg (fun z => z c3), if_pos (by omega)]
          · rw [if_pos c3, if_neg (by omega)]
    show CJ L b cs h (F_D_readSum_13 7 _ w i h) _
    rw [st]
    by_cases c : o = -1
    · rw [if_pos c] at H1
      rw [if_pos c, if_pos c]
      exact CJ.pre g1 (c_sum97 H1 hw (by omega))
    · rw [if_neg c] at H1
      rw [if_neg c, if_neg c]
      have lt' := lt c
      by_cases d : o ≤ 3
      · rw [if_pos d, if_pos d]
        have o23 : o = 2 ∨ o = 3 := by omega
        have e1' : pn o = 1 := by unfold pn; rw [if_neg c]
        have go : ∀ (cs' : List CD) (h2 : AH), (cs'.length : Int) ≤ sk b L p → CQ L b cs' m (sk b L p + 1) h2 → CJ L b cs' h2 (f_D_readSum_66 (fun a0 a1 a2 => it_ (fun (k : Int × Int × AH → Option (Int × AH)) (s : Int × Int × AH) => F_D_readSum_13 7 (fun a0 a1 a2 => k (a0, a1, a2)) s.1 s.2.1 s.2.2) (n + e) (a0, a1, a2)) 7 w i o 1 h2) (thn (pV b L m (sk b L (sk b L p + 1))) (pS b L n o)) := fun cs' h2 hl2 H2 => by
          unfold f_D_readSum_66
          rw [ck_pos H2.1.1.k7]
          refine CJ.bind (f := fun h2 => if nm 1 = 0 then _ else _) (c_value H2 m0 m1 (by omega)) fun h3 z H3 => ?_
          rw [if_neg (show ¬ nm 1 = 0 by decide +kernel)]
          have vg := (pV_g (b := b) (L := L) (m := m) (q := sk b L (sk b L p + 1)) (Int.le_trans (by omega) (sk_ge _)) (sk_le (by omega)) m0 m1).2 z
          have one := pV_1 z (Int.le_trans (by omega) (sk_ge _))
          have g3 := sk_ge (b := b) (L := L) (sk b L p + 1)
          exact c_sum13 n e o _ _ (i + 1) _ h3 (by omega) (by omega) (by omega) (Or.inr o23) vg.2.2.1.1 vg.2.2.1.2 (by rw [List.length_append, one.1, e1']; omega) H3
        unfold f_D_readSum_48
        rw [if_neg (show ¬ nm 1 = 0 by decide +kernel)]
        refine CJ.emt ?_
        unfold wc
        by_cases f : w = -1
        · rw [f, if_pos rfl, if_pos rfl, List.append_nil]
          rw [f] at go
          exact CJ.pre g1 (go cs h1 (by omega) H1)
        · have e2' : pn w = 1 := by unfold pn; rw [if_neg f]
          obtain ⟨h2, e2, H2, g2⟩ := c_add H1 (by omega) (op := w) (v := 0) (by omega) (by omega) (by decide) (by decide)
          rw [if_neg f, if_neg (show ¬ nm w = nm (-1) by rw [nmi (by omega) (by omega), nmi (by decide) (by decide)]; exact f), ck_pos H1.1.1.k7, e2, bd_some]
          exact CJ.pre (g1.tr g2) (go _ h2 (by rw [List.length_append]; simp only [List.length_cons, List.length_nil]; omega) H2)
      · rw [if_neg d, if_neg d]
        unfold f_D_readSum_48 f_D_readSum_66
        rw [if_pos nm_0, ck_pos H1.1.1.k7]
        refine CJ.pre g1 (CJ.bind (f := fun h2 => if nm 0 = 0 then _ else _) (c_value H1 m0 m1 (by omega)) fun h3 z H3 => ?_)
        have vg := (pV_g (b := b) (L := L) (m := m) (q := sk b L (sk b L p + 1)) (Int.le_trans (by omega) (sk_ge _)) (sk_le (by omega)) m0 m1).2 z
        have one := pV_1 z (Int.le_trans (by omega) (sk_ge _))
        have g3 := sk_ge (b := b) (L := L) (sk b L p + 1)
        obtain ⟨h4, e4, H4, g4⟩ := c_add H3 (by rw [List.length_append, one.1]; omega) (op := o) (v := 0) (by omega) (by omega) (by decide) (by decide)
        rw [if_pos nm_0, ck_pos H3.1.1.k7, e4, bd_some]
        refine CJ.pre g4 (CJ.emt ?_)
        exact c_sum13 n e w _ _ (i + 1) _ h4 (by omega) (by omega) (by omega) hw vg.2.2.1.1 vg.2.2.1.2 (by rw [List.length_append, List.length_append, one.1]; simp only [List.length_cons, List.length_nil]; omega) H4
theorem c_sum (H : CQ L b cs m p h) (m0 : 0 ≤ m) (m1 : m ≤ 60) (hl : (cs.length : Int) ≤ p) : CJ L b cs h (f_D_readSum 7 h) (pSum b L m p) := by
  have l := H.1.hL
  have p0 := H.1.2.2.2.1
  have p1 := H.1.2.2.2.2
  unfold f_D_readSum pSum
  rw [ck_pos H.1.1.k7]
  refine CJ.bind (c_value H m0 m1 hl) fun h1 z H1 => ?_
  have g := sk_ge (b := b) (L := L) p
  have vg := (pV_g (b := b) (L := L) (m := m) (q := sk b L p) (by omega) (sk_le (by omega)) m0 m1).2 z
  have one := pV_1 z (by omega)
  exact c_sum13 400 (1000000 - 400) (-1) _ _ 0 _ h1 (by decide) (by decide) (by omega) (Or.inl rfl) vg.2.2.1.1 vg.2.2.1.2 (by rw [List.length_append, one.1, show pn (-1) = 0 from rfl]; omega) H1
end
