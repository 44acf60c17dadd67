/-! ===== a rule's sum: the Model, all of it ===== -/
section
variable {b : Int → Int} {L m p q t d : Int} {ms : List CD} {B : List Int} {h h' : AH} {r : PR}
def tL (e : Nat) (h : AH) : Option (Int × AH) := it_ (fun (k : AH → Option (Int × AH)) (s : AH) => F_M_term_9 46 (fun a0 => k (a0)) s) e h
def sL (e : Nat) (h : AH) : Option (Int × AH) := it_ (fun (k : AH → Option (Int × AH)) (s : AH) => F_M_sum_9 46 (fun a0 => k (a0)) s) e h
def sW (w : Int) (e2 : Nat) (h : AH) : Option (Int × AH) := if w = -1 then sL e2 h else c_k h 11 46 (bd_ (f_M_puts 46 w 0 h) fun _ h6 => sL e2 h6)
def TL2 (w : Int) (e1 e2 : Nat) (h : AH) : Option (Int × AH) := bd_ (tL e1 h) fun v h => if nm v ≠ 0 then sW w e2 h else c_b 0 (some (0, h))
theorem tL_un (n : Nat) (h : AH) : tL (n + 1) h = F_M_term_9 46 (fun a0 => tL n a0) h := rfl
theorem sL_un (n : Nat) (h : AH) : sL (n + 1) h = F_M_sum_9 46 (fun a0 => sL n a0) h := rfl
theorem f_term_e (H : MQr L b t ms m p B d h) : f_M_term 46 h = bd_ (f_M_value 46 h) fun v h2 => if nm v ≠ 0 then tL fu_ h2 else c_b 0 (some (0, h2)) := by
  unfold f_M_term
  rw [ck_pos H.1.1.1]; rfl
theorem m_TL : ∀ (n e1 e2 : Nat) (w m p : Int) (ms : List CD) (h : AH), L - p < n → 1000 ≤ e1 + p → 1000 ≤ e2 + p → (w = -1 ∨ w = 2 ∨ w = 3) → 0 ≤ m → m ≤ 60 → (ms.length : Int) + pn w ≤ p → MQr L b t ms m p B d h → MJ L b t ms B d h (TL2 w e1 e2 h) (pS b L n w m p)
  | 0, e1, e2, w, m, p, ms, h, hn, f1, f2, hw, m0, m1, hl, H => by have := H.1.2.2.2.2; omega
  | n + 1, e1, e2, w, m, p, ms, h, hn, f1, f2, hw, m0, m1, hl, H => by
    have l := H.1.hL
    have p0 := H.1.2.2.2.1
    have p1 := H.1.2.2.2.2
    have g := sk_ge (b := b) (L := L) p
    have ls := sk_le (b := b) p1
    have ob := opc_b (ch b L (sk b L p))
    have pw := pn_b w
    have lt := opc_lt (b := b) (L := L) (q := sk b L p)
    obtain ⟨e1', rfl⟩ : ∃ k, e1 = k + 1 := ⟨e1 - 1, by omega⟩
    obtain ⟨e2', rfl⟩ : ∃ k, e2 = k + 1 := ⟨e2 - 1, by omega⟩
    have st := m_term1 H (fun a0 => tL e1' a0)
    unfold TL2
    rw [tL_un]
    unfold pS
    generalize eo : opc (ch b L (sk b L p)) = o at *
    by_cases c4 : 4 ≤ o
    · obtain ⟨h1, e1, H1, g1⟩ := st.1 c4
      have lt' := lt (by omega)
      rw [if_neg (by omega), if_neg (by omega), e1]
      unfold vK
      rw [bd_two]
      refine MJ.pre (g1.mono X4p_rs) (MJ.bind (m_value H1 m0 m1 (by omega)) fun h2 z H2 => ?_)
      have vg := (pV_g (b := b) (L := L) (m := m) (q := sk b L (sk b L p + 1)) (Int.le_trans (by omega) (sk_ge _)) (sk_le (by omega)) m0 m1).2 z
      have one := pV_1 z (Int.le_trans (by omega) (sk_ge _))
      have g3 := sk_ge (b := b) (L := L) (sk b L p + 1)
      obtain ⟨h3, e3, H3, g3'⟩ := m_puts H2 (by rw [List.length_append, one.1]; omega) (c := (o, 0))
      have e3' : f_M_puts 46 (mop o) 0 h2 = some (0, h3) := e3
      rw [ck_pos H2.1.1.1, e3', bd_some]
      refine MJ.pre g3' (MJ.emt ?_)
      exact m_TL n e1' (e2' + 1) w _ _ _ h3 (by omega) (by omega) (by omega) hw vg.2.2.1.1 vg.2.2.1.2 (by rw [List.length_append, List.length_append, one.1]; simp only [List.length_cons, List.length_nil]; omega) H3
    · obtain ⟨h1, e1, H1, g1⟩ := st.2 c4
      rw [e1, bd_some, if_pos (by decide +kernel)]
      refine MJ.pre (g1.mono X4p_rs) ?_
      -- what waits is put down
      have go : ∀ (ms' : List CD) (h2 : AH), (ms'.length : Int) ≤ sk b L p → MQr L b t ms' m (sk b L p) B d h2 → MJ L b t ms' B d h2 (sL (e2' + 1) h2) (if o = -1 then emt [] m (sk b L p) else thn (emt [] m (sk b L p + 1)) fun m p' => thn (pV b L m (sk b L p')) (pS b L n o)) := fun ms' h2 hl2 H2 => by
        have s1 := m_sum1 H2 (fun a0 => sL e2' a0)
        rw [show sk b L (sk b L p) = sk b L p from sk_sk, eo] at s1
        rw [sL_un]
        by_cases c : o = -1
        · obtain ⟨h3, e3, H3, g3⟩ := s1.2 (by omega)
          rw [if_pos c, e3]
          exact ⟨fun z => absurd rfl z, fun _ => ⟨h3, rfl, by rw [show (emt [] m (sk b L p)).2.1 = [] from rfl, List.append_nil]; exact H3, g3.mono X4p_rs⟩⟩
        · obtain ⟨h3, e3, H3, g3⟩ := s1.1 (by omega)
          have lt' := lt c
          rw [if_neg c, e3]
          unfold tK
          rw [f_term_e H3]
          have bt := bd_two (f_M_value 46 h3) (tL fu_) (fun h4 => c_k h4 11 46 <| bd_ (f_M_puts 46 o 0 h4) fun _ h6 => sL e2' h6)
          rw [bt]
          refine MJ.pre (g3.mono X4p_rs) (MJ.emt ?_)
          rw [List.append_nil]
          refine MJ.bind (m_value H3 m0 m1 (by omega)) fun h4 z H4 => ?_
          have vg := (pV_g (b := b) (L := L) (m := m) (q := sk b L (sk b L p + 1)) (Int.le_trans (by omega) (sk_ge _)) (sk_le (by omega)) m0 m1).2 z
          have one := pV_1 z (Int.le_trans (by omega) (sk_ge _))
          have g4 := sk_ge (b := b) (L := L) (sk b L p + 1)
          have e1' : pn o = 1 := by unfold pn; rw [if_neg c]
          have q := m_TL n fu_ e2' o _ _ _ h4 (by omega) (by unfold fu_; omega) (by omega) (by omega) vg.2.2.1.1 vg.2.2.1.2 (by rw [List.length_append, one.1, e1']; omega) H4
          have en : sW o e2' = fun h4 => c_k h4 11 46 <| bd_ (f_M_puts 46 o 0 h4) fun _ h6 => sL e2' h6 := by funext h4; unfold sW; rw [if_neg c]
          unfold TL2 at q
          rw [en] at q
          exact q
      unfold sW
      by_cases f : w = -1
      · rw [if_pos f]
        have q := go ms h1 (by omega) H1
        have ew : wc w = [] := by unfold wc; rw [if_pos f]
        rw [ew]
        by_cases c : o = -1
        · rw [if_pos c] at q ⊢; exact q
        · rw [if_neg c] at q ⊢; rw [if_pos (by omega)]; exact q
      · have e2' : pn w = 1 := by unfold pn; rw [if_neg f]
        obtain ⟨h2, e2, H2, g2⟩ := m_puts H1 (by omega) (c := (w, 0))
        have em' : mop w = w := by unfold mop; rw [if_neg (by omega), if_neg (by omega), if_neg (by omega)]
        have e2'' : f_M_puts 46 w 0 h1 = some (0, h2) := by rw [← em'] ; rw [em']; have := e2; rw [show mop (w, (0 : Int)).1 = w from em'] at this; exact this
        rw [if_neg f, ck_pos H1.1.1.1, e2'', bd_some]
        have q := go _ h2 (by rw [List.length_append]; simp only [List.length_cons, List.length_nil]; omega) H2
        have ew : wc w = [(w, 0)] := by unfold wc; rw [if_neg f]
        rw [ew]
        refine MJ.pre g2 ?_
        by_cases c : o = -1
        · rw [if_pos c] at q ⊢
          refine ⟨fun z => absurd rfl z, fun z => ?_⟩
          obtain ⟨h5, e5, v5, g5⟩ := q.2 rfl
          rw [show (emt [] m (sk b L p)).2.1 = [] from rfl, List.append_nil] at v5
          exact ⟨h5, e5, v5, g5⟩
        · rw [if_neg c] at q ⊢
          rw [if_pos (by omega)]
          refine MJ.emt ?_
          refine ⟨q.1, fun z => ?_⟩
          obtain ⟨h5, e5, v5, g5⟩ := q.2 z
          exact ⟨h5, e5, v5, g5⟩
theorem m_sum (H : MQr L b t ms m p B d h) (m0 : 0 ≤ m) (m1 : m ≤ 60) (hl : (ms.length : Int) ≤ p) : MJ L b t ms B d h (f_M_sum 46 h) (pSum b L m p) := by
  have l := H.1.hL
  have p0 := H.1.2.2.2.1
  have p1 := H.1.2.2.2.2
  unfold f_M_sum pSum
  rw [ck_pos H.1.1.1, f_term_e H]
  have bt := bd_two (f_M_value 46 h) (tL fu_) (fun h2 => f_M_sum_9 46 h2)
  rw [bt]
  refine MJ.bind (m_value H m0 m1 hl) fun h1 z H1 => ?_
  have g := sk_ge (b := b) (L := L) p
  have vg := (pV_g (b := b) (L := L) (m := m) (q := sk b L p) (by omega) (sk_le (by omega)) m0 m1).2 z
  have one := pV_1 z (by omega)
  exact m_TL 400 fu_ fu_ (-1) _ _ _ h1 (by omega) (by unfold fu_; omega) (by unfold fu_; omega) (Or.inl rfl) vg.2.2.1.1 vg.2.2.1.2 (by rw [List.length_append, one.1, show pn (-1) = 0 from rfl]; omega) H1
end
