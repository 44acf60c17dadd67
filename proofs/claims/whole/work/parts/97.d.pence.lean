/-! ===== counting up and down; pence ===== -/
theorem cn_r {P : Int → Bool} {a b : Int} (h : a ≤ b) : cn_ P a (b + 1) = cn_ P a b + b01 (P b) := by
  unfold cn_
  rw [show (b + 1 - a).toNat = (b - a).toNat + 1 by omega, ct_ad, show a + ((b - a).toNat : Int) = b by omega]
  show _ + ((if P b = true then 1 else 0) + ct_ P (b + 1) 0) = _
  unfold ct_ b01
  omega
theorem ff_r {P : Int → Bool} {a b : Int} (a0 : 0 ≤ a) (h : a ≤ b) : ff_ P a (b + 1) = if 0 ≤ ff_ P a b then ff_ P a b else if P b = true then b else -1 := by
  have s1 := ff_sp P h
  have s2 := ff_sp P (show a ≤ b + 1 by omega)
  rcases s1 with ⟨e1, f1⟩ | ⟨e1, e2, e3, e4⟩
  · rw [e1, if_neg (by decide)]
    by_cases c : P b = true
    · rw [if_pos c]
      rcases s2 with ⟨g1, g2⟩ | ⟨g1, g2, g3, g4⟩
      · have := g2 b h (by omega); rw [this] at c; simp at c
      · by_cases d : ff_ P a (b + 1) = b
        · exact d
        · have := f1 _ g1 (by omega); rw [g3] at this; simp at this
    · rw [if_neg c]
      rcases s2 with ⟨g1, g2⟩ | ⟨g1, g2, g3, g4⟩
      · exact g1
      · by_cases d : ff_ P a (b + 1) = b
        · rw [d] at g3; exact absurd g3 c
        · have := f1 _ g1 (by omega); rw [g3] at this; simp at this
  · rw [if_pos (by omega)]
    rcases s2 with ⟨g1, g2⟩ | ⟨g1, g2, g3, g4⟩
    · have := g2 _ e1 (by omega); rw [e3] at this; simp at this
    · by_cases d : ff_ P a (b + 1) < ff_ P a b
      · have := e4 _ g1 d; rw [g3] at this; simp at this
      · by_cases d2 : ff_ P a b < ff_ P a (b + 1)
        · have := g4 _ e1 d2; rw [e3] at this; simp at this
        · omega
theorem cn_ff {P : Int → Bool} {a b : Int} (a0 : 0 ≤ a) (h : a ≤ b) : cn_ P a b = 0 ↔ ff_ P a b = -1 := by
  have : ∀ n : Nat, cn_ P a (a + n) = 0 ↔ ff_ P a (a + n) = -1 := by
    intro n
    induction n with
    | zero => simp [cn_e, ff_e]
    | succ n ih =>
      have i := cn_r (P := P) (a := a) (b := a + n) (by omega)
      have j := ff_r (P := P) (a := a) (b := a + n) a0 (by omega)
      have s := ff_sp P (show a ≤ a + n by omega)
      have q := cn_nn P a (a + n)
      rw [show a + ((n + 1 : Nat) : Int) = a + n + 1 by omega, i, j]
      by_cases c : P (a + n) = true
      · simp only [c, b01, if_true]
        by_cases d : 0 ≤ ff_ P a (a + n)
        · rw [if_pos d]; omega
        · rw [if_neg d]; omega
      · have c' : P (a + n) = false := by simpa using c
        simp only [c', b01]
        by_cases d : 0 ≤ ff_ P a (a + n)
        · rw [if_pos d]; simp; omega
        · rw [if_neg d]; simp; omega
  have := this (b - a).toNat
  rwa [show a + ((b - a).toNat : Int) = b by omega] at this
/-- pence -/
def pnn (b : Int → Int) (much st all : Int) : Nat → Int → Int → Int → Int × Int
  | 0, r, e, _ => (r, e)
  | k + 1, r, e, s => pnn b much st all k (r - much * b s / all) (if much * b st % all < much * b s % all ∨ (much * b s % all = much * b st % all ∧ s < st) then e + 1 else e) (s + 1)
theorem pnn_y {b : Int → Int} {much st all r e s : Int} {k : Nat} (h : much * b st % all < much * b s % all ∨ (much * b s % all = much * b st % all ∧ s < st)) : pnn b much st all (k + 1) r e s = pnn b much st all k (r - much * b s / all) (e + 1) (s + 1) := by
  show pnn b much st all k _ (if _ then _ else _) _ = _
  rw [if_pos h]
theorem pnn_n {b : Int → Int} {much st all r e s : Int} {k : Nat} (h : ¬ (much * b st % all < much * b s % all ∨ (much * b s % all = much * b st % all ∧ s < st))) : pnn b much st all (k + 1) r e s = pnn b much st all k (r - much * b s / all) e (s + 1) := by
  show pnn b much st all k _ (if _ then _ else _) _ = _
  rw [if_neg h]
def pen_ (sd : Int → Int) (much st : Int) : Int := if st_ sd st = true ∧ 0 ≤ much ∧ much ≤ 9999 then (if al_ sd 1 = 0 then 0 else much * mi_ sd st 1 / al_ sd 1 + (if (pnn (fun s => mi_ sd s 1) much st (al_ sd 1) (sd 2).toNat much 0 0).2 < (pnn (fun s => mi_ sd s 1) much st (al_ sd 1) (sd 2).toNat much 0 0).1 then 1 else 0)) else -1
theorem mul_b {m b : Int} (m0 : 0 ≤ m) (m1 : m ≤ 9999) (b0 : 0 ≤ b) (b1 : b ≤ 60) : 0 ≤ m * b ∧ m * b ≤ 599940 := by
  have h1 := Int.mul_nonneg m0 b0
  have h2 : m * b ≤ 9999 * 60 := Int.mul_le_mul m1 b1 b0 (by decide)
  omega
theorem div_b {x a : Int} (x0 : 0 ≤ x) (a0 : 0 < a) : 0 ≤ x / a ∧ x / a ≤ x := ⟨Int.ediv_nonneg x0 (by omega), Int.ediv_le_self _ x0⟩
theorem mod_b {x a : Int} (a0 : 0 < a) : 0 ≤ x % a ∧ x % a < a := ⟨Int.emod_nonneg _ (by omega), Int.emod_lt_of_pos _ a0⟩
theorem c_pence {sd : Int → Int} {h : AH} (K : BP h) (T : TR sd 12 h) (hw : WS sd) {much st : Int} (hm : R32 much) (hs : R32 st) : f_B_pence 1 much st h = some (pen_ sd much st, h) := by
  have w2 := hw.2.2.1
  have ab := al_b hw 1
  have bb : ∀ s, 0 ≤ mi_ sd s 1 ∧ mi_ sd s 1 ≤ 60 := fun s => mi_b hw.2.1 s 1
  unfold f_B_pence pen_
  rw [ck_pos K.k1, b_isStation K T.2.1.1 w2 hs, bd_some, nmi hm.1 hm.2, nmi (z := 9999) (by decide) (by decide)]
  cases c : st_ sd st
  · rw [if_pos b01_f, if_neg (by simp)]
  · have rs := st_r c
    rw [if_neg b01_t]
    by_cases c1 : much < 0
    · rw [if_pos c1, if_neg (by omega)]
    · rw [if_neg c1]
      by_cases c2 : much ≤ 9999
      · rw [if_pos c2, if_pos ⟨rfl, by omega, c2⟩, K.g1_5, Option.bind_some, K.g10_0, Option.bind_some, K.g11_0, Option.bind_some, ck_pos K.k12, t_sum hw T (Or.inr (Or.inl rfl)), bd_some, nmi (z := al_ sd 1) (by omega) (by omega)]
        by_cases a0 : al_ sd 1 = 0
        · rw [if_neg (fun z => z a0), if_pos a0]
        · have mb := mul_b (m := much) (b := mi_ sd st 1) (by omega) c2 (bb st).1 (bb st).2
          have mr := mod_b (x := much * mi_ sd st 1) (a := al_ sd 1) (by omega)
          rw [if_pos a0, if_neg a0, T.1.g1, Option.bind_some, T.1.a1 rs.1 (by omega), Option.bind_some, (T.2.2 st rs.1 rs.2).2.1, p_rem_p (by omega) (by omega) (by omega) (by omega), Option.bind_some]
          have L := it_3 (F := F_B_pence_68 much st 12 (al_ sd 1) (much * mi_ sd st 1 % al_ sd 1)) (fun r e s h2 o => h = h2 → 0 ≤ s → s ≤ sd 2 → (-600000 * s ≤ r ∧ r ≤ 9999) → (0 ≤ e ∧ e ≤ s) → o = some (much * mi_ sd st 1 / al_ sd 1 + (if (pnn (fun s => mi_ sd s 1) much st (al_ sd 1) (sd 2 - s).toNat r e s).2 < (pnn (fun s => mi_ sd s 1) much st (al_ sd 1) (sd 2 - s).toNat r e s).1 then 1 else 0), h)) (fun r e s h2 => (5 - s).toNat) ?_ fu_ much 0 0 h (fu_gt (by omega)) rfl (by omega) (by omega) (by omega) (by omega)
          · rw [Int.sub_zero] at L; exact L
          intro kf r e s h2 ih eh s0 s1 hr he
          subst eh
          unfold F_B_pence_68
          rw [gf_pos T.1.1, T.2.1.1, Option.bind_some, nmi (z := sd 2) (by omega) (by omega), nmi (z := s) (by omega) (by omega), nmi hs.1 hs.2, nmi (z := r) (by omega) (by omega), nmi (z := e) (by omega) (by omega), nmi (z := much * mi_ sd st 1 % al_ sd 1) (by omega) (by omega)]
          by_cases d : sd 2 ≤ s
          · rw [if_pos d, show (sd 2 - s).toNat = 0 by omega, T.1.g1, Option.bind_some, T.1.a1 rs.1 (by omega), Option.bind_some, (T.2.2 st rs.1 rs.2).2.1, p_div_p (by omega) (by omega) (by omega) (by omega), Option.bind_some]
            unfold pnn
            by_cases q : r ≤ e
            · rw [if_pos q, if_neg (by simp; omega)]
            · rw [if_neg q, if_pos (by simp; omega)]
          · have sb := mul_b (m := much) (b := mi_ sd s 1) (by omega) c2 (bb s).1 (bb s).2
            have sr := mod_b (x := much * mi_ sd s 1) (a := al_ sd 1) (by omega)
            have sq := div_b (x := much * mi_ sd s 1) (a := al_ sd 1) (by omega) (by omega)
            rw [if_neg d, show (sd 2 - s).toNat = (sd 2 - (s + 1)).toNat + 1 by omega, T.1.g1, Option.bind_some, T.1.a1 s0 (by omega), Option.bind_some, (T.2.2 s s0 (by omega)).2.1, p_rem_p (by omega) (by omega) (by omega) (by omega), Option.bind_some, Option.bind_some, T.1.a1 s0 (by omega), Option.bind_some, (T.2.2 s s0 (by omega)).2.1, p_div_p (by omega) (by omega) (by omega) (by omega), Option.bind_some, Option.bind_some, nmi (z := much * mi_ sd s 1 % al_ sd 1) (by omega) (by omega)]
            by_cases q : much * mi_ sd st 1 % al_ sd 1 < much * mi_ sd s 1 % al_ sd 1
            · rw [if_pos q, pnn_y (b := fun s => mi_ sd s 1) (show much * mi_ sd st 1 % al_ sd 1 < much * mi_ sd s 1 % al_ sd 1 ∨ (much * mi_ sd s 1 % al_ sd 1 = much * mi_ sd st 1 % al_ sd 1 ∧ s < st) from Or.inl q)]
              exact ih _ _ _ _ (by omega) rfl (by omega) (by omega) (by omega) (by omega)
            · rw [if_neg q]
              by_cases q2 : much * mi_ sd s 1 % al_ sd 1 = much * mi_ sd st 1 % al_ sd 1
              · rw [if_neg (fun z => z q2)]
                by_cases q3 : st ≤ s
                · rw [if_pos q3, pnn_n (b := fun s => mi_ sd s 1) (show ¬ (much * mi_ sd st 1 % al_ sd 1 < much * mi_ sd s 1 % al_ sd 1 ∨ (much * mi_ sd s 1 % al_ sd 1 = much * mi_ sd st 1 % al_ sd 1 ∧ s < st)) by omega)]
                  exact ih _ _ _ _ (by omega) rfl (by omega) (by omega) (by omega) (by omega)
                · rw [if_neg q3, pnn_y (b := fun s => mi_ sd s 1) (show much * mi_ sd st 1 % al_ sd 1 < much * mi_ sd s 1 % al_ sd 1 ∨ (much * mi_ sd s 1 % al_ sd 1 = much * mi_ sd st 1 % al_ sd 1 ∧ s < st) from Or.inr ⟨q2, by omega⟩)]
                  exact ih _ _ _ _ (by omega) rfl (by omega) (by omega) (by omega) (by omega)
              · rw [if_pos q2, pnn_n (b := fun s => mi_ sd s 1) (show ¬ (much * mi_ sd st 1 % al_ sd 1 < much * mi_ sd s 1 % al_ sd 1 ∨ (much * mi_ sd s 1 % al_ sd 1 = much * mi_ sd st 1 % al_ sd 1 ∧ s < st)) by omega)]
                exact ih _ _ _ _ (by omega) rfl (by omega) (by omega) (by omega) (by omega)
      · rw [if_neg c2, if_neg (by omega)]
theorem m_pence {h : AH} (H : MS h) (hw : WS (sd_ h)) {much st : Int} (hm : R32 much) (hs : R32 st) : f_M_pence 46 much st h = some (pen_ (sd_ h) much st, h) := by
  have w2 : 0 ≤ sd_ h 2 ∧ sd_ h 2 ≤ 5 := hw.2.2.1
  have ab := al_b hw 1
  have bb : ∀ s, 0 ≤ mi_ (sd_ h) s 1 ∧ mi_ (sd_ h) s 1 ≤ 60 := fun s => mi_b hw.2.1 s 1
  have ma : f_M_allIn 46 1 h = some (al_ (sd_ h) 1, h) := m_allIn H hw ⟨by decide, by decide⟩
  have mm : ∀ s, R32 s → f_M_manyIn 46 s 1 h = some (mi_ (sd_ h) s 1, h) := fun s q => m_manyIn H hw q ⟨by decide, by decide⟩
  unfold f_M_pence pen_
  rw [ck_pos H.1, m_isStation H hw hs, bd_some, m_in' hm ⟨by decide, by decide⟩ ⟨by decide, by decide⟩, bd_some]
  cases c : st_ (sd_ h) st
  · rw [if_pos b01_f, if_neg (by simp)]
  · have rs := st_r c
    rw [if_neg b01_t]
    by_cases c2 : 0 ≤ much ∧ much ≤ 9999
    · rw [decide_eq_true c2, if_pos b01_t, if_pos ⟨rfl, c2⟩, ck_pos H.1, ma, bd_some, nmi (z := al_ (sd_ h) 1) (by omega) (by omega)]
      by_cases a0 : al_ (sd_ h) 1 = 0
      · rw [if_neg (fun z => z a0), if_pos a0]
      · have mb := mul_b (m := much) (b := mi_ (sd_ h) st 1) c2.1 c2.2 (bb st).1 (bb st).2
        have mr := mod_b (x := much * mi_ (sd_ h) st 1) (a := al_ (sd_ h) 1) (by omega)
        rw [if_pos a0, if_neg a0, ck_pos H.1, mm st hs, bd_some, Option.bind_some]
        have L := it_3 (F := F_M_pence_53 46 much st (al_ (sd_ h) 1) (much * mi_ (sd_ h) st 1)) (fun r e s h2 o => h = h2 → 0 ≤ s → s ≤ sd_ h 2 → (-600000 * s ≤ r ∧ r ≤ 9999) → (0 ≤ e ∧ e ≤ s) → o = some (much * mi_ (sd_ h) st 1 / al_ (sd_ h) 1 + (if (pnn (fun s => mi_ (sd_ h) s 1) much st (al_ (sd_ h) 1) (sd_ h 2 - s).toNat r e s).2 < (pnn (fun s => mi_ (sd_ h) s 1) much st (al_ (sd_ h) 1) (sd_ h 2 - s).toNat r e s).1 then 1 else 0), h)) (fun r e s h2 => (5 - s).toNat) ?_ fu_ much 0 0 h (fu_gt (by omega)) rfl (by omega) (by omega) (by omega) (by omega)
        · rw [Int.sub_zero] at L; exact L
        intro kf r e s h2 ih eh s0 s1 hr he
        subst eh
        unfold F_M_pence_53
        rw [gS H, Option.bind_some, aS H (by decide) (by decide), Option.bind_some, show h_V h 56 2 = sd_ h 2 from rfl, nmi (z := sd_ h 2) (by omega) (by omega), nmi (z := s) (by omega) (by omega), nmi hs.1 hs.2, nmi (z := r) (by omega) (by omega), nmi (z := e) (by omega) (by omega)]
        by_cases d : sd_ h 2 ≤ s
        · rw [if_pos d, show (sd_ h 2 - s).toNat = 0 by omega, p_div_p (by omega) (by omega) (by omega) (by omega), Option.bind_some]
          unfold pnn
          by_cases q : r ≤ e
          · rw [if_pos q, if_neg (by simp; omega)]
          · rw [if_neg q, if_pos (by simp; omega)]
        · have sb := mul_b (m := much) (b := mi_ (sd_ h) s 1) c2.1 c2.2 (bb s).1 (bb s).2
          have sr := mod_b (x := much * mi_ (sd_ h) s 1) (a := al_ (sd_ h) 1) (by omega)
          have sq := div_b (x := much * mi_ (sd_ h) s 1) (a := al_ (sd_ h) 1) (by omega) (by omega)
          rw [if_neg d, show (sd_ h 2 - s).toNat = (sd_ h 2 - (s + 1)).toNat + 1 by omega, ck_pos H.1, mm s ⟨by omega, by omega⟩, bd_some, Option.bind_some, p_div_p (by omega) (by omega) (by omega) (by omega), Option.bind_some, Option.bind_some, p_rem_p (x := much * mi_ (sd_ h) s 1) (by omega) (by omega) (by omega) (by omega), p_rem_p (x := much * mi_ (sd_ h) st 1) (by omega) (by omega) (by omega) (by omega)]
          simp only [Option.bind_some, Int.add_zero]
          rw [nmi (z := much * mi_ (sd_ h) s 1 % al_ (sd_ h) 1) (by omega) (by omega), nmi (z := much * mi_ (sd_ h) st 1 % al_ (sd_ h) 1) (by omega) (by omega)]
          by_cases q : much * mi_ (sd_ h) st 1 % al_ (sd_ h) 1 < much * mi_ (sd_ h) s 1 % al_ (sd_ h) 1
          · rw [if_pos q, pnn_y (b := fun s => mi_ (sd_ h) s 1) (show much * mi_ (sd_ h) st 1 % al_ (sd_ h) 1 < much * mi_ (sd_ h) s 1 % al_ (sd_ h) 1 ∨ (much * mi_ (sd_ h) s 1 % al_ (sd_ h) 1 = much * mi_ (sd_ h) st 1 % al_ (sd_ h) 1 ∧ s < st) from Or.inl q)]
            exact ih _ _ _ _ (by omega) rfl (by omega) (by omega) (by omega) (by omega)
          · rw [if_neg q]
            by_cases q2 : much * mi_ (sd_ h) s 1 % al_ (sd_ h) 1 = much * mi_ (sd_ h) st 1 % al_ (sd_ h) 1
            · rw [if_neg (fun z => z q2)]
              by_cases q3 : st ≤ s
              · rw [if_pos q3, pnn_n (b := fun s => mi_ (sd_ h) s 1) (show ¬ (much * mi_ (sd_ h) st 1 % al_ (sd_ h) 1 < much * mi_ (sd_ h) s 1 % al_ (sd_ h) 1 ∨ (much * mi_ (sd_ h) s 1 % al_ (sd_ h) 1 = much * mi_ (sd_ h) st 1 % al_ (sd_ h) 1 ∧ s < st)) by omega)]
                exact ih _ _ _ _ (by omega) rfl (by omega) (by omega) (by omega) (by omega)
              · rw [if_neg q3, pnn_y (b := fun s => mi_ (sd_ h) s 1) (show much * mi_ (sd_ h) st 1 % al_ (sd_ h) 1 < much * mi_ (sd_ h) s 1 % al_ (sd_ h) 1 ∨ (much * mi_ (sd_ h) s 1 % al_ (sd_ h) 1 = much * mi_ (sd_ h) st 1 % al_ (sd_ h) 1 ∧ s < st) from Or.inr ⟨q2, by omega⟩)]
                exact ih _ _ _ _ (by omega) rfl (by omega) (by omega) (by omega) (by omega)
            · rw [if_pos q2, pnn_n (b := fun s => mi_ (sd_ h) s 1) (show ¬ (much * mi_ (sd_ h) st 1 % al_ (sd_ h) 1 < much * mi_ (sd_ h) s 1 % al_ (sd_ h) 1 ∨ (much * mi_ (sd_ h) s 1 % al_ (sd_ h) 1 = much * mi_ (sd_ h) st 1 % al_ (sd_ h) 1 ∧ s < st)) by omega)]
              exact ih _ _ _ _ (by omega) rfl (by omega) (by omega) (by omega) (by omega)
    · rw [decide_eq_false c2, if_neg (fun z => z b01_f), if_neg (by omega)]
