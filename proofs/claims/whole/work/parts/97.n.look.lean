/-! ===== look ===== -/
def hC (h : AH) (sa sp da dp n : Int) : AH := (h.1, h.2.1, h.2.2.1, fun b j => if b = da ∧ dp ≤ j ∧ j < dp + n then h_V h sa (sp + (j - dp)) else h_V h b j)
theorem hV_C (h : AH) (sa sp da dp n b j : Int) : h_V (hC h sa sp da dp n) b j = if b = da ∧ dp ≤ j ∧ j < dp + n then h_V h sa (sp + (j - dp)) else h_V h b j := rfl
theorem ac_pos {h : AH} {t sa sp da dp n M N : Int} (e1 : h_T h sa = t) (e2 : h_T h da = t) (n1 : h_N h sa = M) (n2 : h_N h da = N) (hM : M ≤ 2147483647) (hN : N ≤ 2147483647) (s0 : 0 ≤ sp) (d0 : 0 ≤ dp) (n0 : 0 ≤ n) (b1 : sp + n ≤ M) (b2 : dp + n ≤ N) : a_c h t sa sp da dp n = some (hC h sa sp da dp n) := by
  have x : nm sp = sp := nmi (by omega) (by omega)
  have y : nm dp = dp := nmi (by omega) (by omega)
  have z : nm n = n := nmi (by omega) (by omega)
  unfold a_c hC
  rw [x, y, z, if_pos ⟨e1, e2, s0, d0, n0, by omega, by omega⟩]
theorem hC_ag {X : Int → Int → Prop} {h h' : AH} (g : Ag X h h') {sa sp da dp n : Int} (hx : ∀ i, dp ≤ i → i < dp + n → X da i) : Ag X h (hC h' sa sp da dp n) := by
  refine g.tr ⟨rfl, fun _ => rfl, fun _ => rfl, fun a i z => ?_⟩
  rw [hV_C, if_neg]
  rintro ⟨rfl, a1, a2⟩
  exact z (hx i a1 a2)
/-- a greatest of numbers -/
def mxa (g : Int → Int) : Nat → Int → Int → Int
  | 0, m, _ => m
  | k + 1, m, a => mxa g k (if m < g a then g a else m) (a + 1)
theorem mxa_sp (g : Int → Int) : ∀ (k : Nat) (m a : Int), m ≤ mxa g k m a ∧ (∀ i, a ≤ i → i < a + k → g i ≤ mxa g k m a) ∧ (mxa g k m a = m ∨ ∃ i, a ≤ i ∧ i < a + k ∧ mxa g k m a = g i)
  | 0, m, a => ⟨Int.le_refl _, fun i i0 i1 => by omega, Or.inl rfl⟩
  | k + 1, m, a => by
    obtain ⟨h1, h2, h3⟩ := mxa_sp g k (if m < g a then g a else m) (a + 1)
    show m ≤ mxa g k _ _ ∧ (∀ i, a ≤ i → i < a + ((k + 1 : Nat) : Int) → g i ≤ mxa g k _ _) ∧ (mxa g k _ _ = m ∨ ∃ i, a ≤ i ∧ i < a + ((k + 1 : Nat) : Int) ∧ mxa g k _ _ = g i)
    refine ⟨?_, fun i i0 i1 => ?_, ?_⟩
    · by_cases c : m < g a
      · rw [if_pos c] at h1 ⊢; omega
      · rw [if_neg c] at h1 ⊢; omega
    · by_cases e : i = a
      · rw [e]
        by_cases c : m < g a
        · rw [if_pos c] at h1 ⊢; exact h1
        · rw [if_neg c] at h1 ⊢; omega
      · exact h2 i (by omega) (by omega)
    · rcases h3 with e | ⟨i, i0, i1, e⟩
      · by_cases c : m < g a
        · right; rw [if_pos c] at e ⊢; exact ⟨a, by omega, by omega, e⟩
        · left; rw [if_neg c] at e ⊢; exact e
      · exact Or.inr ⟨i, by omega, by omega, e⟩
theorem cn_p {P : Int → Bool} {a b : Int} (h : 0 < cn_ P a b) : ∃ i, a ≤ i ∧ i < b ∧ P i = true := by
  have : ∀ (n : Nat) (a : Int), 0 < ct_ P a n → ∃ i, a ≤ i ∧ i < a + n ∧ P i = true := by
    intro n
    induction n with
    | zero => intro a h; unfold ct_ at h; omega
    | succ n ih =>
      intro a h
      rw [ct_u] at h
      by_cases c : P a = true
      · exact ⟨a, by omega, by omega, c⟩
      · rw [if_neg c] at h
        obtain ⟨i, i0, i1, i2⟩ := ih (a + 1) (by omega)
        exact ⟨i, by omega, by omega, i2⟩
  obtain ⟨i, i0, i1, i2⟩ := this _ _ h
  exact ⟨i, i0, by omega, i2⟩
theorem cn_q {P : Int → Bool} {a b i : Int} (a0 : 0 ≤ a) (i0 : a ≤ i) (i1 : i < b) (p : P i = true) : 0 < cn_ P a b := by
  have x := cn_nn P a b
  by_cases c : cn_ P a b = 0
  · have := (cn_ff a0 (show a ≤ b by omega)).mp c
    rcases ff_sp P (show a ≤ b by omega) with ⟨e, f⟩ | ⟨e, f⟩
    · rw [f i i0 i1] at p; simp at p
    · omega
  · omega
/-- the most alike at a station -/
def lkg (P : Int → Bool) (v : Int → Int) (m a : Int) : Int := if P a = true then cn_ (fun b => P b && decide (v a = v b)) 0 m else 0
def lka (P : Int → Bool) (v : Int → Int) (m : Int) : Int := mxa (lkg P v m) m.toNat 0 0
/-- told apart by rows that hold the fitting ones alone -/
theorem lka_rows {P : Int → Bool} {v : Int → Int} {m : Int} (m0 : 0 ≤ m) {b : Int → Int} {k : Int} (k0 : 0 ≤ k) (hb : ∀ x, cn_ (fun j => decide (x = b j)) 0 k = cn_ (fun j => P j && decide (x = v j)) 0 m) : mxa (fun i => cn_ (fun j => decide (b i = b j)) 0 k) k.toNat 0 0 = lka P v m := by
  obtain ⟨p1, p2, p3⟩ := mxa_sp (fun i => cn_ (fun j => decide (b i = b j)) 0 k) k.toNat 0 0
  obtain ⟨q1, q2, q3⟩ := mxa_sp (lkg P v m) m.toNat 0 0
  unfold lka
  generalize hM : mxa (fun i => cn_ (fun j => decide (b i = b j)) 0 k) k.toNat 0 0 = M at *
  generalize hN : mxa (lkg P v m) m.toNat 0 0 = N at *
  have le1 : M ≤ N := by
    rcases p3 with e | ⟨i, i0, i1, e⟩
    · omega
    · have c1 : 0 < cn_ (fun j => decide (b i = b j)) 0 k := cn_q (by decide) i0 (by omega) (by simp)
      have c2 := c1
      rw [hb] at c2
      obtain ⟨a, a0, a1, a2⟩ := cn_p c2
      have a2' : P a = true ∧ b i = v a := by simpa using a2
      have := q2 a a0 (by omega)
      unfold lkg at this
      rw [if_pos a2'.1, ← a2'.2, ← hb] at this
      rw [e]; exact this
  have le2 : N ≤ M := by
    rcases q3 with e | ⟨a, a0, a1, e⟩
    · omega
    · by_cases pa : P a = true
      · have c2 : 0 < cn_ (fun j => P j && decide (v a = v j)) 0 m := cn_q (by decide) a0 (by omega) (by simp [pa])
        have c1 := c2
        rw [← hb] at c1
        obtain ⟨i, i0, i1, i2⟩ := cn_p c1
        have i2' : v a = b i := by simpa using i2
        have := p2 i i0 (by omega)
        rw [← i2', hb] at this
        rw [e]; unfold lkg; rw [if_pos pa]; exact this
      · rw [e]; unfold lkg; rw [if_neg pa]; exact p1
  omega
theorem lka_0 {P : Int → Bool} {v : Int → Int} {m : Int} (m0 : 0 ≤ m) (h : cn_ P 0 m = 0) : lka P v m = 0 := by
  obtain ⟨q1, q2, q3⟩ := mxa_sp (lkg P v m) m.toNat 0 0
  unfold lka
  rcases q3 with e | ⟨a, a0, a1, e⟩
  · exact e
  · rw [e]
    unfold lkg
    by_cases pa : P a = true
    · have := cn_q (a := 0) (b := m) (by decide) a0 (by omega) pa; omega
    · rw [if_neg pa]
theorem lka_1 {P : Int → Bool} {v : Int → Int} {m : Int} (m0 : 0 ≤ m) (h : cn_ P 0 m ≠ 0) : 1 ≤ lka P v m := by
  obtain ⟨q1, q2, q3⟩ := mxa_sp (lkg P v m) m.toNat 0 0
  have := cn_nn P 0 m
  obtain ⟨a, a0, a1, pa⟩ := cn_p (show 0 < cn_ P 0 m by omega)
  have x := q2 a a0 (by omega)
  unfold lka
  unfold lkg at x
  rw [if_pos pa] at x
  have := cn_q (P := fun b => P b && decide (v a = v b)) (a := 0) (b := m) (by decide) a0 a1 (by simp [pa])
  unfold lkg
  omega
theorem cn_mono {P Q : Int → Bool} : ∀ (n : Nat) (a : Int), (∀ i, P i = true → Q i = true) → ct_ P a n ≤ ct_ Q a n
  | 0, _, _ => Int.le_refl _
  | n + 1, a, h => by
    have i := cn_mono n (a + 1) h
    rw [ct_u, ct_u]
    by_cases c : P a = true
    · rw [if_pos c, if_pos (h a c)]; omega
    · rw [if_neg c]; split <;> omega
theorem lka_le {P : Int → Bool} {v : Int → Int} {m : Int} : lka P v m ≤ cn_ P 0 m := by
  obtain ⟨q1, q2, q3⟩ := mxa_sp (lkg P v m) m.toNat 0 0
  have := cn_nn P 0 m
  unfold lka
  rcases q3 with e | ⟨a, a0, a1, e⟩
  · omega
  · rw [e]
    unfold lkg
    split
    · exact cn_mono _ _ fun i hi => by simp at hi; exact hi.1
    · exact this
def lkn (A : Int → Int) : Nat → Int → Int → Int → Int × Int
  | 0, b, m, _ => (b, m)
  | k + 1, b, m, s => if A s = 0 ∨ (0 ≤ b ∧ m ≤ A s) then lkn A k b m (s + 1) else lkn A k s (A s) (s + 1)
theorem lkn_n {A : Int → Int} {k : Nat} {b m s : Int} (h : A s = 0 ∨ (0 ≤ b ∧ m ≤ A s)) : lkn A (k + 1) b m s = lkn A k b m (s + 1) := if_pos h
theorem lkn_y {A : Int → Int} {k : Nat} {b m s : Int} (h : ¬ (A s = 0 ∨ (0 ≤ b ∧ m ≤ A s))) : lkn A (k + 1) b m s = lkn A k s (A s) (s + 1) := if_neg h
def lkA (R : Int → (Int → Int) → Int) (rn : Int) (sd : Int → Int) (n s : Int) : Int := lka (rP R sd) (fun r => bx_ R sd n r s) (rn + 1)
def lok_ (R : Int → (Int → Int) → Int) (rn : Int) (sd : Int → Int) (n w : Int) : Int := if sd 0 = 1 ∧ (0 ≤ n ∧ n ≤ 60) ∧ (0 ≤ w ∧ w ≤ 1) then (if w = 0 then (lkn (lkA R rn sd n) (sd 2).toNat (-2) (-2) 0).1 else (lkn (lkA R rn sd n) (sd 2).toNat (-2) (-2) 0).2) else -1
theorem bx_b {R : Int → (Int → Int) → Int} {sd : Int → Int} (hw : WS sd) (he : WE sd) (n r s : Int) : 0 ≤ bx_ R sd n r s ∧ bx_ R sd n r s ≤ 60 := mi_b (pn_WB (bg_WB hw he) _).1.2.1 s 1
theorem m_alikeAt {h : AH} (H : MS h) {rn : Int} (rb : 0 ≤ rn ∧ rn ≤ 6) (er : h_V h 46 2 = rn) {P : Int → Bool} {v : Int → Int} {s : Int} (s0 : 0 ≤ s) (s1 : s < 5) (vb : ∀ r, 0 ≤ v r ∧ v r ≤ 60) (f1 : ∀ r, 0 ≤ r → r ≤ rn → h_V h 63 r = b01 (P r)) (x1 : ∀ r, 0 ≤ r → r ≤ rn → h_V h 64 (5 * r + s) = v r) : f_M_alikeAt 46 s h = some (lka P v (rn + 1), h) := by
  have L := it_2 (F := F_M_alikeAt_4 46 s) (fun m a h2 o => h = h2 → 0 ≤ a → a ≤ rn + 1 → (0 ≤ m ∧ m ≤ 7) → o = some (mxa (lkg P v (rn + 1)) (rn + 1 - a).toNat m a, h)) (fun _ a _ => (rn + 1 - a).toNat) ?_ fu_ 0 0 h (fu_gt (by omega)) rfl (by omega) (by omega) (by omega)
  · rw [Int.sub_zero] at L; exact L
  intro kf m a h2 ih eh a0 a1 hm
  subst eh
  unfold F_M_alikeAt_4
  rw [gf_pos H.1, er, Option.bind_some, nmi (z := rn) (by omega) (by omega), nmi (z := a) (by omega) (by omega)]
  by_cases d : rn < a
  · rw [if_pos d, show (rn + 1 - a).toNat = 0 by omega]; rfl
  · rw [if_neg d, show (rn + 1 - a).toNat = (rn + 1 - (a + 1)).toNat + 1 by omega]
    have gb : 0 ≤ lkg P v (rn + 1) a ∧ lkg P v (rn + 1) a ≤ rn + 1 := by
      unfold lkg
      have x := cn_nn (fun b => P b && decide (v a = v b)) 0 (rn + 1)
      have y := cn_le (P := fun b => P b && decide (v a = v b)) (show (0 : Int) ≤ rn + 1 by omega)
      split <;> omega
    have fin : f_M_alikeAt_86 kf 46 s m a (lkg P v (rn + 1) a) h = some (mxa (lkg P v (rn + 1)) ((rn + 1 - (a + 1)).toNat + 1) m a, h) := by
      unfold f_M_alikeAt_86
      rw [nmi (z := m) (by omega) (by omega), nmi (z := lkg P v (rn + 1) a) (by omega) (by omega)]
      show _ = some (mxa (lkg P v (rn + 1)) (rn + 1 - (a + 1)).toNat (if m < lkg P v (rn + 1) a then lkg P v (rn + 1) a else m) (a + 1), h)
      by_cases c : lkg P v (rn + 1) a ≤ m
      · rw [if_pos c, if_neg (by omega)]
        exact ih _ _ _ (by omega) rfl (by omega) (by omega) hm
      · rw [if_neg c, if_pos (by omega)]
        exact ih _ _ _ (by omega) rfl (by omega) (by omega) (by omega)
    refine it_2 (F := F_M_alikeAt_18 kf 46 s m a) (fun c b h2 o => h = h2 → 0 ≤ b → b ≤ rn + 1 → (0 ≤ c ∧ c ≤ b) → c + (if P a = true then cn_ (fun b => P b && decide (v a = v b)) b (rn + 1) else 0) = lkg P v (rn + 1) a → o = some (mxa (lkg P v (rn + 1)) ((rn + 1 - (a + 1)).toNat + 1) m a, h)) (fun _ b _ => (rn + 1 - b).toNat) ?_ fu_ 0 0 h (fu_gt (by omega)) rfl (by omega) (by omega) (by omega) (by unfold lkg; omega)
    intro kg c b h2 ih2 eh b0 b1 hc ec
    subst eh
    unfold F_M_alikeAt_18
    rw [gf_pos H.1, er, Option.bind_some, nmi (z := rn) (by omega) (by omega), nmi (z := b) (by omega) (by omega)]
    by_cases d2 : rn < b
    · rw [if_pos d2]
      have : c = lkg P v (rn + 1) a := by rw [← ec, cn_e (by omega)]; simp
      rw [this]; exact fin
    · rw [if_neg d2, gF H, Option.bind_some, aF H a0 (by omega), Option.bind_some, f1 a a0 (by omega)]
      cases pa : P a
      · rw [if_pos b01_f]
        rw [pa, if_neg (by decide)] at ec
        rw [show c = lkg P v (rn + 1) a by omega]; exact fin
      · rw [if_neg b01_t, Option.bind_some, aF H b0 (by omega), Option.bind_some, f1 b b0 (by omega)]
        rw [pa, if_pos rfl, cn_s (a := b) (by omega)] at ec
        have next : ∀ c', c' = c + (if (P b && decide (v a = v b)) = true then 1 else 0) → kg c' (b + 1) h = some (mxa (lkg P v (rn + 1)) ((rn + 1 - (a + 1)).toNat + 1) m a, h) := by
          intro c' e'
          refine ih2 c' (b + 1) h (by omega) rfl (by omega) (by omega) (by split at e' <;> omega) ?_
          rw [if_pos pa]; omega
        cases pb : P b
        · rw [if_pos b01_f, Option.bind_some]
          exact next _ (by rw [pb]; simp)
        · have va := vb a
          have vbb := vb b
          rw [if_neg b01_t, gX H, Option.bind_some, aX H (by omega) (by omega), Option.bind_some, Option.bind_some, aX H (by omega) (by omega), Option.bind_some, x1 a a0 (by omega), x1 b b0 (by omega), nmi (z := v a) (by omega) (by omega), nmi (z := v b) (by omega) (by omega)]
          by_cases q : v a = v b
          · rw [if_neg (fun z => z q), Option.bind_some]
            exact next _ (by rw [pb, q]; simp)
          · rw [if_pos q, Option.bind_some]
            exact next _ (by rw [pb]; simp [q])
theorem m_look {h : AH} (H : MS h) (hw : WS (sd_ h)) (he : WE (sd_ h)) (hn : WN (sd_ h)) {rn : Int} {R : Int → (Int → Int) → Int} (hU : MU h rn R) {n w : Int} (hm : R32 n) (hq : R32 w) : ∃ h', f_M_look 46 n w h = some (lok_ R rn (sd_ h) n w, h') ∧ sd_ h' = sd_ h ∧ Ag XM h h' := by
  have rb := hU.2.1
  have w2 : 0 ≤ sd_ h 2 ∧ sd_ h 2 ≤ 5 := hw.2.2.1
  unfold f_M_look lok_
  rw [ck_pos H.1, m_isElection H hw, bd_some, m_in' hm ⟨by decide, by decide⟩ ⟨by decide, by decide⟩, bd_some, m_in' hq ⟨by decide, by decide⟩ ⟨by decide, by decide⟩, bd_some]
  by_cases c0 : sd_ h 0 = 1
  · rw [if_pos c0, if_neg (by decide +kernel)]
    by_cases c1 : 0 ≤ n ∧ n ≤ 60
    · rw [decide_eq_true c1, if_neg b01_t]
      by_cases c2 : 0 ≤ w ∧ w ≤ 1
      · rw [decide_eq_true c2, if_pos b01_t, if_pos ⟨c0, c1, c2⟩, ck_pos H.1]
        obtain ⟨h1, e1, s1, f1, x1, g1⟩ := m_fillsFits H hw he hn hU (t := n) c1.1 c1.2
        have M1 := H.ag g1 fun a i z => XN_np a i (Or.inr z)
        have U1 : h_V h1 46 2 = rn := by rw [g1.2.2.2 _ _ (by unfold XM; omega)]; exact hU.1
        rw [e1, bd_some]
        have L := it_3 (F := F_M_look_46 46 w) (fun b m s h2 o => h1 = h2 → 0 ≤ s → s ≤ sd_ h 2 → (-2 ≤ b ∧ b ≤ 5) → (-2 ≤ m ∧ m ≤ 7) → ∃ h', o = some (if w = 0 then (lkn (lkA R rn (sd_ h) n) (sd_ h 2 - s).toNat b m s).1 else (lkn (lkA R rn (sd_ h) n) (sd_ h 2 - s).toNat b m s).2, h') ∧ sd_ h' = sd_ h ∧ Ag XM h h') (fun _ _ s _ => (5 - s).toNat) ?_ fu_ (-2) (-2) 0 h1 (fu_gt (by omega)) rfl (by omega) (by omega) (by omega) (by omega)
        · rw [Int.sub_zero] at L; exact L
        intro kf b m s h2 ih eh s0 q1 hb hmm
        subst eh
        unfold F_M_look_46
        rw [gS M1, Option.bind_some, aS M1 (by decide) (by decide), Option.bind_some, show h_V h1 56 2 = sd_ h1 2 from rfl, s1, nmi (z := sd_ h 2) (by omega) (by omega), nmi (z := s) (by omega) (by omega), nmi (z := w) (by omega) (by omega), nmi (z := b) (by omega) (by omega), nmi (z := m) (by omega) (by omega)]
        by_cases d : sd_ h 2 ≤ s
        · rw [if_pos d, show (sd_ h 2 - s).toNat = 0 by omega]
          by_cases w0 : w = 0
          · rw [if_neg (fun z => z w0), if_pos w0]; exact ⟨h1, rfl, s1, g1⟩
          · rw [if_pos w0, if_neg w0]; exact ⟨h1, rfl, s1, g1⟩
        · have al := m_alikeAt M1 rb U1 (P := rP R (sd_ h)) (v := fun r => bx_ R (sd_ h) n r s) s0 (by omega) (fun r => bx_b hw he n r s) f1 (fun r r0 r1 => x1 r s r0 r1 s0 (by omega))
          have ae : lka (rP R (sd_ h)) (fun r => bx_ R (sd_ h) n r s) (rn + 1) = lkA R rn (sd_ h) n s := rfl
          rw [ae] at al
          have ab : 0 ≤ lkA R rn (sd_ h) n s ∧ lkA R rn (sd_ h) n s ≤ 7 := by
            have x := (mxa_sp (lkg (rP R (sd_ h)) (fun r => bx_ R (sd_ h) n r s) (rn + 1)) (rn + 1).toNat 0 0).1
            have y := lka_le (P := rP R (sd_ h)) (v := fun r => bx_ R (sd_ h) n r s) (m := rn + 1)
            have z := cn_le (P := rP R (sd_ h)) (show (0 : Int) ≤ rn + 1 by omega)
            unfold lkA lka at *
            omega
          rw [if_neg d, ck_pos M1.1, al, bd_some, nmi (z := lkA R rn (sd_ h) n s) (by omega) (by omega), show (sd_ h 2 - s).toNat = (sd_ h 2 - (s + 1)).toNat + 1 by omega]
          by_cases q : lkA R rn (sd_ h) n s = 0
          · rw [if_pos q, lkn_n (Or.inl q)]
            exact ih _ _ _ _ (by omega) rfl (by omega) (by omega) hb hmm
          · rw [if_neg q]
            by_cases q2 : b < 0
            · rw [if_pos q2, lkn_y (by omega)]
              exact ih _ _ _ _ (by omega) rfl (by omega) (by omega) (by omega) (by omega)
            · rw [if_neg q2]
              by_cases q3 : lkA R rn (sd_ h) n s < m
              · rw [if_pos q3, lkn_y (by omega)]
                exact ih _ _ _ _ (by omega) rfl (by omega) (by omega) (by omega) (by omega)
              · rw [if_neg q3, lkn_n (by omega)]
                exact ih _ _ _ _ (by omega) rfl (by omega) (by omega) hb hmm
      · rw [decide_eq_false c2, if_neg (fun z => z b01_f), if_neg (by omega)]; exact ⟨h, rfl, rfl, Ag.rf⟩
    · rw [decide_eq_false c1, if_pos b01_f, if_neg (by omega)]; exact ⟨h, rfl, rfl, Ag.rf⟩
  · rw [if_neg c0, if_pos (by decide +kernel), if_neg (fun z => c0 z.1)]; exact ⟨h, rfl, rfl, Ag.rf⟩
