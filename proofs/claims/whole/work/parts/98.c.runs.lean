/-! ===== runs ===== -/
theorem cn_m {P : Int → Bool} {a b c : Int} (h1 : a ≤ b) (h2 : b ≤ c) : cn_ P a b ≤ cn_ P a c := by
  unfold cn_
  rw [show (c - a).toNat = (b - a).toNat + (c - b).toNat by omega, ct_ad]
  have := (ct_nn P (c - b).toNat (a + ((b - a).toNat : Int))).1
  omega
theorem cn_lt {P : Int → Bool} {p q : Int} (p0 : 0 ≤ p) (hp : P p = true) (h : p < q) : cn_ P 0 p < cn_ P 0 q := by
  have r := cn_r (P := P) p0
  have m := cn_m (P := P) (a := 0) (b := p + 1) (c := q) (by omega) (by omega)
  rw [hp] at r
  simp only [b01, if_true] at r
  omega
theorem cn_ex {P : Int → Bool} {i : Int} (i0 : 0 ≤ i) : ∀ n : Nat, i < cn_ P 0 n → ∃ q, 0 ≤ q ∧ q < (n : Int) ∧ P q = true ∧ cn_ P 0 q = i
  | 0, h => by rw [cn_e (by simp)] at h; omega
  | n + 1, h => by
    have r := cn_r (P := P) (a := 0) (b := (n : Int)) (by omega)
    rw [show ((n + 1 : Nat) : Int) = (n : Int) + 1 by omega, r] at h
    by_cases c : i < cn_ P 0 n
    · obtain ⟨q, a, b, d, e⟩ := cn_ex i0 n c
      exact ⟨q, a, by omega, d, e⟩
    · cases y : P n
      · rw [y] at h; simp [b01] at h; omega
      · rw [y] at h
        simp only [b01, if_true] at h
        exact ⟨n, by omega, by omega, y, by omega⟩
/-- the one with just i ahead of it -/
def nf_ (P : Int → Bool) (i : Int) : Int := ff_ (fun p => P p && decide (cn_ P 0 p = i)) 0 60
theorem nf_sp {P : Int → Bool} {i : Int} (i0 : 0 ≤ i) (h : i < cn_ P 0 60) : (0 ≤ nf_ P i ∧ nf_ P i < 60) ∧ P (nf_ P i) = true ∧ cn_ P 0 (nf_ P i) = i := by
  obtain ⟨q, q0, q1, q2, q3⟩ := cn_ex i0 60 h
  rcases ff_sp (fun p => P p && decide (cn_ P 0 p = i)) (show (0 : Int) ≤ 60 by decide) with ⟨e, f⟩ | ⟨e1, e2, e3, e4⟩
  · have := f q q0 (by omega)
    simp [q2, q3] at this
  · have e3' : P (nf_ P i) = true ∧ cn_ P 0 (nf_ P i) = i := by simpa [nf_] using e3
    exact ⟨⟨e1, e2⟩, e3'⟩
theorem nf_u {P : Int → Bool} {i q : Int} (q0 : 0 ≤ q) (q1 : q < 60) (hq : P q = true) (e : cn_ P 0 q = i) : nf_ P i = q := by
  have h : i < cn_ P 0 60 := by rw [← e]; exact cn_lt q0 hq (by omega)
  obtain ⟨⟨a, b⟩, c, d⟩ := nf_sp (P := P) (i := i) (by rw [← e]; exact cn_nn _ _ _) h
  by_cases x : nf_ P i < q
  · have := cn_lt a c x; omega
  · by_cases y : q < nf_ P i
    · have := cn_lt q0 hq y; omega
    · omega
theorem nf_LB {P : Int → Bool} {i : Int} (i0 : 0 ≤ i) (h : i < cn_ P 0 60) : LB (fun q => P q && decide (i ≤ cn_ P 0 q)) (nf_ P i) := by
  obtain ⟨⟨a, b⟩, c, d⟩ := nf_sp i0 h
  refine ⟨a, b, by simp [c, d], fun j j0 j1 => ?_⟩
  cases y : P j
  · simp [y]
  · have := cn_lt j0 y j1
    simp; omega
theorem t_bitAt {z : Int} {P : Int → Bool} (h : BR z P) {r : Int} (r0 : 0 ≤ r) (r1 : r < cn_ P 0 60) (hh : AH) : f_T_bitAt z r hh = some (nf_ P r, hh) := by
  have r2 := cn_le (P := P) (show (0 : Int) ≤ 60 by decide)
  refine it_2 (F := F_T_bitAt_5 r) (fun x i h2 o => hh = h2 → 0 ≤ i → i ≤ r → BR x (fun q => P q && decide (i ≤ cn_ P 0 q)) → o = some (nf_ P r, hh)) (fun _ i _ => (r - i).toNat) ?_ fu_ z 0 hh (fu_gt (by omega)) rfl (by decide) r0 (h.congr fun i i0 i1 => by have := cn_nn P 0 i; simp [this])
  intro kf x i h2 ih eh i0 i1 hx
  subst eh
  unfold F_T_bitAt_5
  rw [nmi (z := r) (by omega) (by omega), nmi (z := i) (by omega) (by omega)]
  by_cases d : r ≤ i
  · have : i = r := by omega
    subst this
    rw [if_pos d, c_nt hx (nf_LB i0 r1), bd_some]
  · rw [if_neg d, Option.bind_some]
    have lb := nf_LB (P := P) i0 (show i < cn_ P 0 60 by omega)
    have sp := nf_sp (P := P) i0 (show i < cn_ P 0 60 by omega)
    refine ih _ (i + 1) _ (by omega) rfl (by omega) (by omega) ((br_pred hx lb).congr fun q q0 q1 => ?_)
    cases y : P q
    · simp
    · by_cases e : q = nf_ P i
      · rw [e]; simp [sp.2.2]; omega
      · have : cn_ P 0 q ≠ i := fun w => e (nf_u q0 q1 y w).symm
        simp [e]
        constructor <;> intro <;> omega
/-- the last of a run -/
def lru_ (sd : Int → Int) (s p : Int) : Bool := in_ sd p s 0 && !in_ sd (p + 1) s 0
theorem TV.lrun {sd : Int → Int} {t s : Int} {h : AH} (w1 : sd 1 ≤ 60) (H : TV sd t h s) : BR (l_and (h_V h (t + 1) s) (l_xor (l_ushr (h_V h (t + 1) s) 1) (-1))) (lru_ sd s) := by
  refine br_mk (rl_i _) fun i hi => ?_
  rw [tb_and, tb_xor, tb_ushr _ (by decide) (by decide), tb_n1, H.1.2, H.1.2, show (1 : Int).toNat = 1 from rfl]
  have e : ((1 + i : Nat) : Int) = (i : Int) + 1 := by omega
  rw [e]
  unfold lru_
  by_cases c : i < 60
  · by_cases d : 1 + i < 60
    · simp [c, d, hi]
    · have : in_ sd ((i : Int) + 1) s 0 = false := in_hi (by omega)
      simp [c, d, hi, this]
  · simp [c]
theorem in_n1 {sd : Int → Int} {s w : Int} : in_ sd (0 - 1) s w = false := by unfold in_ pa_; rw [decide_eq_false (by omega)]; rfl
theorem fl_e (sd : Int → Int) (s : Int) : ∀ n : Nat, cn_ (fru_ sd s) 0 ((n : Int) + 1) - cn_ (lru_ sd s) 0 n = b01 (in_ sd n s 0)
  | 0 => by
    have a := cn_r (P := fru_ sd s) (a := 0) (b := 0) (by decide)
    rw [cn_e (Int.le_refl 0)] at a
    rw [show ((0 : Nat) : Int) = 0 from rfl, a, cn_e (Int.le_refl 0)]
    unfold fru_
    rw [in_n1]; simp
  | n + 1 => by
    have i := fl_e sd s n
    have a := cn_r (P := fru_ sd s) (a := 0) (b := (n : Int) + 1) (by omega)
    have b := cn_r (P := lru_ sd s) (a := 0) (b := (n : Int)) (by omega)
    rw [show ((n + 1 : Nat) : Int) = (n : Int) + 1 by omega, a, b]
    have fa : fru_ sd s ((n : Int) + 1) = (in_ sd ((n : Int) + 1) s 0 && !in_ sd n s 0) := by unfold fru_; rw [show (n : Int) + 1 - 1 = n by omega]
    have la : lru_ sd s (n : Int) = (in_ sd n s 0 && !in_ sd ((n : Int) + 1) s 0) := rfl
    rw [fa, la]
    generalize cn_ (fru_ sd s) 0 ((n : Int) + 1) = x at *
    generalize cn_ (lru_ sd s) 0 (n : Int) = y at *
    clear fa la a b
    generalize in_ sd n s 0 = u at *
    generalize in_ sd ((n : Int) + 1) s 0 = v at *
    cases u <;> cases v <;> simp [b01] at i ⊢ <;> omega
theorem fl_i (sd : Int → Int) (s : Int) {x : Int} (x0 : 0 ≤ x) : cn_ (fru_ sd s) 0 (x + 1) - cn_ (lru_ sd s) 0 x = b01 (in_ sd x s 0) := by
  have := fl_e sd s x.toNat
  rwa [Int.toNat_of_nonneg x0] at this
theorem lru_n {sd : Int → Int} (w1 : 0 ≤ sd 1 ∧ sd 1 ≤ 60) (s : Int) : cn_ (lru_ sd s) 0 60 = ru_ sd s := by
  have a := fl_i sd s (x := 60) (by decide)
  rw [in_hi w1.2] at a
  have b := cn_r (P := fru_ sd s) (a := 0) (b := 60) (by decide)
  have c : fru_ sd s 60 = false := by unfold fru_; rw [in_hi w1.2]; rfl
  rw [c] at b
  rw [ru_60 w1] at b
  simp only [b01] at a b
  simp at a b
  omega
def run_ (sd : Int → Int) (s r w : Int) : Int := if st_ sd s = true then (if r = -1 then ru_ sd s else if (0 ≤ r ∧ r < ru_ sd s) ∧ 0 ≤ w ∧ w ≤ 1 then (if w = 0 then nf_ (fru_ sd s) r else nf_ (lru_ sd s) r) else -2) else -2
theorem c_runs {sd : Int → Int} {h : AH} (K : BP h) (T : TR sd 12 h) (hw : WS sd) {s r w : Int} (hs : R32 s) (hr : R32 r) (hq : R32 w) : f_B_runs 1 s r w h = some (run_ sd s r w, h) := by
  have w2 := hw.2.2.1
  have w1 := hw.2.1
  have rb := ru_b w1 s
  unfold f_B_runs run_ f_B_runs_98
  rw [ck_pos K.k1, b_isStation K T.2.1.1 w2 hs, bd_some, nmi hr.1 hr.2, nmi hq.1 hq.2, nmn1, nm1]
  cases c : st_ sd s
  · rw [if_neg (fun z => z b01_f), if_neg (by simp)]
  · have rs := st_r c
    have V := T.2.2 s rs.1 rs.2
    rw [if_pos b01_t, if_pos rfl, K.g1_5, Option.bind_some, K.g10_0, Option.bind_some, K.g11_0, Option.bind_some, T.1.g0, Option.bind_some, T.1.a0 rs.1 (by omega), Option.bind_some, Option.bind_some, V.run.bc, bd_some, ru_60 w1, nmi (z := ru_ sd s) (by omega) (by omega)]
    by_cases c1 : r = -1
    · rw [if_neg (fun z => z c1), if_pos c1]
    · rw [if_pos c1, if_neg c1]
      by_cases c2 : r < 0
      · rw [if_pos c2, if_neg (by omega)]
      · rw [if_neg c2]
        by_cases c3 : ru_ sd s ≤ r
        · rw [if_pos c3, if_neg (by omega)]
        · rw [if_neg c3]
          by_cases c4 : w < 0
          · rw [if_pos c4, if_neg (by omega)]
          · rw [if_neg c4]
            by_cases c5 : w ≤ 1
            · have g : (0 ≤ r ∧ r < ru_ sd s) ∧ 0 ≤ w ∧ w ≤ 1 := by omega
              rw [if_pos c5, if_pos g, t_bitAt (V.lrun w1.2) (r := r) (by omega) (by rw [lru_n w1]; omega), bd_some, t_bitAt V.run (r := r) (by omega) (by rw [ru_60 w1]; omega), bd_some]
              by_cases w0 : w = 0
              · rw [if_neg (fun z => z w0), if_pos w0]
              · rw [if_pos w0, if_neg w0]
            · rw [if_neg c5, if_neg (by omega)]
theorem fru_hi {sd : Int → Int} {s p : Int} (h : sd 1 ≤ p) : fru_ sd s p = false := by unfold fru_; rw [in_hi h]; rfl
theorem m_runs {h : AH} (H : MS h) (hw : WS (sd_ h)) {s r w : Int} (hs : R32 s) (hr : R32 r) (hq : R32 w) : f_M_runs 46 s r w h = some (run_ (sd_ h) s r w, h) := by
  have w1 : 0 ≤ sd_ h 1 ∧ sd_ h 1 ≤ 60 := hw.2.1
  have rb := ru_b w1 s
  have mr : f_M_runsOf 46 s h = some (ru_ (sd_ h) s, h) := m_runsOf H hw hs
  unfold f_M_runs run_
  rw [ck_pos H.1, m_isStation H hw hs, bd_some, nmn1, nmi hr.1 hr.2, m_in' hq ⟨by decide, by decide⟩ ⟨by decide, by decide⟩, bd_some]
  cases c : st_ (sd_ h) s
  · rw [if_pos b01_f, if_neg (by simp)]
  · rw [if_neg b01_t, if_pos rfl]
    by_cases c1 : -1 ≤ r
    · rw [if_pos c1]
      by_cases c2 : r = -1
      · rw [if_neg (fun z => z c2), if_pos c2, ck_pos H.1, mr, bd_some]
      · rw [if_pos c2, if_neg c2]
        by_cases d : 0 ≤ w ∧ w ≤ 1
        · rw [decide_eq_true d, if_pos b01_t]
          refine it_2 (F := F_M_runs_46 46 s r w) (fun n p h2 o => h = h2 → 0 ≤ p → p ≤ sd_ h 1 → n = cn_ (fru_ (sd_ h) s) 0 p - 1 → (r < cn_ (fru_ (sd_ h) s) 0 60 → p ≤ nf_ (fru_ (sd_ h) s) r) → o = some (if (0 ≤ r ∧ r < ru_ (sd_ h) s) ∧ 0 ≤ w ∧ w ≤ 1 then (if w = 0 then nf_ (fru_ (sd_ h) s) r else nf_ (lru_ (sd_ h) s) r) else -2, h)) (fun _ p _ => (60 - p).toNat) ?_ fu_ (-1) 0 h (fu_gt (by decide)) rfl (by decide) w1.1 (by rw [cn_e (Int.le_refl 0)]; rfl) (fun z => (nf_sp (by omega) z).1.1)
          intro kf n p h2 ih eh p0 p1 en hp
          subst eh
          have cb := cn_nn (fru_ (sd_ h) s) 0 p
          have cl := cn_le (P := fru_ (sd_ h) s) p0
          unfold F_M_runs_46
          rw [gS H, Option.bind_some, aS H (by decide) (by decide), Option.bind_some, show h_V h 56 1 = sd_ h 1 from rfl, nmi (z := sd_ h 1) (by omega) (by omega), nmi (z := p) (by omega) (by omega)]
          by_cases q : sd_ h 1 ≤ p
          · have e1 : p = sd_ h 1 := by omega
            have e2 : ru_ (sd_ h) s ≤ r := by
              by_cases z : r < ru_ (sd_ h) s
              · have z2 : r < cn_ (fru_ (sd_ h) s) 0 60 := by rw [ru_60 w1]; exact z
                have := hp z2
                have sp := nf_sp (P := fru_ (sd_ h) s) (show 0 ≤ r by omega) z2
                have : fru_ (sd_ h) s (nf_ (fru_ (sd_ h) s) r) = false := fru_hi (by omega)
                rw [this] at sp; simp at sp
              · omega
            rw [if_pos q, if_neg (by omega)]
          · rw [if_neg q, ck_pos H.1, m_isFirstOfRun H hw p0 (by omega) hs, bd_some]
            have rc := cn_r (P := fru_ (sd_ h) s) p0
            have fin : ∀ x, x = b01 (fru_ (sd_ h) s p) → f_M_runs_74 kf 46 s r w p n x h = some (if (0 ≤ r ∧ r < ru_ (sd_ h) s) ∧ 0 ≤ w ∧ w ≤ 1 then (if w = 0 then nf_ (fru_ (sd_ h) s) r else nf_ (lru_ (sd_ h) s) r) else -2, h) := by
              intro x ex
              have br := b01_r (fru_ (sd_ h) s p)
              have ev : n + x = cn_ (fru_ (sd_ h) s) 0 (p + 1) - 1 := by omega
              unfold f_M_runs_74
              rw [Option.bind_some, nmi (z := n + x) (by omega) (by omega), nmi hr.1 hr.2]
              have go : (cn_ (fru_ (sd_ h) s) 0 (p + 1) - 1 < r ∨ in_ (sd_ h) p s 0 = false) → kf (n + x) (p + 1) h = some (if (0 ≤ r ∧ r < ru_ (sd_ h) s) ∧ 0 ≤ w ∧ w ≤ 1 then (if w = 0 then nf_ (fru_ (sd_ h) s) r else nf_ (lru_ (sd_ h) s) r) else -2, h) := by
                intro cond
                refine ih _ (p + 1) h (by omega) rfl (by omega) (by omega) ev fun z => ?_
                have := hp z
                have sp := nf_sp (P := fru_ (sd_ h) s) (show 0 ≤ r by omega) z
                by_cases y : p = nf_ (fru_ (sd_ h) s) r
                · rw [← y] at sp
                  rcases cond with cc | cc
                  · rw [rc, sp.2.1] at cc
                    simp only [b01, if_true] at cc; omega
                  · unfold fru_ at sp; rw [cc] at sp; simp at sp
                · omega
              by_cases y : n + x < r
              · rw [if_pos y]; exact go (Or.inl (by omega))
              · rw [if_neg y, ck_pos H.1, m_isIn H hw ⟨by omega, by omega⟩ hs ⟨by decide, by decide⟩, bd_some]
                cases iv : in_ (sd_ h) p s 0
                · rw [if_neg (fun z => z b01_f)]; exact go (Or.inr iv)
                · rw [if_pos b01_t]
                  have c60 := cn_m (P := fru_ (sd_ h) s) (a := 0) (b := p + 1) (c := 60) (by omega) (by omega)
                  have z : r < cn_ (fru_ (sd_ h) s) 0 60 := by omega
                  have sp := nf_sp (P := fru_ (sd_ h) s) (show 0 ≤ r by omega) z
                  have pe : nf_ (fru_ (sd_ h) s) r = p := by
                    have l1 := hp z
                    by_cases l2 : p < nf_ (fru_ (sd_ h) s) r
                    · have := cn_m (P := fru_ (sd_ h) s) (a := 0) (b := p + 1) (c := nf_ (fru_ (sd_ h) s) r) (by omega) (by omega)
                      omega
                    · omega
                  have ce : cn_ (fru_ (sd_ h) s) 0 (p + 1) = r + 1 := by
                    rw [pe] at sp
                    rw [rc, sp.2.1, sp.2.2]; rfl
                  rw [ru_60 w1] at z
                  have g : (0 ≤ r ∧ r < ru_ (sd_ h) s) ∧ 0 ≤ w ∧ w ≤ 1 := by omega
                  rw [if_pos g]
                  refine it_1 (F := F_M_runs_101 46 s w p) (fun l h2 o => h = h2 → p ≤ l → l < sd_ h 1 → in_ (sd_ h) l s 0 = true → cn_ (fru_ (sd_ h) s) 0 (l + 1) = r + 1 → o = some (if w = 0 then nf_ (fru_ (sd_ h) s) r else nf_ (lru_ (sd_ h) s) r, h)) (fun l _ => (60 - l).toNat) ?_ fu_ p h (fu_gt (by omega)) rfl (by omega) (by omega) iv ce
                  intro kg l h2 ih2 eh l0 l1 li lc
                  subst eh
                  unfold F_M_runs_101
                  rw [ck_pos H.1, m_isIn H hw ⟨by omega, by omega⟩ hs ⟨by decide, by decide⟩, bd_some, nmi hq.1 hq.2]
                  cases ln : in_ (sd_ h) (l + 1) s 0
                  · have le : nf_ (lru_ (sd_ h) s) r = l := by
                      refine nf_u (by omega) (by omega) (by unfold lru_; rw [li, ln]; rfl) ?_
                      have := fl_i (sd_ h) s (x := l) (by omega)
                      rw [li, lc] at this
                      simp only [b01, if_true] at this; omega
                    rw [if_pos b01_f, pe, le]
                    by_cases w0 : w = 0
                    · rw [if_neg (fun z => z w0), if_pos w0]
                    · rw [if_pos w0, if_neg w0]
                  · have l2 : l + 1 < sd_ h 1 := by
                      by_cases u : l + 1 < sd_ h 1
                      · exact u
                      · rw [in_hi (by omega)] at ln; simp at ln
                    rw [if_neg b01_t]
                    refine ih2 (l + 1) h (by omega) rfl (by omega) l2 ln ?_
                    have rc2 := cn_r (P := fru_ (sd_ h) s) (a := 0) (b := l + 1) (by omega)
                    have f0 : fru_ (sd_ h) s (l + 1) = false := by unfold fru_; rw [ln, show l + 1 - 1 = l by omega, li]; rfl
                    rw [rc2, f0, lc]; simp [b01]
            cases fv : fru_ (sd_ h) s p
            · rw [if_pos b01_f]; exact fin 0 (by rw [fv]; rfl)
            · rw [if_neg b01_t]; exact fin 1 (by rw [fv]; rfl)
        · rw [decide_eq_false d, if_neg (fun z => z b01_f), if_neg (by omega)]
    · rw [if_neg c1, if_neg (by omega), if_neg (by omega)]
