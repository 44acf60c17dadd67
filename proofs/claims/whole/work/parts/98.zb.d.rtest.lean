/-! ===== a rule's test: what is read ===== -/
def two_ (b : Int → Int) (L q : Int) : Prop := q + 1 < L ∧ b (q + 1) = 61
def too_ (b : Int → Int) (L q : Int) : Bool := decide (q + 1 < L ∧ b (q + 1) = 61)
def cmp_ (b : Int → Int) (L q : Int) : Int := if ch b L q = 61 then 9 else if ch b L q = 60 then (if too_ b L q = true then 8 else 7) else if ch b L q = 62 then (if too_ b L q = true then 10 else 11) else -1
def cme (b : Int → Int) (L q : Int) : Int := if ch b L q ≠ 61 ∧ too_ b L q = true then q + 2 else q + 1
def pC2 (b : Int → Int) (L m p : Int) : PR := if cmp_ b L (sk b L p) = -1 then bad (1 + 8 * sk b L p + 0) m p else if 60 ≤ m then bad (1 + 8 * sk b L p + 3) m p else thn (pSum b L (m + 1) (cme b L (sk b L p))) fun m p' => emt [(cmp_ b L (sk b L p), 0)] m p'
def pC (b : Int → Int) (L m p : Int) : PR := thn (pSum b L m p) (pC2 b L)
def jw (b : Int → Int) (L q : Int) : Int := wi (wl (-6)) (pk b L q)
def wo (wt : Bool) : List CD := if wt = true then [(13, 0)] else []
def pT (b : Int → Int) (L : Int) (F : Int → Int → PR) : Nat → Bool → Int → Int → PR
  | 0, _, m, p => bad 1 m p
  | n + 1, wt, m, p =>
    if jw b L (sk b L p) = -1 then emt (wo wt) m (sk b L p)
    else if jw b L (sk b L p) = 0 then thn (emt (wo wt) m (wen b L (sk b L p))) fun m p' => thn (F m p') (pT b L F n true)
    else thn (F m (wen b L (sk b L p))) fun m p' => thn (emt [(12, 0)] m p') (pT b L F n wt)
def pF2 (b : Int → Int) (L m p : Int) : PR := if ch b L (sk b L p) = 93 then emt [] m (sk b L p + 1) else bad (1 + 8 * sk b L p + 0) m p
def pF (b : Int → Int) (L : Int) (G : Int → Int → Int → Int → PR) (d m p : Int) : PR :=
  if ch b L (sk b L p) = 91 then (if 10 ≤ d then bad (1 + 8 * sk b L p + 2) m p else thn (G 0 (d + 1) m (sk b L p + 1)) (pF2 b L))
  else if pk b L (sk b L p) = 7237492 then (if 10 ≤ d then bad (1 + 8 * sk b L p + 2) m p else thn (G 1 (d + 1) m (wen b L (sk b L p))) fun m p' => emt [(14, 0)] m p')
  else pC b L m p
def pD (b : Int → Int) (L : Int) : Nat → Int → Int → Int → Int → PR
  | 0, _, _, m, p => bad 1 m p
  | n + 1, w, d, m, p => if w = 0 then thn (pD b L n 1 d m p) (pT b L (pD b L n 1 d) 400 false) else pF b L (pD b L n) d m p
section
variable {b : Int → Int} {L m p q k : Int} {r : PR}
theorem jw_len (h : jw b L q ≠ -1) : q + 2 ≤ wen b L q := by
  have := wif_m _ _ _ h
  have hw : ∀ x ∈ wl (-6), (256 : Int) ^ 1 ≤ x := by decide
  have := pk_len (b := b) (L := L) (q := q) (k := 1) rfl (by decide) (hw _ this)
  omega
theorem not_len (h : pk b L q = 7237492) : q + 3 ≤ wen b L q := by
  have := pk_len (b := b) (L := L) (q := q) (k := 2) h (by decide) (by decide)
  omega
theorem jw_b (b : Int → Int) (L q : Int) : jw b L q = -1 ∨ jw b L q = 0 ∨ jw b L q = 1 := by
  have := wif_b (wl (-6)) (pk b L q) 0
  have e : ((wl (-6)).length : Int) = 2 := by decide
  rw [e] at this
  rcases this with z | z
  · exact Or.inl z
  · unfold jw wi; omega
theorem ch_lt {c : Int} (c0 : 0 ≤ c) (h : ch b L q = c) : q < L := by
  unfold ch at h
  by_cases z : q < L
  · exact z
  · rw [if_neg z] at h; omega
theorem cmp_b (b : Int → Int) (L q : Int) : cmp_ b L q = -1 ∨ (7 ≤ cmp_ b L q ∧ cmp_ b L q ≤ 11) := by
  unfold cmp_
  (repeat' split) <;> omega
theorem cme_b (h : cmp_ b L q ≠ -1) : q + 1 ≤ cme b L q ∧ cme b L q ≤ L := by
  have lt : q < L := by
    unfold cmp_ at h
    by_cases c1 : ch b L q = 61
    · exact ch_lt (by decide) c1
    · rw [if_neg c1] at h
      by_cases c2 : ch b L q = 60
      · exact ch_lt (by decide) c2
      · rw [if_neg c2] at h
        by_cases c3 : ch b L q = 62
        · exact ch_lt (by decide) c3
        · rw [if_neg c3] at h; exact absurd rfl h
  unfold cme
  by_cases c : ch b L q ≠ 61 ∧ too_ b L q = true
  · rw [if_pos c]
    have := of_decide_eq_true c.2
    omega
  · rw [if_neg c]; omega
theorem pC2_g (p0 : 0 ≤ p) (p1 : p ≤ L) (hL : L ≤ 400) (m0 : 0 ≤ m) (m1 : m ≤ 60) : PG L (pC2 b L m p) 0 p := by
  have g := sk_ge (b := b) (L := L) p
  unfold pC2
  by_cases c : cmp_ b L (sk b L p) = -1
  · rw [if_pos c]; exact PG_bad (by omega)
  rw [if_neg c]
  have cb := cme_b c
  by_cases d : 60 ≤ m
  · rw [if_pos d]; exact PG_bad (by omega)
  rw [if_neg d]
  have sg := pSum_g (b := b) (L := L) (m := m + 1) (p := cme b L (sk b L p)) (by omega) cb.2 hL (by omega) (by omega)
  refine PG.mono (k := 0 + 1) (PG_thn sg fun z => PG_emt (by simp only [List.length_cons, List.length_nil]; omega) (sg.2 z).2.1 (sg.2 z).2.2.1 (Int.le_refl _)) (by omega) (by omega)
theorem pC_g (p0 : 0 ≤ p) (p1 : p ≤ L) (hL : L ≤ 400) (m0 : 0 ≤ m) (m1 : m ≤ 60) : PG L (pC b L m p) 0 p := by
  have sg := pSum_g (b := b) p0 p1 hL m0 m1
  unfold pC
  refine PG.mono (k := 0 + 0) (PG_thn sg fun z => ?_) (by omega) (Int.le_refl _)
  have s := sg.2 z
  exact pC2_g (by omega) s.2.1 hL s.2.2.1.1 s.2.2.1.2
def wn (wt : Bool) : Int := if wt = true then 1 else 0
theorem wo_n (wt : Bool) : ((wo wt).length : Int) = wn wt := by cases wt <;> rfl
theorem wn_b (wt : Bool) : 0 ≤ wn wt ∧ wn wt ≤ 1 := by cases wt <;> decide
theorem pT_g {F : Int → Int → PR} (hF : ∀ m p, 0 ≤ p → p ≤ L → 0 ≤ m → m ≤ 60 → PG L (F m p) 0 p) : ∀ (n : Nat) (wt : Bool) (m p : Int), 0 ≤ p → p ≤ L → 0 ≤ m → m ≤ 60 → PG L (pT b L F n wt m p) (wn wt) p
  | 0, wt, m, p, p0, p1, m0, m1 => PG_bad (by decide)
  | n + 1, wt, m, p, p0, p1, m0, m1 => by
    have g := sk_ge (b := b) (L := L) p
    have l := sk_le (b := b) p1
    have lE : wen b L (sk b L p) ≤ L := sc_le _ l
    have pw := wn_b wt
    unfold pT
    by_cases c : jw b L (sk b L p) = -1
    · rw [if_pos c]; exact PG_emt (by rw [wo_n]; omega) l ⟨m0, m1⟩ g
    rw [if_neg c]
    have jl := jw_len c
    by_cases d : jw b L (sk b L p) = 0
    · rw [if_pos d]
      refine PG.mono (k := (wn wt - 2) + (0 + 1)) (PG_thn (PG_emt (by rw [wo_n]; omega) lE ⟨m0, m1⟩ (by omega)) fun _ => PG_thn (hF m (wen b L (sk b L p)) (by omega) lE m0 m1) fun z => ?_) (by omega) (Int.le_refl _)
      have s := (hF m (wen b L (sk b L p)) (by omega) lE m0 m1).2 z
      exact pT_g hF n true _ _ (by show 0 ≤ (F m (wen b L (sk b L p))).2.2.2; omega) s.2.1 s.2.2.1.1 s.2.2.1.2
    · rw [if_neg d]
      have fg := hF m (wen b L (sk b L p)) (by omega) lE m0 m1
      refine PG.mono (k := 0 + (1 + wn wt)) (PG_thn fg fun z => PG_thn (PG_emt (by simp only [List.length_cons, List.length_nil]; omega) (fg.2 z).2.1 (fg.2 z).2.2.1 (Int.le_refl _)) fun _ => ?_) (by omega) (by omega)
      have s := fg.2 z
      exact pT_g hF n wt _ _ (by show 0 ≤ (F m (wen b L (sk b L p))).2.2.2; omega) s.2.1 s.2.2.1.1 s.2.2.1.2
theorem pF2_g (p0 : 0 ≤ p) (p1 : p ≤ L) (m0 : 0 ≤ m) (m1 : m ≤ 60) : PG L (pF2 b L m p) (-1) p := by
  have g := sk_ge (b := b) (L := L) p
  unfold pF2
  by_cases c : ch b L (sk b L p) = 93
  · have := ch_lt (by decide) c
    rw [if_pos c]; exact PG_emt (by simp only [List.length_nil]; omega) (by omega) ⟨m0, m1⟩ (by omega)
  · rw [if_neg c]; exact PG_bad (by omega)
theorem pD_g (hL : L ≤ 400) : ∀ (n : Nat) (w d m p : Int), 0 ≤ p → p ≤ L → 0 ≤ m → m ≤ 60 → PG L (pD b L n w d m p) 0 p
  | 0, w, d, m, p, p0, p1, m0, m1 => PG_bad (by decide)
  | n + 1, w, d, m, p, p0, p1, m0, m1 => by
    have g := sk_ge (b := b) (L := L) p
    have l := sk_le (b := b) p1
    have lE : wen b L (sk b L p) ≤ L := sc_le _ l
    unfold pD
    by_cases c : w = 0
    · rw [if_pos c]
      have fg := pD_g hL n 1 d m p p0 p1 m0 m1
      refine PG.mono (k := 0 + 0) (PG_thn fg fun z => ?_) (by omega) (Int.le_refl _)
      have s := fg.2 z
      exact pT_g (fun m p => pD_g hL n 1 d m p) 400 false _ _ (by omega) s.2.1 s.2.2.1.1 s.2.2.1.2
    · rw [if_neg c]
      unfold pF
      by_cases c1 : ch b L (sk b L p) = 91
      · have := ch_lt (by decide) c1
        rw [if_pos c1]
        by_cases c2 : 10 ≤ d
        · rw [if_pos c2]; exact PG_bad (by omega)
        rw [if_neg c2]
        have fg := pD_g hL n 0 (d + 1) m (sk b L p + 1) (by omega) (by omega) m0 m1
        refine PG.mono (k := 0 + (-1)) (PG_thn fg fun z => ?_) (by omega) (by omega)
        have s := fg.2 z
        exact pF2_g (by omega) s.2.1 s.2.2.1.1 s.2.2.1.2
      rw [if_neg c1]
      by_cases c3 : pk b L (sk b L p) = 7237492
      · have nl' := not_len c3
        rw [if_pos c3]
        by_cases c2 : 10 ≤ d
        · rw [if_pos c2]; exact PG_bad (by omega)
        rw [if_neg c2]
        have fg := pD_g hL n 1 (d + 1) m (wen b L (sk b L p)) (by omega) lE m0 m1
        exact PG.mono (k := 0 + 1) (PG_thn fg fun z => PG_emt (by simp only [List.length_cons, List.length_nil]; omega) (fg.2 z).2.1 (fg.2 z).2.2.1 (Int.le_refl _)) (by omega) (by omega)
      · rw [if_neg c3]; exact pC_g p0 p1 hL m0 m1
end
