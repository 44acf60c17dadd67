/-! ===== a rule's test: the class, facts and tests ===== -/
section
variable {b : Int → Int} {L m p q : Int} {cs : List CD} {h h' : AH} {r : PR}
theorem c_t90 (H : CQ L b cs m p h) {wt : Bool} (hl : (cs.length : Int) + wn wt ≤ p) (rec : Int → Int → Int → AH → Option (Int × AH)) : CJ L b cs h (f_D_readTest_90 rec 7 (b01 wt) h) (emt (wo wt) m p) := by
  have l := H.1.hL
  have p1 := H.1.2.2.2.2
  unfold f_D_readTest_90
  cases wt
  · rw [if_pos b01_f, cb_1]
    exact ⟨h, rfl, Ag.rf, fun _ => by rw [show (emt (wo false) m p).2.1 = [] from rfl, List.append_nil]; exact H, fun z => absurd rfl z⟩
  · have e1 : wn true = 1 := rfl
    obtain ⟨h1, e1', H1, g1⟩ := c_add H (by omega) (op := 13) (v := 0) (by omega) (by omega) (by decide) (by decide)
    rw [if_neg b01_t, ck_pos H.1.1.k7, e1', bd_some, cb_1]
    exact ⟨h1, rfl, g1, fun _ => H1, fun z => absurd rfl z⟩
theorem c_T {rec : Int → Int → Int → AH → Option (Int × AH)} {d : Int} {F : Int → Int → PR} (hG : ∀ m p, 0 ≤ p → p ≤ L → 0 ≤ m → m ≤ 60 → PG L (F m p) 0 p) (hF : ∀ (m p : Int) (cs : List CD) (h : AH), 0 ≤ m → m ≤ 60 → (cs.length : Int) ≤ p → CQ L b cs m p h → CJ L b cs h (rec 1 7 d h) (F m p)) : ∀ (n e : Nat) (wt : Bool) (m p i : Int) (cs : List CD) (h : AH), i + n = 400 → 0 ≤ i → L - p < 2 * n → 0 ≤ m → m ≤ 60 → (cs.length : Int) + wn wt ≤ p → CQ L b cs m p h → CJ L b cs h (it_ (fun (k : Int × Int × AH → Option (Int × AH)) (s : Int × Int × AH) => F_D_readTest_14 rec 7 d (fun a0 a1 a2 => k (a0, a1, a2)) s.1 s.2.1 s.2.2) (n + e) (b01 wt, i, h)) (pT b L F n wt m p)
  | 0, e, wt, m, p, i, cs, h, en, i0, hn, m0, m1, hl, H => by have := H.1.2.2.2.2; omega
  | n + 1, e, wt, m, p, i, cs, h, en, i0, hn, m0, m1, hl, H => by
    have l := H.1.hL
    have p0 := H.1.2.2.2.1
    have p1 := H.1.2.2.2.2
    have g := sk_ge (b := b) (L := L) p
    have ls := sk_le (b := b) p1
    have lE : wen b L (sk b L p) ≤ L := sc_le _ ls
    have pw := wn_b wt
    have jb := jw_b b L (sk b L p)
    have jl := jw_len (b := b) (L := L) (q := sk b L p)
    obtain ⟨h1, e1, C1, g1⟩ := c_word (z := -6) (by decide) H.1
    rw [show wi (wl (-6)) (pk b L (sk b L p)) = jw b L (sk b L p) from rfl] at e1 C1
    have H1 := H.xp g1 C1
    have K := H.1.1
    rw [show n + 1 + e = (n + e) + 1 by omega, it_un]
    unfold pT
    generalize ej : jw b L (sk b L p) = j at *
    have st : ∀ kf : Int → Int → AH → Option (Int × AH), F_D_readTest_14 rec 7 d kf (b01 wt) i h = if j = -1 then f_D_readTest_90 rec 7 (b01 wt) h1 else if j ≠ 0 then f_D_readTest_57 rec kf 7 d (b01 wt) i j h1 else if wt = false then f_D_readTest_57 rec kf 7 d (b01 wt) i j h1 else c_k h1 5 7 (bd_ (f_D_addCode 7 13 0 h1) fun _ h5 => f_D_readTest_57 rec kf 7 d (b01 wt) i j h5) := fun kf => by
      unfold F_D_readTest_14
      rw [nmi (z := 400) (by decide) (by decide), nmi (z := i) (by omega) (by omega), if_neg (by omega), K.g7_0, Option.bind_some, ck_pos K.k2, e1, bd_some, nmi (z := j) (by omega) (by omega), nmi (z := -1) (by decide) (by decide)]
      by_cases c : j = -1
      · rw [if_neg (fun z => z c), if_pos c]
      · rw [if_pos c, if_neg c]
        by_cases c2 : j = 0
        · have nj : ¬ j ≠ 0 := fun z => z c2
          rw [if_neg nj, if_neg nj]
          cases wt
          · rw [if_pos b01_f, if_pos rfl]
          · rw [if_neg b01_t, if_neg (by decide)]
        · rw [if_pos c2, if_pos c2]
    show CJ L b cs h (F_D_readTest_14 rec 7 d _ (b01 wt) i h) _
    rw [st]
    by_cases c : j = -1
    · rw [if_pos c] at C1 H1
      rw [if_pos c, if_pos c]
      exact CJ.pre (g1.mono X2p_rc) (c_t90 H1 (by omega) rec)
    rw [if_neg c] at C1 H1
    rw [if_neg c, if_neg c]
    have jl' := jl c
    by_cases c2 : j = 0
    · rw [if_neg (fun z => z c2), if_pos c2]
      have go : ∀ (cs' : List CD) (h2 : AH), (cs'.length : Int) + 1 ≤ wen b L (sk b L p) → CQ L b cs' m (wen b L (sk b L p)) h2 → CJ L b cs' h2 (f_D_readTest_57 rec (fun a0 a1 a2 => it_ (fun (k : Int × Int × AH → Option (Int × AH)) (s : Int × Int × AH) => F_D_readTest_14 rec 7 d (fun a0 a1 a2 => k (a0, a1, a2)) s.1 s.2.1 s.2.2) (n + e) (a0, a1, a2)) 7 d (b01 wt) i j h2) (thn (F m (wen b L (sk b L p))) (pT b L F n true)) := fun cs' h2 hl2 H2 => by
        unfold f_D_readTest_57
        rw [ck_pos H2.1.1.k7]
        refine CJ.bind (f := fun h2 => if nm j ≠ 0 then _ else _) (hF m _ cs' h2 m0 m1 (by omega) H2) fun h3 z H3 => ?_
        have s := (hG m (wen b L (sk b L p)) (by omega) lE m0 m1).2 z
        rw [if_neg (by rw [c2]; exact fun z => z nm_0)]
        exact c_T hG hF n e true _ _ (i + 1) _ h3 (by omega) (by omega) (by omega) s.2.2.1.1 s.2.2.1.2 (by rw [List.length_append, show wn true = 1 from rfl]; omega) H3
      refine CJ.emt ?_
      cases wt
      · rw [if_pos rfl, show wo false = [] from rfl, List.append_nil]
        exact CJ.pre (g1.mono X2p_rc) (go cs h1 (by omega) H1)
      · have e1' : wn true = 1 := rfl
        obtain ⟨h2, e2, H2, g2⟩ := c_add H1 (by omega) (op := 13) (v := 0) (by omega) (by omega) (by decide) (by decide)
        rw [if_neg (by decide), ck_pos H1.1.1.k7, e2, bd_some, show wo true = [(13, 0)] from rfl]
        exact CJ.pre ((g1.mono X2p_rc).tr g2) (go _ h2 (by rw [List.length_append]; simp only [List.length_cons, List.length_nil]; omega) H2)
    · rw [if_pos c2, if_neg c2]
      unfold f_D_readTest_57
      rw [ck_pos H1.1.1.k7]
      refine CJ.pre (g1.mono X2p_rc) (CJ.bind (f := fun h2 => if nm j ≠ 0 then _ else _) (hF m _ cs h1 m0 m1 (by omega) H1) fun h3 z H3 => ?_)
      have s := (hG m (wen b L (sk b L p)) (by omega) lE m0 m1).2 z
      rw [if_pos (by rw [nmi (by omega) (by omega)]; exact c2)]
      obtain ⟨h4, e4, H4, g4⟩ := c_add H3 (by rw [List.length_append]; omega) (op := 12) (v := 0) (by omega) (by omega) (by decide) (by decide)
      rw [ck_pos H3.1.1.k7, e4, bd_some]
      refine CJ.pre g4 (CJ.emt ?_)
      exact c_T hG hF n e wt _ _ (i + 1) _ h4 (by omega) (by omega) (by omega) s.2.2.1.1 s.2.2.1.2 (by rw [List.length_append, List.length_append]; simp only [List.length_cons, List.length_nil]; omega) H4
/-- the spec's fuel is of no account -/
theorem pD_s (n : Nat) (w d m p : Int) : pD b L (n + 1) w d m p = if w = 0 then thn (pD b L n 1 d m p) (pT b L (pD b L n 1 d) 400 false) else pF b L (pD b L n) d m p := rfl
theorem pD_i : ∀ (n n' : Nat) (w d m p : Int), (w = 0 ∨ w = 1) → 0 ≤ d → d ≤ 10 → 2 * (10 - d) + 2 - w ≤ n → 2 * (10 - d) + 2 - w ≤ n' → pD b L n w d m p = pD b L n' w d m p := by
  intro n
  induction n with
  | zero => intro n' w d m p hw d0 d1 hn hn'; omega
  | succ n ih =>
    intro n' w d m p hw d0 d1 hn hn'
    cases n' with
    | zero => omega
    | succ n' =>
      rw [pD_s, pD_s]
      by_cases c : w = 0
      · have e : pD b L n 1 d = pD b L n' 1 d := funext fun m => funext fun p => ih n' 1 d m p (Or.inr rfl) d0 d1 (by omega) (by omega)
        rw [if_pos c, if_pos c, e]
      · rw [if_neg c, if_neg c]
        unfold pF
        by_cases c2 : 10 ≤ d
        · rw [if_pos c2, if_pos c2, if_pos c2, if_pos c2]
        · rw [if_neg c2, if_neg c2, if_neg c2, if_neg c2, ih n' 0 (d + 1) m (sk b L p + 1) (Or.inl rfl) (by omega) (by omega) (by omega) (by omega), ih n' 1 (d + 1) m (wen b L (sk b L p)) (Or.inr rfl) (by omega) (by omega) (by omega) (by omega)]
theorem pD_e0 {d : Int} (d0 : 0 ≤ d) (d1 : d ≤ 10) (m p : Int) : pD b L 40 0 d m p = thn (pD b L 40 1 d m p) (pT b L (pD b L 40 1 d) 400 false) := by
  have e : pD b L 39 1 d = pD b L 40 1 d := funext fun m => funext fun p => pD_i 39 40 1 d m p (Or.inr rfl) d0 d1 (by omega) (by omega)
  rw [show pD b L 40 0 d m p = _ from pD_s 39 0 d m p, if_pos rfl, e]
theorem pD_e1 {d : Int} (d0 : 0 ≤ d) (d1 : d ≤ 10) (m p : Int) : pD b L 40 1 d m p = pF b L (pD b L 40) d m p := by
  rw [show pD b L 40 1 d m p = _ from pD_s 39 1 d m p, if_neg (by decide)]
  unfold pF
  by_cases c2 : 10 ≤ d
  · rw [if_pos c2, if_pos c2, if_pos c2, if_pos c2]
  · rw [if_neg c2, if_neg c2, if_neg c2, if_neg c2, pD_i 39 40 0 (d + 1) m (sk b L p + 1) (Or.inl rfl) (by omega) (by omega) (by omega) (by omega), pD_i 39 40 1 (d + 1) m (wen b L (sk b L p)) (Or.inr rfl) (by omega) (by omega) (by omega) (by omega)]
theorem not_ch (h : pk b L q = 7237492) : ch b L q ≠ 91 := by
  have w : q + 3 ≤ sc (lt_ b) L q := not_len h
  have a : lt_ b q = true := sc_a (P := lt_ b) (L := L) q q (Int.le_refl _) (by omega)
  have a' : 97 ≤ b q ∧ b q ≤ 122 := of_decide_eq_true a
  unfold ch
  split <;> omega
/-- a row of "not", told behind what they stand ahead of -/
def nt_j (j : Nat) (r : PR) : PR := thn r fun m p => emt (List.replicate j ((14 : Int), (0 : Int))) m p
theorem nt_z : nt_j 0 r = r := by
  obtain ⟨a, c, m, p⟩ := r
  unfold nt_j thn
  by_cases z : a = 0
  · rw [if_neg (fun y => y z)]
    show ((0 : Int), c ++ [], m, p) = (a, c, m, p)
    rw [List.append_nil, z]
  · rw [if_pos z]
theorem nt_s (j : Nat) : nt_j j (thn r fun m p' => emt [(14, 0)] m p') = nt_j (j + 1) r := by
  by_cases z : r.1 = 0
  · have e : thn r (fun m p' => emt [(14, 0)] m p') = (0, r.2.1 ++ [(14, 0)], r.2.2) := by unfold thn; rw [if_neg (fun y => y z)]; rfl
    rw [e]
    unfold nt_j thn
    rw [if_neg (fun y => y rfl), if_neg (fun y => y z)]
    show ((0 : Int), (r.2.1 ++ [(14, 0)]) ++ List.replicate j ((14 : Int), (0 : Int)), r.2.2.1, r.2.2.2) = (0, r.2.1 ++ List.replicate (j + 1) ((14 : Int), (0 : Int)), r.2.2.1, r.2.2.2)
    rw [List.append_assoc]; rfl
  · have e : thn r (fun m p' => emt [(14, 0)] m p') = r := by unfold thn; rw [if_pos z]
    rw [e]
    unfold nt_j thn
    rw [if_pos z, if_pos z]
theorem nt_b {f : Int} (hf : f ≠ 0) (j : Nat) : (nt_j j (bad f m p)).1 = f := by
  unfold nt_j thn
  rw [if_pos (show (bad f m p).1 ≠ 0 from hf)]; rfl
theorem c_N (rec : Int → Int → Int → AH → Option (Int × AH)) {x : Int} (x0 : 0 ≤ x) (x1 : x ≤ 10) : ∀ (j e : Nat) (i m p : Int) (cs : List CD) (h : AH), i + j = x → 0 ≤ i → (cs.length : Int) + j ≤ 400 → CQ L b cs m p h → CJ L b cs h (it_ (fun (k : Int × AH → Option (Int × AH)) (s : Int × AH) => F_D_readFact_137 rec 7 x (fun a0 a1 => k (a0, a1)) s.1 s.2) (j + 1 + e) (i, h)) (emt (List.replicate j ((14 : Int), (0 : Int))) m p) := by
  intro j
  induction j with
  | zero =>
    intro e i m p cs h ei i0 hl H
    rw [show 0 + 1 + e = e + 1 by omega, it_un]
    show CJ L b cs h (F_D_readFact_137 rec 7 x _ i h) _
    unfold F_D_readFact_137
    rw [nmi (z := x) (by omega) (by omega), nmi (z := i) (by omega) (by omega), if_pos (by omega), cb_1]
    exact ⟨h, rfl, Ag.rf, fun _ => by show CQ L b (cs ++ []) m p h; rw [List.append_nil]; exact H, fun z => absurd rfl z⟩
  | succ j ih =>
    intro e i m p cs h ei i0 hl H
    obtain ⟨h1, e1, H1, g1⟩ := c_add H (by omega) (op := 14) (v := 0) (by decide) (by decide) (by decide) (by decide)
    rw [show j + 1 + 1 + e = (j + 1 + e) + 1 by omega, it_un]
    have st : ∀ kf : Int → AH → Option (Int × AH), F_D_readFact_137 rec 7 x kf i h = kf (i + 1) h1 := fun kf => by
      unfold F_D_readFact_137
      rw [nmi (z := x) (by omega) (by omega), nmi (z := i) (by omega) (by omega), if_neg (by omega), ck_pos H.1.1.k7, e1, bd_some]
    show CJ L b cs h (F_D_readFact_137 rec 7 x _ i h) _
    rw [st]
    obtain ⟨h2, e2, g2, y1, y2⟩ := ih e (i + 1) m p (cs ++ [(14, 0)]) h1 (by omega) (by omega) (by rw [List.length_append]; simp only [List.length_cons, List.length_nil]; omega) H1
    refine ⟨h2, e2, g1.tr g2, fun z => ?_, fun z => absurd rfl z⟩
    have y := y1 rfl
    rw [show (emt (List.replicate j ((14 : Int), (0 : Int))) m p).2.1 = List.replicate j ((14 : Int), (0 : Int)) from rfl, List.append_assoc] at y
    exact y
theorem c_137 (rec : Int → Int → Int → AH → Option (Int × AH)) {x d : Int} (d0 : 0 ≤ d) (x1 : x ≤ 10) (j : Nat) (ed : d + j = x) (hl : (cs.length : Int) + j ≤ 400) (H : CQ L b cs m p h) : CJ L b cs h (f_D_readFact_137 rec 7 x d h) (emt (List.replicate j ((14 : Int), (0 : Int))) m p) := by
  have q := c_N rec (show 0 ≤ x by omega) x1 j (1000000 - (j + 1)) d m p cs h ed d0 hl H
  rw [show j + 1 + (1000000 - (j + 1)) = fu_ by unfold fu_; omega] at q
  unfold f_D_readFact_137
  exact q
/-- what the recursion gives for brackets one deeper than x -/
def BH (L : Int) (b : Int → Int) (rec : Int → Int → Int → AH → Option (Int × AH)) (x : Int) : Prop := ∀ (m p : Int) (cs : List CD) (h : AH), 0 ≤ m → m ≤ 60 → (cs.length : Int) ≤ p → CQ L b cs m p h → CJ L b cs h (rec 2 7 (x + 1) h) (thn (pD b L 40 0 (x + 1) m p) (pF2 b L))
theorem c_75 {rec : Int → Int → Int → AH → Option (Int × AH)} {x d : Int} (d0 : 0 ≤ d) (x1 : x ≤ 10) (j : Nat) (ed : d + j = x) (hB : x < 10 → BH L b rec x) (H : CQ L b cs m (sk b L p) h) (p0 : 0 ≤ p) (m0 : 0 ≤ m) (m1 : m ≤ 60) (hl : (cs.length : Int) + j ≤ p) (np : pk b L (sk b L p) ≠ 7237492) : CJ L b cs h (f_D_readFact_75 rec 7 d x (sk b L p) h) (nt_j j (pF b L (pD b L 40) x m p)) := by
  have l := H.1.hL
  have q1 := H.1.2.2.2.2
  have q0 := H.1.2.2.2.1
  have sq : sk b L (sk b L p) = sk b L p := sk_sk
  have g := sk_ge (b := b) (L := L) p
  obtain ⟨h2, e2, C2, g2⟩ := c_sign H.1 (c := 91) (by decide) (by decide)
  rw [sq] at e2 C2
  have H2 := H.xp g2 C2
  unfold f_D_readFact_75
  rw [H.1.1.g7_0, Option.bind_some, ck_pos H.1.1.k2, e2, bd_some]
  by_cases c1 : ch b L (sk b L p) = 91
  · have lt := ch_lt (by decide) c1
    rw [if_pos c1] at C2 H2
    rw [decide_eq_true c1, if_neg b01_t, nmi (z := x) (by omega) (by omega), nmi (z := 10) (by decide) (by decide)]
    by_cases c2 : x < 10
    · have e : pF b L (pD b L 40) x m p = thn (pD b L 40 0 (x + 1) m (sk b L p + 1)) (pF2 b L) := by unfold pF; rw [if_pos c1, if_neg (show ¬ 10 ≤ x by omega)]
      rw [if_pos c2, e]
      unfold f_D_readFact_107
      rw [if_neg b01_t, ck_pos C2.1.k7]
      have dg := pD_g (b := b) l.2 40 0 (x + 1) m (sk b L p + 1) (by omega) (by omega) m0 m1
      have rg := PG_thn (f := pF2 b L) dg fun z => pF2_g (b := b) (by have := (dg.2 z).2.2.2; omega) (dg.2 z).2.1 (dg.2 z).2.2.1.1 (dg.2 z).2.2.1.2
      unfold nt_j
      refine CJ.pre (g2.mono X2p_rc) (CJ.bind0 (hB c2 m (sk b L p + 1) cs h2 m0 m1 (by omega) H2) fun h3 z H3 => ?_)
      have s := rg.2 z
      exact c_137 rec d0 x1 j ed (by rw [List.length_append]; omega) H3
    · have e : pF b L (pD b L 40) x m p = bad (1 + 8 * sk b L p + 2) m p := by unfold pF; rw [if_pos c1, if_pos (show 10 ≤ x by omega)]
      rw [if_neg c2, e, C2.1.g7_0, Option.bind_some, ck_pos C2.1.k2]
      exact CJ.pre (g2.mono X2p_rc) (CJ_bl H2 (nt_b (by omega) j) q0 (by decide))
  · have e : pF b L (pD b L 40) x m p = pC b L m p := by unfold pF; rw [if_neg c1, if_neg np]
    rw [if_neg c1] at C2 H2
    rw [decide_eq_false c1, if_pos b01_f, e]
    unfold f_D_readFact_107
    rw [if_pos b01_f, ck_pos C2.1.k7]
    have cc := c_comp H2 m0 m1 (by omega)
    have ep : pC b L m (sk b L p) = pC b L m p := by unfold pC pSum; rw [sq]
    rw [ep] at cc
    have rg := pC_g (b := b) p0 (show p ≤ L by omega) l.2 m0 m1
    unfold nt_j
    refine CJ.pre (g2.mono X2p_rc) (CJ.bind cc fun h3 z H3 => ?_)
    have s := rg.2 z
    exact c_137 rec d0 x1 j ed (by rw [List.length_append]; omega) H3
theorem c_18 {rec : Int → Int → Int → AH → Option (Int × AH)} {x d : Int} (d0 : 0 ≤ d) (x1 : x ≤ 10) (j : Nat) (ed : d + j = x) (hB : x < 10 → BH L b rec x) (H : CQ L b cs m (sk b L p) h) (p0 : 0 ≤ p) (m0 : 0 ≤ m) (m1 : m ≤ 60) (hl : (cs.length : Int) + j ≤ p) {kf : Int → Int → AH → Option (Int × AH)} (hk : pk b L (sk b L p) = 7237492 → x < 10 → ∀ h2 : AH, CQ L b cs m (sk b L (wen b L (sk b L p))) h2 → CJ L b cs h2 (kf (x + 1) (sk b L (wen b L (sk b L p))) h2) (nt_j (j + 1) (pD b L 40 1 (x + 1) m (wen b L (sk b L p))))) : CJ L b cs h (F_D_readFact_18 rec 7 d kf x (sk b L p) h) (nt_j j (pD b L 40 1 x m p)) := by
  have q0 := H.1.2.2.2.1
  have sq : sk b L (sk b L p) = sk b L p := sk_sk
  obtain ⟨h3, e3, C3, g3⟩ := c_word (z := -5) (by decide) H.1
  rw [sq] at e3 C3
  have wn5 : wi (wl (-5)) (pk b L (sk b L p)) = if pk b L (sk b L p) = 7237492 then 0 else -1 := rfl
  rw [wn5] at e3 C3
  have H3 := H.xp g3 C3
  unfold F_D_readFact_18
  rw [pD_e1 (by omega) x1, nmi (z := 10) (by decide) (by decide), nmi (z := x) (by omega) (by omega), if_neg (show ¬ 10 < x by omega), H.1.1.g7_0, Option.bind_some, ck_pos H.1.1.k2, e3, bd_some]
  by_cases c3 : pk b L (sk b L p) = 7237492
  · have c1 := not_ch c3
    rw [if_pos c3, if_neg (by decide)] at C3 H3
    rw [if_pos c3, if_neg (by decide +kernel)]
    by_cases c2 : x < 10
    · have e : pF b L (pD b L 40) x m p = thn (pD b L 40 1 (x + 1) m (wen b L (sk b L p))) fun m p' => emt [(14, 0)] m p' := by unfold pF; rw [if_neg c1, if_pos c3, if_neg (show ¬ 10 ≤ x by omega)]
      obtain ⟨h4, e4, C4, g4⟩ := c_upc C3
      rw [e, nt_s, if_pos (show x ≠ 10 by omega), C3.1.g7_0, Option.bind_some, ck_pos C3.1.k2, e4, bd_some, C4.1.g7_0, Option.bind_some, C4.gp, Option.bind_some]
      exact CJ.pre ((g3.tr g4).mono X2p_rc) (hk c3 c2 h4 (H3.xp g4 C4))
    · have e : pF b L (pD b L 40) x m p = bad (1 + 8 * sk b L p + 2) m p := by unfold pF; rw [if_neg c1, if_pos c3, if_pos (show 10 ≤ x by omega)]
      rw [e, if_neg (show ¬ x ≠ 10 by omega), C3.1.g7_0, Option.bind_some, ck_pos C3.1.k2]
      exact CJ.pre (g3.mono X2p_rc) (CJ_bl H3 (nt_b (by omega) j) q0 (by decide))
  · rw [if_neg c3, if_pos rfl] at C3 H3
    rw [if_neg c3, if_pos rfl]
    exact CJ.pre (g3.mono X2p_rc) (c_75 d0 x1 j ed hB H3 p0 m0 m1 hl c3)
theorem c_F {rec : Int → Int → Int → AH → Option (Int × AH)} {d : Int} (d0 : 0 ≤ d) (hB : ∀ x : Int, d ≤ x → x < 10 → BH L b rec x) : ∀ (k e j : Nat) (x m p : Int) (cs : List CD) (h : AH), x + k = 10 → d + j = x → 0 ≤ p → 0 ≤ m → m ≤ 60 → (cs.length : Int) + j ≤ p → CQ L b cs m (sk b L p) h → CJ L b cs h (it_ (fun (k : Int × Int × AH → Option (Int × AH)) (s : Int × Int × AH) => F_D_readFact_18 rec 7 d (fun a0 a1 a2 => k (a0, a1, a2)) s.1 s.2.1 s.2.2) (k + 1 + e) (x, sk b L p, h)) (nt_j j (pD b L 40 1 x m p)) := by
  intro k
  induction k with
  | zero =>
    intro e j x m p cs h ex ed p0 m0 m1 hl H
    rw [show 0 + 1 + e = e + 1 by omega, it_un]
    show CJ L b cs h (F_D_readFact_18 rec 7 d _ x (sk b L p) h) _
    exact c_18 d0 (by omega) j ed (hB x (by omega)) H p0 m0 m1 hl fun _ z => by omega
  | succ k ih =>
    intro e j x m p cs h ex ed p0 m0 m1 hl H
    have g := sk_ge (b := b) (L := L) p
    rw [show k + 1 + 1 + e = (k + 1 + e) + 1 by omega, it_un]
    show CJ L b cs h (F_D_readFact_18 rec 7 d _ x (sk b L p) h) _
    refine c_18 d0 (by omega) j ed (hB x (by omega)) H p0 m0 m1 hl fun c3 _ h2 H2 => ?_
    have nl := not_len c3
    exact ih e (j + 1) (x + 1) m (wen b L (sk b L p)) cs h2 (by omega) (by omega) (by omega) m0 m1 (by omega) H2
/-- a reader of the recursion, at n -/
def DH (L : Int) (b : Int → Int) (n : Nat) (w k : Int) (sp : Int → Int → Int → PR) : Prop := ∀ (d m p : Int) (cs : List CD) (h : AH), 0 ≤ d → d ≤ 10 → 3 * (10 - d) + k ≤ n → 0 ≤ m → m ≤ 60 → (cs.length : Int) ≤ p → CQ L b cs m p h → CJ L b cs h (r_D n w 7 d h) (sp d m p)
theorem c_DA {n : Nat} (I : DH L b n 1 1 (pD b L 40 1)) : DH L b (n + 1) 0 2 (pD b L 40 0) := by
  intro d m p cs h d0 d1 hn m0 m1 hl H
  have l := H.1.hL
  have p0 := H.1.2.2.2.1
  have p1 := H.1.2.2.2.2
  have K := H.1.1
  unfold r_D
  rw [if_pos rfl, pD_e0 d0 d1]
  unfold f_D_readTest
  rw [ck_pos K.k7]
  refine CJ.bind (I d m p cs h d0 d1 (by omega) m0 m1 hl H) fun h1 z H1 => ?_
  have s := (pD_g (b := b) l.2 40 1 d m p p0 p1 m0 m1).2 z
  have q := c_T (fun m p => pD_g l.2 40 1 d m p) (fun m p cs h m0 m1 hl H => I d m p cs h d0 d1 (by omega) m0 m1 hl H) 400 (1000000 - 400) false _ _ 0 _ h1 (by decide) (by decide) (by omega) s.2.2.1.1 s.2.2.1.2 (by rw [List.length_append, show wn false = 0 from rfl]; omega) H1
  rw [show b01 false = 0 from rfl] at q
  unfold f_D_readTest_14
  rw [show fu_ = 400 + (1000000 - 400) from rfl]
  exact q
theorem c_DB {n : Nat} (I : DH L b n 2 3 fun d m p => thn (pD b L 40 0 d m p) (pF2 b L)) : DH L b (n + 1) 1 1 (pD b L 40 1) := by
  intro d m p cs h d0 d1 hn m0 m1 hl H
  have p0 := H.1.2.2.2.1
  have K := H.1.1
  obtain ⟨h1, e1, C1, g1⟩ := c_upc H.1
  have H1 := H.xp g1 C1
  unfold r_D
  rw [if_neg (by decide), if_pos rfl]
  unfold f_D_readFact
  rw [K.g7_0, Option.bind_some, ck_pos K.k2, e1, bd_some, C1.1.g7_0, Option.bind_some, C1.gp, Option.bind_some]
  have q := c_F (L := L) (b := b) (rec := r_D n) d0 (fun x hx hx1 m p cs h m0 m1 hl H => I (x + 1) m p cs h (by omega) (by omega) (by omega) m0 m1 hl H) (10 - d).toNat (1000000 - ((10 - d).toNat + 1)) 0 d m p cs h1 (by omega) (by omega) p0 m0 m1 (by omega) H1
  rw [show (10 - d).toNat + 1 + (1000000 - ((10 - d).toNat + 1)) = fu_ by unfold fu_; omega, nt_z] at q
  unfold f_D_readFact_18
  exact CJ.pre (g1.mono X2p_rc) q
theorem c_DC {n : Nat} (I : DH L b n 0 2 (pD b L 40 0)) : DH L b (n + 1) 2 3 fun d m p => thn (pD b L 40 0 d m p) (pF2 b L) := by
  intro d m p cs h d0 d1 hn m0 m1 hl H
  have l := H.1.hL
  have p0 := H.1.2.2.2.1
  have p1 := H.1.2.2.2.2
  unfold r_D
  rw [if_neg (by decide), if_neg (by decide)]
  unfold f_D_readBrackets
  rw [ck_pos H.1.1.k7]
  refine CJ.bind0 (I d m p cs h d0 d1 (by omega) m0 m1 hl H) fun h3 z H3 => ?_
  generalize pD b L 40 0 d m p = r at *
  obtain ⟨h4, e4, C4, g4⟩ := c_sign H3.1 (c := 93) (by decide) (by decide)
  have K3 := H3.1.1
  have r0 := H3.1.2.2.2.1
  have g' := sk_ge (b := b) (L := L) r.2.2.2
  unfold pF2
  rw [K3.g7_0, Option.bind_some, ck_pos K3.k2, e4, bd_some]
  by_cases c3 : ch b L (sk b L r.2.2.2) = 93
  · rw [if_pos c3] at C4
    rw [decide_eq_true c3, if_pos b01_t, if_pos c3, cb_1]
    exact ⟨h4, rfl, g4.mono X2p_rc, fun _ => by rw [show (emt [] r.2.2.1 (sk b L r.2.2.2 + 1)).2.1 = [] from rfl, List.append_nil]; exact H3.xp g4 C4, fun z => absurd rfl z⟩
  · rw [if_neg c3] at C4
    obtain ⟨h5, e5, C5, r1, r2⟩ := c_blame C4 (sk b L r.2.2.2) 0
    rw [decide_eq_false c3, if_neg (fun z => z b01_f), if_neg c3, C4.1.g7_0, Option.bind_some, Option.bind_some, C4.gp, Option.bind_some, ck_pos C4.1.k2, e5, bd_some, if_pos nm_0, cb_0]
    exact ⟨h5, by rw [show (bad (1 + 8 * sk b L r.2.2.2 + 0) r.2.2.1 r.2.2.2).1 = 1 + 8 * sk b L r.2.2.2 + 0 from rfl, decide_eq_false (by omega)]; rfl, (g4.mono X2p_rc).tr (r2.mono X2_rc), fun z => by have : 1 + 8 * sk b L r.2.2.2 + 0 = 0 := z; omega, fun _ => r1⟩
theorem c_D : ∀ n : Nat, DH L b n 0 2 (pD b L 40 0) ∧ DH L b n 1 1 (pD b L 40 1) ∧ DH L b n 2 3 fun d m p => thn (pD b L 40 0 d m p) (pF2 b L) := by
  intro n
  induction n with
  | zero => exact ⟨fun d m p cs h d0 d1 hn => by omega, fun d m p cs h d0 d1 hn => by omega, fun d m p cs h d0 d1 hn => by omega⟩
  | succ n ih => exact ⟨c_DA ih.2.1, c_DB ih.2.2, c_DC ih.1⟩
end
