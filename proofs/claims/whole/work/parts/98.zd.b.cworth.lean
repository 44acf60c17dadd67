/-! ===== a rule's worth: the class ===== -/
section
variable {h h' : AH} {a r t s : Int} {w : Int → Int} {st st' : List Int} {pre suf cs : List CD} {c : CD}
/-- a stack of values, the last one first -/
def SK2 (a : Int) : List Int → AH → Prop
  | [], _ => True
  | x :: B, h => h_V h a B.length = x ∧ SK2 a B h
theorem SK2.cg : ∀ (B : List Int), SK2 a B h → (∀ i, 0 ≤ i → i < (B.length : Int) → h_V h' a i = h_V h a i) → SK2 a B h'
  | [], _, _ => trivial
  | x :: B, z, e => ⟨by rw [e _ (by omega) (by simp only [List.length_cons]; omega)]; exact z.1, SK2.cg B z.2 fun i i0 i1 => e i i0 (by simp only [List.length_cons]; omega)⟩
theorem SK2.wr {B : List Int} (H : SK2 a B h) (v : Int) : SK2 a (v :: B) (h_S h a B.length v) := ⟨by rw [hV_eq, if_pos rfl], SK2.cg B H fun i _ i1 => by rw [hV_eq, if_neg (by omega)]⟩
theorem LSq.get {e : CD → Int} {f : Int → Int} (H : LSq e f 0 (pre ++ c :: suf)) : f pre.length = e c := by
  have := ((LSq.ap pre (c :: suf) 0).1 H).2.1
  rw [Int.zero_add] at this
  exact this
theorem ec_o (b1 : 0 ≤ c.1 ∧ c.1 < 32) (b2 : 0 ≤ c.2 ∧ c.2 ≤ 99999) : o_and (ec c) 31 = c.1 ∧ o_shr (ec c) 5 = c.2 := by
  have e : ec c = c.2 * 32 + c.1 := rfl
  have x0 : 0 ≤ ec c := by omega
  have x1 : ec c < 2147483648 := by omega
  have h1 := oa_i 5 (by decide) x0 x1
  have h2 := o_shr_p x0 x1 (k := 5) (by decide) (by decide)
  rw [show ((2 : Int) ^ 5 - 1) = 31 by decide, show ((2 : Int) ^ 5) = 32 by decide] at h1
  rw [show ((2 : Int) ^ (5 : Int).toNat) = 32 by decide] at h2
  exact ⟨by rw [h1]; omega, by rw [h2]; omega⟩
theorem jn_c {o x y : Int} (o0 : 2 ≤ o) (o1 : o ≤ 13) (h : AH) : f_R_joined o x y h = some (jn o x y, h) := by
  have t0 : f_R_truth 0 h = some (0, h) := by unfold f_R_truth; rw [if_pos nm_0]
  have t1 : f_R_truth 1 h = some (1, h) := by unfold f_R_truth; rw [if_neg (by decide +kernel)]
  have qd : nm (l_cmp y 0) ≠ 0 → q_div x y = some (l_div x y) := fun z => if_neg fun n => z ((l_cmp_eq y 0).2 (by rw [n]; rfl))
  have qr : nm (l_cmp y 0) ≠ 0 → q_rem x y = some (l_rem x y) := fun z => if_neg fun n => z ((l_cmp_eq y 0).2 (by rw [n]; rfl))
  unfold f_R_joined jn f_R_joined_111 f_R_joined_126 f_R_joined_141 f_R_joined_156 f_R_joined_171
  rw [nmi (z := o) (by omega) (by omega), t0, t1, bd_some, bd_some]
  by_cases e2 : o = 2
  · rw [if_pos e2, if_pos e2]
  rw [if_neg e2, if_neg e2]
  by_cases e3 : o = 3
  · rw [if_pos e3, if_pos e3]
  rw [if_neg e3, if_neg e3]
  by_cases e4 : o = 4
  · rw [if_pos e4, if_pos e4]
  rw [if_neg e4, if_neg e4]
  by_cases e5 : o = 5
  · rw [if_pos e5, if_pos e5]
    by_cases z : nm (l_cmp y 0) ≠ 0
    · rw [if_pos z, if_pos z, qd z]; rfl
    · rw [if_neg z, if_neg z]
  rw [if_neg e5, if_neg e5]
  by_cases e6 : o = 6
  · rw [if_pos e6, if_pos e6]
    by_cases z : nm (l_cmp y 0) ≠ 0
    · rw [if_pos z, if_pos z, qr z]; rfl
    · rw [if_neg z, if_neg z]
  rw [if_neg e6, if_neg e6]
  by_cases e7 : o = 7
  · rw [if_pos e7, if_pos e7]
    split <;> rfl
  rw [if_neg e7, if_neg e7]
  by_cases e8 : o = 8
  · rw [if_pos e8, if_pos e8]
    split <;> rfl
  rw [if_neg e8, if_neg e8]
  by_cases e9 : o = 9
  · rw [if_pos e9, if_pos e9]
    split <;> rfl
  rw [if_neg e9, if_neg e9]
  by_cases e10 : o = 10
  · rw [if_pos e10, if_pos e10]
    split <;> rfl
  rw [if_neg e10, if_neg e10]
  by_cases e11 : o = 11
  · rw [if_pos e11, if_pos e11]
    split <;> rfl
  rw [if_neg e11, if_neg e11]
  by_cases e12 : o = 12
  · rw [if_pos e12, if_pos e12]
  rw [if_neg e12, if_neg e12]
theorem c_step (A : CdA r (pre ++ c :: suf) h) (hn : (pre.length : Int) < 1000 ∧ ((pre ++ c :: suf).length : Int) < 1000) (hT : h_T h t = 8) (hw : ∀ k, 0 ≤ k → k < 10 → f_T_wordValue t k s h = some (w k, h)) (S : SK2 (r + 2) st h) (hs : st.length ≤ 32) (E : ev1 w c st = some st') (kf : Int → Int → AH → Option (Int × AH)) : ∃ h', F_R_worth_5 r t s kf st.length pre.length h = kf st'.length (pre.length + 1) h' ∧ SK2 (r + 2) st' h' ∧ Ag (fun a _ => a = r + 2) h h' := by
  obtain ⟨a1, ⟨a2, a3⟩, ⟨a4, a5⟩, ⟨a6, a7⟩, a8⟩ := A
  obtain ⟨b1, b2, b3⟩ := ev1_b E hs
  have co := LSq.get a8
  obtain ⟨o1, o2⟩ := ec_o (c := c) ⟨b1.1, by omega⟩ b2
  have ln : ((pre ++ c :: suf).length : Int) = pre.length + 1 + suf.length := by rw [List.length_append, List.length_cons]; omega
  have g0 : g_f h 4 r 0 = some (r + 1) := by rw [gf_pos a1, a6]
  have g1 : g_f h 4 r 1 = some (r + 2) := by rw [gf_pos a1, a7]
  have cg : a_g h 20 (r + 1) pre.length = some (ec c) := by rw [ag_pos a2 a3 (by omega) (by omega) (by omega), co]
  have sg : ∀ {i : Int}, 0 ≤ i → i < 32 → a_g h 21 (r + 2) i = some (h_V h (r + 2) i) := fun {i} i0 i1 => ag_pos a4 a5 (by decide) i0 i1
  have ss : ∀ {i v : Int}, 0 ≤ i → i < 32 → a_s h 21 (r + 2) i v = some (h_S h (r + 2) i v) := fun {i v} i0 i1 => as_pos a4 a5 (by decide) i0 i1
  unfold F_R_worth_5
  rw [g0, Option.bind_some, an_pos a2, Option.bind_some, a3, nmi (z := ((pre ++ c :: suf).length : Int)) (by omega) (by omega), nmi (z := (pre.length : Int)) (by omega) (by omega), if_neg (by omega), Option.bind_some, cg, Option.bind_some, Option.bind_some, Option.bind_some, cg, Option.bind_some, Option.bind_some, o1, o2]
  rcases ev1_cs E with ⟨c1, c2, c3, c4⟩ | ⟨c1, c2, c3, c4⟩ | ⟨c1, ⟨c2, x, q, c3, c5, c4⟩ | ⟨c2, y, x, q, c3, c4⟩⟩
  · rw [c1, if_pos nm_0]
    unfold f_R_worth_49
    rw [g1, Option.bind_some, an_pos a4, Option.bind_some, a5, nmi (z := 32) (by decide) (by decide), nmi (z := (st.length : Int)) (by omega) (by omega), if_neg (by omega), Option.bind_some, if_neg (fun z => z nm_0), ss (by omega) (by omega), Option.bind_some, oi2l (by omega) (by omega), c4]
    exact ⟨_, rfl, S.wr _, Ag.rf.st rfl⟩
  · rw [c1, if_neg (by decide +kernel), if_neg (fun z => z rfl)]
    unfold f_R_worth_49
    rw [g1, Option.bind_some, an_pos a4, Option.bind_some, a5, nmi (z := 32) (by decide) (by decide), nmi (z := (st.length : Int)) (by omega) (by omega), if_neg (by omega), Option.bind_some, if_pos (by decide +kernel), ck_pos hT, hw _ c3.1 c3.2, bd_some, ss (by omega) (by omega), Option.bind_some, c4]
    exact ⟨_, rfl, S.wr _, Ag.rf.st rfl⟩
  · have l : (st.length : Int) = q.length + 1 := by rw [c3, List.length_cons]; omega
    have S' := S
    rw [c3] at S'
    obtain ⟨s1, s2⟩ := S'
    have tr0 : f_R_truth 0 h = some (0, h) := by unfold f_R_truth; rw [if_pos nm_0]
    have tr1 : f_R_truth 1 h = some (1, h) := by unfold f_R_truth; rw [if_neg (by decide +kernel)]
    rw [c2, if_neg (by decide +kernel), if_pos (by decide +kernel), if_neg (by decide +kernel), if_neg (fun z => z rfl)]
    unfold f_R_worth_102 f_R_worth_157
    rw [nmi (z := (st.length : Int)) (by omega) (by omega), nmi (z := 1) (by decide) (by decide), if_neg (by omega), if_pos (by decide +kernel), g1, Option.bind_some, Option.bind_some, l, show (q.length : Int) + 1 - 1 = q.length by omega, sg (by omega) (by omega), Option.bind_some, s1, tr0, tr1, bd_some, bd_some, ss (by omega) (by omega), ss (by omega) (by omega), Option.bind_some, Option.bind_some, c4]
    have le : (((1 - x) :: q : List Int).length : Int) = q.length + 1 := by rw [List.length_cons]; omega
    rw [le]
    rcases c5 with z | z
    · rw [z, if_neg (by decide +kernel)]
      exact ⟨_, rfl, s2.wr _, Ag.rf.st rfl⟩
    · rw [z, if_pos (by decide +kernel)]
      exact ⟨_, rfl, s2.wr _, Ag.rf.st rfl⟩
  · have l : (st.length : Int) = q.length + 2 := by rw [c3, List.length_cons, List.length_cons]; omega
    have S' := S
    rw [c3] at S'
    obtain ⟨s1, s2, s3⟩ := S'
    have s1' : h_V h (r + 2) ((q.length : Int) + 1) = y := by rw [List.length_cons] at s1; exact s1
    have cn : nm c.1 = c.1 := nmi (by omega) (by omega)
    rw [cn, nmi (z := 1) (by decide) (by decide), nmi (z := 15) (by decide) (by decide), nmi (z := 14) (by decide) (by decide), nmi (z := 16) (by decide) (by decide), nmi (z := 2) (by decide) (by decide), nmi (z := (st.length : Int)) (by omega) (by omega), if_neg (by omega), if_pos (by omega), if_neg (by omega), if_pos (by omega), if_pos (by omega), if_pos (by omega), g1, Option.bind_some, Option.bind_some, l, show (q.length : Int) + 2 + (-1) - 1 = q.length by omega, show (q.length : Int) + 2 + (-1) = q.length + 1 by omega, sg (by omega) (by omega), Option.bind_some, Option.bind_some, sg (by omega) (by omega), Option.bind_some, s2, s1', jn_c c2.1 c2.2, bd_some, ss (by omega) (by omega), Option.bind_some, c4]
    have le : ((jn c.1 x y :: q : List Int).length : Int) = q.length + 1 := by rw [List.length_cons]; omega
    rw [le]
    exact ⟨_, rfl, s3.wr _, Ag.rf.st rfl⟩
def wL (r t s : Int) (n : Nat) (top i : Int) (h : AH) : Option (Int × AH) := it_ (fun (k : Int × Int × AH → Option (Int × AH)) (s' : Int × Int × AH) => F_R_worth_5 r t s (fun a0 a1 a2 => k (a0, a1, a2)) s'.1 s'.2.1 s'.2.2) n (top, i, h)
theorem wL_un (n : Nat) (top i : Int) : wL r t s (n + 1) top i h = F_R_worth_5 r t s (fun a0 a1 a2 => wL r t s n a0 a1 a2) top i h := rfl
theorem CdA.ag (A : CdA r cs h) (g : Ag (fun a _ => a = r + 2) h h') : CdA r cs h' := by
  obtain ⟨a1, ⟨a2, a3⟩, ⟨a4, a5⟩, ⟨a6, a7⟩, a8⟩ := A
  have v : ∀ a i, a ≠ r + 2 → h_V h' a i = h_V h a i := fun a i z => g.2.2.2 _ _ z
  exact ⟨by rw [g.2.1]; exact a1, ⟨by rw [g.2.1]; exact a2, by rw [g.2.2.1]; exact a3⟩, ⟨by rw [g.2.1]; exact a4, by rw [g.2.2.1]; exact a5⟩, ⟨by rw [v _ _ (by omega)]; exact a6, by rw [v _ _ (by omega)]; exact a7⟩, LSq.cg _ _ a8 fun i _ _ => v _ _ (by omega)⟩
/-- what the words are worth, wherever the stack stands -/
def HWd (r t s : Int) (w : Int → Int) (h : AH) : Prop := h_T h t = 8 ∧ ∀ h'' : AH, Ag (fun a _ => a = r + 2) h h'' → ∀ k, 0 ≤ k → k < 10 → f_T_wordValue t k s h'' = some (w k, h'')
theorem HWd.ag (H : HWd r t s w h) (g : Ag (fun a _ => a = r + 2) h h') : HWd r t s w h' := ⟨by rw [g.2.1]; exact H.1, fun h'' g' => H.2 h'' (g.tr g')⟩
theorem c_evs : ∀ (d pre suf : List CD) (n : Nat) (st st' : List Int) (h : AH), CdA r (pre ++ d ++ suf) h → ((pre ++ d ++ suf).length : Int) < 1000 → HWd r t s w h → SK2 (r + 2) st h → st.length ≤ 32 → evs w d st = some st' → ∃ h', wL r t s (d.length + n) st.length pre.length h = wL r t s n st'.length ((pre.length : Int) + d.length) h' ∧ SK2 (r + 2) st' h' ∧ Ag (fun a _ => a = r + 2) h h' := by
  intro d
  induction d with
  | nil =>
    intro pre suf n st st' h A hn hw S hs E
    have : st = st' := Option.some.inj E
    subst this
    refine ⟨h, ?_, S, Ag.rf⟩
    show wL r t s (0 + n) _ _ h = wL r t s n _ ((pre.length : Int) + 0) h
    rw [Nat.zero_add, Int.add_zero]
  | cons c d ih =>
    intro pre suf n st st' h A hn hw S hs E
    have e1 : pre ++ c :: d ++ suf = pre ++ c :: (d ++ suf) := by rw [List.append_assoc]; rfl
    have e2 : pre ++ c :: d ++ suf = (pre ++ [c]) ++ d ++ suf := by simp only [List.append_assoc, List.cons_append, List.nil_append]
    cases E1 : ev1 w c st with
    | none =>
      have : (ev1 w c st).bind (evs w d) = some st' := E
      rw [E1] at this; cases this
    | some s1 =>
      have E2 : evs w d s1 = some st' := by
        have : (ev1 w c st).bind (evs w d) = some st' := E
        rw [E1] at this; exact this
      have A1 := A
      rw [e1] at A1
      have lp : (pre.length : Int) < 1000 := by rw [e1, List.length_append] at hn; omega
      obtain ⟨h1, x1, S1, g1⟩ := c_step A1 ⟨lp, by rw [← e1]; exact hn⟩ hw.1 (fun k k0 k1 => hw.2 h Ag.rf k k0 k1) S hs E1 (fun a0 a1 a2 => wL r t s (d.length + n) a0 a1 a2)
      have A2 := A.ag g1
      rw [e2] at A2 hn
      obtain ⟨h2, x2, S2, g2⟩ := ih (pre ++ [c]) suf n s1 st' h1 A2 hn (hw.ag g1) S1 (ev1_b E1 hs).2.2 E2
      have lc : (((pre ++ [c] : List CD).length : Nat) : Int) = pre.length + 1 := by rw [List.length_append]; rfl
      refine ⟨h2, ?_, S2, g1.tr g2⟩
      rw [show (c :: d).length + n = (d.length + n) + 1 by rw [List.length_cons]; omega, wL_un, x1]
      rw [lc] at x2
      refine x2.trans ?_
      rw [show (pre.length : Int) + ((c :: d : List CD).length : Int) = pre.length + 1 + d.length by rw [List.length_cons]; omega]
theorem c_clauses : ∀ (C : List Cla) (pre : List CD) (n : Nat) (h : AH), (∀ c ∈ C, WFc c) → CdA r (pre ++ ccl C) h → ((pre ++ ccl C).length : Int) < 1000 → HWd r t s w h → ∃ h', wL r t s ((ccl C).length + 1 + n) 0 pre.length h = some (rhoC C w, h') ∧ Ag (fun a _ => a = r + 2) h h' := by
  intro C
  induction C with
  | nil =>
    intro pre n h H A hn hw
    obtain ⟨a1, ⟨a2, a3⟩, -, ⟨a6, a7⟩, a8⟩ := A
    have e : pre ++ ccl [] = pre := List.append_nil pre
    rw [e] at a3 hn
    refine ⟨h, ?_, Ag.rf⟩
    rw [show (ccl []).length + 1 + n = n + 1 from Nat.add_comm _ _, wL_un]
    unfold F_R_worth_5
    rw [gf_pos a1, a6, Option.bind_some, an_pos a2, Option.bind_some, a3, if_pos (Int.le_refl _)]
    rfl
  | cons c C ih =>
    intro pre n h H A hn hw
    have W := H c List.mem_cons_self
    obtain ⟨c1, c2⟩ := c
    have v1 := W.1 w [] (by decide)
    cases c2 with
    | none =>
      have ee : pre ++ ccl ((c1, none) :: C) = pre ++ c1 ++ ((15, 0) :: ccl C) := by
        show pre ++ (c1 ++ [(15, 0)] ++ ccl C) = _
        simp only [List.append_assoc, List.cons_append, List.nil_append]
      have en : (ccl ((c1, none) :: C)).length + 1 + n = c1.length + ((ccl C).length + 1 + n + 1) := by
        show (c1 ++ [(15, 0)] ++ ccl C).length + 1 + n = _
        simp only [List.length_append, List.length_cons, List.length_nil]; omega
      rw [ee] at A hn
      obtain ⟨h1, x1, S1, g1⟩ := c_evs c1 pre ((15, 0) :: ccl C) ((ccl C).length + 1 + n + 1) [] [vof c1 w] h A hn hw trivial (by decide) v1
      have A1 := A.ag g1
      have A1' := A1
      obtain ⟨a1, ⟨a2, a3⟩, ⟨a4, a5⟩, ⟨a6, a7⟩, a8⟩ := A1'
      have lp : (((pre ++ c1 : List CD).length : Nat) : Int) = pre.length + c1.length := by rw [List.length_append]; omega
      have co := LSq.get a8
      rw [lp] at co
      have ln : ((pre ++ c1 ++ (15, 0) :: ccl C).length : Int) = pre.length + c1.length + 1 + (ccl C).length := by simp only [List.length_append, List.length_cons]; omega
      have cg : a_g h1 20 (r + 1) ((pre.length : Int) + c1.length) = some (ec (15, 0)) := by rw [ag_pos a2 (a3.trans ln) (by omega) (by omega) (by omega), co]
      obtain ⟨o1, o2⟩ := ec_o (c := (15, 0)) ⟨by decide, by decide⟩ ⟨by decide, by decide⟩
      refine ⟨h1, ?_, g1⟩
      rw [en]
      refine x1.trans ?_
      rw [wL_un]
      unfold F_R_worth_5
      rw [gf_pos a1, a6, Option.bind_some, an_pos a2, Option.bind_some, a3, ln, nmi (z := (pre.length : Int) + c1.length + 1 + (ccl C).length) (by omega) (by omega), nmi (z := (pre.length : Int) + c1.length) (by omega) (by omega), if_neg (by omega), Option.bind_some, cg, Option.bind_some, Option.bind_some, Option.bind_some, cg, Option.bind_some, Option.bind_some, o1, o2, if_neg (by decide +kernel), if_pos (by decide +kernel), if_pos rfl]
      unfold f_R_worth_102 f_R_worth_114
      have l1 : (([vof c1 w] : List Int).length : Int) = 1 := rfl
      rw [l1, if_neg (by decide +kernel), if_neg (fun z => z rfl), if_pos (by decide +kernel), gf_pos a1, a7, Option.bind_some, ag_pos a4 a5 (by decide) (by decide) (by decide), Option.bind_some]
      show some (h_V h1 (r + 2) 0, h1) = some (vof c1 w, h1)
      have s1 : h_V h1 (r + 2) 0 = vof c1 w := S1.1
      rw [s1]
    | some tt =>
      obtain ⟨W2, W3⟩ := W.2 tt rfl
      have v2 := W2 w [vof c1 w] (by simp)
      have ee : pre ++ ccl ((c1, some tt) :: C) = pre ++ c1 ++ (tt ++ (16, 0) :: ccl C) := by
        show pre ++ (c1 ++ (tt ++ [(16, 0)]) ++ ccl C) = _
        simp only [List.append_assoc, List.cons_append, List.nil_append]
      have e2 : pre ++ c1 ++ (tt ++ (16, 0) :: ccl C) = (pre ++ c1) ++ tt ++ ((16, 0) :: ccl C) := by simp only [List.append_assoc]
      have e3 : (pre ++ c1) ++ tt ++ ((16, 0) :: ccl C) = (pre ++ c1 ++ tt ++ [(16, 0)]) ++ ccl C := by simp only [List.append_assoc, List.cons_append, List.nil_append]
      have en : (ccl ((c1, some tt) :: C)).length + 1 + n = c1.length + (tt.length + ((ccl C).length + 1 + n + 1)) := by
        show (c1 ++ (tt ++ [(16, 0)]) ++ ccl C).length + 1 + n = _
        simp only [List.length_append, List.length_cons, List.length_nil]; omega
      rw [ee] at A hn
      obtain ⟨h1, x1, S1, g1⟩ := c_evs c1 pre (tt ++ (16, 0) :: ccl C) (tt.length + ((ccl C).length + 1 + n + 1)) [] [vof c1 w] h A hn hw trivial (by decide) v1
      have A1 := A.ag g1
      rw [e2] at A1 hn
      obtain ⟨h2, x2, S2, g2⟩ := c_evs tt (pre ++ c1) ((16, 0) :: ccl C) ((ccl C).length + 1 + n + 1) [vof c1 w] [vof tt w, vof c1 w] h1 A1 hn (hw.ag g1) S1 (by simp) v2
      have A2 := A1.ag g2
      have A2' := A2
      obtain ⟨a1, ⟨a2, a3⟩, ⟨a4, a5⟩, ⟨a6, a7⟩, a8⟩ := A2'
      have lp : (((pre ++ c1 : List CD).length : Nat) : Int) = pre.length + c1.length := by rw [List.length_append]; omega
      have lp2 : (((pre ++ c1 ++ tt : List CD).length : Nat) : Int) = pre.length + c1.length + tt.length := by rw [List.length_append, List.length_append]; omega
      have co := LSq.get a8
      rw [lp2] at co
      rw [lp] at x2
      have ln : ((pre ++ c1 ++ tt ++ (16, 0) :: ccl C).length : Int) = pre.length + c1.length + tt.length + 1 + (ccl C).length := by simp only [List.length_append, List.length_cons]; omega
      have cg : a_g h2 20 (r + 1) ((pre.length : Int) + c1.length + tt.length) = some (ec (16, 0)) := by rw [ag_pos a2 (a3.trans ln) (by omega) (by omega) (by omega), co]
      obtain ⟨o1, o2⟩ := ec_o (c := (16, 0)) ⟨by decide, by decide⟩ ⟨by decide, by decide⟩
      have G2 := g1.tr g2
      rw [en, show wL r t s (c1.length + (tt.length + ((ccl C).length + 1 + n + 1))) 0 pre.length h = _ from x1.trans x2, wL_un]
      unfold F_R_worth_5
      have l2 : (([vof tt w, vof c1 w] : List Int).length : Int) = 2 := rfl
      rw [gf_pos a1, a6, Option.bind_some, an_pos a2, Option.bind_some, a3, ln, nmi (z := (pre.length : Int) + c1.length + tt.length + 1 + (ccl C).length) (by omega) (by omega), nmi (z := (pre.length : Int) + c1.length + tt.length) (by omega) (by omega), if_neg (by omega), Option.bind_some, cg, Option.bind_some, Option.bind_some, Option.bind_some, cg, Option.bind_some, Option.bind_some, o1, o2, if_neg (by decide +kernel), if_pos (by decide +kernel), if_neg (by decide +kernel), if_pos (by decide +kernel), l2, if_pos (by decide +kernel), if_neg (fun z => z rfl), gf_pos a1, a7, Option.bind_some, show (2 : Int) + (-2) + 1 = 1 by decide, show (2 : Int) + (-2) = 0 by decide, ag_pos a4 a5 (by decide) (by decide) (by decide), Option.bind_some, Option.bind_some, ag_pos a4 a5 (by decide) (by decide) (by decide), Option.bind_some, show h_V h2 (r + 2) 1 = vof tt w from S2.1, show h_V h2 (r + 2) 0 = vof c1 w from S2.2.1]
      show ∃ h', _ = some (if vof tt w = 1 then vof c1 w else rhoC C w, h') ∧ _
      rcases W3 w with z | z
      · rw [z, if_pos (by decide +kernel), if_neg (by decide)]
        have A3 := A2
        rw [e3] at A3 hn
        obtain ⟨h3, x3, g3⟩ := ih (pre ++ c1 ++ tt ++ [(16, 0)]) n h2 (fun c hc => H c (List.mem_cons_of_mem _ hc)) A3 hn (hw.ag G2)
        have lq : (((pre ++ c1 ++ tt ++ [(16, 0)] : List CD).length : Nat) : Int) = pre.length + c1.length + tt.length + 1 := by simp only [List.length_append, List.length_cons, List.length_nil]; omega
        rw [lq] at x3
        exact ⟨h3, x3, G2.tr g3⟩
      · rw [z, if_neg (by decide +kernel), if_pos rfl]
        exact ⟨h2, rfl, G2⟩
/-- the class's rule is worth what its clauses are -/
theorem c_RC {C : List Cla} (H : ∀ c ∈ C, WFc c) (hr : 69 ≤ r) (A : CdA r (ccl C) h) (hn : ((ccl C).length : Int) < 1000) : RC r (rhoC C) h := by
  refine ⟨rhoC_ex C H, hr, fun h' e1 e2 => ?_⟩
  obtain ⟨a1, ⟨a2, a3⟩, ⟨a4, a5⟩, ⟨a6, a7⟩, a8⟩ := A
  have A' : CdA r ([] ++ ccl C) h' := ⟨by rw [(e1 r (by omega) (by omega)).1]; exact a1, ⟨by rw [(e1 (r + 1) (by omega) (by omega)).1]; exact a2, by rw [(e1 (r + 1) (by omega) (by omega)).2]; exact a3⟩, ⟨by rw [(e1 (r + 2) (by omega) (by omega)).1]; exact a4, by rw [(e1 (r + 2) (by omega) (by omega)).2]; exact a5⟩, ⟨by rw [e2 _ _ (by omega) (by omega)]; exact a6, by rw [e2 _ _ (by omega) (by omega)]; exact a7⟩, LSq.cg _ _ a8 fun i _ _ => e2 _ _ (by omega) (by omega)⟩
  refine ⟨A'.1, fun t s w hT hw => ?_⟩
  obtain ⟨h2, x2, g2⟩ := c_clauses C [] (1000000 - ((ccl C).length + 1)) h' H A' hn (⟨hT, hw⟩ : HWd r t s w h')
  refine ⟨h2, ?_, g2⟩
  have ef : (ccl C).length + 1 + (1000000 - ((ccl C).length + 1)) = fu_ := by unfold fu_; omega
  rw [ef] at x2
  exact x2
end
