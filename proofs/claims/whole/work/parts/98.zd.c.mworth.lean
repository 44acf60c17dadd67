/-! ===== a rule's worth: the Model ===== -/
section
variable {h h' : AH} {k n i : Int} {w : Int → Int} {st st' : List Int} {pre suf cs : List CD} {c : CD}
def X54 (a i : Int) : Prop := a = 54 ∨ (a = 46 ∧ i = 18)
theorem X54_np : NP X54 := fun a i z => XH_np a i (Or.inr (Or.inr z))
/-- the Model's stack -/
def SM (st : List Int) (h : AH) : Prop := MS h ∧ h_V h 46 18 = st.length ∧ SK2 54 st h
theorem SM.push (H : SM st h) (hs : st.length ≤ 32) (v : Int) : ∃ h', f_M_push 46 v h = some (0, h') ∧ SM (v :: st) h' ∧ Ag X54 h h' := by
  obtain ⟨M, n, S⟩ := H
  have g1 : Ag X54 h (h_S h 54 st.length v) := Ag.rf.st (Or.inl rfl)
  have g2 : Ag X54 h (h_S (h_S h 54 st.length v) 46 18 ((st.length : Int) + 1)) := g1.st (Or.inr ⟨rfl, rfl⟩)
  have M1 := M.ag g1 X54_np
  have M2 := M.ag g2 X54_np
  refine ⟨_, ?_, ⟨M2, by rw [hV_eq, if_pos rfl]; rfl, SK2.cg _ (S.wr v) fun i _ _ => hV_ne (by decide)⟩, g2⟩
  unfold f_M_push
  rw [gf_pos M.1, (M.at 7 rfl).2.2, Option.bind_some, gf_pos M.1, n, Option.bind_some, as_pos (M.at 7 rfl).1 (M.at 7 rfl).2.1 (by decide) (by omega) (show (st.length : Int) < 64 by omega), Option.bind_some, gf_pos M1.1, hV_ne (by decide), n, Option.bind_some, sf_pos M1.1, Option.bind_some]
theorem SM.pop {x : Int} (H : SM (x :: st) h) (hs : st.length ≤ 32) : ∃ h', f_M_pop 46 h = some (x, h') ∧ SM st h' ∧ Ag X54 h h' := by
  obtain ⟨M, n, S⟩ := H
  have n' : h_V h 46 18 = (st.length : Int) + 1 := by rw [n, List.length_cons]; omega
  have g2 : Ag X54 h (h_S h 46 18 (st.length : Int)) := Ag.rf.st (Or.inr ⟨rfl, rfl⟩)
  have M2 := M.ag g2 X54_np
  refine ⟨_, ?_, ⟨M2, by rw [hV_eq, if_pos rfl], SK2.cg _ S.2 fun i _ _ => hV_ne (by decide)⟩, g2⟩
  unfold f_M_pop
  rw [gf_pos M.1, n', Option.bind_some, show (st.length : Int) + 1 - 1 = st.length by omega, sf_pos M.1, Option.bind_some, gf_pos M2.1, (M2.at 7 rfl).2.2, Option.bind_some, gf_pos M2.1, hV_eq, if_pos rfl, Option.bind_some, ag_pos (M2.at 7 rfl).1 (M2.at 7 rfl).2.1 (by decide) (by omega) (show (st.length : Int) < 64 by omega), Option.bind_some, hV_ne (by decide), S.1]
theorem em_o (b1 : 0 ≤ c.1 ∧ c.1 ≤ 14) (b2 : 0 ≤ c.2 ∧ c.2 ≤ 99999) : (0 ≤ mop c.1 ∧ mop c.1 ≤ 14) ∧ o_and (em c) 15 = mop c.1 ∧ o_shr (em c) 4 = c.2 := by
  have e : em c = mop c.1 + 16 * c.2 := rfl
  have mb : 0 ≤ mop c.1 ∧ mop c.1 ≤ 14 := by unfold mop; (repeat' split) <;> omega
  have x0 : 0 ≤ em c := by omega
  have x1 : em c < 2147483648 := by omega
  have h1 := oa_i 4 (by decide) x0 x1
  have h2 := o_shr_p x0 x1 (k := 4) (by decide) (by decide)
  rw [show ((2 : Int) ^ 4 - 1) = 15 by decide, show ((2 : Int) ^ 4) = 16 by decide] at h1
  rw [show ((2 : Int) ^ (4 : Int).toNat) = 16 by decide] at h2
  exact ⟨mb, by rw [h1]; omega, by rw [h2]; omega⟩
theorem jn_m {o x y : Int} (o0 : 2 ≤ o) (o1 : o ≤ 13) (h : AH) : f_M_one (mop o) x y h = some (jn o x y, h) := by
  have qd : nm (l_cmp y 0) ≠ 0 → q_div x y = some (l_div x y) := fun z => if_neg fun n => z ((l_cmp_eq y 0).2 (by rw [n]; rfl))
  have qr : nm (l_cmp y 0) ≠ 0 → q_rem x y = some (l_rem x y) := fun z => if_neg fun n => z ((l_cmp_eq y 0).2 (by rw [n]; rfl))
  have hm : mop o = if o = 6 then 14 else if o = 14 then 11 else if 7 ≤ o ∧ o ≤ 11 then o - 1 else o := rfl
  unfold f_M_one jn
  generalize mop o = q at *
  by_cases e2 : o = 2
  · have : q = 2 := by rw [hm, e2]; rfl
    rw [this, if_pos (by decide +kernel), if_pos e2]
  rw [if_neg e2]
  by_cases e3 : o = 3
  · have : q = 3 := by rw [hm, e3]; rfl
    rw [this, if_neg (by decide +kernel), if_pos (by decide +kernel), if_pos e3]
  rw [if_neg e3]
  by_cases e4 : o = 4
  · have : q = 4 := by rw [hm, e4]; rfl
    rw [this, if_neg (by decide +kernel), if_neg (by decide +kernel), if_pos (by decide +kernel), if_pos e4]
  rw [if_neg e4]
  by_cases e5 : o = 5
  · have : q = 5 := by rw [hm, e5]; rfl
    rw [this, if_neg (by decide +kernel), if_neg (by decide +kernel), if_neg (by decide +kernel), if_pos (by decide +kernel), if_pos e5]
    by_cases z : nm (l_cmp y 0) ≠ 0
    · rw [if_pos z, if_pos z, qd z]; rfl
    · rw [if_neg z, if_neg z]
  rw [if_neg e5]
  by_cases e6 : o = 6
  · have : q = 14 := by rw [hm, e6]; rfl
    rw [this, if_neg (by decide +kernel), if_neg (by decide +kernel), if_neg (by decide +kernel), if_neg (by decide +kernel), if_neg (by decide +kernel), if_neg (by decide +kernel), if_neg (by decide +kernel), if_neg (by decide +kernel), if_neg (by decide +kernel), if_neg (by decide +kernel), if_neg (by decide +kernel), if_neg (by decide +kernel), if_pos (by decide +kernel), if_pos e6]
    by_cases z : nm (l_cmp y 0) ≠ 0
    · rw [if_pos z, if_pos z, qr z]; rfl
    · rw [if_neg z, if_neg z]
  rw [if_neg e6]
  by_cases e7 : o = 7
  · have : q = 6 := by rw [hm, e7]; rfl
    rw [this, if_neg (by decide +kernel), if_neg (by decide +kernel), if_neg (by decide +kernel), if_neg (by decide +kernel), if_pos (by decide +kernel), if_pos e7]
    split <;> rfl
  rw [if_neg e7]
  by_cases e8 : o = 8
  · have : q = 7 := by rw [hm, e8]; rfl
    rw [this, if_neg (by decide +kernel), if_neg (by decide +kernel), if_neg (by decide +kernel), if_neg (by decide +kernel), if_neg (by decide +kernel), if_pos (by decide +kernel), if_pos e8]
    split <;> rfl
  rw [if_neg e8]
  by_cases e9 : o = 9
  · have : q = 8 := by rw [hm, e9]; rfl
    rw [this, if_neg (by decide +kernel), if_neg (by decide +kernel), if_neg (by decide +kernel), if_neg (by decide +kernel), if_neg (by decide +kernel), if_neg (by decide +kernel), if_pos (by decide +kernel), if_pos e9]
    split <;> rfl
  rw [if_neg e9]
  by_cases e10 : o = 10
  · have : q = 9 := by rw [hm, e10]; rfl
    rw [this, if_neg (by decide +kernel), if_neg (by decide +kernel), if_neg (by decide +kernel), if_neg (by decide +kernel), if_neg (by decide +kernel), if_neg (by decide +kernel), if_neg (by decide +kernel), if_pos (by decide +kernel), if_pos e10]
    split <;> rfl
  rw [if_neg e10]
  by_cases e11 : o = 11
  · have : q = 10 := by rw [hm, e11]; rfl
    rw [this, if_neg (by decide +kernel), if_neg (by decide +kernel), if_neg (by decide +kernel), if_neg (by decide +kernel), if_neg (by decide +kernel), if_neg (by decide +kernel), if_neg (by decide +kernel), if_neg (by decide +kernel), if_pos (by decide +kernel), if_pos e11]
    split <;> rfl
  rw [if_neg e11]
  by_cases e12 : o = 12
  · have : q = 12 := by rw [hm, e12]; rfl
    rw [this, if_neg (by decide +kernel), if_neg (by decide +kernel), if_neg (by decide +kernel), if_neg (by decide +kernel), if_neg (by decide +kernel), if_neg (by decide +kernel), if_neg (by decide +kernel), if_neg (by decide +kernel), if_neg (by decide +kernel), if_neg (by decide +kernel), if_pos (by decide +kernel), if_pos e12]
  rw [if_neg e12]
  have e13 : o = 13 := by omega
  have : q = 13 := by rw [hm, e13]; rfl
  rw [this, if_neg (by decide +kernel), if_neg (by decide +kernel), if_neg (by decide +kernel), if_neg (by decide +kernel), if_neg (by decide +kernel), if_neg (by decide +kernel), if_neg (by decide +kernel), if_neg (by decide +kernel), if_neg (by decide +kernel), if_neg (by decide +kernel), if_neg (by decide +kernel), if_pos (by decide +kernel)]
/-- a rule's cells in the Model, and the words -/
def MRc (k : Int) (cs : List CD) (w : Int → Int) (h : AH) : Prop := LSq em (fun i => h_V h 48 (400 * k + i)) 0 cs ∧ ((cs.length : Int) ≤ 400 ∧ 0 ≤ k ∧ k < 6) ∧ ∀ i, 0 ≤ i → i < 10 → h_V h 55 i = w i
theorem MRc.ag (H : MRc k cs w h) (g : Ag X54 h h') : MRc k cs w h' := ⟨LSq.cg _ _ H.1 fun i _ _ => g.2.2.2 _ _ (by unfold X54; omega), H.2.1, fun i i0 i1 => by rw [g.2.2.2 _ _ (by unfold X54; omega)]; exact H.2.2 i i0 i1⟩
theorem m_step (A : MRc k (pre ++ c :: suf) w h) (S : SM st h) (hs : st.length ≤ 32) (E : ev1 w c st = some st') {n : Int} (hn : (pre.length : Int) < n) (hn2 : n ≤ 400) (kf : Int → AH → Option (Int × AH)) : ∃ h', F_M_reckons_8 46 k n kf pre.length h = kf (pre.length + 1) h' ∧ SM st' h' ∧ Ag X54 h h' := by
  obtain ⟨a1, ⟨a2, a3, a4⟩, a5⟩ := A
  obtain ⟨b1, b2, b3⟩ := ev1_b E hs
  have co := LSq.get a1
  obtain ⟨mb, o1, o2⟩ := em_o b1 b2
  have M := S.1
  have ln : ((pre ++ c :: suf).length : Int) = pre.length + 1 + suf.length := by rw [List.length_append, List.length_cons]; omega
  have cg : a_g h 20 48 (400 * k + pre.length) = some (em c) := by rw [ag_pos (M.at 1 rfl).1 (M.at 1 rfl).2.1 (by decide) (by omega) (show 400 * k + (pre.length : Int) < 2400 by omega), co]
  have g3 : g_f h 11 46 3 = some 48 := by rw [gf_pos M.1, (M.at 1 rfl).2.2]
  unfold F_M_reckons_8
  rw [nmi (z := n) (by omega) (by omega), nmi (z := (pre.length : Int)) (by omega) (by omega), if_neg (by omega), g3, Option.bind_some, cg, Option.bind_some, Option.bind_some, Option.bind_some, cg, Option.bind_some, Option.bind_some, o1, o2]
  rcases ev1_cs E with ⟨c1, c2, c3, c4⟩ | ⟨c1, c2, c3, c4⟩ | ⟨c1, ⟨c2, x, q, c3, c5, c4⟩ | ⟨c2, y, x, q, c3, c4⟩⟩
  · have em0 : mop c.1 = 0 := by rw [c1]; rfl
    obtain ⟨h1, e1, S1, g1⟩ := S.push hs c.2
    rw [em0, if_neg (fun z => z nm_0), ck_pos M.1, oi2l (by omega) (by omega), e1, bd_some, c4]
    exact ⟨h1, rfl, S1, g1⟩
  · have em1 : mop c.1 = 1 := by rw [c1]; rfl
    obtain ⟨h1, e1, S1, g1⟩ := S.push hs (w c.2)
    rw [em1, if_pos (by decide +kernel), if_neg (fun z => z rfl), gW M, Option.bind_some, ag_pos (M.at 8 rfl).1 (M.at 8 rfl).2.1 (by decide) c3.1 c3.2, Option.bind_some, a5 _ c3.1 c3.2, ck_pos M.1, e1, bd_some, c4]
    exact ⟨h1, rfl, S1, g1⟩
  · have em1 : mop c.1 = 11 := by rw [c2]; rfl
    have hq : q.length ≤ 32 := by rw [c3, List.length_cons] at hs; omega
    have S' := S
    rw [c3] at S'
    obtain ⟨h1, e1, S1, g1⟩ := S'.pop hq
    obtain ⟨h2, e2, S2, g2⟩ := S1.push hq (1 - x)
    rw [em1, if_pos (by decide +kernel), if_pos (by decide +kernel), if_neg (fun z => z rfl), ck_pos M.1, e1, bd_some, ck_pos S1.1.1, e2, bd_some, c4]
    exact ⟨h2, rfl, S2, g1.tr g2⟩
  · have nm0 : mop c.1 ≠ 0 ∧ mop c.1 ≠ 1 ∧ mop c.1 ≠ 11 := by
      unfold mop
      (repeat' split) <;> omega
    have hq : q.length + 1 ≤ 32 := by rw [c3, List.length_cons, List.length_cons] at hs; omega
    have S' := S
    rw [c3] at S'
    obtain ⟨h1, e1, S1, g1⟩ := S'.pop (by rw [List.length_cons]; omega)
    obtain ⟨h2, e2, S2, g2⟩ := S1.pop (by omega)
    obtain ⟨h3, e3, S3, g3⟩ := S2.push (by omega) (jn c.1 x y)
    rw [nmi (z := mop c.1) (by omega) (by omega), nmi (z := 1) (by decide) (by decide), nmi (z := 11) (by decide) (by decide), if_pos nm0.1, if_pos nm0.2.1, if_pos nm0.2.2, ck_pos M.1, e1, bd_some, ck_pos S1.1.1, e2, bd_some, jn_m c2.1 c2.2, bd_some, ck_pos S2.1.1, e3, bd_some, c4]
    exact ⟨h3, rfl, S3, (g1.tr g2).tr g3⟩
def rL (k n : Int) (e : Nat) (i : Int) (h : AH) : Option (Int × AH) := it_ (fun (q : Int × AH → Option (Int × AH)) (s : Int × AH) => F_M_reckons_8 46 k n (fun a0 a1 => q (a0, a1)) s.1 s.2) e (i, h)
theorem rL_un (e : Nat) (i : Int) : rL k n (e + 1) i h = F_M_reckons_8 46 k n (fun a0 a1 => rL k n e a0 a1) i h := rfl
theorem m_evs : ∀ (d pre suf : List CD) (e : Nat) (st st' : List Int) (h : AH), MRc k (pre ++ d ++ suf) w h → SM st h → st.length ≤ 32 → evs w d st = some st' → (pre.length : Int) + d.length ≤ n → n ≤ 400 → ∃ h', rL k n (d.length + e) pre.length h = rL k n e ((pre.length : Int) + d.length) h' ∧ SM st' h' ∧ Ag X54 h h' := by
  intro d
  induction d with
  | nil =>
    intro pre suf e st st' h A S hs E hn hn2
    have : st = st' := Option.some.inj E
    subst this
    refine ⟨h, ?_, S, Ag.rf⟩
    show rL k n (0 + e) _ h = rL k n e ((pre.length : Int) + 0) h
    rw [Nat.zero_add, Int.add_zero]
  | cons c d ih =>
    intro pre suf e st st' h A S hs E hn hn2
    have e1 : pre ++ c :: d ++ suf = pre ++ c :: (d ++ suf) := by rw [List.append_assoc]; rfl
    have e2 : pre ++ c :: d ++ suf = (pre ++ [c]) ++ d ++ suf := by simp only [List.append_assoc, List.cons_append, List.nil_append]
    rw [List.length_cons] at hn
    cases E1 : ev1 w c st with
    | none =>
      have : (ev1 w c st).bind (evs w d) = some st' := E
      rw [E1] at this; cases this
    | some s1 =>
      have E2 : evs w d s1 = some st' := by
        have : (ev1 w c st).bind (evs w d) = some st' := E
        rw [E1] at this; exact this
      have A1 := A
      rw [e1] at A1
      obtain ⟨h1, x1, S1, g1⟩ := m_step A1 S hs E1 (n := n) (by omega) hn2 (fun a0 a1 => rL k n (d.length + e) a0 a1)
      have A2 := A.ag g1
      rw [e2] at A2
      have lc : (((pre ++ [c] : List CD).length : Nat) : Int) = pre.length + 1 := by rw [List.length_append]; rfl
      obtain ⟨h2, x2, S2, g2⟩ := ih (pre ++ [c]) suf e s1 st' h1 A2 S1 (ev1_b E1 hs).2.2 E2 (by rw [lc]; omega) hn2
      refine ⟨h2, ?_, S2, g1.tr g2⟩
      rw [show (c :: d).length + e = (d.length + e) + 1 by rw [List.length_cons]; omega, rL_un, x1]
      rw [lc] at x2
      refine x2.trans ?_
      rw [show (pre.length : Int) + ((c :: d : List CD).length : Int) = pre.length + 1 + d.length by rw [List.length_cons]; omega]
theorem m_reckons {d : List CD} {K : Nat} {f : (Int → Int) → Int} (A : MRc k (pre ++ d ++ suf) w h) (M : MS h) (V : GV d K f) : ∃ h', f_M_reckons 46 k pre.length ((pre.length : Int) + d.length) h = some (f w, h') ∧ Ag X54 h h' := by
  have g1 : Ag X54 h (h_S h 46 18 0) := Ag.rf.st (Or.inr ⟨rfl, rfl⟩)
  have M1 := M.ag g1 X54_np
  have S1 : SM [] (h_S h 46 18 0) := ⟨M1, by rw [hV_eq, if_pos rfl]; rfl, trivial⟩
  have ln : ((pre ++ d ++ suf).length : Int) = pre.length + d.length + suf.length := by rw [List.length_append, List.length_append]; omega
  have lb := A.2.1.1
  obtain ⟨h2, x2, S2, g2⟩ := m_evs (n := (pre.length : Int) + d.length) d pre suf (1000000 - d.length) [] [f w] _ (A.ag g1) S1 (by decide) (V w [] (by simp)) (Int.le_refl _) (by omega)
  obtain ⟨h3, x3, S3, g3⟩ := S2.pop (by decide)
  refine ⟨h3, ?_, (g1.tr g2).tr g3⟩
  unfold f_M_reckons
  rw [sf_pos M.1, Option.bind_some]
  have ef : d.length + (1000000 - d.length) = fu_ := by unfold fu_; omega
  rw [ef] at x2
  refine x2.trans ?_
  obtain ⟨e', he'⟩ : ∃ e', 1000000 - d.length = e' + 1 := ⟨1000000 - d.length - 1, by omega⟩
  rw [he', rL_un]
  unfold F_M_reckons_8
  rw [if_pos (Int.le_refl _), ck_pos S2.1.1, x3, bd_some]
def sB (k : Int) (e : Nat) (i : Int) (h : AH) : Option (Int × AH) := it_ (fun (q : Int × AH → Option (Int × AH)) (s : Int × AH) => F_M_summedBy_2 46 k (fun a0 a1 => q (a0, a1)) s.1 s.2) e (i, h)
theorem sB_un (e : Nat) (i : Int) : sB k (e + 1) i h = F_M_summedBy_2 46 k (fun a0 a1 => sB k e a0 a1) i h := rfl
theorem m_clauses : ∀ (C : List Cla) (pre : List CD) (e : Nat) (i : Int) (h : AH), (∀ c ∈ C, WFc c) → MRc k (pre ++ mcl C) w h → MS h → MLc (h_V h 50) k i pre.length C → h_V h 51 k = i + C.length → 0 ≤ i → i + C.length ≤ 12 → ∃ h', sB k (C.length + 1 + e) i h = some (rhoC C w, h') ∧ Ag X54 h h' := by
  intro C
  induction C with
  | nil =>
    intro pre e i h H A M ml v51 i0 i1
    have ab := A.2.1
    have v51' : h_V h 51 k = i := by rw [v51]; show i + 0 = i; omega
    have i1' : i ≤ 12 := by have : i + 0 ≤ 12 := i1; omega
    refine ⟨h, ?_, Ag.rf⟩
    rw [show ([] : List Cla).length + 1 + e = e + 1 from Nat.add_comm _ _, sB_un]
    unfold F_M_summedBy_2
    rw [gf_pos M.1, (M.at 4 rfl).2.2, Option.bind_some, ag_pos (M.at 4 rfl).1 (M.at 4 rfl).2.1 (by decide) ab.2.1 ab.2.2, Option.bind_some, v51', if_pos (Int.le_refl _)]
    rfl
  | cons c C ih =>
    intro pre e i h H A M ml v51 i0 i1
    have W := H c List.mem_cons_self
    obtain ⟨m1, m2⟩ := ml
    have ab := A.2.1
    rw [List.length_cons] at v51 i1
    have v51' : h_V h 51 k = i + C.length + 1 := by rw [v51]; omega
    obtain ⟨c1, c2⟩ := c
    have g5 : g_f h 11 46 5 = some 50 := by rw [gf_pos M.1, (M.at 3 rfl).2.2]
    have r5 : ∀ {x : Int}, 0 ≤ x → x < 288 → a_g h 20 50 x = some (h_V h 50 x) := fun {x} x0 x1 => ag_pos (M.at 3 rfl).1 (M.at 3 rfl).2.1 (by decide) x0 x1
    -- the sum of this clause
    have sum : ∀ h1 : AH, Ag X54 h h1 → ∃ h', f_M_summedBy_58 46 k (48 * k + 4 * i) h1 = some (vof c1 w, h') ∧ Ag X54 h h' := fun h1 g1 => by
      have M1 := M.ag g1 X54_np
      have A1 := A.ag g1
      obtain ⟨suf, er⟩ : ∃ suf : List CD, pre ++ mcl ((c1, c2) :: C) = pre ++ c1 ++ suf := by
        cases c2 with
        | none => exact ⟨[] ++ mcl C, by show pre ++ (c1 ++ [] ++ mcl C) = _; simp only [List.append_assoc]⟩
        | some t => exact ⟨t ++ mcl C, by show pre ++ (c1 ++ t ++ mcl C) = _; simp only [List.append_assoc]⟩
      rw [er] at A1
      obtain ⟨h2, x2, g2⟩ := m_reckons A1 M1 W.1
      have w0 : h_V h1 50 (48 * k + 4 * i) = pre.length := by rw [g1.2.2.2 _ _ (by unfold X54; omega)]; exact m1.1
      have w1 : h_V h1 50 (48 * k + 4 * i + 1) = (pre.length : Int) + c1.length := by rw [g1.2.2.2 _ _ (by unfold X54; omega)]; exact m1.2.1
      refine ⟨h2, ?_, g1.tr g2⟩
      unfold f_M_summedBy_58
      rw [gf_pos M1.1, (M1.at 3 rfl).2.2, Option.bind_some, ag_pos (M1.at 3 rfl).1 (M1.at 3 rfl).2.1 (by decide) (by omega) (show 48 * k + 4 * i < 288 by omega), Option.bind_some, Option.bind_some, ag_pos (M1.at 3 rfl).1 (M1.at 3 rfl).2.1 (by decide) (by omega) (show 48 * k + 4 * i + 1 < 288 by omega), Option.bind_some, w0, w1, ck_pos M1.1, x2, bd_some]
    rw [show ((c1, c2) :: C).length + 1 + e = (C.length + 1 + e) + 1 by rw [List.length_cons]; omega, sB_un]
    unfold F_M_summedBy_2
    rw [gf_pos M.1, (M.at 4 rfl).2.2, Option.bind_some, ag_pos (M.at 4 rfl).1 (M.at 4 rfl).2.1 (by decide) ab.2.1 ab.2.2, Option.bind_some, v51', nmi (z := i + C.length + 1) (by omega) (by omega), nmi (z := i) (by omega) (by omega), if_neg (by omega), Option.bind_some, g5, Option.bind_some, r5 (by omega) (by omega), Option.bind_some]
    cases c2 with
    | none =>
      have w2 : h_V h 50 (48 * k + 4 * i + 2) = -1 := m1.2.2
      rw [w2, if_pos (by decide +kernel)]
      exact sum h Ag.rf
    | some tt =>
      obtain ⟨W2, W3⟩ := W.2 tt rfl
      have w2 : h_V h 50 (48 * k + 4 * i + 2) = (pre.length : Int) + c1.length := m1.2.2.1
      have w3 : h_V h 50 (48 * k + 4 * i + 3) = (pre.length : Int) + c1.length + tt.length := m1.2.2.2
      have er : pre ++ mcl ((c1, some tt) :: C) = (pre ++ c1) ++ tt ++ mcl C := by
        show pre ++ (c1 ++ tt ++ mcl C) = _
        simp only [List.append_assoc]
      have A1 := A
      rw [er] at A1
      have lp : (((pre ++ c1 : List CD).length : Nat) : Int) = pre.length + c1.length := by rw [List.length_append]; omega
      obtain ⟨h1, x1, g1⟩ := m_reckons A1 M W2
      rw [lp] at x1
      have lt : (pre.length : Int) + c1.length ≤ 400 := by
        have := A1.2.1.1
        rw [List.length_append, List.length_append] at this
        omega
      rw [w2, nmi (z := (pre.length : Int) + c1.length) (by omega) (by omega), if_neg (by omega), Option.bind_some, r5 (by omega) (by omega), w2, Option.bind_some, Option.bind_some, r5 (by omega) (by omega), Option.bind_some, w3, ck_pos M.1, x1, bd_some]
      show ∃ h', _ = some (if vof tt w = 1 then vof c1 w else rhoC C w, h') ∧ _
      rcases W3 w with z | z
      · rw [z, if_pos (by decide +kernel), if_neg (by decide)]
        have A2 := A1.ag g1
        have M2 := M.ag g1 X54_np
        have lq : (((pre ++ c1 ++ tt : List CD).length : Nat) : Int) = pre.length + ((mm1 (c1, some tt)).length : Int) := by
          show _ = (pre.length : Int) + ((c1 ++ tt : List CD).length : Int)
          rw [List.length_append, List.length_append, List.length_append]; omega
        obtain ⟨h3, x3, g3⟩ := ih (pre ++ c1 ++ tt) e (i + 1) h1 (fun c hc => H c (List.mem_cons_of_mem _ hc)) A2 M2 (by rw [lq]; exact MLc.cg _ _ _ m2 fun x _ _ => g1.2.2.2 _ _ (by unfold X54; omega)) (by rw [g1.2.2.2 _ _ (by unfold X54; omega)]; omega) (by omega) (by omega)
        exact ⟨h3, x3, g1.tr g3⟩
      · rw [z, if_neg (by decide +kernel), if_pos rfl]
        exact sum h1 g1
/-- the Model's rule is worth what its clauses are -/
theorem m_MC {C : List Cla} (H : ∀ c ∈ C, WFc c) (k0 : 0 ≤ k) (k1 : k < 6) (N : MNw k C h) : MC k (rhoC C) h := by
  refine ⟨rhoC_ex C H, fun h' M e => ?_⟩
  obtain ⟨n1, n2, n3, n4, n5⟩ := N
  have A : MRc k ([] ++ mcl C) (h_V h' 55) h' := ⟨LSq.cg _ _ n3 fun i i0 i1 => e _ _ (Or.inl ⟨rfl, by omega, by have : (([] ++ mcl C : List CD).length : Int) = (mcl C).length := rfl; omega⟩), ⟨n4, k0, k1⟩, fun i _ _ => rfl⟩
  obtain ⟨h2, x2, g2⟩ := m_clauses C [] (1000000 - (C.length + 1)) 0 h' H A M (MLc.cg _ _ _ n2 fun x x0 x1 => e _ _ (Or.inr (Or.inl ⟨rfl, by omega, by omega⟩))) (by rw [e _ _ (Or.inr (Or.inr ⟨rfl, rfl⟩)), n1]; omega) (Int.le_refl 0) (by omega)
  refine ⟨h2, ?_, g2⟩
  have ef : C.length + 1 + (1000000 - (C.length + 1)) = fu_ := by unfold fu_; omega
  rw [ef] at x2
  exact x2
end
