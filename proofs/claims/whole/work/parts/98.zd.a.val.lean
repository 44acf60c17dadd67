/-! ===== a rule's codes: what they are worth ===== -/
def jn (o a c : Int) : Int := if o = 2 then a + c else if o = 3 then a - c else if o = 4 then a * c else if o = 5 then (if nm (l_cmp c 0) ≠ 0 then l_div a c else 0) else if o = 6 then (if nm (l_cmp c 0) ≠ 0 then l_rem a c else 0) else if o = 7 then (if 0 ≤ nm (l_cmp a c) then 0 else 1) else if o = 8 then (if 0 < nm (l_cmp a c) then 0 else 1) else if o = 9 then (if nm (l_cmp a c) ≠ 0 then 0 else 1) else if o = 10 then (if nm (l_cmp a c) < 0 then 0 else 1) else if o = 11 then (if nm (l_cmp a c) ≤ 0 then 0 else 1) else if o = 12 then l_and a c else l_or a c
def ev1 (w : Int → Int) (c : CD) (s : List Int) : Option (List Int) :=
  if c.1 = 0 then (if s.length < 32 ∧ 0 ≤ c.2 ∧ c.2 ≤ 99999 then some (c.2 :: s) else none)
  else if c.1 = 1 then (if s.length < 32 ∧ 0 ≤ c.2 ∧ c.2 < 10 then some (w c.2 :: s) else none)
  else if c.2 ≠ 0 then none
  else if c.1 = 14 then (match s with
    | a :: r => if a = 0 ∨ a = 1 then some ((1 - a) :: r) else none
    | [] => none)
  else if 2 ≤ c.1 ∧ c.1 ≤ 13 then (match s with
    | y :: x :: r => some (jn c.1 x y :: r)
    | _ => none)
  else none
def evs (w : Int → Int) : List CD → List Int → Option (List Int)
  | [], s => some s
  | c :: r, s => (ev1 w c s).bind (evs w r)
section
variable {w w' : Int → Int} {s s' : List Int} {cs : List CD}
theorem evs_ap : ∀ (r t : List CD) (s : List Int), evs w (r ++ t) s = (evs w r s).bind (evs w t)
  | [], _, _ => rfl
  | c :: r, t, s => by
    show (ev1 w c s).bind (evs w (r ++ t)) = ((ev1 w c s).bind (evs w r)).bind (evs w t)
    cases ev1 w c s with
    | none => rfl
    | some s' => exact evs_ap r t s'
theorem evs_seq {r t : List CD} (h : evs w r s = some s') : evs w (r ++ t) s = evs w t s' := by rw [evs_ap, h]; rfl
theorem ev1_cg (e : ∀ i, 0 ≤ i → i < 10 → w i = w' i) (c : CD) (s : List Int) : ev1 w c s = ev1 w' c s := by
  unfold ev1
  by_cases c0 : c.1 = 0
  · rw [if_pos c0, if_pos c0]
  rw [if_neg c0, if_neg c0]
  by_cases c1 : c.1 = 1
  · rw [if_pos c1, if_pos c1]
    by_cases c2 : s.length < 32 ∧ 0 ≤ c.2 ∧ c.2 < 10
    · rw [if_pos c2, if_pos c2, e _ c2.2.1 c2.2.2]
    · rw [if_neg c2, if_neg c2]
  · rw [if_neg c1, if_neg c1]
theorem evs_cg (e : ∀ i, 0 ≤ i → i < 10 → w i = w' i) : ∀ (cs : List CD) (s : List Int), evs w cs s = evs w' cs s
  | [], _ => rfl
  | c :: r, s => by
    show (ev1 w c s).bind (evs w r) = (ev1 w' c s).bind (evs w' r)
    rw [ev1_cg e]
    cases ev1 w' c s with
    | none => rfl
    | some s' => exact evs_cg e r s'
theorem ev_n {v : Int} (hs : s.length < 32) (v0 : 0 ≤ v) (v1 : v ≤ 99999) : ev1 w (0, v) s = some (v :: s) := by
  unfold ev1
  rw [if_pos rfl, if_pos ⟨hs, v0, v1⟩]
theorem ev_w {v : Int} (hs : s.length < 32) (v0 : 0 ≤ v) (v1 : v < 10) : ev1 w (1, v) s = some (w v :: s) := by
  unfold ev1
  dsimp only
  rw [if_neg (by decide), if_pos rfl, if_pos ⟨hs, v0, v1⟩]
theorem ev_j {o x y : Int} (o0 : 2 ≤ o) (o1 : o ≤ 13) : ev1 w (o, 0) (y :: x :: s) = some (jn o x y :: s) := by
  unfold ev1
  dsimp only
  rw [if_neg (by omega), if_neg (by omega), if_neg (fun z => z rfl), if_neg (by omega), if_pos ⟨o0, o1⟩]
theorem ev_not {a : Int} (ha : a = 0 ∨ a = 1) : ev1 w (14, 0) (a :: s) = some ((1 - a) :: s) := by
  unfold ev1
  dsimp only
  rw [if_neg (by decide), if_neg (by decide), if_neg (fun z => z rfl), if_pos rfl, if_pos ha]
/-- what a step may be -/
theorem ev1_cs {c : CD} (E : ev1 w c s = some s') : (c.1 = 0 ∧ s.length < 32 ∧ (0 ≤ c.2 ∧ c.2 ≤ 99999) ∧ s' = c.2 :: s) ∨ (c.1 = 1 ∧ s.length < 32 ∧ (0 ≤ c.2 ∧ c.2 < 10) ∧ s' = w c.2 :: s) ∨ (c.2 = 0 ∧ ((c.1 = 14 ∧ ∃ a r, s = a :: r ∧ (a = 0 ∨ a = 1) ∧ s' = (1 - a) :: r) ∨ ((2 ≤ c.1 ∧ c.1 ≤ 13) ∧ ∃ y x r, s = y :: x :: r ∧ s' = jn c.1 x y :: r))) := by
  unfold ev1 at E
  by_cases c0 : c.1 = 0
  · rw [if_pos c0] at E
    by_cases d : s.length < 32 ∧ 0 ≤ c.2 ∧ c.2 ≤ 99999
    · rw [if_pos d] at E
      exact Or.inl ⟨c0, d.1, d.2, (Option.some.inj E).symm⟩
    · rw [if_neg d] at E; cases E
  rw [if_neg c0] at E
  by_cases c1 : c.1 = 1
  · rw [if_pos c1] at E
    by_cases d : s.length < 32 ∧ 0 ≤ c.2 ∧ c.2 < 10
    · rw [if_pos d] at E
      exact Or.inr (Or.inl ⟨c1, d.1, d.2, (Option.some.inj E).symm⟩)
    · rw [if_neg d] at E; cases E
  rw [if_neg c1] at E
  by_cases c2 : c.2 = 0
  · rw [if_neg (fun z => z c2)] at E
    refine Or.inr (Or.inr ⟨c2, ?_⟩)
    by_cases c3 : c.1 = 14
    · rw [if_pos c3] at E
      cases s with
      | nil => cases E
      | cons a r =>
        dsimp only at E
        by_cases d : a = 0 ∨ a = 1
        · rw [if_pos d] at E
          exact Or.inl ⟨c3, a, r, rfl, d, (Option.some.inj E).symm⟩
        · rw [if_neg d] at E; cases E
    rw [if_neg c3] at E
    by_cases c4 : 2 ≤ c.1 ∧ c.1 ≤ 13
    · rw [if_pos c4] at E
      match s, E with
      | [], E => cases E
      | [_], E => cases E
      | y :: x :: r, E => exact Or.inr ⟨c4, y, x, r, rfl, (Option.some.inj E).symm⟩
    · rw [if_neg c4] at E; cases E
  · rw [if_pos c2] at E; cases E
theorem ev1_b {c : CD} (E : ev1 w c s = some s') (hs : s.length ≤ 32) : (0 ≤ c.1 ∧ c.1 ≤ 14) ∧ (0 ≤ c.2 ∧ c.2 ≤ 99999) ∧ s'.length ≤ 32 := by
  rcases ev1_cs E with ⟨a1, a2, a3, a4⟩ | ⟨a1, a2, a3, a4⟩ | ⟨a1, ⟨a2, a, r, a3, -, a4⟩ | ⟨a2, y, x, r, a3, a4⟩⟩
  · rw [a4, List.length_cons]; omega
  · rw [a4, List.length_cons]; omega
  · rw [a3, List.length_cons] at hs; rw [a4, List.length_cons]; omega
  · rw [a3, List.length_cons, List.length_cons] at hs; rw [a4, List.length_cons]; omega
/-- codes that leave one value more -/
def GV (cs : List CD) (K : Nat) (f : (Int → Int) → Int) : Prop := ∀ (w : Int → Int) (s : List Int), s.length ≤ K → evs w cs s = some (f w :: s)
theorem GV.mono {K K' : Nat} {f : (Int → Int) → Int} (H : GV cs K f) (h : K' ≤ K) : GV cs K' f := fun w s hs => H w s (by omega)
theorem GV.ex {K : Nat} {f : (Int → Int) → Int} (H : GV cs K f) : EX f := fun w w' e => by
  have h1 := H w [] (by simp)
  have h2 := H w' [] (by simp)
  rw [evs_cg e, h2] at h1
  simp only [Option.some.injEq, List.cons.injEq, and_true] at h1
  exact h1.symm
def vof (cs : List CD) (w : Int → Int) : Int := match evs w cs [] with
  | some (v :: _) => v
  | _ => 0
theorem GV.vo {K : Nat} {f : (Int → Int) → Int} (H : GV cs K f) : GV cs K (vof cs) ∧ ∀ w, vof cs w = f w := by
  have e : ∀ w, vof cs w = f w := fun w => by unfold vof; rw [H w [] (by simp)]
  exact ⟨fun w s hs => by rw [e w]; exact H w s hs, e⟩
end
section
variable {b : Int → Int} {L m p q : Int}
theorem pV_v (h : (pV b L m q).1 = 0) (q0 : 0 ≤ q) : ∃ f, GV (pV b L m q).2.1 31 f := by
  unfold pV at h ⊢
  by_cases c : q < L ∧ dg_ b q = true
  · rw [if_pos c] at h ⊢
    by_cases d : nfl b L 0 99999 q = 0
    · obtain ⟨-, n0, n1, -, -⟩ := nfl_0 d q0
      rw [if_neg (fun z => z d)] at h ⊢
      by_cases f : 60 ≤ m
      · rw [if_pos f] at h; have h' : 1 + 8 * q + 3 = 0 := h; omega
      · rw [if_neg f]
        refine ⟨fun _ => nvv b L q, fun w s hs => ?_⟩
        show (ev1 w (0, nvv b L q) s).bind (evs w []) = _
        rw [ev_n (by omega) n0.1 n0.2]; rfl
    · rw [if_pos d] at h; exact absurd h d
  · rw [if_neg c] at h ⊢
    have rb := rw_b b L q
    by_cases d : rw_ b L q = -1
    · rw [if_pos d] at h; have h' : 1 + 8 * q + 0 = 0 := h; omega
    · rw [if_neg d] at h ⊢
      by_cases f : 60 ≤ m
      · rw [if_pos f] at h; have h' : 1 + 8 * q + 3 = 0 := h; omega
      · rw [if_neg f]
        refine ⟨fun w => w (rw_ b L q), fun w s hs => ?_⟩
        show (ev1 w (1, rw_ b L q) s).bind (evs w []) = _
        rw [ev_w (by omega) (by omega) (by omega)]; rfl
theorem thn_0 {r : PR} {f : Int → Int → PR} (h : (thn r f).1 = 0) : r.1 = 0 ∧ (f r.2.2.1 r.2.2.2).1 = 0 ∧ (thn r f).2.1 = r.2.1 ++ (f r.2.2.1 r.2.2.2).2.1 := by
  unfold thn at h ⊢
  by_cases c : r.1 = 0
  · rw [if_neg (fun z => z c)] at h ⊢
    exact ⟨c, h, rfl⟩
  · rw [if_pos c] at h; exact absurd h c
/-- a sum's rest: what stands, with what waits -/
def stk (w x y : Int) (s : List Int) : List Int := if w = -1 then y :: s else y :: x :: s
theorem pS_v : ∀ (n : Nat) (w m p : Int), 0 ≤ p → p ≤ L → 0 ≤ m → m ≤ 60 → (w = -1 ∨ w = 2 ∨ w = 3) → (pS b L n w m p).1 = 0 → ∃ f : (Int → Int) → Int → Int → Int, ∀ (u : Int → Int) (x y : Int) (s : List Int), s.length ≤ 29 → evs u (pS b L n w m p).2.1 (stk w x y s) = some (f u x y :: s)
  | 0, w, m, p, p0, p1, m0, m1, hw, h => by
    have : (1 : Int) = 0 := h
    omega
  | n + 1, w, m, p, p0, p1, m0, m1, hw, h => by
    have g := sk_ge (b := b) (L := L) p
    have l := sk_le (b := b) p1
    have wd : ∃ f : (Int → Int) → Int → Int → Int, ∀ (u : Int → Int) (x y : Int) (s : List Int), evs u (wc w) (stk w x y s) = some (f u x y :: s) := by
      by_cases c : w = -1
      · refine ⟨fun _ _ y => y, fun u x y s => ?_⟩
        unfold wc stk
        rw [if_pos c, if_pos c]; rfl
      · refine ⟨fun _ x y => jn w x y, fun u x y s => ?_⟩
        unfold wc stk
        rw [if_neg c, if_neg c]
        show (ev1 u (w, 0) (y :: x :: s)).bind (evs u []) = _
        rw [ev_j (by omega) (by omega)]; rfl
    obtain ⟨f0, hf0⟩ := wd
    unfold pS at h ⊢
    by_cases c : opc (ch b L (sk b L p)) = -1
    · rw [if_pos c]
      exact ⟨f0, fun u x y s _ => hf0 u x y s⟩
    rw [if_neg c] at h ⊢
    have lt := opc_lt c
    have ob := opc_b (ch b L (sk b L p))
    have g2 := sk_ge (b := b) (L := L) (sk b L p + 1)
    have l2 := sk_le (b := b) (show sk b L p + 1 ≤ L by omega)
    have vg := pV_g (b := b) (L := L) (m := m) (q := sk b L (sk b L p + 1)) (by omega) l2 m0 m1
    by_cases d : opc (ch b L (sk b L p)) ≤ 3
    · rw [if_pos d] at h ⊢
      obtain ⟨-, h2, e2⟩ := thn_0 h
      obtain ⟨h3, h4, e4⟩ := thn_0 h2
      have h3' : (pV b L m (sk b L (sk b L p + 1))).1 = 0 := h3
      obtain ⟨v, hv⟩ := pV_v h3' (by omega)
      have r := vg.2 h3'
      obtain ⟨f1, hf1⟩ := pS_v n (opc (ch b L (sk b L p))) _ _ (by show 0 ≤ (pV b L m (sk b L (sk b L p + 1))).2.2.2; omega) r.2.1 r.2.2.1.1 r.2.2.1.2 (by omega) h4
      refine ⟨fun u x y => f1 u (f0 u x y) (v u), fun u x y s hs => ?_⟩
      rw [e2, e4]
      have := hf1 u (f0 u x y) (v u) s hs
      unfold stk at this
      rw [if_neg c] at this
      refine (evs_seq (hf0 u x y s)).trans ((evs_seq (hv u _ (by simp only [List.length_cons]; omega))).trans this)
    · rw [if_neg d] at h ⊢
      obtain ⟨h3, h2, e2⟩ := thn_0 h
      obtain ⟨-, h4, e4⟩ := thn_0 h2
      obtain ⟨v, hv⟩ := pV_v h3 (by omega)
      have r := vg.2 h3
      obtain ⟨f1, hf1⟩ := pS_v n w _ _ (by show 0 ≤ (pV b L m (sk b L (sk b L p + 1))).2.2.2; omega) r.2.1 r.2.2.1.1 r.2.2.1.2 hw h4
      refine ⟨fun u x y => f1 u x (jn (opc (ch b L (sk b L p))) y (v u)), fun u x y s hs => ?_⟩
      rw [e2, e4]
      have hl : (stk w x y s).length ≤ 31 := by
        unfold stk
        split <;> simp only [List.length_cons] <;> omega
      have key : evs u (emt [(opc (ch b L (sk b L p)), 0)] (pV b L m (sk b L (sk b L p + 1))).2.2.1 (pV b L m (sk b L (sk b L p + 1))).2.2.2).2.1 (v u :: stk w x y s) = some (stk w x (jn (opc (ch b L (sk b L p))) y (v u)) s) := by
        show (ev1 u (opc (ch b L (sk b L p)), 0) (v u :: stk w x y s)).bind (evs u []) = _
        unfold stk
        by_cases cw : w = -1
        · rw [if_pos cw, if_pos cw, ev_j (by omega) (by omega)]; rfl
        · rw [if_neg cw, if_neg cw, ev_j (by omega) (by omega)]; rfl
      exact (evs_seq (hv u _ hl)).trans ((evs_seq key).trans (hf1 u x _ s hs))
theorem pSum_v (p0 : 0 ≤ p) (p1 : p ≤ L) (m0 : 0 ≤ m) (m1 : m ≤ 60) (h : (pSum b L m p).1 = 0) : ∃ f, GV (pSum b L m p).2.1 29 f := by
  have g := sk_ge (b := b) (L := L) p
  have l := sk_le (b := b) p1
  have vg := pV_g (b := b) (L := L) (m := m) (q := sk b L p) (by omega) l m0 m1
  unfold pSum at h ⊢
  obtain ⟨h1, h2, e2⟩ := thn_0 h
  obtain ⟨v, hv⟩ := pV_v h1 (by omega)
  have r := vg.2 h1
  obtain ⟨f1, hf1⟩ := pS_v 400 (-1) _ _ (by omega) r.2.1 r.2.2.1.1 r.2.2.1.2 (Or.inl rfl) h2
  refine ⟨fun u => f1 u 0 (v u), fun u s hs => ?_⟩
  rw [e2]
  exact (evs_seq (hv u s (by omega))).trans (hf1 u 0 (v u) s hs)
/-- a test's value -/
def tv (f : (Int → Int) → Int) : Prop := ∀ u, f u = 0 ∨ f u = 1
theorem jn_01 {o x y : Int} (o0 : 7 ≤ o) (o1 : o ≤ 11) : jn o x y = 0 ∨ jn o x y = 1 := by
  unfold jn
  rw [if_neg (by omega), if_neg (by omega), if_neg (by omega), if_neg (by omega), if_neg (by omega)]
  by_cases c7 : o = 7
  · rw [if_pos c7]; split <;> omega
  rw [if_neg c7]
  by_cases c8 : o = 8
  · rw [if_pos c8]; split <;> omega
  rw [if_neg c8]
  by_cases c9 : o = 9
  · rw [if_pos c9]; split <;> omega
  rw [if_neg c9]
  by_cases c10 : o = 10
  · rw [if_pos c10]; split <;> omega
  rw [if_neg c10, if_pos (by omega)]; split <;> omega
theorem jn_ao {o x y : Int} (ho : o = 12 ∨ o = 13) (hx : x = 0 ∨ x = 1) (hy : y = 0 ∨ y = 1) : jn o x y = 0 ∨ jn o x y = 1 := by
  rcases ho with rfl | rfl <;> rcases hx with rfl | rfl <;> rcases hy with rfl | rfl <;> decide +kernel
theorem pC_v (hL : L ≤ 400) (p0 : 0 ≤ p) (p1 : p ≤ L) (m0 : 0 ≤ m) (m1 : m ≤ 60) (h : (pC b L m p).1 = 0) : ∃ f, tv f ∧ GV (pC b L m p).2.1 28 f := by
  have sg := pSum_g (b := b) p0 p1 hL m0 m1
  unfold pC at h ⊢
  obtain ⟨h1, h2, e2⟩ := thn_0 h
  obtain ⟨v, hv⟩ := pSum_v p0 p1 m0 m1 h1
  have s := sg.2 h1
  rw [e2]
  generalize (pSum b L m p).2.2.2 = p' at *
  generalize (pSum b L m p).2.2.1 = m' at *
  generalize (pSum b L m p).2.1 = c0 at *
  have g := sk_ge (b := b) (L := L) p'
  have bad0 : ∀ {k : Int}, 0 ≤ k → ¬ (bad (1 + 8 * sk b L p' + k) m' p').1 = 0 := fun {k} k0 z => by
    have : 1 + 8 * sk b L p' + k = 0 := z
    omega
  unfold pC2 at h2 ⊢
  by_cases c : cmp_ b L (sk b L p') = -1
  · rw [if_pos c] at h2; exact absurd h2 (bad0 (by decide))
  rw [if_neg c] at h2 ⊢
  have cb := cme_b c
  have cc := cmp_b b L (sk b L p')
  by_cases d : 60 ≤ m'
  · rw [if_pos d] at h2; exact absurd h2 (bad0 (by decide))
  rw [if_neg d] at h2 ⊢
  obtain ⟨h3, -, e4⟩ := thn_0 h2
  obtain ⟨v2, hv2⟩ := pSum_v (by omega) cb.2 (by omega) (by omega) h3
  refine ⟨fun u => jn (cmp_ b L (sk b L p')) (v u) (v2 u), fun u => jn_01 (by omega) (by omega), fun u s hs => ?_⟩
  rw [e4]
  refine (evs_seq (hv u s (by omega))).trans ((evs_seq (hv2 u _ (by simp only [List.length_cons]; omega))).trans ?_)
  show (ev1 u (cmp_ b L (sk b L p'), 0) (v2 u :: v u :: s)).bind (evs u []) = _
  rw [ev_j (by omega) (by omega)]; rfl
/-- facts joined: what stands -/
def stj (wt : Bool) (x y : Int) (s : List Int) : List Int := if wt = true then y :: x :: s else y :: s
theorem wo_v (wt : Bool) : ∃ f : Int → Int → Int, (∀ x y, (x = 0 ∨ x = 1) → (y = 0 ∨ y = 1) → f x y = 0 ∨ f x y = 1) ∧ ∀ (u : Int → Int) (x y : Int) (s : List Int), evs u (wo wt) (stj wt x y s) = some (f x y :: s) := by
  cases wt
  · exact ⟨fun _ y => y, fun x y _ hy => hy, fun u x y s => rfl⟩
  · refine ⟨fun x y => jn 13 x y, fun x y hx hy => jn_ao (Or.inr rfl) hx hy, fun u x y s => ?_⟩
    show (ev1 u (13, 0) (y :: x :: s)).bind (evs u []) = _
    rw [ev_j (by decide) (by decide)]; rfl
theorem pT_v {F : Int → Int → PR} {K : Nat} (hF : ∀ m p, 0 ≤ p → p ≤ L → 0 ≤ m → m ≤ 60 → PG L (F m p) 0 p ∧ ((F m p).1 = 0 → ∃ f, tv f ∧ GV (F m p).2.1 (K + 2) f)) : ∀ (n : Nat) (wt : Bool) (m p : Int), 0 ≤ p → p ≤ L → 0 ≤ m → m ≤ 60 → (pT b L F n wt m p).1 = 0 → ∃ f : (Int → Int) → Int → Int → Int, (∀ u x y, (x = 0 ∨ x = 1) → (y = 0 ∨ y = 1) → f u x y = 0 ∨ f u x y = 1) ∧ ∀ (u : Int → Int) (x y : Int) (s : List Int), s.length ≤ K → (x = 0 ∨ x = 1) → (y = 0 ∨ y = 1) → evs u (pT b L F n wt m p).2.1 (stj wt x y s) = some (f u x y :: s)
  | 0, wt, m, p, p0, p1, m0, m1, h => by
    have : (1 : Int) = 0 := h
    omega
  | n + 1, wt, m, p, p0, p1, m0, m1, h => by
    have g := sk_ge (b := b) (L := L) p
    have l := sk_le (b := b) p1
    have lE : wen b L (sk b L p) ≤ L := sc_le _ l
    have gE : sk b L p ≤ wen b L (sk b L p) := sc_ge _
    have ff := hF m (wen b L (sk b L p)) (by omega) lE m0 m1
    obtain ⟨f0, t0, hf0⟩ := wo_v wt
    unfold pT at h ⊢
    by_cases c : jw b L (sk b L p) = -1
    · rw [if_pos c]
      exact ⟨fun _ => f0, fun _ => t0, fun u x y s _ _ _ => hf0 u x y s⟩
    rw [if_neg c] at h ⊢
    by_cases d : jw b L (sk b L p) = 0
    · rw [if_pos d] at h ⊢
      obtain ⟨-, h2, e2⟩ := thn_0 h
      obtain ⟨h3, h4, e4⟩ := thn_0 h2
      have h3' : (F m (wen b L (sk b L p))).1 = 0 := h3
      obtain ⟨v, tv', hv⟩ := ff.2 h3'
      have s1 := ff.1.2 h3'
      obtain ⟨f1, t1, hf1⟩ := pT_v hF n true _ _ (by show 0 ≤ (F m (wen b L (sk b L p))).2.2.2; omega) s1.2.1 s1.2.2.1.1 s1.2.2.1.2 h4
      refine ⟨fun u x y => f1 u (f0 x y) (v u), fun u x y hx hy => t1 u _ _ (t0 x y hx hy) (tv' u), fun u x y s hs hx hy => ?_⟩
      rw [e2, e4]
      exact (evs_seq (hf0 u x y s)).trans ((evs_seq (hv u _ (by simp only [List.length_cons]; omega))).trans (hf1 u (f0 x y) (v u) s hs (t0 x y hx hy) (tv' u)))
    · rw [if_neg d] at h ⊢
      obtain ⟨h3, h2, e2⟩ := thn_0 h
      obtain ⟨-, h4, e4⟩ := thn_0 h2
      obtain ⟨v, tv', hv⟩ := ff.2 h3
      have s1 := ff.1.2 h3
      obtain ⟨f1, t1, hf1⟩ := pT_v hF n wt _ _ (by show 0 ≤ (F m (wen b L (sk b L p))).2.2.2; omega) s1.2.1 s1.2.2.1.1 s1.2.2.1.2 h4
      refine ⟨fun u x y => f1 u x (jn 12 y (v u)), fun u x y hx hy => t1 u _ _ hx (jn_ao (Or.inl rfl) hy (tv' u)), fun u x y s hs hx hy => ?_⟩
      rw [e2, e4]
      have hl : (stj wt x y s).length ≤ K + 2 := by
        unfold stj
        split <;> simp only [List.length_cons] <;> omega
      have key : evs u (emt [(12, 0)] (F m (wen b L (sk b L p))).2.2.1 (F m (wen b L (sk b L p))).2.2.2).2.1 (v u :: stj wt x y s) = some (stj wt x (jn 12 y (v u)) s) := by
        show (ev1 u (12, 0) (v u :: stj wt x y s)).bind (evs u []) = _
        cases wt
        · show (ev1 u (12, 0) (v u :: y :: s)).bind (evs u []) = _
          rw [ev_j (by decide) (by decide)]; rfl
        · show (ev1 u (12, 0) (v u :: y :: x :: s)).bind (evs u []) = _
          rw [ev_j (by decide) (by decide)]; rfl
      exact (evs_seq (hv u _ hl)).trans ((evs_seq key).trans (hf1 u x _ s hs hx (jn_ao (Or.inl rfl) hy (tv' u))))
theorem pD_v (hL : L ≤ 400) : ∀ (n : Nat) (w d m p : Int), 0 ≤ d → d ≤ 10 → 0 ≤ p → p ≤ L → 0 ≤ m → m ≤ 60 → (pD b L n w d m p).1 = 0 → ∃ f, tv f ∧ GV (pD b L n w d m p).2.1 ((if w = 0 then 6 else 8) + 2 * d.toNat) f
  | 0, w, d, m, p, d0, d1, p0, p1, m0, m1, h => by
    have : (1 : Int) = 0 := h
    omega
  | n + 1, w, d, m, p, d0, d1, p0, p1, m0, m1, h => by
    have g := sk_ge (b := b) (L := L) p
    have l := sk_le (b := b) p1
    have lE : wen b L (sk b L p) ≤ L := sc_le _ l
    have gE : sk b L p ≤ wen b L (sk b L p) := sc_ge _
    have bad0 : ∀ {k : Int}, 0 ≤ k → ¬ (bad (1 + 8 * sk b L p + k) m p).1 = 0 := fun {k} k0 z => by
      have : 1 + 8 * sk b L p + k = 0 := z
      omega
    unfold pD at h ⊢
    by_cases c : w = 0
    · rw [if_pos c] at h ⊢
      obtain ⟨h1, h2, e2⟩ := thn_0 h
      have fg := (pD_g (b := b) hL n 1 d m p p0 p1 m0 m1).2 h1
      obtain ⟨v, tv', hv⟩ := pD_v hL n 1 d m p d0 d1 p0 p1 m0 m1 h1
      rw [if_neg (by decide)] at hv
      obtain ⟨f1, t1, hf1⟩ := pT_v (K := 6 + 2 * d.toNat) (fun m p a1 a2 a3 a4 => ⟨pD_g hL n 1 d m p a1 a2 a3 a4, fun z => by
        obtain ⟨v, tv', hv⟩ := pD_v hL n 1 d m p d0 d1 a1 a2 a3 a4 z
        rw [if_neg (by decide)] at hv
        exact ⟨v, tv', hv.mono (by omega)⟩⟩) 400 false _ _ (by omega) fg.2.1 fg.2.2.1.1 fg.2.2.1.2 h2
      refine ⟨fun u => f1 u 0 (v u), fun u => t1 u 0 _ (Or.inl rfl) (tv' u), fun u s hs => ?_⟩
      rw [if_pos c] at hs
      rw [e2]
      exact (evs_seq (hv u s (by omega))).trans (hf1 u 0 (v u) s hs (Or.inl rfl) (tv' u))
    rw [if_neg c] at h ⊢
    rw [if_neg c]
    unfold pF at h ⊢
    by_cases c1 : ch b L (sk b L p) = 91
    · have lt := ch_lt (by decide) c1
      rw [if_pos c1] at h ⊢
      by_cases c2 : 10 ≤ d
      · rw [if_pos c2] at h; exact absurd h (bad0 (by decide))
      rw [if_neg c2] at h ⊢
      obtain ⟨h1, h2, e2⟩ := thn_0 h
      obtain ⟨v, tv', hv⟩ := pD_v hL n 0 (d + 1) m (sk b L p + 1) (by omega) (by omega) (by omega) (by omega) m0 m1 h1
      rw [if_pos rfl] at hv
      have fg := (pD_g (b := b) hL n 0 (d + 1) m (sk b L p + 1) (by omega) (by omega) m0 m1).2 h1
      refine ⟨v, tv', ?_⟩
      rw [e2]
      have : (pF2 b L (pD b L n 0 (d + 1) m (sk b L p + 1)).2.2.1 (pD b L n 0 (d + 1) m (sk b L p + 1)).2.2.2).2.1 = [] := by
        unfold pF2
        split <;> rfl
      rw [this, List.append_nil]
      exact hv.mono (by omega)
    rw [if_neg c1] at h ⊢
    by_cases c3 : pk b L (sk b L p) = 7237492
    · rw [if_pos c3] at h ⊢
      by_cases c2 : 10 ≤ d
      · rw [if_pos c2] at h; exact absurd h (bad0 (by decide))
      rw [if_neg c2] at h ⊢
      obtain ⟨h1, h2, e2⟩ := thn_0 h
      obtain ⟨v, tv', hv⟩ := pD_v hL n 1 (d + 1) m (wen b L (sk b L p)) (by omega) (by omega) (by omega) lE m0 m1 h1
      rw [if_neg (by decide)] at hv
      refine ⟨fun u => 1 - v u, fun u => by have := tv' u; show 1 - v u = 0 ∨ 1 - v u = 1; omega, fun u s hs => ?_⟩
      rw [e2]
      refine (evs_seq (hv u s (by omega))).trans ?_
      show (ev1 u (14, 0) (v u :: s)).bind (evs u []) = _
      rw [ev_not (tv' u)]; rfl
    · rw [if_neg c3] at h ⊢
      obtain ⟨v, tv', hv⟩ := pC_v hL p0 p1 m0 m1 h
      exact ⟨v, tv', hv.mono (by omega)⟩
/-- a clause, a rule -/
def WFc (c : Cla) : Prop := GV c.1 29 (vof c.1) ∧ ∀ t, c.2 = some t → GV t 6 (vof t) ∧ tv (vof t)
def rhoC : List Cla → (Int → Int) → Int
  | [], _ => 0
  | c :: r, w => match c.2 with
    | none => vof c.1 w
    | some t => if vof t w = 1 then vof c.1 w else rhoC r w
theorem rhoC_ex : ∀ (C : List Cla), (∀ c ∈ C, WFc c) → EX (rhoC C)
  | [], _ => fun _ _ _ => rfl
  | c :: r, H => fun w w' e => by
    have h1 := H c List.mem_cons_self
    have ih := rhoC_ex r fun c hc => H c (List.mem_cons_of_mem _ hc)
    have e1 := h1.1.ex w w' e
    have ih' := ih w w' e
    obtain ⟨c1, c2⟩ := c
    cases c2 with
    | none => exact e1
    | some t =>
      have e2 := (h1.2 t rfl).1.ex w w' e
      show (if vof t w = 1 then vof c1 w else rhoC r w) = (if vof t w' = 1 then vof c1 w' else rhoC r w')
      dsimp only at e1
      rw [e1, e2, ih']
theorem pK1_v (hL : L ≤ 400) (p0 : 0 ≤ p) (p1 : p ≤ L) (m0 : 0 ≤ m) (m1 : m ≤ 60) (h : (pK1 b L m p).1 = 0) : WFc (pK1 b L m p).2.1 := by
  have sg := pSum_g (b := b) p0 p1 hL m0 m1
  have sv := pSum_v (b := b) p0 p1 m0 m1
  unfold pK1 at h ⊢
  generalize pSum b L m p = s at *
  by_cases c : s.1 = 0
  · have s1 := sg.2 c
    obtain ⟨v, hv⟩ := sv c
    have g := sk_ge (b := b) (L := L) s.2.2.2
    have ls := sk_le (b := b) s1.2.1
    have gE : sk b L s.2.2.2 ≤ wen b L (sk b L s.2.2.2) := sc_ge _
    have lE : wen b L (sk b L s.2.2.2) ≤ L := sc_le _ ls
    rw [if_neg (fun z => z c)] at h ⊢
    unfold pK2 at h ⊢
    by_cases d : pk b L (sk b L s.2.2.2) = 26982
    · rw [if_pos d] at h ⊢
      obtain ⟨v2, t2, hv2⟩ := pD_v hL 40 0 0 s.2.2.1 (wen b L (sk b L s.2.2.2)) (by decide) (by decide) (by omega) lE s1.2.2.1.1 s1.2.2.1.2 h
      refine ⟨hv.vo.1, fun t ht => ?_⟩
      have et : (pD b L 40 0 0 s.2.2.1 (wen b L (sk b L s.2.2.2))).2.1 = t := Option.some.inj ht
      rw [et] at hv2
      exact ⟨hv2.vo.1, fun u => by rw [hv2.vo.2 u]; exact t2 u⟩
    · rw [if_neg d]
      exact ⟨hv.vo.1, fun t ht => by cases ht⟩
  · rw [if_pos c] at h; exact absurd h c
theorem pR_v (hL0 : 0 ≤ L) (hL : L ≤ 400) : ∀ (n : Nat) (i m p : Int), 0 ≤ p → p ≤ L → 0 ≤ m → m ≤ 60 → (pR b L n i m p).1 = 0 → ∀ c ∈ (pR b L n i m p).2, WFc c
  | 0, i, m, p, p0, p1, m0, m1, h => by
    have : (1 : Int) = 0 := h
    omega
  | n + 1, i, m, p, p0, p1, m0, m1, h => by
    have g := sk_ge (b := b) (L := L) p
    have ls := sk_le (b := b) p1
    have gE : sk b L p ≤ wen b L (sk b L p) := sc_ge _
    have lE : wen b L (sk b L p) ≤ L := sc_le _ ls
    have kv := pK1_v (b := b) (L := L) (m := m) (p := wen b L (sk b L p)) hL (by omega) lE m0 m1
    have kg := pK1_g (b := b) (L := L) (m := m) (p := wen b L (sk b L p)) (by omega) lE hL m0 m1
    rw [pR_e n p0] at h ⊢
    have cv : (pCl b L i m p).1 = 0 → WFc (pCl b L i m p).2.1 ∧ (0 ≤ (pCl b L i m p).2.2.1 ∧ (pCl b L i m p).2.2.1 ≤ 60) ∧ 0 ≤ (pCl b L i m p).2.2.2 ∧ (pCl b L i m p).2.2.2 ≤ L := by
      unfold pCl
      split
      · intro z
        have : 1 + 8 * sk b L p + 0 = 0 := z
        omega
      · split
        · intro z
          have : 1 + 8 * sk b L p + 4 = 0 := z
          omega
        · intro z
          have := kg.2 z
          exact ⟨kv z, this.2.2.1, by omega, this.2.1⟩
    generalize pCl b L i m p = K at *
    unfold pR2 at h ⊢
    by_cases c : K.1 = 0
    · have k := cv c
      have g2 := sk_ge (b := b) (L := L) K.2.2.2
      rw [if_neg (fun z => z c)] at h ⊢
      by_cases c1 : ch b L (sk b L K.2.2.2) = -1
      · rw [if_pos c1]
        intro x hx
        have : x = K.2.1 := by simpa using hx
        rw [this]; exact k.1
      rw [if_neg c1] at h ⊢
      by_cases c2 : ch b L (sk b L K.2.2.2) = 59
      · have lt := ch_lt (by decide) c2
        rw [if_pos c2] at h ⊢
        have ih := pR_v hL0 hL n (i + 1) K.2.2.1 (sk b L K.2.2.2 + 1) (by omega) (by omega) k.2.1.1 k.2.1.2 h
        intro x hx
        rcases List.mem_cons.1 hx with z | z
        · rw [z]; exact k.1
        · exact ih x z
      · rw [if_neg c2] at h
        have : 1 + 8 * sk b L K.2.2.2 + 0 = 0 := h
        omega
    · rw [if_pos c] at h; exact absurd h c
end
