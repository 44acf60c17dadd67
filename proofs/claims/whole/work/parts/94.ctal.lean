/-! ===== the class's Tally ===== -/
def TS (t : Int) (h : AH) : Prop := h_T h t = 8 ∧ (h_V h t 0 = t + 1 ∧ h_V h t 1 = t + 2 ∧ h_V h t 2 = t + 3 ∧ h_V h t 3 = t + 4) ∧ (h_T h (t + 1) = 21 ∧ h_N h (t + 1) = 5) ∧ (h_T h (t + 2) = 20 ∧ h_N h (t + 2) = 5) ∧ (h_T h (t + 3) = 20 ∧ h_N h (t + 3) = 5) ∧ (h_T h (t + 4) = 20 ∧ h_N h (t + 4) = 5)
theorem TS.ag {X : Int → Int → Prop} {t : Int} {h h' : AH} (H : TS t h) (g : Ag X h h') (hX : ∀ i, 0 ≤ i → i ≤ 3 → ¬ X t i) : TS t h' := by
  obtain ⟨a0, ⟨b0, b1, b2, b3⟩, c0, c1, c2, c3⟩ := H
  refine ⟨by rw [g.2.1, a0], ⟨?_, ?_, ?_, ?_⟩, ?_, ?_, ?_, ?_⟩
  · rw [g.2.2.2 _ _ (hX 0 (by decide) (by decide)), b0]
  · rw [g.2.2.2 _ _ (hX 1 (by decide) (by decide)), b1]
  · rw [g.2.2.2 _ _ (hX 2 (by decide) (by decide)), b2]
  · rw [g.2.2.2 _ _ (hX 3 (by decide) (by decide)), b3]
  · rw [g.2.1, g.2.2.1]; exact c0
  · rw [g.2.1, g.2.2.1]; exact c1
  · rw [g.2.1, g.2.2.1]; exact c2
  · rw [g.2.1, g.2.2.1]; exact c3
theorem TS.g0 {t : Int} {h : AH} (H : TS t h) : g_f h 8 t 0 = some (t + 1) := by rw [gf_pos H.1, H.2.1.1]
theorem TS.g1 {t : Int} {h : AH} (H : TS t h) : g_f h 8 t 1 = some (t + 2) := by rw [gf_pos H.1, H.2.1.2.1]
theorem TS.g2 {t : Int} {h : AH} (H : TS t h) : g_f h 8 t 2 = some (t + 3) := by rw [gf_pos H.1, H.2.1.2.2.1]
theorem TS.g3 {t : Int} {h : AH} (H : TS t h) : g_f h 8 t 3 = some (t + 4) := by rw [gf_pos H.1, H.2.1.2.2.2]
theorem TS.a0 {t i : Int} {h : AH} (H : TS t h) (h0 : 0 ≤ i) (h1 : i < 5) : a_g h 21 (t + 1) i = some (h_V h (t + 1) i) := ag_pos H.2.2.1.1 H.2.2.1.2 (by decide) h0 h1
theorem TS.a1 {t i : Int} {h : AH} (H : TS t h) (h0 : 0 ≤ i) (h1 : i < 5) : a_g h 20 (t + 2) i = some (h_V h (t + 2) i) := ag_pos H.2.2.2.1.1 H.2.2.2.1.2 (by decide) h0 h1
theorem TS.a2 {t i : Int} {h : AH} (H : TS t h) (h0 : 0 ≤ i) (h1 : i < 5) : a_g h 20 (t + 3) i = some (h_V h (t + 3) i) := ag_pos H.2.2.2.2.1.1 H.2.2.2.2.1.2 (by decide) h0 h1
theorem TS.a3 {t i : Int} {h : AH} (H : TS t h) (h0 : 0 ≤ i) (h1 : i < 5) : a_g h 20 (t + 4) i = some (h_V h (t + 4) i) := ag_pos H.2.2.2.2.2.1 H.2.2.2.2.2.2 (by decide) h0 h1
theorem TS.w0 {t i v : Int} {h : AH} (H : TS t h) (h0 : 0 ≤ i) (h1 : i < 5) : a_s h 21 (t + 1) i v = some (h_S h (t + 1) i v) := as_pos H.2.2.1.1 H.2.2.1.2 (by decide) h0 h1
theorem TS.w1 {t i v : Int} {h : AH} (H : TS t h) (h0 : 0 ≤ i) (h1 : i < 5) : a_s h 20 (t + 2) i v = some (h_S h (t + 2) i v) := as_pos H.2.2.2.1.1 H.2.2.2.1.2 (by decide) h0 h1
theorem TS.w2 {t i v : Int} {h : AH} (H : TS t h) (h0 : 0 ≤ i) (h1 : i < 5) : a_s h 20 (t + 3) i v = some (h_S h (t + 3) i v) := as_pos H.2.2.2.2.1.1 H.2.2.2.2.1.2 (by decide) h0 h1
theorem TS.w3 {t i v : Int} {h : AH} (H : TS t h) (h0 : 0 ≤ i) (h1 : i < 5) : a_s h 20 (t + 4) i v = some (h_S h (t + 4) i v) := as_pos H.2.2.2.2.2.1 H.2.2.2.2.2.2 (by decide) h0 h1
theorem TS.st {t a i v : Int} {h : AH} (H : TS t h) (ha : a ≠ t ∨ 4 ≤ i) : TS t (h_S h a i v) :=
  H.ag (X := fun b j => b = a ∧ j = i) (Ag.rf.st ⟨rfl, rfl⟩) (fun j j0 j1 z => by omega)
/-- a Tally tells of a row 'said' -/
def TV (sd : Int → Int) (t : Int) (h : AH) (s : Int) : Prop := BR (h_V h (t + 1) s) (fun p => in_ sd p s 0) ∧ h_V h (t + 2) s = mi_ sd s 1 ∧ h_V h (t + 3) s = mi_ sd s 2 ∧ h_V h (t + 4) s = sd (1090 + s)
def TR (sd : Int → Int) (t : Int) (h : AH) : Prop := TS t h ∧ (h_V h t 4 = sd 2 ∧ h_V h t 5 = sd 128) ∧ ∀ s, 0 ≤ s → s < sd 2 → TV sd t h s
/-- cells of the Tally -/
def XT (t a i : Int) : Prop := (a = t ∧ 4 ≤ i) ∨ (t + 1 ≤ a ∧ a ≤ t + 4)
theorem TR.ag {X : Int → Int → Prop} {sd : Int → Int} {t : Int} {h h' : AH} (H : TR sd t h) (g : Ag X h h') (hX : ∀ a i, X a i → a < t ∨ t + 4 < a ∨ (a = t ∧ 6 ≤ i)) : TR sd t h' := by
  obtain ⟨h1, h2, h3⟩ := H
  have v : ∀ a i, t ≤ a → a ≤ t + 4 → (a = t → i ≤ 5) → h_V h' a i = h_V h a i := fun a i a0 a1 a2 => g.2.2.2 _ _ fun z => by have := hX _ _ z; omega
  refine ⟨h1.ag g fun i i0 i1 z => by have := hX _ _ z; omega, ?_, fun s s0 s1 => ?_⟩
  · rw [v _ _ (by omega) (by omega) (by omega), v _ _ (by omega) (by omega) (by omega)]; exact h2
  · have := h3 s s0 s1
    unfold TV at this ⊢
    rw [v (t + 1) _ (by omega) (by omega) (by omega), v (t + 2) _ (by omega) (by omega) (by omega), v (t + 3) _ (by omega) (by omega) (by omega), v (t + 4) _ (by omega) (by omega) (by omega)]
    exact this
theorem in_hi {sd : Int → Int} {p s w : Int} (h : sd 1 ≤ p) : in_ sd p s w = false := by
  unfold in_ pa_
  rw [decide_eq_false (by omega)]; rfl
theorem cn_x {P : Int → Bool} {a b c : Int} (h1 : a ≤ b) (h2 : b ≤ c) (h : ∀ i, b ≤ i → i < c → P i = false) : cn_ P a c = cn_ P a b := by
  unfold cn_
  rw [show (c - a).toNat = (b - a).toNat + (c - b).toNat by omega, ct_ad, ct_0 (c - b).toNat _ fun i i0 i1 => h i (by omega) (by omega)]
  omega
theorem mi_60 {sd : Int → Int} (w1 : 0 ≤ sd 1 ∧ sd 1 ≤ 60) (s w : Int) : cn_ (fun p => in_ sd p s w) 0 60 = mi_ sd s w :=
  cn_x w1.1 w1.2 fun i i0 i1 => in_hi i0
theorem lo_LB {sd : Int → Int} (w1 : 0 ≤ sd 1 ∧ sd 1 ≤ 60) {s : Int} (h : 0 ≤ lo_ sd s) : LB (fun p => in_ sd p s 0) (lo_ sd s) := by
  rcases ff_sp (fun p => in_ sd p s 0) w1.1 with ⟨e, -⟩ | ⟨e1, e2, e3, e4⟩
  · have : lo_ sd s = -1 := e
    omega
  · exact ⟨e1, by show ff_ _ 0 _ < 60; omega, e3, e4⟩
theorem lo_n {sd : Int → Int} (w1 : 0 ≤ sd 1 ∧ sd 1 ≤ 60) {s : Int} : lo_ sd s = -1 ↔ ∀ p, 0 ≤ p → p < 60 → in_ sd p s 0 = false := by
  rcases ff_sp (fun p => in_ sd p s 0) w1.1 with ⟨e, f⟩ | ⟨e1, e2, e3, e4⟩
  · refine ⟨fun _ p p0 p1 => ?_, fun _ => e⟩
    by_cases c : p < sd 1
    · exact f p p0 c
    · exact in_hi (by omega)
  · constructor
    · intro e
      have : ff_ (fun p => in_ sd p s 0) 0 (sd 1) = -1 := e
      omega
    · intro f
      have := f (ff_ (fun p => in_ sd p s 0) 0 (sd 1)) e1 (by omega)
      rw [e3] at this; simp at this
theorem nl_r {z : Int} (h : RG z) : nl z = z := nl_id h.1 h.2
theorem BR.nl0 {z : Int} {P : Int → Bool} (h : BR z P) : nl z = nl 0 ↔ z = 0 := by
  rw [nl_r h.rl, show nl 0 = 0 by decide +kernel]
theorem TV.lo0 {sd : Int → Int} {t s : Int} {h : AH} (w1 : 0 ≤ sd 1 ∧ sd 1 ≤ 60) (H : TV sd t h s) : nl (h_V h (t + 1) s) = nl 0 ↔ lo_ sd s = -1 := by
  rw [H.1.nl0, H.1.zero, lo_n w1]
theorem t_canServe {B : Int} {sd : Int → Int} {t s : Int} {h : AH} (hw : WB B sd) (hB : B ≤ 2000000) (H : TR sd t h) (s0 : 0 ≤ s) (s1 : s < sd 2) : f_T_canServe t s h = some (b01 (cs_ sd s), h) := by
  have w2 := hw.1.2.2.1
  have w4 := hw.2.2.2.2.1 s s0 (by omega)
  have lr := lo_r hw.1.2.1 s
  have V := H.2.2 s s0 s1
  have Z := V.lo0 hw.1.2.1
  unfold f_T_canServe
  rw [H.1.g3, Option.bind_some, H.1.a3 s0 (by omega), Option.bind_some, V.2.2.2, nmi (by omega) (by omega), H.1.g0, Option.bind_some, H.1.a0 s0 (by omega), Option.bind_some]
  have e : cs_ sd s = decide (0 < sd (1090 + s) ∧ 0 ≤ lo_ sd s) := rfl
  by_cases c : sd (1090 + s) ≤ 0
  · rw [if_pos c, cb_0, e, decide_eq_false (by omega)]; rfl
  · rw [if_neg c]
    by_cases d : lo_ sd s = -1
    · rw [if_pos ((l_cmp_eq _ _).mpr (Z.mpr d)), cb_0, e, decide_eq_false (by omega)]; rfl
    · rw [if_neg (fun z => d (Z.mp ((l_cmp_eq _ _).mp z))), cb_1, e, decide_eq_true (by omega)]; rfl
/-- the number of a kind -/
def nu_ (sd : Int → Int) (s w : Int) : Int := if w = 0 ∨ w = 1 ∨ w = 2 then mi_ sd s w else if w = 3 then sd (1090 + s) else -1
theorem t_numberOf {sd : Int → Int} {t s w : Int} {h : AH} (hw : WS sd) (H : TR sd t h) (s0 : 0 ≤ s) (s1 : s < sd 2) (hq : R32 w) : f_T_numberOf t s w h = some (nu_ sd s w, h) := by
  have w2 := hw.2.2.1
  have V := H.2.2 s s0 s1
  unfold f_T_numberOf nu_
  rw [nmi hq.1 hq.2, H.1.g0, H.1.g1, H.1.g2, H.1.g3]
  simp only [Option.bind_some]
  rw [H.1.a0 s0 (by omega), H.1.a1 s0 (by omega), H.1.a2 s0 (by omega), H.1.a3 s0 (by omega), V.2.1, V.2.2.1, V.2.2.2]
  simp only [Option.bind_some]
  rw [V.1.bc, bd_some, mi_60 hw.2.1]
  by_cases c0 : w = 0
  · subst c0; simp
  · by_cases c1 : w = 1
    · subst c1; simp
    · by_cases c2 : w = 2
      · subst c2; simp
      · by_cases c3 : w = 3
        · subst c3; simp
        · simp [c0, c1, c2, c3]
theorem sn_cg {f g : Int → Int} {a b : Int} (h : ∀ i, a ≤ i → i < b → f i = g i) : sn_ f a b = sn_ g a b := by
  have : ∀ (n : Nat) (a : Int), (∀ i, a ≤ i → i < a + n → f i = g i) → sm_ f a n = sm_ g a n := by
    intro n
    induction n with
    | zero => intro _ _; rfl
    | succ n ih =>
      intro a h
      unfold sm_
      rw [h a (by omega) (by omega), ih (a + 1) fun i i0 i1 => h i (by omega) (by omega)]
  exact this _ _ fun i i0 i1 => h i i0 (by omega)
theorem t_sumOf {sd : Int → Int} {t w : Int} {h : AH} (hw : WS sd) (H : TR sd t h) (hq : R32 w) : f_T_sumOf t w h = some (sn_ (fun s => nu_ sd s w) 0 (sd 2), h) := by
  have w2 := hw.2.2.1
  have L := it_2 (F := F_T_sumOf_4 t w) (fun n s h' o => h = h' → 0 ≤ s → s ≤ 5 → o = some (n + sn_ (fun s => nu_ sd s w) s (sd 2), h)) (fun n s h' => (5 - s).toNat) ?_ fu_ 0 0 h (fu_gt (by omega)) rfl (by omega) (by omega)
  · rw [Int.zero_add] at L; exact L
  · intro kf n s h' ih e h0 h1
    subst e
    unfold F_T_sumOf_4
    rw [gf_pos H.1.1, H.2.1.1, Option.bind_some, nmi (by omega) (by omega), nmi (by omega) (by omega)]
    by_cases c : sd 2 ≤ s
    · rw [if_pos c, sn_e c, Int.add_zero]
    · rw [if_neg c, ck_pos H.1.1, t_numberOf hw H h0 (by omega) hq, bd_some, Option.bind_some, ih _ _ _ (by omega) rfl (by omega) (by omega), sn_s (show s < sd 2 by omega), Int.add_assoc]
theorem t_sum3 {sd : Int → Int} {t : Int} {h : AH} (hw : WS sd) (H : TR sd t h) : f_T_sumOf t 3 h = some (wa_ sd, h) := by
  rw [t_sumOf hw H ⟨by decide, by decide⟩, sn_cg (g := fun s => sd (1090 + s)) fun i _ _ => by simp [nu_]]
  rfl
theorem t_sum {sd : Int → Int} {t w : Int} {h : AH} (hw : WS sd) (H : TR sd t h) (hq : w = 0 ∨ w = 1 ∨ w = 2) : f_T_sumOf t w h = some (al_ sd w, h) := by
  rw [t_sumOf hw H ⟨by omega, by omega⟩, sn_cg (g := fun s => mi_ sd s w) fun i _ _ => by simp [nu_, hq]]
  rfl
