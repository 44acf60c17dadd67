/-! ===== the class: which station serves; an hour ===== -/
theorem br_run {z : Int} {P : Int → Bool} (h : BR z P) : BR (l_and z (l_xor (l_shl z 1) (-1))) (fun i => P i && !(decide (1 ≤ i) && P (i - 1))) := by
  refine br_mk (rl_i _) fun i hi => ?_
  rw [tb_and, tb_xor, tb_shl z (by decide) (by decide), tb_n1, h.2, h.2]
  by_cases c : i < 60
  · by_cases d : 1 ≤ i
    · have e : ((i - 1 : Nat) : Int) = (i : Int) - 1 := by omega
      have d' : (1 : Int) ≤ (i : Int) := by omega
      rw [show (1 : Int).toNat = 1 from rfl, e]
      simp [c, d, d', hi, show i - 1 < 60 by omega]
    · have : i = 0 := by omega
      subst this; simp
  · simp [c]
theorem TV.run {sd : Int → Int} {t s : Int} {h : AH} (H : TV sd t h s) : BR (l_and (h_V h (t + 1) s) (l_xor (l_shl (h_V h (t + 1) s) 1) (-1))) (fru_ sd s) := by
  refine (br_run H.1).congr fun i i0 i1 => ?_
  unfold fru_
  by_cases d : 1 ≤ i
  · simp [d]
  · have : i = 0 := by omega
    subst this
    have : in_ sd (0 - 1) s 0 = false := by unfold in_ pa_; rw [decide_eq_false (by omega)]; rfl
    rw [this]; simp
theorem ru_60 {sd : Int → Int} (w1 : 0 ≤ sd 1 ∧ sd 1 ≤ 60) (s : Int) : cn_ (fru_ sd s) 0 60 = ru_ sd s :=
  cn_x w1.1 w1.2 fun i i0 i1 => by unfold fru_; rw [in_hi i0]; rfl
theorem t_wordValue {B : Int} {sd : Int → Int} {t s : Int} {h : AH} (hw : WB B sd) (hB : B ≤ 2000000) (H : TR sd t h) (s0 : 0 ≤ s) (s1 : s < sd 2) (hl : 0 ≤ lo_ sd s) (h6 : h_V h t 6 = wa_ sd) (h7 : h_V h t 7 = al_ sd 0) {k : Int} (k0 : 0 ≤ k) (k1 : k < 10) : f_T_wordValue t k s h = some (ws_ sd s k, h) := by
  have w2 := hw.1.2.2.1
  have V := H.2.2 s s0 s1
  have b1 := lo_r hw.1.2.1 s
  have b2 := ru_b hw.1.2.1 s
  have b3 := wa_b hw
  have b4 := al_b hw.1 0
  have b5 := mi_b hw.1.2.1 s 0
  have b6 := mi_b hw.1.2.1 s 1
  have b7 := mi_b hw.1.2.1 s 2
  have b8 := hw.2.1
  have b9 := hw.2.2.2.2.1 s s0 (by omega)
  unfold f_T_wordValue ws_
  rw [nmi (z := k) (by omega) (by omega), H.1.g0, H.1.g1, H.1.g2, H.1.g3]
  simp only [Option.bind_some]
  rw [H.1.a0 s0 (by omega), H.1.a1 s0 (by omega), H.1.a2 s0 (by omega), H.1.a3 s0 (by omega), V.2.1, V.2.2.1, V.2.2.2]
  simp only [Option.bind_some]
  rw [V.1.bc, V.run.bc, c_nt V.1 (lo_LB hw.1.2.1 hl), gf_pos H.1.1, gf_pos H.1.1, gf_pos H.1.1, h6, h7, H.2.1.2, mi_60 hw.1.2.1, ru_60 hw.1.2.1]
  simp only [Option.bind_some, bd_some]
  rw [oi2l (v := s) (by omega) (by omega), oi2l (v := sd (1090 + s)) (by omega) (by omega), oi2l (v := mi_ sd s 0) (by omega) (by omega), oi2l (v := mi_ sd s 1) (by omega) (by omega), oi2l (v := mi_ sd s 2) (by omega) (by omega), oi2l (v := lo_ sd s) (by omega) (by omega), oi2l (v := ru_ sd s) (by omega) (by omega), oi2l (v := wa_ sd) (by omega) (by omega), oi2l (v := al_ sd 0) (by omega) (by omega), oi2l (v := sd 128) (by omega) (by omega)]
  (repeat' split) <;> rfl
/-- the bits of those that can serve -/
def sbn (cs : Int → Bool) : Nat → Int → Int → Int
  | 0, z, _ => z
  | n + 1, z, s => sbn cs n (if cs s = true then o_or z (o_shl 1 s) else z) (s + 1)
theorem t_serverBits {B : Int} {sd : Int → Int} {t : Int} {h : AH} (hw : WB B sd) (hB : B ≤ 2000000) (H : TR sd t h) : f_T_serverBits t h = some (sbn (cs_ sd) (sd 2).toNat 0 0, h) := by
  have w2 := hw.1.2.2.1
  rw [show (sd 2).toNat = (sd 2 - 0).toNat by omega]
  refine it_2 (F := F_T_serverBits_4 t) (fun n s h' o => h = h' → 0 ≤ s → s ≤ 5 → o = some (sbn (cs_ sd) (sd 2 - s).toNat n s, h)) (fun n s h' => (5 - s).toNat) ?_ fu_ 0 0 h (fu_gt (by omega)) rfl (by omega) (by omega)
  intro kf n s h' ih e h0 h1
  subst e
  unfold F_T_serverBits_4
  rw [gf_pos H.1.1, H.2.1.1, Option.bind_some, nmi (by omega) (by omega), nmi (by omega) (by omega)]
  by_cases c : sd 2 ≤ s
  · rw [if_pos c, show (sd 2 - s).toNat = 0 by omega]; rfl
  · rw [if_neg c, ck_pos H.1.1, t_canServe hw hB H h0 (by omega), bd_some, show (sd 2 - s).toNat = (sd 2 - (s + 1)).toNat + 1 by omega]
    unfold sbn
    cases d : cs_ sd s
    · rw [if_pos (by decide +kernel), if_neg (by decide)]
      exact ih _ _ _ (by omega) rfl (by omega) (by omega)
    · rw [if_neg (by decide +kernel), if_pos rfl, Option.bind_some]
      exact ih _ _ _ (by omega) rfl (by omega) (by omega)
def fb_ (b0 b1 b2 b3 b4 : Bool) (s : Int) : Bool := if s = 0 then b0 else if s = 1 then b1 else if s = 2 then b2 else if s = 3 then b3 else if s = 4 then b4 else false
theorem sbn_cg {cs ct : Int → Bool} : ∀ (n : Nat) (z s : Int), (∀ i, s ≤ i → i < s + n → cs i = ct i) → sbn cs n z s = sbn ct n z s
  | 0, _, _, _ => rfl
  | n + 1, z, s, h => by
    unfold sbn
    rw [h s (by omega) (by omega), sbn_cg n _ (s + 1) fun i i0 i1 => h i (by omega) (by omega)]
theorem chn_cg {cs ct : Int → Bool} {v w : Int → Int} : ∀ (n : Nat) (b m s : Int), (∀ i, s ≤ i → i < s + n → cs i = ct i ∧ v i = w i) → chn cs v n b m s = chn ct w n b m s
  | 0, _, _, _, _ => rfl
  | n + 1, b, m, s, h => by
    unfold chn
    have e := h s (by omega) (by omega)
    rw [e.1, e.2, chn_cg n _ _ (s + 1) fun i i0 i1 => h i (by omega) (by omega), chn_cg n b m (s + 1) fun i i0 i1 => h i (by omega) (by omega)]
theorem fb_e {cs : Int → Bool} {n : Nat} (hn : n ≤ 5) : ∀ i, (0 : Int) ≤ i → i < 0 + n → cs i = fb_ (cs 0) (cs 1) (cs 2) (cs 3) (cs 4) i := by
  intro i i0 i1
  rcases (show i = 0 ∨ i = 1 ∨ i = 2 ∨ i = 3 ∨ i = 4 by omega) with rfl | rfl | rfl | rfl | rfl <;> rfl
theorem fb_v : ∀ (n : Fin 6) (b0 b1 b2 b3 b4 : Bool), (if nm (sbn (fb_ b0 b1 b2 b3 b4) n.val 0 0) ≠ 0 then qnt (o_and (o_xor (sbn (fb_ b0 b1 b2 b3 b4) n.val 0 0) (-1)) (sbn (fb_ b0 b1 b2 b3 b4) n.val 0 0 - 1)) else -1) = chn (fb_ b0 b1 b2 b3 b4) (fun _ => 1) n.val (-1) 0 0 := by decide +kernel
/-- the class's rule -/
def RC (r : Int) (ρ : (Int → Int) → Int) (h : AH) : Prop := EX ρ ∧ 69 ≤ r ∧ ∀ h' : AH, (∀ a, r ≤ a → a ≤ r + 2 → h_T h' a = h_T h a ∧ h_N h' a = h_N h a) → (∀ a i, r ≤ a → a ≤ r + 1 → h_V h' a i = h_V h a i) → h_T h' r = 4 ∧ ∀ (t s : Int) (w : Int → Int), h_T h' t = 8 → (∀ h'' : AH, Ag (fun a _ => a = r + 2) h' h'' → ∀ k, 0 ≤ k → k < 10 → f_T_wordValue t k s h'' = some (w k, h'')) → ∃ h'', f_R_worth r t s h' = some (ρ w, h'') ∧ Ag (fun a _ => a = r + 2) h' h''
theorem RC.mv {r : Int} {ρ : (Int → Int) → Int} {h h1 : AH} (H : RC r ρ h) (e1 : ∀ a, r ≤ a → a ≤ r + 2 → h_T h1 a = h_T h a ∧ h_N h1 a = h_N h a) (e2 : ∀ a i, r ≤ a → a ≤ r + 1 → h_V h1 a i = h_V h a i) : RC r ρ h1 :=
  ⟨H.1, H.2.1, fun h' f1 f2 => H.2.2 h' (fun a a0 a1 => ⟨(f1 a a0 a1).1.trans (e1 a a0 a1).1, (f1 a a0 a1).2.trans (e1 a a0 a1).2⟩) fun a i a0 a1 => (f2 a i a0 a1).trans (e2 a i a0 a1)⟩
theorem RC.ag {X : Int → Int → Prop} {r : Int} {ρ : (Int → Int) → Int} {h h1 : AH} (H : RC r ρ h) (g : Ag X h h1) (hX : ∀ a i, X a i → a < r ∨ r + 1 < a) : RC r ρ h1 :=
  H.mv (fun a _ _ => ⟨g.2.1 a, g.2.2.1 a⟩) fun a i a0 a1 => g.2.2.2 _ _ fun z => by have := hX _ _ z; omega
def CF (ρ : (Int → Int) → Int) (r : Int) (h : AH) : Prop := (r = 0 ∧ ρ = fun _ => 1) ∨ (69 ≤ r ∧ RC r ρ h)
theorem CF.ag {X : Int → Int → Prop} {r : Int} {ρ : (Int → Int) → Int} {h h1 : AH} (H : CF ρ r h) (g : Ag X h h1) (hX : ∀ a i, X a i → 69 ≤ r → a < r ∨ r + 1 < a) : CF ρ r h1 := by
  rcases H with h | ⟨h, k⟩
  · exact Or.inl h
  · exact Or.inr ⟨h, k.ag g fun a i z => hX a i z h⟩
def XC (t r a i : Int) : Prop := (a = t ∧ 6 ≤ i) ∨ (69 ≤ r ∧ a = r + 2)
theorem t_choose {B : Int} {sd : Int → Int} {t r : Int} {h : AH} (hw : WB B sd) (hB : B ≤ 2000000) (H : TR sd t h) (ht : t + 4 < 69) {ρ : (Int → Int) → Int} (hr : CF ρ r h) : ∃ h', f_T_choose t r h = some (ch_ ρ sd, h') ∧ Ag (XC t r) h h' := by
  have w2 := hw.1.2.2.1
  rcases hr with ⟨rfl, rfl⟩ | ⟨r0, hr⟩
  · refine ⟨h, ?_, Ag.rf⟩
    unfold f_T_choose
    rw [if_neg (by decide), ck_pos H.1.1, t_serverBits hw hB H, bd_some, qnt_, bd_some]
    have e := fb_v ⟨(sd 2).toNat, by omega⟩ (cs_ sd 0) (cs_ sd 1) (cs_ sd 2) (cs_ sd 3) (cs_ sd 4)
    have f1 := sbn_cg (cs := cs_ sd) (ct := fb_ (cs_ sd 0) (cs_ sd 1) (cs_ sd 2) (cs_ sd 3) (cs_ sd 4)) (sd 2).toNat 0 0 (fb_e (by omega))
    have f2 := chn_cg (cs := cs_ sd) (ct := fb_ (cs_ sd 0) (cs_ sd 1) (cs_ sd 2) (cs_ sd 3) (cs_ sd 4)) (v := fun _ => 1) (w := fun _ => 1) (sd 2).toNat (-1) 0 0 fun i i0 i1 => ⟨fb_e (n := (sd 2).toNat) (by omega) i i0 i1, rfl⟩
    simp only at e
    rw [← f1, ← f2] at e
    unfold ch_
    rw [← e]
    split <;> rfl
  · unfold f_T_choose
    rw [if_pos (by omega), ck_pos H.1.1, t_sum3 hw.1 H, bd_some, sf_pos H.1.1, Option.bind_some]
    have G1 : Ag (XC t r) h (h_S h t 6 (wa_ sd)) := Ag.rf.st (Or.inl ⟨rfl, by decide⟩)
    have H1 : TR sd t (h_S h t 6 (wa_ sd)) := H.ag G1 fun a i z => by unfold XC at z; omega
    rw [ck_pos H1.1.1, t_sum hw.1 H1 (Or.inl rfl), bd_some, sf_pos H1.1.1, Option.bind_some]
    have G2 : Ag (XC t r) h (h_S (h_S h t 6 (wa_ sd)) t 7 (al_ sd 0)) := G1.st (Or.inl ⟨rfl, by decide⟩)
    have v6 : h_V (h_S (h_S h t 6 (wa_ sd)) t 7 (al_ sd 0)) t 6 = wa_ sd := by simp [hV_S']
    have v7 : h_V (h_S (h_S h t 6 (wa_ sd)) t 7 (al_ sd 0)) t 7 = al_ sd 0 := by simp [hV_S']
    generalize h_S (h_S h t 6 (wa_ sd)) t 7 (al_ sd 0) = h2 at *
    have H2 : TR sd t h2 := H.ag G2 fun a i z => by unfold XC at z; omega
    have R2 : RC r ρ h2 := hr.ag G2 fun a i z => by unfold XC at z; omega
    rw [show ch_ ρ sd = chn (cs_ sd) (fun s => ρ (ws_ sd s)) (sd 2 - 0).toNat (-1) 0 0 by rw [Int.sub_zero]; rfl]
    refine it_3 (F := F_T_choose_47 t r) (fun b m s h1 o => Ag (fun a _ => a = r + 2) h2 h1 → 0 ≤ s → s ≤ sd 2 → ∃ h', o = some (chn (cs_ sd) (fun s => ρ (ws_ sd s)) (sd 2 - s).toNat b m s, h') ∧ Ag (XC t r) h h') (fun b m s h1 => (5 - s).toNat) ?_ fu_ (-1) 0 0 h2 (fu_gt (by omega)) Ag.rf (by omega) (by omega)
    intro kf b m s h1 ih G s0 s1
    have H1 : TR sd t h1 := H2.ag G fun a i z => by omega
    have R1 : RC r ρ h1 := R2.ag G fun a i z => by omega
    unfold F_T_choose_47
    rw [gf_pos H1.1.1, H1.2.1.1, Option.bind_some, nmi (by omega) (by omega), nmi (by omega) (by omega)]
    by_cases c : sd 2 ≤ s
    · rw [if_pos c, show (sd 2 - s).toNat = 0 by omega]
      exact ⟨h1, rfl, G2.tr (G.mono fun a i z => Or.inr ⟨r0, z⟩)⟩
    · rw [if_neg c, ck_pos H1.1.1, t_canServe hw hB H1 s0 (by omega), bd_some, show (sd 2 - s).toNat = (sd 2 - (s + 1)).toNat + 1 by omega]
      unfold chn
      cases d : cs_ sd s
      · rw [if_pos (by decide +kernel), if_neg (by simp)]
        exact ih _ _ _ _ (by omega) G (by omega) (by omega)
      · have R1' := R1.2.2 h1 (fun _ _ _ => ⟨rfl, rfl⟩) (fun _ _ _ _ => rfl)
        obtain ⟨h3, e3, g3⟩ := R1'.2 t s (ws_ sd s) H1.1.1 (fun h4 G4 k k0 k1 => by
          have G' : Ag (fun a _ => a = r + 2) h2 h4 := G.tr G4
          refine t_wordValue hw hB (H2.ag G' fun a i z => by omega) s0 (by omega) (cs_w d).2 ?_ ?_ k0 k1
          · rw [G'.2.2.2 _ _ (by omega), v6]
          · rw [G'.2.2.2 _ _ (by omega), v7])
        rw [if_neg (by decide +kernel), ck_pos R1'.1, e3, bd_some]
        by_cases q : nl m < nl (ρ (ws_ sd s))
        · rw [if_neg (by have := (l_cmp_gt (ρ (ws_ sd s)) m).mpr q; omega), if_pos ⟨rfl, q⟩]
          exact ih _ _ _ _ (by omega) (G.tr g3) (by omega) (by omega)
        · rw [if_pos (Int.not_lt.mp fun z => q ((l_cmp_gt (ρ (ws_ sd s)) m).mp z)), if_neg (fun z => q z.2)]
          exact ih _ _ _ _ (by omega) (G.tr g3) (by omega) (by omega)
