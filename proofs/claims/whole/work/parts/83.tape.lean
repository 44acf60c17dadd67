/-! ===== the tape ===== -/
theorem byte_bv (x : BitVec 32) (k : Nat) (hk : k ≤ 24) : (x.sshiftRight k).setWidth 8 = (x >>> k).setWidth 8 := by
  apply BitVec.eq_of_getLsbD_eq
  intro i hi
  simp only [BitVec.getLsbD_setWidth, BitVec.getLsbD_sshiftRight, BitVec.getLsbD_ushiftRight, hi, decide_true, Bool.true_and]
  rw [if_pos (by omega)]
  simp; omega
def by_ (v k : Int) : Int := o_and (o_ushr v k) 255
theorem by_rel (v : Int) {k : Int} (hk : k = 0 ∨ k = 8 ∨ k = 16 ∨ k = 24) : (0 ≤ by_ v k ∧ by_ v k ≤ 255) ∧ o_i2b (o_shr v k) = if by_ v k < 128 then by_ v k else by_ v k - 256 := by
  unfold by_ o_and o_ushr o_i2b o_shr
  rw [i32_of, i32_of]
  generalize i32 v = w
  have e1 : ∀ n : Nat, n ≤ 24 → ∀ y : Int32, y.toInt8.toBitVec = ((w.toBitVec.sshiftRight n).setWidth 8) → y.toInt8.toInt32.toInt = ((w.toBitVec >>> n).setWidth 8).toInt := by
    intro n hn y hy
    rw [Int8.toInt_toInt32, ← Int8.toInt_toBitVec, hy, byte_bv _ _ hn]
  have e2 : ∀ (b : BitVec 32) (y : Int32), y.toBitVec = b &&& 255#32 → y.toInt = ((b.setWidth 8).toNat : Int) := by
    intro b y hy
    rw [← Int32.toInt_toBitVec, hy]
    have : (b &&& 255#32).toNat = b.toNat % 256 := by
      rw [BitVec.toNat_and]
      exact Nat.and_two_pow_sub_one_eq_mod b.toNat 8
    rw [BitVec.toInt_eq_toNat_of_lt (by rw [this]; omega), this]
    simp [BitVec.toNat_setWidth]
  have e3 : ∀ n : Nat, n ≤ 24 → ∀ y z : Int32, y.toInt8.toBitVec = ((w.toBitVec.sshiftRight n).setWidth 8) → z.toBitVec = (w.toBitVec >>> n) &&& 255#32 → (0 ≤ z.toInt ∧ z.toInt ≤ 255) ∧ y.toInt8.toInt32.toInt = if z.toInt < 128 then z.toInt else z.toInt - 256 := by
    intro n hn y z hy hz
    rw [e1 n hn y hy, e2 _ z hz]
    have := ((w.toBitVec >>> n).setWidth 8).isLt
    refine ⟨by omega, ?_⟩
    rw [BitVec.toInt_eq_toNat_cond]
    split <;> split <;> omega
  rcases hk with rfl | rfl | rfl | rfl
  · refine e3 0 (by decide) _ _ ?_ ?_
    · simp
      rw [show (((i32 0).toBitVec &&& 31#32).smod 32#32).toNat = 0 by decide +kernel, BitVec.signExtend_eq_setWidth_of_le _ (by decide)]
      simp
    · simp
      rw [show ((i32 0).toBitVec.toNat &&& 31) % 32 = 0 by decide +kernel, show (i32 255).toBitVec = 255#32 by decide +kernel]
      simp
  · refine e3 8 (by decide) _ _ ?_ ?_
    · simp
      rw [show (((i32 8).toBitVec &&& 31#32).smod 32#32).toNat = 8 by decide +kernel, BitVec.signExtend_eq_setWidth_of_le _ (by decide)]
      
    · simp
      rw [show ((i32 8).toBitVec.toNat &&& 31) % 32 = 8 by decide +kernel, show (i32 255).toBitVec = 255#32 by decide +kernel]
      
  · refine e3 16 (by decide) _ _ ?_ ?_
    · simp
      rw [show (((i32 16).toBitVec &&& 31#32).smod 32#32).toNat = 16 by decide +kernel, BitVec.signExtend_eq_setWidth_of_le _ (by decide)]
      
    · simp
      rw [show ((i32 16).toBitVec.toNat &&& 31) % 32 = 16 by decide +kernel, show (i32 255).toBitVec = 255#32 by decide +kernel]
      
  · refine e3 24 (by decide) _ _ ?_ ?_
    · simp
      rw [show (((i32 24).toBitVec &&& 31#32).smod 32#32).toNat = 24 by decide +kernel, BitVec.signExtend_eq_setWidth_of_le _ (by decide)]
      
    · simp
      rw [show ((i32 24).toBitVec.toNat &&& 31) % 32 = 24 by decide +kernel, show (i32 255).toBitVec = 255#32 by decide +kernel]
      
/-- nothing else has changed: the same cells; X: where values may differ -/
def Ag (X : Int → Int → Prop) (h h' : AH) : Prop := h'.1 = h.1 ∧ (∀ a, h_T h' a = h_T h a) ∧ (∀ a, h_N h' a = h_N h a) ∧ ∀ a i, ¬ X a i → h_V h' a i = h_V h a i
theorem Ag.rf {X : Int → Int → Prop} {h : AH} : Ag X h h := ⟨rfl, fun _ => rfl, fun _ => rfl, fun _ _ _ => rfl⟩
theorem Ag.tr {X : Int → Int → Prop} {h h' h'' : AH} (a : Ag X h h') (b : Ag X h' h'') : Ag X h h'' := ⟨b.1.trans a.1, fun q => (b.2.1 q).trans (a.2.1 q), fun q => (b.2.2.1 q).trans (a.2.2.1 q), fun q i hq => (b.2.2.2 q i hq).trans (a.2.2.2 q i hq)⟩
theorem Ag.mono {X Y : Int → Int → Prop} {h h' : AH} (a : Ag X h h') (m : ∀ q i, X q i → Y q i) : Ag Y h h' := ⟨a.1, a.2.1, a.2.2.1, fun q i hq => a.2.2.2 q i fun z => hq (m q i z)⟩
theorem Ag.st {X : Int → Int → Prop} {h h' : AH} (g : Ag X h h') {a i v : Int} (hx : X a i) : Ag X h (h_S h' a i v) := by
  refine g.tr ⟨rfl, fun _ => rfl, fun _ => rfl, fun b j hb => ?_⟩
  rw [hV_S', if_neg]
  rintro ⟨rfl, rfl⟩
  exact hb hx
theorem c_add1 {h : AH} {v k : Int} {kf : Int → AH → Option (Int × AH)} (T2 : h_T h 2 = 9) (r3 : h_V h 2 0 = 3) (T3 : h_T h 3 = 20) (N3 : h_N h 3 = 400) (hl : 0 ≤ h_V h 2 1 ∧ h_V h 2 1 < 400) (hk : 0 ≤ k ∧ k ≤ 24) : F_P_addBytes_3 2 v kf k h = kf (k + (-8)) (h_S (h_S h 3 (h_V h 2 1) (by_ v k)) 2 1 (h_V h 2 1 + 1)) := by
  unfold F_P_addBytes_3
  simp (disch := omega) only [nmi]
  rw [if_neg (by omega), gf_pos T2]
  simp (disch := omega) only [nmi, Option.bind_some]
  rw [if_neg (by omega), gf_pos T2, r3]
  simp only [Option.bind_some]
  rw [as_pos T3 N3 (by decide) hl.1 hl.2]
  simp only [Option.bind_some]
  rw [gf_pos (by exact T2)]
  simp only [Option.bind_some]
  rw [sf_pos (by exact T2)]
  simp [by_, hV_S']
theorem m_four1 {h : AH} {v k : Int} {kf : Int → AH → Option (Int × AH)} (H : MS h) (hl : 0 ≤ h_V h 46 1 ∧ h_V h 46 1 < 400) (hk : k = 0 ∨ k = 8 ∨ k = 16 ∨ k = 24) : F_M_four_3 46 v kf k h = kf (k + (-8)) (h_S (h_S h 47 (h_V h 46 1) (o_i2b (o_shr v k))) 46 1 (h_V h 46 1 + 1)) := by
  have B := by_rel v hk
  unfold F_M_four_3
  simp (disch := omega) only [nmi]
  rw [if_neg (by omega), gf_pos H.1, (H.at 0 rfl).2.2]
  simp only [Option.bind_some]
  rw [gf_pos H.1]
  simp only [Option.bind_some]
  rw [asb_pos (H.at 0 rfl).1 (H.at 0 rfl).2.1 (by decide) hl.1 hl.2 (by rw [B.2]; split <;> omega) (by rw [B.2]; split <;> omega)]
  simp only [Option.bind_some]
  rw [gf_pos (by exact H.1)]
  simp only [Option.bind_some]
  rw [sf_pos (by exact H.1)]
  simp [hV_S']
theorem it_un {σ ρ : Type} {F : (σ → Option ρ) → σ → Option ρ} (n : Nat) (s : σ) : it_ F (n + 1) s = F (it_ F n) s := rfl
def ad4 (a b c v : Int) (f : Int → Int) (h : AH) : AH := h_S (h_S (h_S (h_S (h_S (h_S (h_S (h_S h a (h_V h b c) (f 24)) b c (h_V h b c + 1)) a (h_V h b c + 1) (f 16)) b c (h_V h b c + 2)) a (h_V h b c + 2) (f 8)) b c (h_V h b c + 3)) a (h_V h b c + 3) (f 0)) b c (h_V h b c + 4)
theorem c_addBytes {h : AH} {v : Int} (T2 : h_T h 2 = 9) (r3 : h_V h 2 0 = 3) (T3 : h_T h 3 = 20) (N3 : h_N h 3 = 400) (hl : 0 ≤ h_V h 2 1 ∧ h_V h 2 1 ≤ 396) : f_P_addBytes 2 v h = some (0, ad4 3 2 1 v (by_ v) h) := by
  unfold f_P_addBytes f_P_addBytes_3
  rw [show fu_ = 999995 + 1 + 1 + 1 + 1 + 1 from rfl]
  rw [it_un, c_add1 T2 r3 T3 N3 (by omega) (by omega), it_un, c_add1 (by exact T2) (by simp [hV_S']; exact r3) (by exact T3) (by exact N3) (by simp [hV_S']; omega) (by dsimp only; omega)]
  rw [it_un, c_add1 (by exact T2) (by simp [hV_S']; exact r3) (by exact T3) (by exact N3) (by simp [hV_S']; omega) (by dsimp only; omega)]
  rw [it_un, c_add1 (by exact T2) (by simp [hV_S']; exact r3) (by exact T3) (by exact N3) (by simp [hV_S']; omega) (by dsimp only; omega)]
  rw [it_un]
  unfold F_P_addBytes_3 ad4
  simp (disch := omega) only [nmi]
  simp [hV_S', Int.add_assoc]
theorem m_four {h : AH} {v : Int} (H : MS h) (hl : 0 ≤ h_V h 46 1 ∧ h_V h 46 1 ≤ 396) : f_M_four 46 v h = some (0, ad4 47 46 1 v (fun k => o_i2b (o_shr v k)) h) := by
  have nr : ∀ q ∈ mt_, q.2.2.2 ≠ 1 := by decide
  unfold f_M_four f_M_four_3
  rw [show fu_ = 999995 + 1 + 1 + 1 + 1 + 1 from rfl]
  rw [it_un, m_four1 H (by omega) (by simp)]
  have H1 := (H.row (a := 47) (i := h_V h 46 1) (v := o_i2b (o_shr v 24)) (by decide)).num (k := 1) (v := h_V h 46 1 + 1) nr
  rw [it_un, m_four1 H1 (by simp [hV_S']; omega) (by simp)]
  have H2 := (H1.row (a := 47) (i := h_V (h_S (h_S h 47 (h_V h 46 1) (o_i2b (o_shr v 24))) 46 1 (h_V h 46 1 + 1)) 46 1) (v := o_i2b (o_shr v (24 + -8))) (by decide)).num (k := 1) (v := h_V (h_S (h_S h 47 (h_V h 46 1) (o_i2b (o_shr v 24))) 46 1 (h_V h 46 1 + 1)) 46 1 + 1) nr
  rw [it_un, m_four1 H2 (by simp [hV_S']; omega) (by simp)]
  rw [it_un, m_four1 ((H2.row (by decide)).num nr) (by simp [hV_S']; omega) (by simp)]
  rw [it_un]
  unfold F_M_four_3 ad4
  simp (disch := omega) only [nmi]
  simp [hV_S', Int.add_assoc]
/-- the class's tape: L bytes b; the Model's -/
def CT (h : AH) (L : Int) (b : Int → Int) : Prop := h_T h 2 = 9 ∧ h_V h 2 0 = 3 ∧ h_T h 3 = 20 ∧ h_N h 3 = 400 ∧ h_V h 2 1 = L ∧ (0 ≤ L ∧ L ≤ 400) ∧ ∀ i, 0 ≤ i → i < L → h_V h 3 i = b i ∧ 0 ≤ b i ∧ b i ≤ 255
def sb8 (x : Int) : Int := if x < 128 then x else x - 256
def MT (h : AH) (L : Int) (b : Int → Int) : Prop := h_V h 46 1 = L ∧ (0 ≤ L ∧ L ≤ 400) ∧ ∀ i, 0 ≤ i → i < L → h_V h 47 i = sb8 (b i) ∧ 0 ≤ b i ∧ b i ≤ 255
def ap4 (b : Int → Int) (L v : Int) : Int → Int := fun i => if i = L then by_ v 24 else if i = L + 1 then by_ v 16 else if i = L + 2 then by_ v 8 else if i = L + 3 then by_ v 0 else b i
theorem ap4_r {b : Int → Int} {L v i : Int} (h : 0 ≤ b i ∧ b i ≤ 255 ∨ (L ≤ i ∧ i < L + 4)) : 0 ≤ ap4 b L v i ∧ ap4 b L v i ≤ 255 := by
  have h1 := (by_rel v (k := 24) (by simp)).1
  have h2 := (by_rel v (k := 16) (by simp)).1
  have h3 := (by_rel v (k := 8) (by simp)).1
  have h4 := (by_rel v (k := 0) (by simp)).1
  unfold ap4
  grind
theorem CT.ad {h : AH} {L v : Int} {b : Int → Int} (H : CT h L b) (hL : L ≤ 396) : f_P_addBytes 2 v h = some (0, ad4 3 2 1 v (by_ v) h) ∧ CT (ad4 3 2 1 v (by_ v) h) (L + 4) (ap4 b L v) := by
  obtain ⟨h1, h2, h3, h4, h5, h6, h7⟩ := H
  refine ⟨c_addBytes h1 h2 h3 h4 (by omega), h1, ?_, h3, h4, ?_, by omega, fun i i0 i1 => ⟨?_, ?_⟩⟩
  · simp [ad4, hV_S', h2]
  · simp [ad4, hV_S', h5]
  · simp only [ad4, hV_S', h5, ap4]
    by_cases c : i < L
    · have := (h7 i i0 c).1; grind
    · grind
  · by_cases c : i < L
    · exact ap4_r (Or.inl (h7 i i0 c).2)
    · exact ap4_r (Or.inr (by omega))
theorem MS.ad {h : AH} {v : Int} {f : Int → Int} (H : MS h) : MS (ad4 47 46 1 v f h) := by
  have nr : ∀ q ∈ mt_, q.2.2.2 ≠ 1 := by decide
  unfold ad4
  exact ((((((((H.row (by decide)).num nr).row (by decide)).num nr).row (by decide)).num nr).row (by decide)).num nr)
theorem MT.ad {h : AH} {L v : Int} {b : Int → Int} (H : MS h) (H2 : MT h L b) (hL : L ≤ 396) : f_M_four 46 v h = some (0, ad4 47 46 1 v (fun k => o_i2b (o_shr v k)) h) ∧ MT (ad4 47 46 1 v (fun k => o_i2b (o_shr v k)) h) (L + 4) (ap4 b L v) := by
  obtain ⟨h5, h6, h7⟩ := H2
  refine ⟨m_four H (by omega), ?_, by omega, fun i i0 i1 => ⟨?_, ?_⟩⟩
  · simp [ad4, hV_S', h5]
  · have b1 := (by_rel v (k := 24) (by simp)).2
    have b2 := (by_rel v (k := 16) (by simp)).2
    have b3 := (by_rel v (k := 8) (by simp)).2
    have b4 := (by_rel v (k := 0) (by simp)).2
    simp only [ad4, hV_S', h5, ap4, sb8, b1, b2, b3, b4]
    by_cases c : i < L
    · have := (h7 i i0 c).1; simp only [sb8] at this; grind
    · grind
  · by_cases c : i < L
    · exact ap4_r (Or.inl (h7 i i0 c).2)
    · exact ap4_r (Or.inr (by omega))
theorem ad4_ag (a b c v : Int) (f : Int → Int) (h : AH) : Ag (fun q i => q = a ∨ (q = b ∧ i = c)) h (ad4 a b c v f h) := by
  unfold ad4
  exact (((((((Ag.rf.st (Or.inl rfl)).st (Or.inr ⟨rfl, rfl⟩)).st (Or.inl rfl)).st (Or.inr ⟨rfl, rfl⟩)).st (Or.inl rfl)).st (Or.inr ⟨rfl, rfl⟩)).st (Or.inl rfl)).st (Or.inr ⟨rfl, rfl⟩)
def ap20 (b : Int → Int) (L v w x y z : Int) : Int → Int := ap4 (ap4 (ap4 (ap4 (ap4 b L v) (L + 4) w) (L + 8) x) (L + 12) y) (L + 16) z
theorem c_feed {h : AH} {L v w x y z : Int} {b : Int → Int} (hB : h_T h 1 = 10) (hB0 : h_V h 1 0 = 2) (H : CT h L b) : ∃ h', f_B_feed 1 v w x y z h = some (if L + 20 ≤ 400 then L + 20 else -1, h') ∧ Ag (fun q i => q = 3 ∨ (q = 2 ∧ i = 1)) h h' ∧ (L + 20 ≤ 400 → CT h' (L + 20) (ap20 b L v w x y z)) ∧ (¬ L + 20 ≤ 400 → h' = h) := by
  have K := H
  obtain ⟨h1, h2, h3, h4, h5, h6, h7⟩ := K
  unfold f_B_feed
  rw [gf_pos hB, hB0]
  simp only [Option.bind_some]
  rw [gf_pos h1, h5]
  simp (disch := omega) only [Option.bind_some, nmi]
  by_cases c : L + 20 ≤ 400
  · rw [if_pos c, if_pos c]
    obtain ⟨f1, C1⟩ := H.ad (v := v) (by omega)
    obtain ⟨f2, C2⟩ := C1.ad (v := w) (by omega)
    obtain ⟨f3, C3⟩ := C2.ad (v := x) (by omega)
    obtain ⟨f4, C4⟩ := C3.ad (v := y) (by omega)
    obtain ⟨f5, C5⟩ := C4.ad (v := z) (by omega)
    have g1 := ad4_ag 3 2 1 v (by_ v) h
    generalize ad4 3 2 1 v (by_ v) h = k1 at *
    have g2 := g1.tr (ad4_ag 3 2 1 w (by_ w) k1)
    generalize ad4 3 2 1 w (by_ w) k1 = k2 at *
    have g3 := g2.tr (ad4_ag 3 2 1 x (by_ x) k2)
    generalize ad4 3 2 1 x (by_ x) k2 = k3 at *
    have g4 := g3.tr (ad4_ag 3 2 1 y (by_ y) k3)
    generalize ad4 3 2 1 y (by_ y) k3 = k4 at *
    have g5 := g4.tr (ad4_ag 3 2 1 z (by_ z) k4)
    generalize ad4 3 2 1 z (by_ z) k4 = k5 at *
    have t : ∀ {k : AH}, Ag (fun q i => q = 3 ∨ (q = 2 ∧ i = 1)) h k → g_f k 10 1 0 = some 2 := fun {k} g => by rw [gf_pos (by rw [g.2.1]; exact hB), g.2.2.2 1 0 (by decide), hB0]
    refine ⟨k5, ?_, g5, fun _ => ?_, fun n => absurd c n⟩
    · simp only [t Ag.rf, t g1, t g2, t g3, t g4, t g5, Option.bind_some, ck_pos H.1, ck_pos C1.1, ck_pos C2.1, ck_pos C3.1, ck_pos C4.1, f1, f2, f3, f4, f5, bd_some, gf_pos C5.1, C5.2.2.2.2.1]
      congr 2; omega
    · have : L + 4 + 4 + 4 + 4 + 4 = L + 20 := by omega
      rw [this] at C5
      unfold ap20
      rw [show L + 8 = L + 4 + 4 by omega, show L + 12 = L + 4 + 4 + 4 by omega, show L + 16 = L + 4 + 4 + 4 + 4 by omega]
      exact C5
  · rw [if_neg c, if_neg c]
    exact ⟨h, rfl, Ag.rf, fun n => absurd n c, fun _ => rfl⟩
