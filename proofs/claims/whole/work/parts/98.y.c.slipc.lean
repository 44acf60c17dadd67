/-! ===== slips: the class's search ===== -/
def bz5 (b0 b1 b2 b3 b4 : Bool) : Int := b01 b0 + 2 * b01 b1 + 4 * b01 b2 + 8 * b01 b3 + 16 * b01 b4
def bz (fx : Int → Bool) : Int := bz5 (fx 0) (fx 1) (fx 2) (fx 3) (fx 4)
theorem bz5_bit : ∀ b0 b1 b2 b3 b4 : Bool, o_and (o_shr (bz5 b0 b1 b2 b3 b4) 0) 1 = b01 b0 ∧ o_and (o_shr (bz5 b0 b1 b2 b3 b4) 1) 1 = b01 b1 ∧ o_and (o_shr (bz5 b0 b1 b2 b3 b4) 2) 1 = b01 b2 ∧ o_and (o_shr (bz5 b0 b1 b2 b3 b4) 3) 1 = b01 b3 ∧ o_and (o_shr (bz5 b0 b1 b2 b3 b4) 4) 1 = b01 b4 := by decide +kernel
theorem bz_bit (fx : Int → Bool) {s : Int} (s0 : 0 ≤ s) (s1 : s < 5) : o_and (o_shr (bz fx) s) 1 = b01 (fx s) := by
  have V := bz5_bit (fx 0) (fx 1) (fx 2) (fx 3) (fx 4)
  rcases (show s = 0 ∨ s = 1 ∨ s = 2 ∨ s = 3 ∨ s = 4 by omega) with rfl | rfl | rfl | rfl | rfl
  · exact V.1
  · exact V.2.1
  · exact V.2.2.1
  · exact V.2.2.2.1
  · exact V.2.2.2.2
theorem alf_cg {fx gx : Int → Bool} : ∀ k : Nat, (∀ i : Int, 0 ≤ i → i < k → fx i = gx i) → alf fx k = alf gx k
  | 0, _ => rfl
  | k + 1, h => by
    show (alf fx k && fx k) = (alf gx k && gx k)
    rw [alf_cg k (fun i i0 i1 => h i i0 (by omega)), h k (by omega) (by omega)]
theorem bz5_all : ∀ (n : Fin 6) (b0 b1 b2 b3 b4 : Bool), decide (nm (o_and (o_xor (bz5 b0 b1 b2 b3 b4) (-1)) ((o_shl 1 n.val) - 1)) = 0) = alf (fb_ b0 b1 b2 b3 b4) n.val := by decide +kernel
theorem fb_n {fx : Int → Bool} {n : Nat} (hn : n ≤ 5) : ∀ i : Int, 0 ≤ i → i < n → fx i = fb_ (fx 0) (fx 1) (fx 2) (fx 3) (fx 4) i := fun i i0 i1 => fb_e (n := n) hn i i0 (by omega)
theorem bz_all (fx : Int → Bool) {n : Nat} (hn : n ≤ 5) : nm (o_and (o_xor (bz fx) (-1)) ((o_shl 1 n) - 1)) = 0 ↔ alf fx n = true := by
  have V := bz5_all ⟨n, by omega⟩ (fx 0) (fx 1) (fx 2) (fx 3) (fx 4)
  rw [alf_cg n (fb_n hn), ← V]
  simp [bz]
section
variable {n : Nat} {g : Int → Int} {fx : Int → Bool} {t : Int → Int} {c : Int × Int × Int × Int × (Int → Int)} {r : Nat} {h : AH}
def GL (n : Nat) (g : Int → Int) : Prop := n ≤ 5 ∧ ∀ i : Int, 0 ≤ i → i < n → -1000 ≤ g i ∧ g i ≤ 1000
theorem mx0_b {z M : Int} (h : z ≤ M) (h0 : 0 ≤ M) : mx0 z ≤ M := by unfold mx0; split <;> omega
theorem sums_b (hg : GL n g) {k : Nat} (hk : k ≤ n) (ht : ∀ i : Int, 0 ≤ i → i < k → -3 ≤ t i ∧ t i ≤ 3) : (0 ≤ us t k ∧ us t k ≤ 15) ∧ (0 ≤ ab g t k ∧ ab g t k ≤ 5150) ∧ (0 ≤ be g t k ∧ be g t k ≤ 5150) ∧ (0 ≤ oa g fx t k ∧ oa g fx t k ≤ ab g t k) ∧ (0 ≤ ob g fx t k ∧ ob g fx t k ≤ be g t k) := by
  have k5 : (k : Int) ≤ 5 := by have := hg.1; omega
  have a : us t k ≤ 3 * k := su_b k fun i i0 i1 => by have := ht i i0 i1; unfold av; split <;> omega
  have b : ab g t k ≤ 1030 * k := su_b k fun i i0 i1 => by have := ht i i0 i1; have := hg.2 i i0 (by omega); exact mx0_b (by omega) (by decide)
  have c : be g t k ≤ 1030 * k := su_b k fun i i0 i1 => by have := ht i i0 i1; have := hg.2 i i0 (by omega); exact mx0_b (by omega) (by decide)
  exact ⟨⟨us_nn _ _, by omega⟩, ⟨ab_nn _ _ _, by omega⟩, ⟨be_nn _ _ _, by omega⟩, ⟨oa_nn .., oa_le ..⟩, ⟨ob_nn .., ob_le ..⟩⟩
theorem slp_b {u A Bw oA oB : Int} (a : 0 ≤ u ∧ u ≤ 15) (b : 0 ≤ A ∧ A ≤ 5150) (c : 0 ≤ Bw ∧ Bw ≤ 5150) (d : 0 ≤ oA ∧ oA ≤ A) (e : 0 ≤ oB ∧ oB ≤ Bw) : (0 ≤ slp u A Bw oA oB ∧ slp u A Bw oA oB ≤ 20000) ∧ 0 ≤ shf A Bw oA oB ∧ shf A Bw oA oB ≤ 20000 := by
  unfold slp shf av
  (repeat' split) <;> omega
def QK (n : Nat) (g : Int → Int) (fx : Int → Bool) (r : Nat) (h : AH) : Prop := h_V h 39 3 = n ∧ h_V h 39 4 = bz fx ∧ h_V h 39 5 = r ∧ ∀ s : Int, 0 ≤ s → s < n → h_V h 40 s = g s
def QS (n : Nat) (c : Int × Int × Int × Int × (Int → Int)) (h : AH) : Prop := h_V h 39 6 = c.1 ∧ h_V h 39 7 = c.2.1 ∧ (c.2.1 ≠ -1 → h_V h 39 8 = c.2.2.1 ∧ h_V h 39 9 = c.2.2.2.1 ∧ ∀ i : Int, 0 ≤ i → i < n → h_V h 41 i = c.2.2.2.2 i)
def CB (c : Int × Int × Int × Int × (Int → Int)) : Prop := (0 ≤ c.1 ∧ c.1 ≤ 2147483647) ∧ (-1 ≤ c.2.1 ∧ c.2.1 ≤ 2147483647) ∧ (0 ≤ c.2.2.1 ∧ c.2.2.1 ≤ 100)
def XW (a i : Int) : Prop := a = 41 ∨ (a = 39 ∧ 6 ≤ i ∧ i ≤ 9)
def XR (s : Int) (a i : Int) : Prop := a = 41 ∨ (a = 42 ∧ s ≤ i) ∨ (a = 39 ∧ 6 ≤ i ∧ i ≤ 9)
theorem bp_xr {s : Int} : ∀ q ∈ bp_, ¬ XR s q.1 q.2.1 := fun q hq z => by
  have : ∀ q ∈ bp_, ¬ (q.1 = 41 ∨ q.1 = 42 ∨ (q.1 = 39 ∧ 6 ≤ q.2.1)) := by decide
  have := this q hq
  unfold XR at z
  omega
theorem XW_XR {s : Int} : ∀ a i, XW a i → XR s a i := fun a i z => by unfold XW at z; unfold XR; omega
theorem bp_xw : ∀ q ∈ bp_, ¬ XW q.1 q.2.1 := fun q hq z => bp_xr (s := 0) q hq (XW_XR _ _ z)
theorem QK.xr {s : Int} {h' : AH} (H : QK n g fx r h) (k : Ag (XR s) h h') : QK n g fx r h' := ⟨by rw [k.2.2.2 _ _ (by unfold XR; omega)]; exact H.1, by rw [k.2.2.2 _ _ (by unfold XR; omega)]; exact H.2.1, by rw [k.2.2.2 _ _ (by unfold XR; omega)]; exact H.2.2.1, fun s s0 s1 => by rw [k.2.2.2 _ _ (by unfold XR; omega)]; exact H.2.2.2 s s0 s1⟩
theorem q_109 (K : BP h) {u sh sl : Int} (ht : ∀ i : Int, 0 ≤ i → i < n → h_V h 42 i = t i) (hn : n ≤ 5) : ∃ h', f_Q_weigh_109 39 u sh sl h = some (0, h') ∧ QS n (sl, sl, u, sh, t) h' ∧ Ag XW h h' := by
  have g1 : Ag XW h (h_S h 39 6 sl) := Ag.rf.st (by unfold XW; omega)
  have g2 : Ag XW h (h_S (h_S h 39 6 sl) 39 7 sl) := g1.st (by unfold XW; omega)
  have g3 : Ag XW h (h_S (h_S (h_S h 39 6 sl) 39 7 sl) 39 8 u) := g2.st (by unfold XW; omega)
  have g4 : Ag XW h (h_S (h_S (h_S (h_S h 39 6 sl) 39 7 sl) 39 8 u) 39 9 sh) := g3.st (by unfold XW; omega)
  have K1 := K.ag g1 bp_xw
  have K2 := K.ag g2 bp_xw
  have K3 := K.ag g3 bp_xw
  have K4 := K.ag g4 bp_xw
  have g5 : Ag XW h (hC (h_S (h_S (h_S (h_S h 39 6 sl) 39 7 sl) 39 8 u) 39 9 sh) 42 0 41 0 5) := hC_ag g4 fun i _ _ => Or.inl rfl
  unfold f_Q_weigh_109
  rw [sf_pos K.k39, Option.bind_some, sf_pos K1.k39, Option.bind_some, sf_pos K2.k39, Option.bind_some, sf_pos K3.k39, Option.bind_some, K4.g39_2, Option.bind_some, K4.g39_1, Option.bind_some, ac_pos K4.k42.1 K4.k41.1 K4.k42.2 K4.k41.2 (by decide) (by decide) (by decide) (by decide) (by decide) (by decide) (by decide), Option.bind_some]
  refine ⟨_, rfl, ⟨?_, ?_, fun _ => ⟨?_, ?_, fun i i0 i1 => ?_⟩⟩, g5⟩
  · rw [hV_C, if_neg (by omega), hV_eq, if_neg (by decide), hV_eq, if_neg (by decide), hV_eq, if_neg (by decide), hV_eq, if_pos rfl]
  · rw [hV_C, if_neg (by omega), hV_eq, if_neg (by decide), hV_eq, if_neg (by decide), hV_eq, if_pos rfl]
  · rw [hV_C, if_neg (by omega), hV_eq, if_neg (by decide), hV_eq, if_pos rfl]
  · rw [hV_C, if_neg (by omega), hV_eq, if_pos rfl]
  · rw [hV_C, if_pos ⟨rfl, by omega, by omega⟩, hV_ne (by decide), hV_ne (by decide), hV_ne (by decide), hV_ne (by decide), show (0 : Int) + (i - 0) = i by omega]
    exact ht i i0 i1
theorem q_68 (K : BP h) (hS : QS n c h) (hc : CB c) (hf : FE n g fx t = true) (hu : us t n ≤ 15) (hs : SL n g fx t ≤ 20000) (ht : ∀ i : Int, 0 ≤ i → i < n → h_V h 42 i = t i) (hn : n ≤ 5) {z6 : Int} (e6 : us t n + m_abs z6 + SH n g fx t = SL n g fx t) : ∃ h', f_Q_weigh_68 39 (us t n) z6 (SH n g fx t) h = some (0, h') ∧ QS n (stC n g fx c t) h' ∧ Ag XW h h' := by
  have s0 := SL_nn (n := n) (g := g) (fx := fx) (t := t)
  have u0 := us_nn t n
  obtain ⟨q1, q2, q3⟩ := hS
  obtain ⟨b1, b2, b3⟩ := id hc
  obtain ⟨h', e', S', g'⟩ := q_109 (u := us t n) (sh := SH n g fx t) (sl := SL n g fx t) K ht hn
  unfold f_Q_weigh_68
  rw [Option.bind_some, e6, gf_pos K.k39, Option.bind_some, q1, nmi (z := c.1) (by omega) (by omega), nmi (z := SL n g fx t) (by omega) (by omega)]
  by_cases d : c.1 < SL n g fx t
  · rw [if_pos d, stC_n hf (Or.inl d)]
    exact ⟨h, rfl, ⟨q1, q2, q3⟩, Ag.rf⟩
  · rw [if_neg d, gf_pos K.k39, Option.bind_some, q2, nmi (z := c.2.1) (by omega) (by omega)]
    by_cases e : SL n g fx t = c.2.1
    · have ne : c.2.1 ≠ -1 := by omega
      rw [if_neg (fun z => z e), gf_pos K.k39, Option.bind_some, (q3 ne).1, nmi (z := us t n) (by omega) (by omega), nmi (z := c.2.2.1) (by omega) (by omega)]
      by_cases f : us t n < c.2.2.1
      · rw [if_pos f, stC_y hf (by omega)]
        exact ⟨h', e', S', g'⟩
      · rw [if_neg f, stC_n hf (by omega)]
        exact ⟨h, rfl, ⟨q1, q2, q3⟩, Ag.rf⟩
    · rw [if_pos e, stC_y hf (by omega)]
      exact ⟨h', e', S', g'⟩
theorem stC_CB (hc : CB c) (hu : us t n ≤ 15) (hs : SL n g fx t ≤ 20000) : CB (stC n g fx c t) := by
  have s0 := SL_nn (n := n) (g := g) (fx := fx) (t := t)
  have u0 := us_nn t n
  cases hf : FE n g fx t
  · unfold stC; rw [hf, if_neg (by decide)]; exact hc
  · by_cases d : c.1 < SL n g fx t ∨ (SL n g fx t = c.2.1 ∧ c.2.2.1 ≤ us t n)
    · rw [stC_n hf d]; exact hc
    · rw [stC_y hf d]; exact ⟨⟨s0, by dsimp only; omega⟩, ⟨by dsimp only; omega, by dsimp only; omega⟩, ⟨u0, by dsimp only; omega⟩⟩
theorem q_weigh (hg : GL n g) (K : BP h) (hK : QK n g fx r h) (hS : QS n c h) (hc : CB c) (hl : ∀ i : Int, 0 ≤ i → i < n → -3 ≤ t i ∧ t i ≤ 3) (ht : ∀ i : Int, 0 ≤ i → i < n → h_V h 42 i = t i) : ∃ h', f_Q_weigh 39 (us t n) (ab g t n) (be g t n) (oa g fx t n) (ob g fx t n) h = some (0, h') ∧ QS n (stC n g fx c t) h' ∧ Ag XW h h' := by
  obtain ⟨b1, b2, b3, b4, b5⟩ := sums_b (fx := fx) hg (Nat.le_refl n) hl
  have sb := slp_b b1 b2 b3 b4 b5
  have sl : SL n g fx t ≤ 20000 := sb.1.2
  have key : FE n g fx t = true → ∃ h', f_Q_weigh_41 39 (us t n) (ab g t n) (be g t n) (oa g fx t n) (ob g fx t n) (ab g t n - be g t n) h = some (0, h') ∧ QS n (stC n g fx c t) h' ∧ Ag XW h h' := fun hf => by
    unfold f_Q_weigh_41
    rw [nmi (z := ab g t n - be g t n) (by omega) (by omega)]
    by_cases d : ab g t n - be g t n < 0
    · rw [if_pos d]
      have e : be g t n - m_min (-(ab g t n - be g t n)) (ob g fx t n) = SH n g fx t := by
        unfold SH shf m_min
        rw [if_pos d, nmi (by omega) (by omega), nmi (by omega) (by omega)]
      rw [e]
      refine q_68 K hS hc hf b1.2 sl ht hg.1 ?_
      unfold SL slp m_abs av
      rw [nmi (z := ab g t n - be g t n) (by omega) (by omega), if_neg (by omega), if_pos d]
      show _ + _ + shf _ _ _ _ = _
      omega
    · rw [if_neg d]
      have e : ab g t n - m_min (ab g t n - be g t n) (oa g fx t n) = SH n g fx t := by
        unfold SH shf m_min
        rw [if_neg d, nmi (by omega) (by omega), nmi (by omega) (by omega)]
      rw [e]
      refine q_68 K hS hc hf b1.2 sl ht hg.1 ?_
      unfold SL slp m_abs av
      rw [nmi (z := ab g t n - be g t n) (by omega) (by omega), if_pos (by omega), if_neg d]
      rfl
  unfold f_Q_weigh
  rw [Option.bind_some, gf_pos K.k39, Option.bind_some, gf_pos K.k39, Option.bind_some, hK.2.1, hK.1]
  by_cases f : alf fx n = true
  · rw [if_neg (fun z => z ((bz_all fx hg.1).2 f))]
    unfold f_Q_weigh_28
    rw [if_neg (by decide +kernel), nmi (z := ab g t n - be g t n) (by omega) (by omega)]
    by_cases d : ab g t n - be g t n = 0
    · rw [if_pos d]; exact key (by unfold FE; rw [f, decide_eq_true d]; rfl)
    · rw [if_neg d]
      have hf : FE n g fx t = false := by unfold FE; rw [f, decide_eq_false d]; rfl
      refine ⟨h, rfl, ?_, Ag.rf⟩
      unfold stC; rw [hf, if_neg (by decide)]; exact hS
  · rw [if_pos (fun z => f ((bz_all fx hg.1).1 z))]
    unfold f_Q_weigh_28
    rw [if_pos (by decide +kernel)]
    exact key (by unfold FE; simp [f])
end
