/-! ===== slips: the class goes down and runs ===== -/
section
variable {n : Nat} {g : Int → Int} {fx : Int → Bool} {t : Int → Int} {c : Int × Int × Int × Int × (Int → Int)} {r : Nat} {h : AH}
theorem us_up (t : Int → Int) (s : Nat) (w : Int) : us (up_ t s w) (s + 1) = us t s + av w := by
  show us (up_ t s w) s + av (up_ t s w s) = _
  rw [us_cg (up_lo t s w), up_a, if_pos rfl]
theorem ab_up (g t : Int → Int) (s : Nat) (w : Int) : ab g (up_ t s w) (s + 1) = ab g t s + mx0 (g s - 10 * w) := by
  show ab g (up_ t s w) s + mx0 (g s - 10 * up_ t s w s) = _
  rw [ab_cg (up_lo t s w), up_a, if_pos rfl]
theorem be_up (g t : Int → Int) (s : Nat) (w : Int) : be g (up_ t s w) (s + 1) = be g t s + mx0 (-(g s - 10 * w)) := by
  show be g (up_ t s w) s + mx0 (-(g s - 10 * up_ t s w s)) = _
  rw [be_cg (up_lo t s w), up_a, if_pos rfl]
theorem oa_up (g : Int → Int) (fx : Int → Bool) (t : Int → Int) (s : Nat) (w : Int) : oa g fx (up_ t s w) (s + 1) = oa g fx t s + (if fx s = true then 0 else mx0 (g s - 10 * w)) := by
  show oa g fx (up_ t s w) s + (if fx s = true then 0 else mx0 (g s - 10 * up_ t s w s)) = _
  rw [oa_cg (up_lo t s w), up_a, if_pos rfl]
theorem ob_up (g : Int → Int) (fx : Int → Bool) (t : Int → Int) (s : Nat) (w : Int) : ob g fx (up_ t s w) (s + 1) = ob g fx t s + (if fx s = true then 0 else mx0 (-(g s - 10 * w))) := by
  show ob g fx (up_ t s w) s + (if fx s = true then 0 else mx0 (-(g s - 10 * up_ t s w s))) = _
  rw [ob_cg (up_lo t s w), up_a, if_pos rfl]
theorem mmax0 {z : Int} (h0 : -100000 ≤ z) (h1 : z ≤ 100000) : m_max z 0 = mx0 z := by
  unfold m_max mx0
  rw [nmi (z := z) (by omega) (by omega), nm_0]
theorem mabs_av {z : Int} (h0 : -100000 ≤ z) (h1 : z ≤ 100000) : m_abs z = av z := by
  unfold m_abs av
  rw [nmi (z := z) (by omega) (by omega)]
  (repeat' split) <;> omega
theorem q_loop (hg : GL n g) {rec : Int → Int → Int → Int → Int → Int → Int → Int → AH → Option (Int × AH)} {s : Nat} (hs : s < n) {G : (Int → Int) → (Int × Int × Int × Int × (Int → Int)) → (Int × Int × Int × Int × (Int → Int))}
    (IH : ∀ (t : Int → Int) (c : Int × Int × Int × Int × (Int → Int)) (h : AH), BP h → QK n g fx r h → QS n c h → CB c → (∀ i : Int, 0 ≤ i → i < (s + 1 : Nat) → -3 ≤ t i ∧ t i ≤ 3) → (∀ i : Int, 0 ≤ i → i < (s + 1 : Nat) → h_V h 42 i = t i) → ∃ h', rec 0 39 ((s + 1 : Nat) : Int) (us t (s + 1)) (ab g t (s + 1)) (be g t (s + 1)) (oa g fx t (s + 1)) (ob g fx t (s + 1)) h = some (0, h') ∧ QS n (G t c) h' ∧ CB (G t c) ∧ Ag (XR ((s + 1 : Nat) : Int)) h h')
    {own most : Int} (ow : (own = 0 ∧ fx s = true) ∨ (own = 1 ∧ fx s = false)) (m0 : 0 ≤ most) (m3 : most ≤ 3) (hl : ∀ i : Int, 0 ≤ i → i < s → -3 ≤ t i ∧ t i ≤ 3) :
    ∀ (k e : Nat) (v : Int) (c : Int × Int × Int × Int × (Int → Int)) (h : AH), v + k = most + 1 → -most ≤ v → BP h → QK n g fx r h → QS n c h → CB c → (∀ i : Int, 0 ≤ i → i < s → h_V h 42 i = t i) →
      ∃ h', it_ (fun (k : Int × AH → Option (Int × AH)) (q : Int × AH) => F_Q_descend_75 rec 39 s (us t s) (ab g t s) (be g t s) (oa g fx t s) (ob g fx t s) own most (fun a0 a1 => k (a0, a1)) q.1 q.2) (k + 1 + e) (v, h) = some (0, h') ∧ QS n (itn (fun v c => G (up_ t s v) c) k v c) h' ∧ CB (itn (fun v c => G (up_ t s v) c) k v c) ∧ Ag (XR s) h h'
  | 0, e, v, c, h, ev, lv, K, hK, hS, hc, ht => by
    rw [show 0 + 1 + e = e + 1 by omega, it_un]
    unfold F_Q_descend_75
    dsimp only
    rw [nmi (z := most) (by omega) (by omega), nmi (z := v) (by omega) (by omega), if_pos (by omega)]
    exact ⟨h, rfl, hS, hc, Ag.rf⟩
  | k + 1, e, v, c, h, ev, lv, K, hK, hS, hc, ht => by
    have n5 := hg.1
    have gs := hg.2 s (by omega) (by omega)
    have ga : Ag (XR s) h (h_S h 42 s v) := Ag.rf.st (by unfold XR; omega)
    have K1 := K.ag ga bp_xr
    have hK1 := hK.xr ga
    have hS1 : QS n c (h_S h 42 s v) := by
      obtain ⟨a1, a2, a3⟩ := hS
      refine ⟨by rw [hV_ne (by decide)]; exact a1, by rw [hV_ne (by decide)]; exact a2, fun z => ⟨by rw [hV_ne (by decide)]; exact (a3 z).1, by rw [hV_ne (by decide)]; exact (a3 z).2.1, fun i i0 i1 => by rw [hV_ne (by decide)]; exact (a3 z).2.2 i i0 i1⟩⟩
    have ht1 : ∀ i : Int, 0 ≤ i → i < (s + 1 : Nat) → h_V (h_S h 42 s v) 42 i = up_ t s v i := fun i i0 i1 => by
      rw [hV_eq, up_a]
      by_cases d : i = s
      · rw [if_pos d, if_pos d]
      · rw [if_neg d, if_neg d]; exact ht i i0 (by omega)
    have hl1 : ∀ i : Int, 0 ≤ i → i < (s + 1 : Nat) → -3 ≤ up_ t s v i ∧ up_ t s v i ≤ 3 := fun i i0 i1 => by
      rw [up_a]
      by_cases d : i = s
      · rw [if_pos d]; omega
      · rw [if_neg d]; exact hl i i0 (by omega)
    obtain ⟨h2, e2, S2, C2, g2⟩ := IH (up_ t s v) c _ K1 hK1 hS1 hc hl1 ht1
    have g2' : Ag (XR s) (h_S h 42 s v) h2 := g2.mono fun a i z => by unfold XR at z ⊢; omega
    have g12 := ga.tr g2'
    have ht2 : ∀ i : Int, 0 ≤ i → i < s → h_V h2 42 i = t i := fun i i0 i1 => by rw [g12.2.2.2 _ _ (by unfold XR; omega)]; exact ht i i0 i1
    obtain ⟨h3, e3, S3, C3, g3⟩ := q_loop hg hs IH ow m0 m3 hl k e (v + 1) _ h2 (by omega) (by omega) (K1.ag g2' bp_xr) (hK1.xr g2') S2 C2 ht2
    refine ⟨h3, ?_, S3, C3, g12.tr g3⟩
    have step : ∀ kf : Int × AH → Option (Int × AH), kf (v + 1, h2) = some (0, h3) → F_Q_descend_75 rec 39 s (us t s) (ab g t s) (be g t s) (oa g fx t s) (ob g fx t s) own most (fun a0 a1 => kf (a0, a1)) v h = some (0, h3) := by
      intro kf ek
      unfold F_Q_descend_75
      rw [nmi (z := most) (by omega) (by omega), nmi (z := v) (by omega) (by omega), if_neg (by omega), K.g39_0, Option.bind_some, ag_pos K.k40.1 K.k40.2 (by decide) (by omega) (by omega), Option.bind_some, hK.2.2.2 s (by omega) (by omega), Option.bind_some, Option.bind_some, Option.bind_some, K.g39_2, Option.bind_some, as_pos K.k42.1 K.k42.2 (by decide) (by omega) (by omega), Option.bind_some, mmax0 (by omega) (by omega), mmax0 (by omega) (by omega), mabs_av (by omega) (by omega)]
      rw [us_up, ab_up, be_up, oa_up, ob_up, show ((s + 1 : Nat) : Int) = (s : Int) + 1 by omega] at e2
      rcases ow with ⟨o1, o2⟩ | ⟨o1, o2⟩
      · rw [if_pos o2, if_pos o2, Int.add_zero, Int.add_zero] at e2
        rw [o1, if_pos nm_0]
        unfold f_Q_descend_156
        rw [if_pos nm_0]
        unfold f_Q_descend_171
        rw [e2, bd_some]
        exact ek
      · rw [o2, if_neg (by decide), if_neg (by decide)] at e2
        rw [o1, if_neg (by decide +kernel)]
        unfold f_Q_descend_156
        rw [if_neg (by decide +kernel)]
        unfold f_Q_descend_171
        rw [e2, bd_some]
        exact ek
    rw [show k + 1 + 1 + e = (k + 1 + e) + 1 by omega, it_un]
    exact step _ e3
theorem q_desc (hg : GL n g) (hr : r ≤ 3) : ∀ (j s m : Nat) (t : Int → Int) (c : Int × Int × Int × Int × (Int → Int)) (h : AH), s + j = n → j ≤ m → BP h → QK n g fx r h → QS n c h → CB c → (∀ i : Int, 0 ≤ i → i < s → -3 ≤ t i ∧ t i ≤ 3) → (∀ i : Int, 0 ≤ i → i < s → h_V h 42 i = t i) → ∃ h', r_Q (m + 1) 0 39 s (us t s) (ab g t s) (be g t s) (oa g fx t s) (ob g fx t s) h = some (0, h') ∧ QS n (fv (stC n g fx) fx r j s t c) h' ∧ CB (fv (stC n g fx) fx r j s t c) ∧ Ag (XR s) h h' := by
  intro j
  induction j with
  | zero =>
    intro s m t c h e jm K hK hS hc hl ht
    have en : s = n := by omega
    subst en
    obtain ⟨b1, b2, b3, b4, b5⟩ := sums_b (fx := fx) hg (Nat.le_refl s) hl
    show ∃ h', f_Q_descend (r_Q m) 39 s (us t s) (ab g t s) (be g t s) (oa g fx t s) (ob g fx t s) h = some (0, h') ∧ _
    unfold f_Q_descend
    have c1 := hc.1
    rw [gf_pos K.k39, Option.bind_some, hS.1, nmi (z := c.1) (by omega) (by omega), nmi (z := us t s + m_max (ab g t s) (be g t s)) (by unfold m_max; split <;> omega) (by unfold m_max; split <;> omega)]
    by_cases d : us t s + m_max (ab g t s) (be g t s) ≤ c.1
    · obtain ⟨h', e', S', g'⟩ := q_weigh hg K hK hS hc hl ht
      rw [if_pos d, gf_pos K.k39, Option.bind_some, hK.1, if_neg (Int.lt_irrefl _), ck_pos K.k39, e', bd_some]
      have sb := slp_b b1 b2 b3 b4 b5
      exact ⟨h', rfl, S', stC_CB hc b1.2 sb.1.2, g'.mono XW_XR⟩
    · rw [if_neg d, fv_cut 0 s t e (by unfold m_max at d; rw [nmi (by omega) (by omega), nmi (by omega) (by omega)] at d; split at d <;> omega)]
      exact ⟨h, rfl, hS, hc, Ag.rf⟩
  | succ j ih =>
    intro s m t c h e jm K hK hS hc hl ht
    obtain ⟨m', rfl⟩ : ∃ m', m = m' + 1 := ⟨m - 1, by omega⟩
    have n5 := hg.1
    obtain ⟨b1, b2, b3, b4, b5⟩ := sums_b (fx := fx) hg (show s ≤ n by omega) hl
    show ∃ h', f_Q_descend (r_Q (m' + 1)) 39 s (us t s) (ab g t s) (be g t s) (oa g fx t s) (ob g fx t s) h = some (0, h') ∧ _
    unfold f_Q_descend
    have c1 := hc.1
    rw [gf_pos K.k39, Option.bind_some, hS.1, nmi (z := c.1) (by omega) (by omega), nmi (z := us t s + m_max (ab g t s) (be g t s)) (by unfold m_max; split <;> omega) (by unfold m_max; split <;> omega)]
    by_cases d : us t s + m_max (ab g t s) (be g t s) ≤ c.1
    · rw [if_pos d, gf_pos K.k39, Option.bind_some, hK.1, nmi (by omega) (by omega), nmi (by omega) (by omega), if_pos (by omega), gf_pos K.k39, Option.bind_some, hK.2.1, bz_bit fx (by omega) (by omega)]
      have IH := fun (t : Int → Int) (c : Int × Int × Int × Int × (Int → Int)) (h : AH) K hK hS hc hl ht => ih (s + 1) m' t c h (by omega) (by omega) K hK hS hc hl ht
      cases f : fx s
      · rw [if_neg (by decide +kernel)]
        unfold f_Q_descend_53
        rw [if_neg (by decide +kernel), gf_pos K.k39, Option.bind_some, hK.2.2.1, Option.bind_some]
        obtain ⟨h', e', q⟩ := q_loop hg (show s < n by omega) (G := fun t c => fv (stC n g fx) fx r j (s + 1) t c) IH (Or.inr ⟨rfl, f⟩) (show (0 : Int) ≤ r by omega) (by omega) hl (2 * r + 1) (1000000 - (2 * r + 1) - 1) (-(r : Int)) c h (by omega) (by omega) K hK hS hc ht
        rw [show 2 * r + 1 + 1 + (1000000 - (2 * r + 1) - 1) = fu_ by unfold fu_; omega] at e'
        refine ⟨h', e', ?_⟩
        show QS n (itn (fun v c => fv (stC n g fx) fx r j (s + 1) (up_ t s v) c) (if fx s = true then 1 else 2 * r + 1) (if fx s = true then 0 else -(r : Int)) c) h' ∧ CB (itn (fun v c => fv (stC n g fx) fx r j (s + 1) (up_ t s v) c) (if fx s = true then 1 else 2 * r + 1) (if fx s = true then 0 else -(r : Int)) c) ∧ _
        rw [f, if_neg (by decide), if_neg (by decide)]
        exact q
      · rw [if_pos (by decide +kernel)]
        unfold f_Q_descend_53
        rw [if_pos nm_0, Option.bind_some]
        obtain ⟨h', e', q⟩ := q_loop hg (show s < n by omega) (G := fun t c => fv (stC n g fx) fx r j (s + 1) t c) IH (own := 0) (most := 0) (Or.inl ⟨rfl, f⟩) (by omega) (by omega) hl 1 999998 0 c h (by omega) (by omega) K hK hS hc ht
        refine ⟨h', e', ?_⟩
        show QS n (itn (fun v c => fv (stC n g fx) fx r j (s + 1) (up_ t s v) c) (if fx s = true then 1 else 2 * r + 1) (if fx s = true then 0 else -(r : Int)) c) h' ∧ CB (itn (fun v c => fv (stC n g fx) fx r j (s + 1) (up_ t s v) c) (if fx s = true then 1 else 2 * r + 1) (if fx s = true then 0 else -(r : Int)) c) ∧ _
        rw [f, if_pos rfl, if_pos rfl]
        exact q
    · rw [if_neg d, fv_cut (j + 1) s t e (by unfold m_max at d; rw [nmi (by omega) (by omega), nmi (by omega) (by omega)] at d; split at d <;> omega)]
      exact ⟨h, rfl, hS, hc, Ag.rf⟩
end
