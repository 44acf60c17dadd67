/-! ===== way, balance, count ===== -/
theorem p8_1 (m : Nat) : (1 : Int) ≤ 8 ^ m := by
  have := Nat.one_le_pow m 8 (by decide)
  exact_mod_cast this
theorem p8_m {a b : Nat} (h : a ≤ b) : (8 : Int) ^ a ≤ 8 ^ b := by
  have := Nat.pow_le_pow_right (n := 8) (by decide) h
  exact_mod_cast this
theorem TL.v {sd : Int → Int} {p v : Int} (h : TL sd p v) (hy : 0 ≤ sd (310 + p) ∧ sd (310 + p) ≤ 12) : (0 ≤ v ∧ v < 1152921504606846976) ∧ v % 16 = sd (310 + p) := by
  obtain ⟨u, e, b, -⟩ := h
  have := p8_m (a := (sd (310 + p)).toNat) (b := 12) (by omega)
  have e12 : (8 : Int) ^ 12 = 68719476736 := by decide
  rw [e12] at this
  omega
theorem p2_8k (k : Nat) : (2 : Int) ^ (1 + 3 * (k + 1)) = 16 * 8 ^ k := by
  rw [show 1 + 3 * (k + 1) = 4 + 3 * k by omega, Int.pow_add, Int.pow_mul]
  rfl
def way_ (sd : Int → Int) (p k : Int) : Int := if pa_ sd p = true ∧ 0 ≤ k then (if k = 0 then sd (310 + p) else if sd (310 + p) < k then -2 else sd (370 + 12 * p + k - 1)) else -1
theorem s_stepOf {sd : Int → Int} {a : Int} {h : AH} (S : SS a h) (V : SV sd a h) (w1 : sd 1 ≤ 60) (hx : WX sd) {p k : Int} (hp : pa_ sd p = true) (hk : R32 k) (k0 : 0 ≤ k) : f_S_stepOf a p k h = some (if k = 0 then sd (310 + p) else if sd (310 + p) < k then -2 else sd (370 + 12 * p + k - 1), h) := by
  have r := pa_r hp
  have y := hx.2.2.2.2.1 p r.1 (by omega)
  have t := V.2.2.1 p hp
  obtain ⟨vb, vm⟩ := t.v y
  have l1 : l_and (h_V h (a + 9) p) 15 = h_V h (a + 9) p % 16 := la_m 4 (by decide) vb.1 (by omega)
  unfold f_S_stepOf
  rw [S.g4, Option.bind_some, ag_pos S.k9.1 S.k9.2 (by decide) r.1 (by omega), Option.bind_some, Option.bind_some, l1, vm, o_l2i_e ⟨by omega, by omega⟩, nmi (z := sd (310 + p)) (by omega) (by omega), nmi (z := sd (310 + p)) (by omega) (by omega), nmi hk.1 hk.2]
  by_cases c : k = 0
  · rw [if_neg (fun z => z c), if_pos c]
  · rw [if_pos c, if_neg c]
    by_cases d : k ≤ sd (310 + p)
    · rw [if_pos d, if_neg (by omega), Option.bind_some, ag_pos S.k9.1 S.k9.2 (by decide) r.1 (by omega), Option.bind_some]
      obtain ⟨u, e, b, dg⟩ := t
      have dk := dg (k - 1).toNat (by omega)
      have ek : (((k - 1).toNat : Nat) : Int) = k - 1 := by omega
      have e1 : (1 + 3 * k).toNat = 1 + 3 * ((k - 1).toNat + 1) := by omega
      have sh : l_ushr (h_V h (a + 9) p) (1 + 3 * k) = u / 8 ^ (k - 1).toNat := by
        rw [l_ushr_nat vb.1 (by omega) (by omega) (by omega), Int.natCast_ediv, Int.toNat_of_nonneg vb.1]
        have : ((2 ^ (1 + 3 * k).toNat : Nat) : Int) = 16 * 8 ^ (k - 1).toNat := by
          rw [e1, ← p2_8k]; simp
        rw [this, ← Int.ediv_ediv_of_nonneg (by decide), e]
        congr 1; omega
      have nn : 0 ≤ u / 8 ^ (k - 1).toNat := Int.ediv_nonneg b.1 (by have := p8_1 (k - 1).toNat; omega)
      have ll : u / 8 ^ (k - 1).toNat ≤ u := Int.ediv_le_self _ b.1
      have o7 : o_and (o_l2i (u / 8 ^ (k - 1).toNat)) 7 = u / 8 ^ (k - 1).toNat % 8 := oa_m 3 (by decide) nn (by omega)
      rw [sh, o7, dk, ek, show 370 + 12 * p + (k - 1) = 370 + 12 * p + k - 1 by omega]
    · rw [if_neg d, if_pos (by omega)]
theorem c_way {sd : Int → Int} {h : AH} (K : BP h) (H : SR sd 11 h) (hw : WS sd) (hx : WX sd) {p k : Int} (hp : R32 p) (hk : R32 k) : f_B_way 1 p k h = some (way_ sd p k, h) := by
  unfold f_B_way way_
  rw [K.g1_5, Option.bind_some, K.g10_0, Option.bind_some, ck_pos K.k11, s_isPaper hw.2.1.2 hw H.1 H.2.2 hp, bd_some, nmi hk.1 hk.2]
  cases c : pa_ sd p
  · rw [if_pos b01_f, if_neg (by simp)]
  · rw [if_neg b01_t]
    by_cases d : 0 ≤ k
    · rw [if_pos d, if_pos ⟨rfl, d⟩, K.g1_5, Option.bind_some, K.g10_0, Option.bind_some, ck_pos K.k11, s_stepOf H.1 H.2.2 hw.2.1.2 hx c hk d, bd_some]
    · rw [if_neg d, if_neg (fun z => d z.2)]
theorem m_way {h : AH} (H : MS h) (hw : WS (sd_ h)) (hx : WX (sd_ h)) {p k : Int} (hp : R32 p) (hk : R32 k) : f_M_way 46 p k h = some (way_ (sd_ h) p k, h) := by
  have w1 : 0 ≤ sd_ h 1 ∧ sd_ h 1 ≤ 60 := hw.2.1
  unfold f_M_way way_
  rw [ck_pos H.1, m_isPaper H hw hp, bd_some, nmi hk.1 hk.2]
  cases c : pa_ (sd_ h) p
  · rw [if_pos b01_f, if_neg (by simp)]
  · have r := pa_r c
    have y : 0 ≤ sd_ h (310 + p) ∧ sd_ h (310 + p) ≤ 12 := hx.2.2.2.2.1 p r.1 (by omega)
    rw [if_neg b01_t]
    by_cases d : 0 ≤ k
    · have e : (if true = true ∧ 0 ≤ k then (if k = 0 then sd_ h (310 + p) else if sd_ h (310 + p) < k then -2 else sd_ h (370 + 12 * p + k - 1)) else -1) = (if k = 0 then sd_ h (310 + p) else if sd_ h (310 + p) < k then -2 else sd_ h (370 + 12 * p + k - 1)) := if_pos ⟨rfl, d⟩
      rw [if_pos d, e]
      by_cases k0 : k = 0
      · rw [if_neg (fun z => z k0), if_pos k0, gS H, Option.bind_some, aS H (by omega) (by omega), Option.bind_some]
      · rw [if_pos k0, if_neg k0, gS H, Option.bind_some, aS H (by omega) (by omega), Option.bind_some, show h_V h 56 (310 + p) = sd_ h (310 + p) from rfl, nmi (z := sd_ h (310 + p)) (by omega) (by omega)]
        by_cases q : sd_ h (310 + p) < k
        · rw [if_pos q, if_pos q]
        · rw [if_neg q, if_neg q, Option.bind_some, aS H (by omega) (by omega), Option.bind_some]
    · rw [if_neg d, if_neg (fun z => d z.2)]
def tm_ (sd : Int → Int) (s : Int) : Int := cn_ (fun k => decide (sd (1095 + 3 * s + k) ≠ -2)) 0 3
def ts_ (sd : Int → Int) (s : Int) : Int := sn_ (fun k => sd (1095 + 3 * s + k)) 0 3
def ba_ (sd : Int → Int) (s : Int) : Int := ha_ sd s + mv_ sd s - ts_ sd s
theorem tm_b (sd : Int → Int) (s : Int) : 0 ≤ tm_ sd s ∧ tm_ sd s ≤ 3 := by
  have x := cn_nn (fun k => decide (sd (1095 + 3 * s + k) ≠ -2)) 0 3
  have y := cn_le (P := fun k => decide (sd (1095 + 3 * s + k) ≠ -2)) (show (0 : Int) ≤ 3 by decide)
  unfold tm_; omega
theorem nmn2 : nm (-2) = -2 := by decide +kernel
theorem s_saidCount {sd : Int → Int} {a : Int} {h : AH} (S : SS a h) (V : SV sd a h) (hx : WX sd) (w2 : sd 2 ≤ 5) {s : Int} (s0 : 0 ≤ s) (s1 : s < sd 2) : f_S_saidCount a s h = some (tm_ sd s, h) := by
  have L := it_2 (F := F_S_saidCount_4 a s) (fun n k h2 o => h = h2 → 0 ≤ k → k ≤ 3 → o = some (n + cn_ (fun k => decide (sd (1095 + 3 * s + k) ≠ -2)) k 3, h)) (fun _ k _ => (3 - k).toNat) ?_ fu_ 0 0 h (fu_gt (by decide)) rfl (by decide) (by decide)
  · rw [Int.zero_add] at L; exact L
  intro kf n k h2 ih eh k0 k1
  subst eh
  unfold F_S_saidCount_4
  rw [nmi (z := 2) (by decide) (by decide), nmi (z := k) (by omega) (by omega), nmn2]
  by_cases d : 2 < k
  · rw [if_pos d, cn_e (by omega), Int.add_zero]
  · have t := hx.2.2.2.1 (3 * s + k) (by omega) (by omega)
    rw [show 1095 + (3 * s + k) = 1095 + 3 * s + k by omega] at t
    rw [if_neg d, S.g6, Option.bind_some, ag_pos S.k11.1 S.k11.2 (by decide) (by omega) (by omega), Option.bind_some, V.2.2.2.2.1 s k s0 s1 k0 (by omega), nmi (z := sd (1095 + 3 * s + k)) (by omega) (by omega), cn_s (a := k) (by omega)]
    by_cases q : sd (1095 + 3 * s + k) = -2
    · rw [if_pos q, ih _ _ _ (by omega) rfl (by omega) (by omega)]; simp [q]
    · rw [if_neg q, ih _ _ _ (by omega) rfl (by omega) (by omega)]; simp [q]; omega
theorem m_toldMany {h : AH} (H : MS h) (hx : ∀ k, 0 ≤ k → k < 15 → -2 ≤ sd_ h (1095 + k) ∧ sd_ h (1095 + k) ≤ 60) {s : Int} (s0 : 0 ≤ s) (s1 : s < 5) : f_M_toldMany 46 s h = some (tm_ (sd_ h) s, h) := by
  have L := it_2 (F := F_M_toldMany_4 46 s) (fun n k h2 o => h = h2 → 0 ≤ k → k ≤ 3 → o = some (n + cn_ (fun k => decide (sd_ h (1095 + 3 * s + k) ≠ -2)) k 3, h)) (fun _ k _ => (3 - k).toNat) ?_ fu_ 0 0 h (fu_gt (by decide)) rfl (by decide) (by decide)
  · rw [Int.zero_add] at L; exact L
  intro kf n k h2 ih eh k0 k1
  subst eh
  unfold F_M_toldMany_4
  rw [nmi (z := 3) (by decide) (by decide), nmi (z := k) (by omega) (by omega), nmn2]
  by_cases d : 3 ≤ k
  · rw [if_pos d, cn_e d, Int.add_zero]
  · have t := hx (3 * s + k) (by omega) (by omega)
    rw [show 1095 + (3 * s + k) = 1095 + 3 * s + k by omega] at t
    rw [if_neg d, gS H, Option.bind_some, aS H (by omega) (by omega), Option.bind_some, show h_V h 56 (1095 + 3 * s + k) = sd_ h (1095 + 3 * s + k) from rfl, nmi (z := sd_ h (1095 + 3 * s + k)) (by omega) (by omega), cn_s (a := k) (by omega), Option.bind_some, Option.bind_some]
    by_cases q : sd_ h (1095 + 3 * s + k) = -2
    · rw [if_pos q, ih _ _ _ (by omega) rfl (by omega) (by omega)]; simp [q]
    · rw [if_neg q, ih _ _ _ (by omega) rfl (by omega) (by omega)]; simp [q]; omega
theorem sn_x {f : Int → Int} {a b c : Int} (h1 : a ≤ b) (h2 : b ≤ c) (h : ∀ i, b ≤ i → i < c → f i = 0) : sn_ f a c = sn_ f a b := by
  have key : ∀ (m n : Nat) (a : Int), (∀ i, a + m ≤ i → i < a + m + n → f i = 0) → sm_ f a (m + n) = sm_ f a m := by
    intro m
    induction m with
    | zero =>
      intro n
      induction n with
      | zero => intro a _; rfl
      | succ n ih =>
        intro a h
        have i := ih (a + 1) fun i i0 i1 => h i (by omega) (by omega)
        show f a + sm_ f (a + 1) (0 + n) = 0
        rw [h a (by omega) (by omega), i]; rfl
    | succ m ih =>
      intro n a h
      rw [show m + 1 + n = (m + n) + 1 by omega]
      show f a + sm_ f (a + 1) (m + n) = f a + sm_ f (a + 1) m
      rw [ih n (a + 1) fun i i0 i1 => h i (by omega) (by omega)]
  unfold sn_
  rw [show (c - a).toNat = (b - a).toNat + (c - b).toNat by omega]
  exact key _ _ _ fun i i0 i1 => h i (by omega) (by omega)
theorem s_gapOf {sd : Int → Int} {a : Int} {h : AH} (S : SS a h) (V : SV sd a h) (hx : WX sd) (w2 : 0 ≤ sd 2 ∧ sd 2 ≤ 5) {s : Int} (s0 : 0 ≤ s) (s1 : s < sd 2) : f_S_gapOf a s h = some (ba_ sd s, h) := by
  have inner : ∀ g : Int, f_S_gapOf_46 a s g 0 h = some (g - ts_ sd s, h) := by
    intro g
    have L := it_2 (F := F_S_gapOf_46 a s) (fun n k h2 o => h = h2 → 0 ≤ k → k ≤ 3 → o = some (n - sn_ (fun k => sd (1095 + 3 * s + k)) k 3, h)) (fun _ k _ => (3 - k).toNat) ?_ fu_ g 0 h (fu_gt (by decide)) rfl (by decide) (by decide)
    · exact L
    intro kf n k h2 ih eh k0 k1
    subst eh
    unfold F_S_gapOf_46
    rw [nmi (z := 2) (by decide) (by decide), nmi (z := k) (by omega) (by omega)]
    by_cases d : 2 < k
    · rw [if_pos d, sn_e (by omega), Int.sub_zero]
    · rw [if_neg d, S.g6, Option.bind_some, ag_pos S.k11.1 S.k11.2 (by decide) (by omega) (by omega), Option.bind_some, V.2.2.2.2.1 s k s0 s1 k0 (by omega), Option.bind_some, ih _ _ _ (by omega) rfl (by omega) (by omega), sn_s (a := k) (by omega)]
      congr 2; omega
  unfold f_S_gapOf
  rw [S.g1, Option.bind_some, ag_pos S.k6.1 S.k6.2 (by decide) s0 (by omega), Option.bind_some, V.1 s s0 s1]
  have em : mv_ sd s = sn_ (fun o => sd (1115 + 5 * o + s) - sd (1115 + 5 * s + o)) 0 5 :=
    (sn_x w2.1 w2.2 fun i i0 i1 => by
      rw [hx.2.2.1 i s (by omega) i1 s0 (by omega) (Or.inl i0), hx.2.2.1 s i s0 (by omega) (by omega) i1 (Or.inr i0)]; rfl).symm
  have L := it_2 (F := F_S_gapOf_9 a s) (fun n k h2 o => h = h2 → 0 ≤ k → k ≤ 5 → o = some (n + sn_ (fun o => sd (1115 + 5 * o + s) - sd (1115 + 5 * s + o)) k 5 - ts_ sd s, h)) (fun _ k _ => (5 - k).toNat) ?_ fu_ (ha_ sd s) 0 h (fu_gt (by decide)) rfl (by decide) (by decide)
  · unfold ba_; rw [em]; exact L
  intro kf n k h2 ih eh k0 k1
  subst eh
  unfold F_S_gapOf_9
  rw [nmi (z := 5) (by decide) (by decide), nmi (z := k) (by omega) (by omega)]
  by_cases d : 5 ≤ k
  · rw [if_pos d, sn_e d, Int.add_zero, inner]
  · rw [if_neg d, S.g5, Option.bind_some, ag_pos S.k10.1 S.k10.2 (by decide) (by omega) (by omega), Option.bind_some, Option.bind_some, ag_pos S.k10.1 S.k10.2 (by decide) (by omega) (by omega), Option.bind_some, Option.bind_some, V.2.2.2.1 (k * 5 + s) (by omega) (by omega), V.2.2.2.1 (s * 5 + k) (by omega) (by omega), ih _ _ _ (by omega) rfl (by omega) (by omega), sn_s (a := k) (by omega), show 1115 + (k * 5 + s) = 1115 + 5 * k + s by omega, show 1115 + (s * 5 + k) = 1115 + 5 * s + k by omega]
    congr 2; omega
theorem m_balanceOf {h : AH} (H : MS h) (hw : WS (sd_ h)) {s : Int} (s0 : 0 ≤ s) (s1 : s < 5) : f_M_balanceOf 46 s h = some (ba_ (sd_ h) s, h) := by
  have w2 : 0 ≤ sd_ h 2 ∧ sd_ h 2 ≤ 5 := hw.2.2.1
  have inner : ∀ g : Int, f_M_balanceOf_58 46 s g 0 h = some (g - ts_ (sd_ h) s, h) := by
    intro g
    have L := it_2 (F := F_M_balanceOf_58 46 s) (fun n k h2 o => h = h2 → 0 ≤ k → k ≤ 3 → o = some (n - sn_ (fun k => sd_ h (1095 + 3 * s + k)) k 3, h)) (fun _ k _ => (3 - k).toNat) ?_ fu_ g 0 h (fu_gt (by decide)) rfl (by decide) (by decide)
    · exact L
    intro kf n k h2 ih eh k0 k1
    subst eh
    unfold F_M_balanceOf_58
    rw [nmi (z := 3) (by decide) (by decide), nmi (z := k) (by omega) (by omega)]
    by_cases d : 3 ≤ k
    · rw [if_pos d, sn_e d, Int.sub_zero]
    · rw [if_neg d, gS H, Option.bind_some, aS H (by omega) (by omega), Option.bind_some, Option.bind_some, ih _ _ _ (by omega) rfl (by omega) (by omega), sn_s (a := k) (by omega)]
      congr 2
      show n - sd_ h (1095 + 3 * s + k) - _ = _
      omega
  unfold f_M_balanceOf
  rw [ck_pos H.1, hadm H hw ⟨by omega, by omega⟩, bd_some]
  refine it_2 (F := F_M_balanceOf_8 46 s) (fun n k h2 o => h = h2 → 0 ≤ k → k ≤ 5 → o = some (n + sn_ (fun o => sd_ h (1115 + 5 * o + s) - sd_ h (1115 + 5 * s + o)) k (sd_ h 2) - ts_ (sd_ h) s, h)) (fun _ k _ => (5 - k).toNat) ?_ fu_ (ha_ (sd_ h) s) 0 h (fu_gt (by decide)) rfl (by decide) (by decide)
  intro kf n k h2 ih eh k0 k1
  subst eh
  unfold F_M_balanceOf_8
  rw [gS H, Option.bind_some, aS H (by decide) (by decide), Option.bind_some, show h_V h 56 2 = sd_ h 2 from rfl, nmi (z := sd_ h 2) (by omega) (by omega), nmi (z := k) (by omega) (by omega)]
  by_cases d : sd_ h 2 ≤ k
  · rw [if_pos d, sn_e d, Int.add_zero, inner]
  · rw [if_neg d, Option.bind_some, aS H (by omega) (by omega), Option.bind_some, Option.bind_some, aS H (by omega) (by omega), Option.bind_some, Option.bind_some, ih _ _ _ (by omega) rfl (by omega) (by omega), sn_s (a := k) (by omega)]
    congr 2
    show n + (sd_ h (1115 + 5 * k + s) - sd_ h (1115 + 5 * s + k)) + _ - _ = _
    omega
def bal_ (sd : Int → Int) (s : Int) : Int := if st_ sd s = true then (if tm_ sd s < 3 then -2 else ba_ sd s + 1000) else -1
theorem c_balance {sd : Int → Int} {h : AH} (K : BP h) (H : SR sd 11 h) (hw : WS sd) (hx : WX sd) {s : Int} (hs : R32 s) : f_B_balance 1 s h = some (bal_ sd s, h) := by
  have w2 := hw.2.2.1
  have T : TR sd 12 h := H.2.1
  unfold f_B_balance bal_
  rw [ck_pos K.k1, b_isStation K T.2.1.1 w2 hs, bd_some]
  cases c : st_ sd s
  · rw [if_neg (fun z => z b01_f), if_neg (by simp)]
  · have rs := st_r c
    have tb := tm_b sd s
    rw [if_pos b01_t, if_pos rfl, K.g1_5, Option.bind_some, K.g10_0, Option.bind_some, ck_pos K.k11, s_saidCount H.1 H.2.2 hx w2.2 rs.1 rs.2, bd_some, nmi (z := tm_ sd s) (by omega) (by omega), nmi (z := 3) (by decide) (by decide), K.g1_5, Option.bind_some, K.g10_0, Option.bind_some, ck_pos K.k11, s_gapOf H.1 H.2.2 hx w2 rs.1 rs.2, bd_some]
    by_cases d : 3 ≤ tm_ sd s
    · rw [if_pos d, if_neg (by omega)]
    · rw [if_neg d, if_pos (by omega)]
theorem m_balance {h : AH} (H : MS h) (hw : WS (sd_ h)) (hx : WX (sd_ h)) {s : Int} (hs : R32 s) : f_M_balance 46 s h = some (bal_ (sd_ h) s, h) := by
  have w2 : 0 ≤ sd_ h 2 ∧ sd_ h 2 ≤ 5 := hw.2.2.1
  unfold f_M_balance bal_
  rw [ck_pos H.1, m_isStation H hw hs, bd_some]
  cases c : st_ (sd_ h) s
  · rw [if_neg (fun z => z b01_f), if_neg (by simp)]
  · have rs := st_r c
    have tb := tm_b (sd_ h) s
    rw [if_pos b01_t, if_pos rfl, ck_pos H.1, m_toldMany H hx.2.2.2.1 rs.1 (by omega), bd_some, nmi (z := tm_ (sd_ h) s) (by omega) (by omega), nmi (z := 3) (by decide) (by decide), ck_pos H.1, m_balanceOf H hw rs.1 (by omega), bd_some]
    by_cases d : 3 ≤ tm_ (sd_ h) s
    · rw [if_pos d, if_neg (by omega)]
    · rw [if_neg d, if_pos (by omega)]
