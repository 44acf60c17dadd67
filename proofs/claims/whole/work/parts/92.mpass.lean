/-! ===== the Model: an hour ===== -/
theorem oi2l {v : Int} (h0 : -2147483648 ≤ v) (h1 : v < 2147483648) : o_i2l v = v := by
  unfold o_i2l; rw [Int32.toInt_toInt64, i32_nm, nmi h0 h1]
theorem sm_b {f : Int → Int} {M : Int} : ∀ (n : Nat) (a : Int), (∀ i, a ≤ i → i < a + n → 0 ≤ f i ∧ f i ≤ M) → 0 ≤ sm_ f a n ∧ sm_ f a n ≤ M * n
  | 0, a, _ => by simp [sm_]
  | n + 1, a, h => by
    have i := sm_b n (a + 1) fun i i0 i1 => h i (by omega) (by omega)
    have j := h a (by omega) (by omega)
    unfold sm_
    have : M * ((n + 1 : Nat) : Int) = M * n + M := by rw [Int.natCast_add, Int.mul_add]; simp
    omega
theorem sn_b {f : Int → Int} {M a b : Int} (h : ∀ i, a ≤ i → i < b → 0 ≤ f i ∧ f i ≤ M) (hab : b - a ≤ 5) (hM : 0 ≤ M) : 0 ≤ sn_ f a b ∧ sn_ f a b ≤ 5 * M := by
  have := sm_b (f := f) (M := M) (b - a).toNat a fun i i0 i1 => h i i0 (by omega)
  unfold sn_
  have : M * ((b - a).toNat : Int) ≤ M * 5 := Int.mul_le_mul_of_nonneg_left (by omega) hM
  omega
def ru_ (sd : Int → Int) (s : Int) : Int := cn_ (fru_ sd s) 0 (sd 1)
def wa_ (sd : Int → Int) : Int := sn_ (fun s => sd (1090 + s)) 0 (sd 2)
def al_ (sd : Int → Int) (w : Int) : Int := sn_ (fun s => mi_ sd s w) 0 (sd 2)
theorem ru_b {sd : Int → Int} (w : 0 ≤ sd 1 ∧ sd 1 ≤ 60) (s : Int) : 0 ≤ ru_ sd s ∧ ru_ sd s ≤ 60 := by
  have h1 := cn_nn (fru_ sd s) 0 (sd 1)
  have h2 := cn_le (P := fru_ sd s) w.1
  unfold ru_; omega
theorem wa_b {B : Int} {sd : Int → Int} (h : WB B sd) : 0 ≤ wa_ sd ∧ wa_ sd ≤ 5 * B := by
  have h2 := h.1.2.2.1
  exact sn_b (fun i i0 i1 => h.2.2.2.2.1 i i0 (by omega)) (by omega) (by have := h.2.1; omega)
theorem al_b {sd : Int → Int} (h : WS sd) (w : Int) : 0 ≤ al_ sd w ∧ al_ sd w ≤ 300 := by
  have h2 := h.2.2.1
  have := sn_b (f := fun s => mi_ sd s w) (M := 60) (a := 0) (b := sd 2) (fun i i0 i1 => mi_b h.2.1 i w) (by omega) (by omega)
  exact ⟨this.1, this.2⟩
/-- the words of a station -/
def ws_ (sd : Int → Int) (s k : Int) : Int := if k = 0 then s else if k = 1 then sd (1090 + s) else if k = 2 then mi_ sd s 0 else if k = 3 then mi_ sd s 1 else if k = 4 then mi_ sd s 2 else if k = 5 then lo_ sd s else if k = 6 then ru_ sd s else if k = 7 then wa_ sd else if k = 8 then al_ sd 0 else sd 128
def EX (ρ : (Int → Int) → Int) : Prop := ∀ w w' : Int → Int, (∀ i, 0 ≤ i → i < 10 → w i = w' i) → ρ w = ρ w'
/-- the cells of a rule in the Model -/
def rk_ (k a i : Int) : Prop := (a = 48 ∧ 400 * k ≤ i ∧ i < 400 * k + 400) ∨ (a = 50 ∧ 48 * k ≤ i ∧ i < 48 * k + 48) ∨ (a = 51 ∧ i = k)
def MC (k : Int) (ρ : (Int → Int) → Int) (h : AH) : Prop := EX ρ ∧ ∀ h' : AH, MS h' → (∀ a i, rk_ k a i → h_V h' a i = h_V h a i) → ∃ h'', f_M_summedBy 46 k h' = some (ρ (h_V h' 55), h'') ∧ Ag (fun a i => a = 54 ∨ (a = 46 ∧ i = 18)) h' h''
theorem MC.mv {k : Int} {ρ : (Int → Int) → Int} {h h1 : AH} (H : MC k ρ h) (e : ∀ a i, rk_ k a i → h_V h1 a i = h_V h a i) : MC k ρ h1 :=
  ⟨H.1, fun h' H' e' => H.2 h' H' fun a i z => (e' a i z).trans (e a i z)⟩
/-- the rule in force -/
def MF (ρ : (Int → Int) → Int) (h : AH) : Prop := (h_V h 46 21 = -1 ∧ ρ = fun _ => 1) ∨ ((0 ≤ h_V h 46 21 ∧ h_V h 46 21 < 6) ∧ MC (h_V h 46 21) ρ h)
theorem MF.ex {ρ : (Int → Int) → Int} {h : AH} (H : MF ρ h) : EX ρ := by
  rcases H with ⟨-, rfl⟩ | H
  · exact fun _ _ _ => rfl
  · exact H.2.1
/-- what asking may write -/
def XH (a i : Int) : Prop := a = 56 ∨ a = 55 ∨ a = 54 ∨ (a = 46 ∧ i = 18)
theorem XH_np : NP XH := by
  rintro a i (h | h | h | ⟨h, h2⟩)
  · left; omega
  · left; omega
  · left; omega
  · right; subst h2; decide
theorem MF.ag {X : Int → Int → Prop} {ρ : (Int → Int) → Int} {h h' : AH} (H : MF ρ h) (g : Ag X h h') (hX : ∀ a i, X a i → a ≠ 48 ∧ a ≠ 50 ∧ a ≠ 51 ∧ ¬ (a = 46 ∧ i = 21)) : MF ρ h' := by
  have e : h_V h' 46 21 = h_V h 46 21 := g.2.2.2 _ _ fun z => (hX _ _ z).2.2.2 ⟨rfl, rfl⟩
  have f : ∀ k a i, rk_ k a i → h_V h' a i = h_V h a i := fun k a i z => g.2.2.2 _ _ fun y => by
    have := hX _ _ y
    rcases z with z | z | z <;> omega
  rcases H with ⟨a, b⟩ | ⟨a, b⟩
  · left; rw [e]; exact ⟨a, b⟩
  · right; rw [e]; exact ⟨a, b.mv (f _)⟩
theorem XH_f : ∀ a i, XH a i → a ≠ 48 ∧ a ≠ 50 ∧ a ≠ 51 ∧ ¬ (a = 46 ∧ i = 21) := by
  rintro a i (h | h | h | ⟨h, h2⟩) <;> omega
theorem gW {h : AH} (H : MS h) : g_f h 11 46 19 = some 55 := by rw [gf_pos H.1, (H.at 8 rfl).2.2]
theorem wW {h : AH} (H : MS h) {i v : Int} (h0 : 0 ≤ i) (h1 : i < 10) : a_s h 21 55 i v = some (h_S h 55 i v) := as_pos (H.at 8 rfl).1 (H.at 8 rfl).2.1 (by decide) h0 h1
theorem sd_55 (h : AH) (i v : Int) : sd_ (h_S h 55 i v) = sd_ h := hV_So h i v (by decide)
theorem m_sumOf_1 {h : AH} (H : MS h) (hw : WS (sd_ h)) {s k : Int} (s0 : 0 ≤ s) (s1 : s < 5) (k0 : 0 ≤ k) (k1 : k < 3) (kf : Int → AH → Option (Int × AH)) : F_M_sumOf_27 46 s kf k h = kf (k + 1) (h_S h 55 (2 + k) (mi_ (sd_ h) s k)) := by
  have b := mi_b (sd := sd_ h) hw.2.1 s k
  unfold F_M_sumOf_27
  rw [nmi (z := 3) (by decide) (by decide), nmi (z := k) (by omega) (by omega), if_neg (by omega), gW H, Option.bind_some, ck_pos H.1, m_manyIn H hw ⟨by omega, by omega⟩ ⟨by omega, by omega⟩, bd_some]
  show (a_s h 21 55 (2 + k) (o_i2l (mi_ (sd_ h) s k))).bind _ = _
  rw [oi2l (by omega) (by omega), wW H (by omega) (by omega), Option.bind_some]
theorem m_sumOf_3 {h h2 : AH} {B : Int} (H : MS h) (hw : WB B (sd_ h)) (hB : B ≤ 2000000) {ρ : (Int → Int) → Int} (hf : 0 ≤ h_V h 46 21) (hr : MC (h_V h 46 21) ρ h) {s : Int} (s0 : 0 ≤ s) (s1 : s < 5) (G : Ag (fun a i => a = 55 ∨ a = 54 ∨ (a = 46 ∧ i = 18)) h h2) (N : ∀ k, 0 ≤ k → k < 5 → h_V h2 55 k = ws_ (sd_ h) s k) (kf : Int → AH → Option (Int × AH)) : ∃ h', F_M_sumOf_27 46 s kf 3 h2 = some (ρ (ws_ (sd_ h) s), h') ∧ Ag (fun a i => a = 55 ∨ a = 54 ∨ (a = 46 ∧ i = 18)) h h' := by
  have w6 : 0 ≤ sd_ h 128 ∧ sd_ h 128 ≤ B := hw.2.1
  have rs : R32 s := ⟨by omega, by omega⟩
  have np : NP (fun a i => a = 55 ∨ a = 54 ∨ (a = 46 ∧ i = 18)) := fun a i z => XH_np a i (Or.inr z)
  have M2 : MS h2 := H.ag G np
  have E2 : sd_ h2 = sd_ h := by funext i; exact G.2.2.2 _ _ (by omega)
  have b1 := lo_r (sd := sd_ h) hw.1.2.1 s
  have b2 := ru_b (sd := sd_ h) hw.1.2.1 s
  have b3 := wa_b (sd := sd_ h) hw
  have b4 := al_b (sd := sd_ h) hw.1 0
  unfold F_M_sumOf_27
  rw [if_pos (Int.le_refl _), gW M2, Option.bind_some, ck_pos M2.1, m_leastOf M2 (by rw [E2]; exact hw.1) rs, bd_some, E2, oi2l (by omega) (by omega), wW M2 (by decide) (by decide), Option.bind_some]
  have M3 := M2.row (a := 55) (i := 5) (v := lo_ (sd_ h) s) (by decide)
  have E3 := (sd_55 h2 5 (lo_ (sd_ h) s)).trans E2
  rw [gW M3, Option.bind_some, ck_pos M3.1, m_runsOf M3 (by rw [E3]; exact hw.1) rs, bd_some, E3]
  show ∃ h', (a_s _ 21 55 6 (o_i2l (ru_ (sd_ h) s))).bind _ = _ ∧ _
  rw [oi2l (by omega) (by omega), wW M3 (by decide) (by decide), Option.bind_some]
  have M4 := M3.row (a := 55) (i := 6) (v := ru_ (sd_ h) s) (by decide)
  have E4 := (sd_55 (h_S h2 55 5 (lo_ (sd_ h) s)) 6 (ru_ (sd_ h) s)).trans E3
  rw [gW M4, Option.bind_some, ck_pos M4.1, m_waitAll M4 (by rw [E4]; exact hw.1), bd_some, E4]
  show ∃ h', (a_s _ 21 55 7 (o_i2l (wa_ (sd_ h)))).bind _ = _ ∧ _
  rw [oi2l (by omega) (by omega), wW M4 (by decide) (by decide), Option.bind_some]
  have M5 := M4.row (a := 55) (i := 7) (v := wa_ (sd_ h)) (by decide)
  have E5 := (sd_55 (h_S (h_S h2 55 5 (lo_ (sd_ h) s)) 55 6 (ru_ (sd_ h) s)) 7 (wa_ (sd_ h))).trans E4
  rw [gW M5, Option.bind_some, ck_pos M5.1, m_allIn M5 (by rw [E5]; exact hw.1) ⟨by decide, by decide⟩, bd_some, E5]
  show ∃ h', (a_s _ 21 55 8 (o_i2l (al_ (sd_ h) 0))).bind _ = _ ∧ _
  rw [oi2l (by omega) (by omega), wW M5 (by decide) (by decide), Option.bind_some]
  have M6 := M5.row (a := 55) (i := 8) (v := al_ (sd_ h) 0) (by decide)
  have E6 := (sd_55 (h_S (h_S (h_S h2 55 5 (lo_ (sd_ h) s)) 55 6 (ru_ (sd_ h) s)) 55 7 (wa_ (sd_ h))) 8 (al_ (sd_ h) 0)).trans E5
  rw [gW M6, Option.bind_some, gS M6, Option.bind_some, aS M6 (by decide) (by decide), Option.bind_some]
  show ∃ h', (a_s _ 21 55 9 (o_i2l (sd_ _ 128))).bind _ = _ ∧ _
  rw [E6, oi2l (by omega) (by omega), wW M6 (by decide) (by decide), Option.bind_some]
  have M7 := M6.row (a := 55) (i := 9) (v := sd_ h 128) (by decide)
  have G7 : Ag (fun a i => a = 55 ∨ a = 54 ∨ (a = 46 ∧ i = 18)) h (h_S (h_S (h_S (h_S (h_S h2 55 5 (lo_ (sd_ h) s)) 55 6 (ru_ (sd_ h) s)) 55 7 (wa_ (sd_ h))) 55 8 (al_ (sd_ h) 0)) 55 9 (sd_ h 128)) := by
    refine Ag.st (Ag.st (Ag.st (Ag.st (Ag.st G ?_) ?_) ?_) ?_) ?_ <;> exact Or.inl rfl
  have N7 : ∀ k, 0 ≤ k → k < 10 → h_V (h_S (h_S (h_S (h_S (h_S h2 55 5 (lo_ (sd_ h) s)) 55 6 (ru_ (sd_ h) s)) 55 7 (wa_ (sd_ h))) 55 8 (al_ (sd_ h) 0)) 55 9 (sd_ h 128)) 55 k = ws_ (sd_ h) s k := by
    intro k k0 k1
    by_cases c : k < 5
    · have e := N k k0 c
      simp only [hV_S']
      rw [if_neg (by omega), if_neg (by omega), if_neg (by omega), if_neg (by omega), if_neg (by omega), e]
    · rcases (show k = 5 ∨ k = 6 ∨ k = 7 ∨ k = 8 ∨ k = 9 by omega) with rfl | rfl | rfl | rfl | rfl <;> simp [hV_S', ws_]
  generalize h_S (h_S (h_S (h_S (h_S h2 55 5 (lo_ (sd_ h) s)) 55 6 (ru_ (sd_ h) s)) 55 7 (wa_ (sd_ h))) 55 8 (al_ (sd_ h) 0)) 55 9 (sd_ h 128) = h7 at *
  have e21 : h_V h7 46 21 = h_V h 46 21 := G7.2.2.2 _ _ (by omega)
  rw [gf_pos M7.1, Option.bind_some, ck_pos M7.1, e21]
  obtain ⟨h8, e8, g8⟩ := hr.2 h7 M7 (fun a i z => G7.2.2.2 _ _ (by rcases z with z | z | z <;> omega))
  rw [e8, bd_some]
  exact ⟨h8, by rw [hr.1 _ _ N7], G7.tr (g8.mono fun a i z => Or.inr z)⟩
theorem m_sumOf {h : AH} {B : Int} (H : MS h) (hw : WB B (sd_ h)) (hB : B ≤ 2000000) {ρ : (Int → Int) → Int} (hf : 0 ≤ h_V h 46 21) (hr : MC (h_V h 46 21) ρ h) {s : Int} (s0 : 0 ≤ s) (s1 : s < 5) : ∃ h', f_M_sumOf 46 s h = some (ρ (ws_ (sd_ h) s), h') ∧ Ag (fun a i => a = 55 ∨ a = 54 ∨ (a = 46 ∧ i = 18)) h h' := by
  have w4 : 0 ≤ sd_ h (1090 + s) ∧ sd_ h (1090 + s) ≤ B := hw.2.2.2.2.1 s s0 s1
  have rs : R32 s := ⟨by omega, by omega⟩
  have np : NP (fun a i => a = 55 ∨ a = 54 ∨ (a = 46 ∧ i = 18)) := fun a i z => XH_np a i (Or.inr z)
  unfold f_M_sumOf f_M_sumOf_27
  have H1 := H.row (a := 55) (i := 0) (v := s) (by decide)
  have E1 := sd_55 h 0 s
  rw [gW H, Option.bind_some, oi2l rs.1 rs.2, wW H (by decide) (by decide), Option.bind_some, gW H1, Option.bind_some, gS H1, Option.bind_some, aS H1 (by omega) (by omega), Option.bind_some]
  rw [show h_V (h_S h 55 0 s) 56 (1090 + s) = sd_ h (1090 + s) from congrFun E1 _, oi2l (by omega) (by omega), wW H1 (by decide) (by decide), Option.bind_some]
  refine for1 (F := F_M_sumOf_27 46 s) (fun o => ∃ h', o = some (ρ (ws_ (sd_ h) s), h') ∧ Ag (fun a i => a = 55 ∨ a = 54 ∨ (a = 46 ∧ i = 18)) h h') (fun k h2 => Ag (fun a i => a = 55 ∨ a = 54 ∨ (a = 46 ∧ i = 18)) h h2 ∧ ∀ j, 0 ≤ j → j < 2 + k → h_V h2 55 j = ws_ (sd_ h) s j) (n := 3) (by decide) (by decide) ⟨(Ag.rf.st (Or.inl rfl)).st (Or.inl rfl), fun j j0 j1 => ?_⟩ ?_ ?_
  · rcases (show j = 0 ∨ j = 1 by omega) with rfl | rfl <;> simp [hV_S', ws_]
  · intro kf k h2 k0 k1 ⟨G, N⟩ ih
    have M2 : MS h2 := H.ag G np
    have E2 : sd_ h2 = sd_ h := by funext i; exact G.2.2.2 _ _ (by omega)
    rw [m_sumOf_1 M2 (by rw [E2]; exact hw.1) s0 s1 k0 k1, E2]
    refine ih _ ⟨G.st (Or.inl rfl), fun j j0 j1 => ?_⟩
    by_cases c : j < 2 + k
    · rw [hV_S', if_neg (by omega)]; exact N j j0 c
    · have : j = 2 + k := by omega
      subst this
      rw [hV_S', if_pos ⟨rfl, rfl⟩]
      rcases (show k = 0 ∨ k = 1 ∨ k = 2 by omega) with rfl | rfl | rfl <;> simp [ws_]
  · intro kf h2 ⟨G, N⟩
    exact m_sumOf_3 H hw hB hf hr s0 s1 G (fun k k0 k1 => N k k0 (by omega)) kf
