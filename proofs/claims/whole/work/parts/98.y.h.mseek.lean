/-! ===== slips: how the Model weighs ===== -/
section
variable {n : Nat} {g : Int → Int} {fx : Int → Bool} {t : Int → Int} {m : Int × Int × Int × (Int → Int)} {h : AH}
theorem m_most0 {z : Int} (h0 : -100000 ≤ z) (h1 : z ≤ 100000) (h : AH) : f_M_most0 z h = some (mx0 z, h) := by
  unfold f_M_most0 mx0
  rw [nmi (z := z) (by omega) (by omega)]
  by_cases c : z ≤ 0
  · rw [if_pos c]
    by_cases d : z < 0
    · rw [if_pos d]
    · rw [if_neg d, show z = 0 by omega]
  · rw [if_neg c, if_neg (by omega)]
theorem m_plain {z : Int} (h0 : -100000 ≤ z) (h1 : z ≤ 100000) (h : AH) : f_M_plain z h = some (av z, h) := by
  unfold f_M_plain av
  rw [nmi (z := z) (by omega) (by omega)]
  by_cases c : 0 ≤ z
  · rw [if_pos c, if_neg (by omega)]
  · rw [if_neg c, if_pos (by omega)]
theorem m_isOf (fx : Int → Bool) {s : Int} (s0 : 0 ≤ s) (s1 : s < 5) (h : AH) : f_M_isOf (bz fx) s h = some (b01 (fx s), h) := by
  unfold f_M_isOf
  rw [bz_bit fx s0 s1]
  cases fx s
  · rw [if_pos (by decide +kernel), cb_0]; rfl
  · rw [if_neg (by decide +kernel), cb_1]; rfl
/-- what the Model holds while it seeks -/
def MK (n : Nat) (g : Int → Int) (fx : Int → Bool) (h : AH) : Prop := MS h ∧ h_V h 56 2 = n ∧ h_V h 46 28 = bz fx ∧ ∀ s : Int, 0 ≤ s → s < n → h_V h 58 s = g s
def X32 (a i : Int) : Prop := a = 46 ∧ i = 32
def fa (g : Int → Int) (fx : Int → Bool) (k : Nat) : Int := su (fun s => if fx s = true then mx0 (g s) else 0) k
def fb (g : Int → Int) (fx : Int → Bool) (k : Nat) : Int := su (fun s => if fx s = true then mx0 (-g s) else 0) k
theorem fa_e : ∀ k : Nat, (∀ i : Int, 0 ≤ i → i < k → fx i = true → t i = 0) → fa g fx k + oa g fx t k = ab g t k ∧ fb g fx k + ob g fx t k = be g t k
  | 0, _ => ⟨rfl, rfl⟩
  | k + 1, hz => by
    obtain ⟨a, b⟩ := fa_e k fun i i0 i1 => hz i i0 (by omega)
    show (fa g fx k + (if fx k = true then mx0 (g k) else 0)) + (oa g fx t k + (if fx k = true then 0 else mx0 (g k - 10 * t k))) = ab g t k + mx0 (g k - 10 * t k) ∧ (fb g fx k + (if fx k = true then mx0 (-g k) else 0)) + (ob g fx t k + (if fx k = true then 0 else mx0 (-(g k - 10 * t k)))) = be g t k + mx0 (-(g k - 10 * t k))
    by_cases c : fx k = true
    · rw [if_pos c, if_pos c, if_pos c, if_pos c, hz k (by omega) (by omega) c, show g k - 10 * 0 = g k by omega]
      omega
    · rw [if_neg c, if_neg c, if_neg c, if_neg c]
      omega
/-- the reckoning -/
def rin (more less net : Int) : Int := if (if less < more - net then less else more - net) < mx0 (-net) then mx0 (-net) else (if less < more - net then less else more - net)
theorem rin_e {u more less c1 go : Int} (a : 0 ≤ more) (b : 0 ≤ less) (c : 0 ≤ c1) (d : 0 ≤ go) : c1 + rin more less (c1 - go) = shf (go + more) (c1 + less) more less ∧ u + (c1 + rin more less (c1 - go)) + av (more - rin more less (c1 - go) - (c1 - go)) + av (less - rin more less (c1 - go)) = slp u (go + more) (c1 + less) more less := by
  unfold rin slp shf av mx0
  (repeat' split) <;> omega
def SN (n : Nat) (g : Int → Int) (fx : Int → Bool) (t : Int → Int) : Int := if FE n g fx t = true then SL n g fx t else 999999
theorem bz5_full : ∀ (n : Fin 6) (b0 b1 b2 b3 b4 : Bool), (n.val ≤ 4 → b4 = false) → (n.val ≤ 3 → b3 = false) → (n.val ≤ 2 → b2 = false) → (n.val ≤ 1 → b1 = false) → (n.val ≤ 0 → b0 = false) → decide (nm (bz5 b0 b1 b2 b3 b4) = nm ((o_shl 1 n.val) - 1)) = alf (fb_ b0 b1 b2 b3 b4) n.val := by decide +kernel
theorem bz_full (fx : Int → Bool) (hn : n ≤ 5) (hf : ∀ i : Int, n ≤ i → i < 5 → fx i = false) : nm (bz fx) = nm ((o_shl 1 n) - 1) ↔ alf fx n = true := by
  have V := bz5_full ⟨n, by omega⟩ (fx 0) (fx 1) (fx 2) (fx 3) (fx 4) (fun z => hf 4 (by dsimp only at z; omega) (by omega)) (fun z => hf 3 (by dsimp only at z; omega) (by omega)) (fun z => hf 2 (by dsimp only at z; omega) (by omega)) (fun z => hf 1 (by dsimp only at z; omega) (by omega)) (fun z => hf 0 (by dsimp only at z; omega) (by omega))
  rw [alf_cg n (fb_n hn), ← V]
  simp [bz]
theorem MK.g28 (H : MK n g fx h) : g_f h 11 46 28 = some (bz fx) := by rw [gf_pos H.1.1, H.2.2.1]
theorem MK.n2 (H : MK n g fx h) : a_g h 20 56 2 = some (n : Int) := by rw [aS H.1 (by decide) (by decide), H.2.1]
theorem MK.g58 (H : MK n g fx h) : g_f h 11 46 25 = some 58 := by rw [gf_pos H.1.1, (H.1.at 11 rfl).2.2]
theorem MK.a58 (H : MK n g fx h) (hn : n ≤ 5) {s : Int} (s0 : 0 ≤ s) (s1 : s < n) : a_g h 20 58 s = some (g s) := by rw [ag_pos (H.1.at 11 rfl).1 (H.1.at 11 rfl).2.1 (by decide) s0 (show s < 5 by omega), H.2.2.2 s s0 s1]
theorem MK.g59 (H : MK n g fx h) : g_f h 11 46 26 = some 59 := by rw [gf_pos H.1.1, (H.1.at 12 rfl).2.2]
theorem MK.a59 (H : MK n g fx h) {s : Int} (s0 : 0 ≤ s) (s1 : s < 5) : a_g h 20 59 s = some (h_V h 59 s) := ag_pos (H.1.at 12 rfl).1 (H.1.at 12 rfl).2.1 (by decide) s0 s1
theorem MK.w59 (H : MK n g fx h) {s v : Int} (s0 : 0 ≤ s) (s1 : s < 5) : a_s h 20 59 s v = some (h_S h 59 s v) := as_pos (H.1.at 12 rfl).1 (H.1.at 12 rfl).2.1 (by decide) s0 s1
theorem MK.g60 (H : MK n g fx h) : g_f h 11 46 27 = some 60 := by rw [gf_pos H.1.1, (H.1.at 13 rfl).2.2]
theorem MK.w60 (H : MK n g fx h) {s v : Int} (s0 : 0 ≤ s) (s1 : s < 5) : a_s h 20 60 s v = some (h_S h 60 s v) := as_pos (H.1.at 13 rfl).1 (H.1.at 13 rfl).2.1 (by decide) s0 s1
theorem sums_f (hg : GL n g) {k : Nat} (hk : k ≤ n) : (0 ≤ fa g fx k ∧ fa g fx k ≤ 5000) ∧ (0 ≤ fb g fx k ∧ fb g fx k ≤ 5000) := by
  have k5 : (k : Int) ≤ 5 := by have := hg.1; omega
  have a : fa g fx k ≤ 1000 * k := su_b k fun i i0 i1 => by have := hg.2 i i0 (by omega); split <;> first | exact mx0_b (by omega) (by decide) | decide
  have b : fb g fx k ≤ 1000 * k := su_b k fun i i0 i1 => by have := hg.2 i i0 (by omega); split <;> first | exact mx0_b (by omega) (by decide) | decide
  exact ⟨⟨su_nn (fun _ => by split <;> first | exact mx0_nn _ | exact Int.le_refl _) k, by omega⟩, su_nn (fun _ => by split <;> first | exact mx0_nn _ | exact Int.le_refl _) k, by omega⟩
theorem m_sn206 (H : MS h) {more less c1 u net i1 : Int} (b1 : -50000 ≤ more - i1 - net ∧ more - i1 - net ≤ 50000) (b2 : -50000 ≤ less - i1 ∧ less - i1 ≤ 50000) : f_M_slipsNow_206 46 more less c1 u net i1 h = some (u + (c1 + i1) + av (more - i1 - net) + av (less - i1), h_S h 46 32 (c1 + i1)) := by
  unfold f_M_slipsNow_206
  rw [sf_pos H.1, Option.bind_some, gf_pos (by exact H.1), Option.bind_some, m_plain (by omega) (by omega), bd_some, m_plain (by omega) (by omega), bd_some, hV_eq, if_pos rfl]
def mvn (n : Nat) (g : Int → Int) (fx : Int → Bool) (t : Int → Int) : Int := if alf fx n = true then fb g fx n else SH n g fx t
theorem m_snend (hg : GL n g) (hf5 : ∀ i : Int, n ≤ i → i < 5 → fx i = false) (H : MK n g fx h) (hl : LG n fx t) (kf : Int → Int → Int → Int → Int → Int → AH → Option (Int × AH)) : F_M_slipsNow_15 46 kf (oa g fx t n) (ob g fx t n) (fb g fx n) (fa g fx n) (us t n) n h = some (SN n g fx t, h_S h 46 32 (mvn n g fx t)) ∧ (FE n g fx t = true → mvn n g fx t = SH n g fx t) := by
  have n5 := hg.1
  obtain ⟨b1, b2, b3, b4, b5⟩ := sums_b (fx := fx) hg (Nat.le_refl n) (fun i i0 i1 => (hl i i0 i1).1)
  obtain ⟨c1, c2⟩ := sums_f (fx := fx) hg (Nat.le_refl n)
  obtain ⟨e1, e2⟩ := fa_e (g := g) (fx := fx) (t := t) n fun i i0 i1 => (hl i i0 i1).2
  unfold F_M_slipsNow_15
  rw [gS H.1, Option.bind_some, H.n2, Option.bind_some, if_pos (Int.le_refl _), Option.bind_some, H.g28, Option.bind_some, Option.bind_some, H.n2, Option.bind_some]
  by_cases f : alf fx n = true
  · have ob0 : ∀ (p : Int → Int), su (fun s => if fx s = true then 0 else p s) n = 0 := fun p => by
      have : ∀ k : Nat, k ≤ n → su (fun s => if fx s = true then 0 else p s) k = 0 := fun k => by
        induction k with
        | zero => intro _; rfl
        | succ k ih =>
          intro hk
          show su (fun s => if fx s = true then 0 else p s) k + (if fx k = true then 0 else p k) = 0
          rw [ih (by omega), if_pos (alf_i n f k (by omega) (by omega))]; rfl
      exact this n (Nat.le_refl n)
    have za : oa g fx t n = 0 := ob0 _
    have zb : ob g fx t n = 0 := ob0 _
    have zt : ∀ i : Int, 0 ≤ i → i < n → t i = 0 := fun i i0 i1 => (hl i i0 i1).2 (alf_i n f i i0 i1)
    have zu : us t n = 0 := by
      have : us t n = us zv n := us_cg fun i i0 i1 => zt i i0 i1
      rw [this]
      have a : ∀ k : Nat, us zv k = 0 := fun k => by
        induction k with
        | zero => rfl
        | succ k ih => show us zv k + av (zv k) = 0; rw [ih]; rfl
      exact a n
    rw [if_neg (fun z => z ((bz_full fx n5 hf5).2 f)), sf_pos H.1.1, Option.bind_some, nmi (z := fb g fx n - fa g fx n) (by omega) (by omega)]
    by_cases d : fb g fx n - fa g fx n = 0
    · have fe : FE n g fx t = true := by unfold FE; rw [decide_eq_true (show ab g t n - be g t n = 0 by omega), Bool.or_true]
      rw [if_neg (fun z => z d)]
      have sl : fb g fx n = SL n g fx t := by
        unfold SL slp shf av
        rw [za, zb, zu]
        (repeat' split) <;> omega
      refine ⟨?_, fun _ => ?_⟩
      · unfold SN mvn; rw [if_pos fe, ← sl, if_pos f]
      · unfold mvn SH shf
        rw [if_pos f, za, zb]
        (repeat' split) <;> omega
    · have fe : FE n g fx t = false := by unfold FE; rw [f, decide_eq_false (show ¬ ab g t n - be g t n = 0 by omega)]; rfl
      rw [if_pos d]
      refine ⟨?_, fun z => (by rw [fe] at z; cases z)⟩
      unfold SN mvn; rw [fe, if_neg (by decide), if_pos f]
  · have fe : FE n g fx t = true := by unfold FE; simp [f]
    rw [if_pos (fun z => f ((bz_full fx n5 hf5).1 z))]
    have em : mvn n g fx t = SH n g fx t := by unfold mvn; rw [if_neg f]
    refine ⟨?_, fun _ => em⟩
    obtain ⟨r1, r2⟩ := rin_e (u := us t n) b4.1 b5.1 c2.1 c1.1
    rw [e1, e2] at r1 r2
    have key : ∀ w0 : Int, w0 = (if ob g fx t n < oa g fx t n - (fb g fx n - fa g fx n) then ob g fx t n else oa g fx t n - (fb g fx n - fa g fx n)) → f_M_slipsNow_185 46 (oa g fx t n) (ob g fx t n) (fb g fx n) (us t n) (fb g fx n - fa g fx n) w0 h = some (SN n g fx t, h_S h 46 32 (mvn n g fx t)) := fun w0 ew => by
      have wb : -20000 ≤ w0 ∧ w0 ≤ 20000 := by rw [ew]; split <;> omega
      have mb : 0 ≤ mx0 (-(fb g fx n - fa g fx n)) ∧ mx0 (-(fb g fx n - fa g fx n)) ≤ 20000 := ⟨mx0_nn _, mx0_b (by omega) (by decide)⟩
      unfold f_M_slipsNow_185
      rw [m_most0 (by omega) (by omega), bd_some, nmi (z := mx0 (-(fb g fx n - fa g fx n))) (by omega) (by omega), nmi (z := w0) (by omega) (by omega)]
      by_cases d : mx0 (-(fb g fx n - fa g fx n)) ≤ w0
      · have er : rin (oa g fx t n) (ob g fx t n) (fb g fx n - fa g fx n) = w0 := by unfold rin; rw [← ew, if_neg (by omega)]
        rw [er] at r1 r2
        rw [if_pos d, m_sn206 H.1 (by omega) (by omega)]
        rw [r2, em, show SH n g fx t = fb g fx n + w0 from r1.symm]; unfold SN; rw [if_pos fe]; rfl
      · have er : rin (oa g fx t n) (ob g fx t n) (fb g fx n - fa g fx n) = mx0 (-(fb g fx n - fa g fx n)) := by unfold rin; rw [← ew, if_pos (by omega)]
        rw [er] at r1 r2
        rw [if_neg d, m_most0 (by omega) (by omega), bd_some, m_sn206 H.1 (by omega) (by omega)]
        rw [r2, em, show SH n g fx t = fb g fx n + mx0 (-(fb g fx n - fa g fx n)) from r1.symm]; unfold SN; rw [if_pos fe]; rfl
    rw [nmi (z := oa g fx t n - (fb g fx n - fa g fx n)) (by omega) (by omega), nmi (z := ob g fx t n) (by omega) (by omega)]
    by_cases d : oa g fx t n - (fb g fx n - fa g fx n) ≤ ob g fx t n
    · rw [if_pos d]; exact key _ (by rw [if_neg (by omega)])
    · rw [if_neg d]; exact key _ (by rw [if_pos (by omega)])
theorem m_slipsNow (hg : GL n g) (hf5 : ∀ i : Int, n ≤ i → i < 5 → fx i = false) (H : MK n g fx h) (hl : LG n fx t) (ht : ∀ i : Int, 0 ≤ i → i < n → h_V h 59 i = t i) : ∃ h', f_M_slipsNow 46 h = some (SN n g fx t, h') ∧ (FE n g fx t = true → h_V h' 46 32 = SH n g fx t) ∧ Ag X32 h h' := by
  have n5 := hg.1
  have ee := m_snend hg hf5 H hl
  refine ⟨h_S h 46 32 (mvn n g fx t), ?_, fun z => by rw [hV_eq, if_pos rfl]; exact (ee fun _ _ _ _ _ _ _ => none).2 z, Ag.rf.st (by unfold X32; omega)⟩
  have L : ∀ (k s e : Nat), s + k = n → it_ (fun (k : Int × Int × Int × Int × Int × Int × AH → Option (Int × AH)) (s : Int × Int × Int × Int × Int × Int × AH) => F_M_slipsNow_15 46 (fun a0 a1 a2 a3 a4 a5 a6 => k (a0, a1, a2, a3, a4, a5, a6)) s.1 s.2.1 s.2.2.1 s.2.2.2.1 s.2.2.2.2.1 s.2.2.2.2.2.1 s.2.2.2.2.2.2) (k + 1 + e) (oa g fx t s, ob g fx t s, fb g fx s, fa g fx s, us t s, (s : Int), h) = some (SN n g fx t, h_S h 46 32 (mvn n g fx t)) := by
    intro k
    induction k with
    | zero =>
      intro s e es
      have : s = n := by omega
      subst this
      rw [show 0 + 1 + e = e + 1 by omega, it_un]
      exact (ee _).1
    | succ k ih =>
      intro s e es
      have gs := hg.2 s (by omega) (by omega)
      have ts := (hl s (by omega) (by omega)).1
      rw [show k + 1 + 1 + e = (k + 1 + e) + 1 by omega, it_un]
      have st : ∀ kf : Int × Int × Int × Int × Int × Int × AH → Option (Int × AH), F_M_slipsNow_15 46 (fun a0 a1 a2 a3 a4 a5 a6 => kf (a0, a1, a2, a3, a4, a5, a6)) (oa g fx t s) (ob g fx t s) (fb g fx s) (fa g fx s) (us t s) s h = kf (oa g fx t (s + 1), ob g fx t (s + 1), fb g fx (s + 1), fa g fx (s + 1), us t (s + 1), ((s + 1 : Nat) : Int), h) := by
        intro kf
        unfold F_M_slipsNow_15
        rw [gS H.1, Option.bind_some, H.n2, Option.bind_some, nmi (z := (n : Int)) (by omega) (by omega), nmi (z := (s : Int)) (by omega) (by omega), if_neg (by omega), H.g58, Option.bind_some, H.a58 n5 (by omega) (by omega), Option.bind_some, H.g59, Option.bind_some, H.a59 (by omega) (by omega), Option.bind_some, Option.bind_some, Option.bind_some, H.a59 (by omega) (by omega), Option.bind_some, ht s (by omega) (by omega), m_plain (by omega) (by omega), bd_some, Option.bind_some, H.g28, Option.bind_some, m_isOf fx (by omega) (by omega), bd_some]
        show _ = kf (oa g fx t s + (if fx s = true then 0 else mx0 (g s - 10 * t s)), ob g fx t s + (if fx s = true then 0 else mx0 (-(g s - 10 * t s))), fb g fx s + (if fx s = true then mx0 (-g s) else 0), fa g fx s + (if fx s = true then mx0 (g s) else 0), us t s + av (t s), ((s + 1 : Nat) : Int), h)
        cases f : fx s
        · rw [if_pos b01_f, m_most0 (by omega) (by omega), bd_some, Option.bind_some, m_most0 (by omega) (by omega), bd_some, Option.bind_some, if_neg (by decide), if_neg (by decide), if_neg (by decide), if_neg (by decide), Int.add_zero, Int.add_zero]
          rfl
        · rw [if_neg b01_t, H.g58, Option.bind_some, H.a58 n5 (by omega) (by omega), Option.bind_some, m_most0 (by omega) (by omega), bd_some, Option.bind_some, H.g58, Option.bind_some, H.a58 n5 (by omega) (by omega), Option.bind_some, m_most0 (by omega) (by omega), bd_some, Option.bind_some, if_pos rfl, if_pos rfl, if_pos rfl, if_pos rfl, Int.add_zero, Int.add_zero]
          rfl
      exact (st _).trans (ih (s + 1) e (by omega))
  have := L n 0 (1000000 - n - 1) (by omega)
  rw [show n + 1 + (1000000 - n - 1) = fu_ by unfold fu_; omega, show oa g fx t 0 = 0 from rfl, show ob g fx t 0 = 0 from rfl, show fa g fx 0 = 0 from rfl, show fb g fx 0 = 0 from rfl, show us t 0 = 0 from rfl, show ((0 : Nat) : Int) = 0 from rfl] at this
  unfold f_M_slipsNow f_M_slipsNow_15
  exact this
theorem m_tensAll (hn : n ≤ 5) (H : MK n g fx h) (hl : LG n fx t) (ht : ∀ i : Int, 0 ≤ i → i < n → h_V h 59 i = t i) : f_M_tensAll 46 h = some (us t n, h) := by
  have ub : ∀ k : Nat, k ≤ n → 0 ≤ us t k ∧ us t k ≤ 15 := fun k hk => by
    have a : us t k ≤ 3 * k := su_b k fun i i0 i1 => by have := (hl i i0 (by omega)).1; unfold av; split <;> omega
    exact ⟨us_nn _ _, by omega⟩
  have L : ∀ (k s e : Nat), s + k = n → it_ (fun (k : Int × Int × AH → Option (Int × AH)) (s : Int × Int × AH) => F_M_tensAll_4 46 (fun a0 a1 a2 => k (a0, a1, a2)) s.1 s.2.1 s.2.2) (k + 1 + e) (us t s, (s : Int), h) = some (us t n, h) := by
    intro k
    induction k with
    | zero =>
      intro s e es
      have : s = n := by omega
      subst this
      rw [show 0 + 1 + e = e + 1 by omega, it_un]
      unfold F_M_tensAll_4
      dsimp only
      rw [gS H.1, Option.bind_some, H.n2, Option.bind_some, if_pos (Int.le_refl _)]
    | succ k ih =>
      intro s e es
      have ts := (hl s (by omega) (by omega)).1
      rw [show k + 1 + 1 + e = (k + 1 + e) + 1 by omega, it_un]
      have st : ∀ kf : Int × Int × AH → Option (Int × AH), F_M_tensAll_4 46 (fun a0 a1 a2 => kf (a0, a1, a2)) (us t s) s h = kf (us t (s + 1), ((s + 1 : Nat) : Int), h) := by
        intro kf
        unfold F_M_tensAll_4
        rw [gS H.1, Option.bind_some, H.n2, Option.bind_some, nmi (z := (n : Int)) (by omega) (by omega), nmi (z := (s : Int)) (by omega) (by omega), if_neg (by omega), H.g59, Option.bind_some, H.a59 (by omega) (by omega), Option.bind_some, ht s (by omega) (by omega), m_plain (by omega) (by omega), bd_some, Option.bind_some]
        rfl
      exact (st _).trans (ih (s + 1) e (by omega))
  have := L n 0 (1000000 - n - 1) (by omega)
  rw [show n + 1 + (1000000 - n - 1) = fu_ by unfold fu_; omega] at this
  exact this
end
