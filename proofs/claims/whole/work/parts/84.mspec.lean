/-! ===== the Model: sums, first ones, rows ===== -/
/-- the first, the last number of a stretch that is so; -1 -/
def fo_ (P : Int → Bool) (a : Int) : Nat → Int
  | 0 => -1
  | n + 1 => if P a then a else fo_ P (a + 1) n
def ff_ (P : Int → Bool) (a b : Int) : Int := fo_ P a (b - a).toNat
theorem ff_e {P : Int → Bool} {a b : Int} (h : b ≤ a) : ff_ P a b = -1 := by
  unfold ff_; rw [show (b - a).toNat = 0 by omega]; rfl
theorem ff_s {P : Int → Bool} {a b : Int} (h : a < b) : ff_ P a b = if P a then a else ff_ P (a + 1) b := by
  unfold ff_; rw [show (b - a).toNat = (b - (a + 1)).toNat + 1 by omega]; rfl
def fg_ (P : Int → Bool) (b : Int) : Nat → Int
  | 0 => -1
  | n + 1 => if P (b - 1) then b - 1 else fg_ P (b - 1) n
/-- the last one of 0 .. b-1 -/
def fz_ (P : Int → Bool) (b : Int) : Int := fg_ P b b.toNat
theorem fz_e {P : Int → Bool} {b : Int} (h : b ≤ 0) : fz_ P b = -1 := by
  unfold fz_; rw [show b.toNat = 0 by omega]; rfl
theorem fz_s {P : Int → Bool} {b : Int} (h : 0 < b) : fz_ P b = if P (b - 1) then b - 1 else fz_ P (b - 1) := by
  unfold fz_; rw [show b.toNat = (b - 1).toNat + 1 by omega]; rfl
theorem fo_sp (P : Int → Bool) : ∀ (n : Nat) (a : Int), (fo_ P a n = -1 ∧ ∀ q, a ≤ q → q < a + n → P q = false) ∨ (a ≤ fo_ P a n ∧ fo_ P a n < a + n ∧ P (fo_ P a n) = true ∧ ∀ q, a ≤ q → q < fo_ P a n → P q = false)
  | 0, a => Or.inl ⟨rfl, fun q _ _ => by omega⟩
  | n + 1, a => by
    have := fo_sp P n (a + 1)
    unfold fo_
    by_cases c : P a = true
    · rw [if_pos c]; right; exact ⟨by omega, by omega, c, fun q _ _ => by omega⟩
    · rw [if_neg c]
      have c' : P a = false := by simpa using c
      rcases this with ⟨e, f⟩ | ⟨e, f, g, i⟩
      · left; refine ⟨e, fun q q0 q1 => ?_⟩
        by_cases z : q = a
        · rw [z]; exact c'
        · exact f q (by omega) (by omega)
      · right; refine ⟨by omega, by omega, g, fun q q0 q1 => ?_⟩
        by_cases z : q = a
        · rw [z]; exact c'
        · exact i q (by omega) (by omega)
theorem ff_sp (P : Int → Bool) {a b : Int} (h : a ≤ b) : (ff_ P a b = -1 ∧ ∀ q, a ≤ q → q < b → P q = false) ∨ (a ≤ ff_ P a b ∧ ff_ P a b < b ∧ P (ff_ P a b) = true ∧ ∀ q, a ≤ q → q < ff_ P a b → P q = false) := by
  have := fo_sp P (b - a).toNat a
  have e : a + ((b - a).toNat : Int) = b := by omega
  rw [e] at this; exact this
theorem fg_sp (P : Int → Bool) : ∀ (n : Nat) (b : Int), (fg_ P b n = -1 ∧ ∀ q, b - n ≤ q → q < b → P q = false) ∨ (b - n ≤ fg_ P b n ∧ fg_ P b n < b ∧ P (fg_ P b n) = true ∧ ∀ q, fg_ P b n < q → q < b → P q = false)
  | 0, b => Or.inl ⟨rfl, fun q _ _ => by omega⟩
  | n + 1, b => by
    have := fg_sp P n (b - 1)
    unfold fg_
    by_cases c : P (b - 1) = true
    · rw [if_pos c]; right; exact ⟨by omega, by omega, c, fun q _ _ => by omega⟩
    · rw [if_neg c]
      have c' : P (b - 1) = false := by simpa using c
      rcases this with ⟨e, f⟩ | ⟨e, f, g, i⟩
      · left; refine ⟨e, fun q q0 q1 => ?_⟩
        by_cases z : q = b - 1
        · rw [z]; exact c'
        · exact f q (by omega) (by omega)
      · right; refine ⟨by omega, by omega, g, fun q q0 q1 => ?_⟩
        by_cases z : q = b - 1
        · rw [z]; exact c'
        · exact i q (by omega) (by omega)
theorem fz_sp (P : Int → Bool) {b : Int} (h : 0 ≤ b) : (fz_ P b = -1 ∧ ∀ q, 0 ≤ q → q < b → P q = false) ∨ (0 ≤ fz_ P b ∧ fz_ P b < b ∧ P (fz_ P b) = true ∧ ∀ q, fz_ P b < q → q < b → P q = false) := by
  have := fg_sp P b.toNat b
  have e : b - (b.toNat : Int) = 0 := by omega
  rw [e] at this; exact this
/-- more bounds: of what grows -/
def WB (B : Int) (sd : Int → Int) : Prop := WS sd ∧ (0 ≤ sd 128 ∧ sd 128 ≤ B) ∧ (0 ≤ sd 129 ∧ sd 129 ≤ B) ∧ (∀ p, 0 ≤ p → p < 60 → 0 ≤ sd (250 + p) ∧ sd (250 + p) ≤ B) ∧ (∀ s, 0 ≤ s → s < 5 → 0 ≤ sd (1090 + s) ∧ sd (1090 + s) ≤ B) ∧ (∀ k, 0 ≤ k → k < 25 → 0 ≤ sd (1115 + k) ∧ sd (1115 + k) ≤ B)
def st_ (sd : Int → Int) (s : Int) : Bool := decide (0 ≤ s ∧ s < sd 2)
def mi_ (sd : Int → Int) (s w : Int) : Int := cn_ (fun p => in_ sd p s w) 0 (sd 1)
theorem mi_b {sd : Int → Int} (w : 0 ≤ sd 1 ∧ sd 1 ≤ 60) (s k : Int) : 0 ≤ mi_ sd s k ∧ mi_ sd s k ≤ 60 := by
  have h1 := cn_nn (fun p => in_ sd p s k) 0 (sd 1)
  have h2 := cn_le (P := fun p => in_ sd p s k) w.1
  unfold mi_; omega
theorem m_isStation {h : AH} (H : MS h) (hw : WS (sd_ h)) {s : Int} (hs : R32 s) : f_M_isStation 46 s h = some (b01 (st_ (sd_ h) s), h) := by
  have w2 : 0 ≤ h_V h 56 2 ∧ h_V h 56 2 ≤ 5 := hw.2.2.1
  have e : st_ (sd_ h) s = decide (0 ≤ s ∧ s < h_V h 56 2) := rfl
  unfold f_M_isStation
  simp (disch := omega) only [gS H, aS H, Option.bind_some, nmi hs.1 hs.2, nmi]
  grind [cb_0, cb_1, b01]
theorem m_allIn {h : AH} (H : MS h) (hw : WS (sd_ h)) {w : Int} (hq : R32 w) : f_M_allIn 46 w h = some (sn_ (fun s => mi_ (sd_ h) s w) 0 (sd_ h 2), h) := by
  have w2 : 0 ≤ h_V h 56 2 ∧ h_V h 56 2 ≤ 5 := hw.2.2.1
  have L := it_2 (F := F_M_allIn_4 46 w) (fun n s h' o => h = h' → 0 ≤ s → s ≤ 5 → o = some (n + sn_ (fun s => mi_ (sd_ h) s w) s (sd_ h 2), h)) (fun n s h' => (5 - s).toNat) ?_ fu_ 0 0 h (fu_gt (by omega)) rfl (by omega) (by omega)
  · rw [Int.zero_add] at L; exact L
  · intro kf n s h' ih e h0 h1
    subst e
    unfold F_M_allIn_4
    simp (disch := omega) only [gS H, aS H, Option.bind_some, nmi, ck_pos H.1]
    by_cases c : h_V h 56 2 ≤ s
    · rw [if_pos c, sn_e (by exact c)]; simp
    · rw [if_neg c, m_manyIn H hw ⟨by omega, by omega⟩ hq, bd_some, sn_s (by show s < h_V h 56 2; omega)]
      rw [ih _ _ _ (by omega) rfl (by omega) (by omega)]
      simp [mi_, Int.add_assoc]
theorem m_hadBy {h : AH} (H : MS h) (hw : WS (sd_ h)) {s : Int} (hs : R32 s) : f_M_hadBy 46 s h = some (cn_ (fun p => decide (sd_ h (3 + p) = s)) 0 (sd_ h 1), h) := by
  have w1 : 0 ≤ h_V h 56 1 ∧ h_V h 56 1 ≤ 60 := hw.2.1
  have L := it_2 (F := F_M_hadBy_4 46 s) (fun n p h' o => h = h' → 0 ≤ p → p ≤ 60 → o = some (n + cn_ (fun p => decide (sd_ h (3 + p) = s)) p (sd_ h 1), h)) (fun n s h' => (60 - s).toNat) ?_ fu_ 0 0 h (fu_gt (by omega)) rfl (by omega) (by omega)
  · rw [Int.zero_add] at L; exact L
  · intro kf n p h' ih e h0 h1
    subst e
    unfold F_M_hadBy_4
    simp (disch := omega) only [gS H, aS H, Option.bind_some, nmi, ck_pos H.1]
    by_cases c : h_V h 56 1 ≤ p
    · rw [if_pos c, cn_e (by exact c)]; simp
    · rw [if_neg c]
      have w3 : -1 ≤ h_V h 56 (3 + p) ∧ h_V h 56 (3 + p) < 5 := hw.2.2.2.1 p (by omega) (by omega)
      simp (disch := omega) only [aS H, Option.bind_some, nmi, nmi hs.1 hs.2, ih, true_implies]
      rw [cn_s (a := p) (by show p < h_V h 56 1; omega)]
      grind
theorem m_waitAll {h : AH} (H : MS h) (hw : WS (sd_ h)) : f_M_waitAll 46 h = some (sn_ (fun s => sd_ h (1090 + s)) 0 (sd_ h 2), h) := by
  have w2 : 0 ≤ h_V h 56 2 ∧ h_V h 56 2 ≤ 5 := hw.2.2.1
  have L := it_2 (F := F_M_waitAll_4 46) (fun n s h' o => h = h' → 0 ≤ s → s ≤ 5 → o = some (n + sn_ (fun s => sd_ h (1090 + s)) s (sd_ h 2), h)) (fun n s h' => (5 - s).toNat) ?_ fu_ 0 0 h (fu_gt (by omega)) rfl (by omega) (by omega)
  · rw [Int.zero_add] at L; exact L
  · intro kf n s h' ih e h0 h1
    subst e
    unfold F_M_waitAll_4
    simp (disch := omega) only [gS H, aS H, Option.bind_some, nmi, ck_pos H.1]
    by_cases c : h_V h 56 2 ≤ s
    · rw [if_pos c, sn_e (by exact c)]; simp
    · rw [if_neg c, sn_s (by show s < h_V h 56 2; omega)]
      rw [ih _ _ _ (by omega) rfl (by omega) (by omega)]
      simp [Int.add_assoc]
def lo_ (sd : Int → Int) (s : Int) : Int := ff_ (fun p => in_ sd p s 0) 0 (sd 1)
theorem m_leastOf {h : AH} (H : MS h) (hw : WS (sd_ h)) {s : Int} (hs : R32 s) : f_M_leastOf 46 s h = some (lo_ (sd_ h) s, h) := by
  have w1 : 0 ≤ h_V h 56 1 ∧ h_V h 56 1 ≤ 60 := hw.2.1
  refine it_1 (F := F_M_leastOf_2 46 s) (fun p h' o => h = h' → 0 ≤ p → p ≤ 60 → o = some (ff_ (fun p => in_ (sd_ h) p s 0) p (sd_ h 1), h)) (fun s h' => (60 - s).toNat) ?_ fu_ 0 h (fu_gt (by omega)) rfl (by omega) (by omega)
  intro kf p h' ih e h0 h1
  subst e
  unfold F_M_leastOf_2
  simp (disch := omega) only [gS H, aS H, Option.bind_some, nmi, ck_pos H.1]
  by_cases c : h_V h 56 1 ≤ p
  · rw [if_pos c, ff_e (by exact c)]
  · rw [if_neg c, m_isIn H hw ⟨by omega, by omega⟩ hs (by constructor <;> decide), bd_some, ff_s (by show p < h_V h 56 1; omega)]
    simp (disch := omega) only [b01_0, ih]
    grind
def go_ (sd : Int → Int) (s : Int) : Int := fz_ (fun p => in_ sd p s 0) (sd 1)
theorem m_greatestOf {h : AH} (H : MS h) (hw : WS (sd_ h)) {s : Int} (hs : R32 s) : f_M_greatestOf 46 s h = some (go_ (sd_ h) s, h) := by
  have w1 : 0 ≤ h_V h 56 1 ∧ h_V h 56 1 ≤ 60 := hw.2.1
  unfold f_M_greatestOf
  simp (disch := omega) only [gS H, aS H, Option.bind_some]
  have L := it_1 (F := F_M_greatestOf_9 46 s) (fun p h' o => h = h' → -1 ≤ p → p ≤ 60 → o = some (fz_ (fun p => in_ (sd_ h) p s 0) (p + 1), h)) (fun p h' => (p + 1).toNat) ?_ fu_ (h_V h 56 1 - 1) h (fu_gt (by omega)) rfl (by omega) (by omega)
  · rw [show h_V h 56 1 - 1 + 1 = h_V h 56 1 by omega] at L; exact L
  intro kf p h' ih e h0 h1
  subst e
  unfold F_M_greatestOf_9
  simp (disch := omega) only [nmi, ck_pos H.1]
  by_cases c : p < 0
  · rw [if_pos c, fz_e (by omega)]
  · rw [if_neg c, m_isIn H hw ⟨by omega, by omega⟩ hs (by constructor <;> decide), bd_some, fz_s (by omega)]
    have q := ih (p + -1) h (by omega) rfl (by omega) (by omega)
    rw [show p + -1 + 1 = p by omega] at q
    rw [show p + 1 - 1 = p by omega]
    simp only [b01_0]
    grind
def ah_ (sd : Int → Int) (p o : Int) : Bool := in_ sd o (sd (130 + p)) (sd (190 + p)) && (if sd (190 + p) = 0 then decide (o < p) else decide (sd (250 + o) < sd (250 + p)))
def ao_ (sd : Int → Int) (p : Int) : Int := cn_ (ah_ sd p) 0 (sd 1)
theorem m_aheadOf {h : AH} {B : Int} (H : MS h) (hw : WB B (sd_ h)) (hB : B ≤ 1000000) {p : Int} (p0 : 0 ≤ p) (p1 : p < 60) : f_M_aheadOf 46 p h = some (ao_ (sd_ h) p, h) := by
  have w1 : 0 ≤ h_V h 56 1 ∧ h_V h 56 1 ≤ 60 := hw.1.2.1
  have w4 : 0 ≤ h_V h 56 (130 + p) ∧ h_V h 56 (130 + p) < 5 := hw.1.2.2.2.2.1 p (by omega) (by omega)
  have w5 : 0 ≤ h_V h 56 (190 + p) ∧ h_V h 56 (190 + p) < 3 := hw.1.2.2.2.2.2 p (by omega) (by omega)
  have w6 : 0 ≤ h_V h 56 (250 + p) ∧ h_V h 56 (250 + p) ≤ B := hw.2.2.2.1 p (by omega) (by omega)
  have L := it_2 (F := F_M_aheadOf_4 46 p) (fun n o h' r => h = h' → 0 ≤ o → o ≤ 60 → r = some (n + cn_ (ah_ (sd_ h) p) o (sd_ h 1), h)) (fun n o h' => (60 - o).toNat) ?_ fu_ 0 0 h (fu_gt (by omega)) rfl (by omega) (by omega)
  · rw [Int.zero_add] at L; exact L
  · intro kf n o h' ih e h0 h1
    subst e
    unfold F_M_aheadOf_4
    simp (disch := omega) only [gS H, aS H, Option.bind_some, nmi, ck_pos H.1]
    by_cases c : h_V h 56 1 ≤ o
    · rw [if_pos c, cn_e (by exact c)]; simp
    · have w7 : 0 ≤ h_V h 56 (250 + o) ∧ h_V h 56 (250 + o) ≤ B := hw.2.2.2.1 o (by omega) (by omega)
      rw [if_neg c, cn_s (a := o) (by show o < h_V h 56 1; omega)]
      rw [m_isIn H hw.1 ⟨by omega, by omega⟩ ⟨by omega, by omega⟩ ⟨by omega, by omega⟩, bd_some]
      simp (disch := omega) only [b01_0, gS H, aS H, Option.bind_some, nmi, ih, ne_eq]
      have ea : ah_ (sd_ h) p o = (in_ (sd_ h) o (h_V h 56 (130 + p)) (h_V h 56 (190 + p)) && (if h_V h 56 (190 + p) = 0 then decide (o < p) else decide (h_V h 56 (250 + o) < h_V h 56 (250 + p)))) := rfl
      grind
def ap_ (sd : Int → Int) (s w k : Int) : Int := ff_ (fun p => in_ sd p s w && decide (ao_ sd p = k)) 0 (sd 1)
theorem ao_b {sd : Int → Int} (w : 0 ≤ sd 1 ∧ sd 1 ≤ 60) (p : Int) : 0 ≤ ao_ sd p ∧ ao_ sd p ≤ 60 := by
  have h1 := cn_nn (ah_ sd p) 0 (sd 1)
  have h2 := cn_le (P := ah_ sd p) w.1
  unfold ao_; omega
theorem m_atPlace {h : AH} {B : Int} (H : MS h) (hw : WB B (sd_ h)) (hB : B ≤ 1000000) {s w k : Int} (hs : R32 s) (hq : R32 w) (hk : R32 k) : f_M_atPlace 46 s w k h = some (ap_ (sd_ h) s w k, h) := by
  have w1 : 0 ≤ h_V h 56 1 ∧ h_V h 56 1 ≤ 60 := hw.1.2.1
  refine it_1 (F := F_M_atPlace_3 46 s w k) (fun p h' o => h = h' → 0 ≤ p → p ≤ 60 → o = some (ff_ (fun p => in_ (sd_ h) p s w && decide (ao_ (sd_ h) p = k)) p (sd_ h 1), h)) (fun s h' => (60 - s).toNat) ?_ fu_ 0 h (fu_gt (by omega)) rfl (by omega) (by omega)
  intro kf p h' ih e h0 h1
  subst e
  unfold F_M_atPlace_3
  simp (disch := omega) only [gS H, aS H, Option.bind_some, nmi, ck_pos H.1]
  by_cases c : h_V h 56 1 ≤ p
  · rw [if_pos c, ff_e (by exact c)]
  · rw [if_neg c, m_isIn H hw.1 ⟨by omega, by omega⟩ hs hq, bd_some, m_aheadOf H hw hB h0 (by omega), bd_some, ff_s (by show p < h_V h 56 1; omega)]
    have b := ao_b (sd := sd_ h) w1 p
    have q := ih (p + 1) h (by omega) rfl (by omega) (by omega)
    rw [q, nmi hk.1 hk.2, nmi (z := ao_ (sd_ h) p) (by omega) (by omega)]
    simp only [b01_0]
    cases in_ (sd_ h) p s w <;> by_cases c2 : ao_ (sd_ h) p = k <;> simp [c2, ck_pos H.1]
def fru_ (sd : Int → Int) (s p : Int) : Bool := in_ sd p s 0 && !in_ sd (p - 1) s 0
theorem m_isFirstOfRun {h : AH} (H : MS h) (hw : WS (sd_ h)) {p s : Int} (p0 : 0 ≤ p) (p1 : p ≤ 60) (hs : R32 s) : f_M_isFirstOfRun 46 p s h = some (b01 (fru_ (sd_ h) s p), h) := by
  unfold f_M_isFirstOfRun
  rw [ck_pos H.1, m_isIn H hw ⟨by omega, by omega⟩ hs (by constructor <;> decide), bd_some, ck_pos H.1, m_isIn H hw ⟨by omega, by omega⟩ hs (by constructor <;> decide), bd_some]
  simp only [b01_0, fru_, ne_eq]
  cases in_ (sd_ h) p s 0 <;> cases in_ (sd_ h) (p - 1) s 0 <;> simp [b01, cb_0, cb_1]
theorem m_runsOf {h : AH} (H : MS h) (hw : WS (sd_ h)) {s : Int} (hs : R32 s) : f_M_runsOf 46 s h = some (cn_ (fru_ (sd_ h) s) 0 (sd_ h 1), h) := by
  have w1 : 0 ≤ h_V h 56 1 ∧ h_V h 56 1 ≤ 60 := hw.2.1
  have L := it_2 (F := F_M_runsOf_4 46 s) (fun n p h' o => h = h' → 0 ≤ p → p ≤ 60 → o = some (n + cn_ (fru_ (sd_ h) s) p (sd_ h 1), h)) (fun n s h' => (60 - s).toNat) ?_ fu_ 0 0 h (fu_gt (by omega)) rfl (by omega) (by omega)
  · rw [Int.zero_add] at L; exact L
  · intro kf n p h' ih e h0 h1
    subst e
    unfold F_M_runsOf_4
    simp (disch := omega) only [gS H, aS H, Option.bind_some, nmi, ck_pos H.1]
    by_cases c : h_V h 56 1 ≤ p
    · rw [if_pos c, cn_e (by exact c)]; simp
    · rw [if_neg c, m_isFirstOfRun H hw h0 h1 hs, bd_some, cn_s (a := p) (by show p < h_V h 56 1; omega)]
      simp (disch := omega) only [b01_0, ih, Option.bind_some]
      grind
