/-! ===== texts: what both read ===== -/
/-- the first place from p on that isn't so, or the end -/
def scf (P : Int → Bool) (L : Int) : Nat → Int → Int
  | 0, p => p
  | n + 1, p => if P p = true then scf P L n (p + 1) else p
def sc (P : Int → Bool) (L p : Int) : Int := scf P L (L - p).toNat p
section
variable {P : Int → Bool} {L p : Int}
theorem sc_s (h : p < L) (hp : P p = true) : sc P L p = sc P L (p + 1) := by
  unfold sc
  rw [show (L - p).toNat = (L - (p + 1)).toNat + 1 by omega]
  show (if P p = true then _ else _) = _
  rw [if_pos hp]
theorem sc_n (hp : P p = false) : sc P L p = p := by
  unfold sc
  cases h : (L - p).toNat with
  | zero => rfl
  | succ n => show (if P p = true then _ else p) = p; rw [hp, if_neg (by decide)]
theorem sc_e (h : L ≤ p) : sc P L p = p := by
  unfold sc
  rw [show (L - p).toNat = 0 by omega]; rfl
theorem sc_ind (Q : Int → Int → Prop) (base : ∀ p, ¬ (p < L ∧ P p = true) → Q p p) (step : ∀ p, p < L → P p = true → Q (p + 1) (sc P L (p + 1)) → Q p (sc P L (p + 1))) : ∀ p, Q p (sc P L p) := by
  have k : ∀ (n : Nat) (p : Int), (L - p).toNat ≤ n → Q p (sc P L p) := by
    intro n
    induction n with
    | zero => intro p hn; rw [sc_e (by omega)]; exact base p (by omega)
    | succ n ih =>
      intro p hn
      by_cases c : p < L
      · cases d : P p
        · rw [sc_n d]; exact base p (by rw [d]; simp)
        · rw [sc_s c d]; exact step p c d (ih (p + 1) (by omega))
      · rw [sc_e (by omega)]; exact base p (by omega)
  exact fun p => k _ p (Nat.le_refl _)
theorem sc_ge : ∀ p, p ≤ sc P L p := sc_ind (fun p q => p ≤ q) (fun _ _ => Int.le_refl _) (fun _ _ _ h => by omega)
theorem sc_le : ∀ p, p ≤ L → sc P L p ≤ L := sc_ind (fun p q => p ≤ L → q ≤ L) (fun _ _ h => h) (fun _ _ _ h _ => h (by omega))
theorem sc_x : ∀ p, ¬ (sc P L p < L ∧ P (sc P L p) = true) := sc_ind (fun _ q => ¬ (q < L ∧ P q = true)) (fun _ h => h) (fun _ _ _ h => h)
theorem sc_a : ∀ p i, p ≤ i → i < sc P L p → P i = true := sc_ind (fun p q => ∀ i, p ≤ i → i < q → P i = true) (fun p _ i a b => by omega) (fun p _ hp h i a b => by
  by_cases c : i = p
  · rw [c]; exact hp
  · exact h i (by omega) b)
theorem sc_sc : sc P L (sc P L p) = sc P L p := by
  have := sc_x (P := P) (L := L) p
  by_cases c : sc P L p < L
  · cases d : P (sc P L p)
    · exact sc_n d
    · exact absurd ⟨c, d⟩ this
  · exact sc_e (by omega)
end
def bl_ (b : Int → Int) (i : Int) : Bool := decide (b i = 32)
def lt_ (b : Int → Int) (i : Int) : Bool := decide (97 ≤ b i ∧ b i ≤ 122)
def dg_ (b : Int → Int) (i : Int) : Bool := decide (48 ≤ b i ∧ b i ≤ 57)
def sk (b : Int → Int) (L p : Int) : Int := sc (bl_ b) L p
def ch (b : Int → Int) (L p : Int) : Int := if p < L then b p else -1
/-- a number's value, a word's -/
def nvf (b : Int → Int) (q : Int) : Nat → Int
  | 0 => 0
  | k + 1 => nvf b q k * 10 + b (q + k) - 48
def wvf (b : Int → Int) (q : Int) : Nat → Int
  | 0 => 0
  | k + 1 => wvf b q k * 256 + b (q + k)
def nve (b : Int → Int) (L q : Int) : Int := sc (dg_ b) L q
def nvv (b : Int → Int) (L q : Int) : Int := nvf b q (if nve b L q - q < 5 then (nve b L q - q).toNat else 5)
/-- a number's fault at its place, 0 without -/
def nfl (b : Int → Int) (L lo hi q : Int) : Int := if q < L ∧ dg_ b q = true then (if 5 < nve b L q - q ∨ nvv b L q < lo ∨ hi < nvv b L q then 1 + 8 * q + 1 else 0) else 1 + 8 * q + 0
def wen (b : Int → Int) (L q : Int) : Int := sc (lt_ b) L q
def pk (b : Int → Int) (L q : Int) : Int := if 1 ≤ wen b L q - q ∧ wen b L q - q ≤ 7 then wvf b q (wen b L q - q).toNat else 0
section
variable {b : Int → Int} {L p q : Int}
theorem sk_ge (p : Int) : p ≤ sk b L p := sc_ge p
theorem sk_le (h : p ≤ L) : sk b L p ≤ L := sc_le p h
theorem sk_sk : sk b L (sk b L p) = sk b L p := sc_sc
theorem nvf_b : ∀ (k : Nat), (∀ i : Int, q ≤ i → i < q + k → dg_ b i = true) → 0 ≤ nvf b q k ∧ nvf b q k < 10 ^ k
  | 0, _ => ⟨Int.le_refl 0, by show (0 : Int) < 10 ^ 0; decide⟩
  | k + 1, h => by
    have a := nvf_b k fun i i0 i1 => h i i0 (by omega)
    have c : 48 ≤ b (q + k) ∧ b (q + k) ≤ 57 := of_decide_eq_true (h (q + k) (by omega) (by omega))
    show 0 ≤ nvf b q k * 10 + b (q + k) - 48 ∧ nvf b q k * 10 + b (q + k) - 48 < 10 ^ k * 10
    omega
theorem wvf_b : ∀ (k : Nat), (∀ i : Int, q ≤ i → i < q + k → lt_ b i = true) → 0 ≤ wvf b q k ∧ wvf b q k < 256 ^ k ∧ (1 ≤ k → 256 ^ k ≤ 256 * wvf b q k)
  | 0, _ => ⟨Int.le_refl 0, by show (0 : Int) < 256 ^ 0; decide, fun h => by omega⟩
  | k + 1, h => by
    have a := wvf_b k fun i i0 i1 => h i i0 (by omega)
    have c : 97 ≤ b (q + k) ∧ b (q + k) ≤ 122 := of_decide_eq_true (h (q + k) (by omega) (by omega))
    show 0 ≤ wvf b q k * 256 + b (q + k) ∧ wvf b q k * 256 + b (q + k) < 256 ^ k * 256 ∧ (1 ≤ k + 1 → 256 ^ k * 256 ≤ 256 * (wvf b q k * 256 + b (q + k)))
    refine ⟨by omega, by omega, fun _ => ?_⟩
    cases k with
    | zero => have : wvf b q 0 = 0 := rfl; rw [this]; omega
    | succ k => have := a.2.2 (by omega); omega
theorem p10 : ∀ k : Fin 6, (10 : Int) ^ k.val ≤ 100000 := by decide
theorem nvv_b (hd : dg_ b q = true) (hq : q < L) : 0 ≤ nvv b L q ∧ nvv b L q < 100000 := by
  have a := sc_a (P := dg_ b) (L := L) q
  unfold nvv
  have g : q ≤ nve b L q := sc_ge q
  by_cases c : nve b L q - q < 5
  · rw [if_pos c]
    have h := nvf_b (b := b) (q := q) (nve b L q - q).toNat fun i i0 i1 => a i i0 (by unfold nve at i1 g; omega)
    have : (10 : Int) ^ (nve b L q - q).toNat ≤ 100000 := p10 ⟨(nve b L q - q).toNat, by omega⟩
    omega
  · rw [if_neg c]
    have h := nvf_b (b := b) (q := q) 5 fun i i0 i1 => a i i0 (by unfold nve at c; omega)
    omega
end
/-! ===== the class's tape ===== -/
section
variable {b : Int → Int} {L p : Int} {h : AH}
def CS (L : Int) (b : Int → Int) (p : Int) (h : AH) : Prop := BP h ∧ CT h L b ∧ h_V h 2 2 = p ∧ 0 ≤ p ∧ p ≤ L
def X2 (a i : Int) : Prop := a = 2 ∧ 2 ≤ i ∧ i ≤ 4
def X2p (a i : Int) : Prop := a = 2 ∧ i = 2
theorem X2p_2 : ∀ a i, X2p a i → X2 a i := fun a i z => by unfold X2p at z; unfold X2; omega
theorem bp_x2 : ∀ q ∈ bp_, ¬ X2 q.1 q.2.1 := fun q hq z => by
  have : ∀ q ∈ bp_, ¬ (q.1 = 2 ∧ 2 ≤ q.2.1 ∧ q.2.1 ≤ 4) := by decide
  exact this q hq z
theorem CT.x2 {h' : AH} (H : CT h L b) (g : Ag X2 h h') : CT h' L b := H.ag g fun a i z => by unfold X2 at z; omega
theorem CS.x2 {h' : AH} {q : Int} (H : CS L b p h) (g : Ag X2 h h') (e : h_V h' 2 2 = q) (q0 : 0 ≤ q) (q1 : q ≤ L) : CS L b q h' := ⟨H.1.ag g bp_x2, H.2.1.x2 g, e, q0, q1⟩
theorem CS.hL (H : CS L b p h) : 0 ≤ L ∧ L ≤ 400 := H.2.1.2.2.2.2.2.1
theorem CS.gL (H : CS L b p h) : g_f h 9 2 1 = some L := by rw [gf_pos H.1.k2, H.2.1.2.2.2.2.1]
theorem CS.gp (H : CS L b p h) : g_f h 9 2 2 = some p := by rw [gf_pos H.1.k2, H.2.2.1]
theorem CS.by (H : CS L b p h) {i : Int} (i0 : 0 ≤ i) (i1 : i < L) : a_g h 20 3 i = some (b i) := by
  have := H.hL
  rw [ag_pos H.1.k3.1 H.1.k3.2 (by decide) i0 (by omega), (H.2.1.2.2.2.2.2.2 i i0 i1).1]
theorem CS.bb (H : CS L b p h) {i : Int} (i0 : 0 ≤ i) (i1 : i < L) : 0 ≤ b i ∧ b i ≤ 255 := (H.2.1.2.2.2.2.2.2 i i0 i1).2
theorem CS.chb (H : CS L b p h) {i : Int} (i0 : 0 ≤ i) : -1 ≤ ch b L i ∧ ch b L i ≤ 255 := by
  unfold ch
  by_cases c : i < L
  · rw [if_pos c]; have := H.bb i0 c; omega
  · rw [if_neg c]; omega
theorem c_up38 (C : CS L b p h) : f_P_upcoming_38 2 h = some (ch b L p, h) := by
  have l := C.hL
  obtain ⟨-, -, -, p0, p1⟩ := id C
  unfold f_P_upcoming_38 ch
  rw [C.gp, Option.bind_some, C.gL, Option.bind_some, nmi (z := p) (by omega) (by omega), nmi (z := L) (by omega) (by omega)]
  by_cases c : L ≤ p
  · rw [if_pos c, if_neg (by omega)]
  · rw [if_neg c, if_pos (by omega), C.1.g2_0, Option.bind_some, Option.bind_some, C.by p0 (by omega), Option.bind_some]
theorem c_up : ∀ (n : Nat) (e : Nat) (p : Int) (h : AH), (L - p).toNat ≤ n → CS L b p h → ∃ h', it_ (fun (k : AH → Option (Int × AH)) (s : AH) => F_P_upcoming_0 2 (fun a0 => k (a0)) s) (n + 1 + e) h = some (ch b L (sk b L p), h') ∧ CS L b (sk b L p) h' ∧ Ag X2p h h' := by
  intro n
  induction n with
  | zero =>
    intro e p h hn C
    have l := C.hL
    obtain ⟨-, -, -, p0, p1⟩ := id C
    rw [show 0 + 1 + e = e + 1 by omega, it_un, show sk b L p = p from sc_e (by omega)]
    refine ⟨h, ?_, C, Ag.rf⟩
    unfold F_P_upcoming_0
    rw [C.gp, Option.bind_some, C.gL, Option.bind_some, nmi (z := p) (by omega) (by omega), nmi (z := L) (by omega) (by omega), if_pos (by omega), c_up38 C]
  | succ n ih =>
    intro e p h hn C
    have l := C.hL
    obtain ⟨-, -, -, p0, p1⟩ := id C
    rw [show n + 1 + 1 + e = (n + 1 + e) + 1 by omega, it_un]
    by_cases c : L ≤ p
    · rw [show sk b L p = p from sc_e (by omega)]
      refine ⟨h, ?_, C, Ag.rf⟩
      unfold F_P_upcoming_0
      rw [C.gp, Option.bind_some, C.gL, Option.bind_some, nmi (z := p) (by omega) (by omega), nmi (z := L) (by omega) (by omega), if_pos (by omega), c_up38 C]
    · have bb := C.bb p0 (by omega)
      have st : ∀ kf : AH → Option (Int × AH), F_P_upcoming_0 2 (fun a0 => kf a0) h = if b p = 32 then kf (h_S h 2 2 (p + 1)) else some (ch b L p, h) := by
        intro kf
        unfold F_P_upcoming_0
        rw [C.gp, Option.bind_some, C.gL, Option.bind_some, nmi (z := p) (by omega) (by omega), nmi (z := L) (by omega) (by omega), if_neg c, C.1.g2_0, Option.bind_some, Option.bind_some, C.by p0 (by omega), Option.bind_some, nmi (z := b p) (by omega) (by omega), nmi (z := 32) (by decide) (by decide), Option.bind_some, sf_pos C.1.k2, Option.bind_some, c_up38 C]
        by_cases d : b p = 32
        · rw [if_neg (fun z => z d), if_pos d]
        · rw [if_pos d, if_neg d]
      by_cases d : b p = 32
      · have g1 : Ag X2p h (h_S h 2 2 (p + 1)) := Ag.rf.st ⟨rfl, rfl⟩
        obtain ⟨h', e', C', g'⟩ := ih e (p + 1) _ (by omega) (C.x2 (q := p + 1) (g1.mono X2p_2) (by rw [hV_eq, if_pos rfl]) (by omega) (by omega))
        rw [show sk b L p = sk b L (p + 1) from sc_s (by omega) (decide_eq_true d)]
        refine ⟨h', ?_, C', g1.tr g'⟩
        refine (st _).trans ?_
        rw [if_pos d]; exact e'
      · rw [show sk b L p = p from sc_n (decide_eq_false d)]
        refine ⟨h, ?_, C, Ag.rf⟩
        refine (st _).trans ?_
        rw [if_neg d]
theorem c_upc (C : CS L b p h) : ∃ h', f_P_upcoming 2 h = some (ch b L (sk b L p), h') ∧ CS L b (sk b L p) h' ∧ Ag X2p h h' := by
  have l := C.hL
  obtain ⟨h', e', q⟩ := c_up (L := L) (b := b) 400 (1000000 - 401) p h (by have := C.2.2.2.1; omega) C
  exact ⟨h', e', q⟩
theorem c_sign (C : CS L b p h) {c : Int} (c0 : 0 ≤ c) (c1 : c ≤ 255) : ∃ h', f_P_takeSign 2 c h = some (b01 (decide (ch b L (sk b L p) = c)), h') ∧ CS L b (if ch b L (sk b L p) = c then sk b L p + 1 else sk b L p) h' ∧ Ag X2p h h' := by
  have l := C.hL
  obtain ⟨h1, e1, C1, g1⟩ := c_upc C
  have cb := C1.chb C1.2.2.2.1
  unfold f_P_takeSign
  rw [ck_pos C.1.k2, e1, bd_some, nmi (z := ch b L (sk b L p)) (by omega) (by omega), nmi (z := c) (by omega) (by omega)]
  by_cases d : ch b L (sk b L p) = c
  · have lt : sk b L p < L := by
      unfold ch at d
      by_cases z : sk b L p < L
      · exact z
      · rw [if_neg z] at d; omega
    have g2 : Ag X2p h1 (h_S h1 2 2 (sk b L p + 1)) := Ag.rf.st ⟨rfl, rfl⟩
    rw [if_pos d, if_pos d, C1.gp, Option.bind_some, sf_pos C1.1.k2, Option.bind_some, cb_1, decide_eq_true d]
    exact ⟨_, rfl, C1.x2 (g2.mono X2p_2) (by rw [hV_eq, if_pos rfl]) (by have := C1.2.2.2.1; omega) (by omega), g1.tr g2⟩
  · rw [if_neg d, if_neg d, cb_0, decide_eq_false d]
    exact ⟨h1, rfl, C1, g1⟩
theorem c_blame (C : CS L b p h) (q k : Int) : ∃ h', f_P_blame 2 q k h = some (0, h') ∧ CS L b p h' ∧ h_V h' 2 4 = 1 + 8 * q + k ∧ Ag X2 h h' := by
  have g : Ag X2 h (h_S h 2 4 (1 + 8 * q + k)) := Ag.rf.st (by unfold X2; omega)
  unfold f_P_blame
  rw [sf_pos C.1.k2, Option.bind_some, cb_0]
  exact ⟨_, rfl, C.x2 g (by rw [hV_eq, if_neg (by decide)]; exact C.2.2.1) C.2.2.2.1 C.2.2.2.2, by rw [hV_eq, if_pos rfl], g⟩
end
