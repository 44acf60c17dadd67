/-! ===== PURE: rows over shallow functions ===== -/
theorem bd_some {α : Type} (r : Int) (h : AH) (f : Int → AH → Option α) : bd_ (some (r, h)) f = f r h := rfl
theorem ck_pos {α : Type} {h : AH} {t a : Int} {o : Option α} (e : h_T h a = t) : c_k h t a o = o := if_pos e
theorem cb_0 {α : Type} (o : Option α) : c_b 0 o = o := rfl
theorem cb_1 {α : Type} (o : Option α) : c_b 1 o = o := rfl
theorem gf_pos {h : AH} {t a k : Int} (e : h_T h a = t) : g_f h t a k = some (h_V h a k) := if_pos e
theorem sf_pos {h : AH} {t a k v : Int} (e : h_T h a = t) : s_f h t a k v = some (h_S h a k v) := if_pos e
theorem sfb_pos {h : AH} {t a k v : Int} (e : h_T h a = t) (e2 : v = 0 ∨ v = 1) : s_fb h t a k v = some (h_S h a k v) := if_pos ⟨e, e2⟩
theorem an_pos {h : AH} {t a : Int} (e : h_T h a = t) : a_n h t a = some (h_N h a) := if_pos e
theorem nmi {z : Int} (h0 : -2147483648 ≤ z) (h1 : z < 2147483648) : nm z = z := nm_id h0 h1
theorem ag_pos {h : AH} {t a i n : Int} (e : h_T h a = t) (en : h_N h a = n) (hn : n ≤ 2147483647) (h0 : 0 ≤ i) (h1 : i < n) : a_g h t a i = some (h_V h a i) := by
  have : nm i = i := nmi (by omega) (by omega)
  unfold a_g; rw [this, if_pos ⟨e, h0, by omega⟩]
theorem as_pos {h : AH} {t a i n v : Int} (e : h_T h a = t) (en : h_N h a = n) (hn : n ≤ 2147483647) (h0 : 0 ≤ i) (h1 : i < n) : a_s h t a i v = some (h_S h a i v) := by
  have : nm i = i := nmi (by omega) (by omega)
  unfold a_s; rw [this, if_pos ⟨e, h0, by omega⟩]
theorem asb_pos {h : AH} {t lo hi a i n v : Int} (e : h_T h a = t) (en : h_N h a = n) (hn : n ≤ 2147483647) (h0 : 0 ≤ i) (h1 : i < n) (h2 : lo ≤ v) (h3 : v ≤ hi) : a_sb h t lo hi a i v = some (h_S h a i v) := by
  have : nm i = i := nmi (by omega) (by omega)
  unfold a_sb; rw [this, if_pos ⟨e, h0, by omega, h2, h3⟩]
theorem hT_S' (h : AH) (a i v b : Int) : h_T (h_S h a i v) b = h_T h b := rfl
theorem hN_S' (h : AH) (a i v b : Int) : h_N (h_S h a i v) b = h_N h b := rfl
theorem hx_S (h : AH) (a i v : Int) : h_x (h_S h a i v) = h_x h := rfl
theorem hV_S' (h : AH) (a i v b j : Int) : h_V (h_S h a i v) b j = if b = a ∧ j = i then v else h_V h b j := rfl
/-- a loop by a measure that falls -/
theorem it_ind {σ ρ : Type} {F : (σ → Option ρ) → σ → Option ρ} (P : σ → Option ρ → Prop) (μ : σ → Nat) (hs : ∀ (kf : σ → Option ρ) (s : σ), (∀ s', μ s' < μ s → P s' (kf s')) → P s (F kf s)) : ∀ (n : Nat) (s : σ), μ s < n → P s (it_ F n s)
  | 0, _, h => absurd h (Nat.not_lt_zero _)
  | n + 1, s, h => hs (it_ F n) s fun s' h' => it_ind P μ hs n s' (by omega)
theorem it_0 {ρ : Type} {F : (AH → Option ρ) → AH → Option ρ} (P : AH → Option ρ → Prop) (μ : AH → Nat) (hs : ∀ (kf : AH → Option ρ) (h : AH), (∀ (h' : AH), μ h' < μ h → P h' (kf h')) → P h (F kf h)) (n : Nat) (h : AH) (hm : μ h < n) : P h (it_ (fun (k : AH → Option ρ) (s : AH) => F (fun c0 => k (c0)) s) n (h)) :=
  it_ind (F := fun (k : AH → Option ρ) (s : AH) => F (fun c0 => k (c0)) s) (fun s o => P s o) (fun s => μ s) (fun kf s ih => hs (fun c0 => kf (c0)) s (fun h' q => ih (h') q)) n (h) hm
theorem it_1 {ρ : Type} {F : (Int → AH → Option ρ) → Int → AH → Option ρ} (P : Int → AH → Option ρ → Prop) (μ : Int → AH → Nat) (hs : ∀ (kf : Int → AH → Option ρ) (a0 : Int) (h : AH), (∀ (b0 : Int) (h' : AH), μ b0 h' < μ a0 h → P b0 h' (kf b0 h')) → P a0 h (F kf a0 h)) (n : Nat) (a0 : Int) (h : AH) (hm : μ a0 h < n) : P a0 h (it_ (fun (k : Int × AH → Option ρ) (s : Int × AH) => F (fun c0 c1 => k (c0, c1)) s.1 s.2) n (a0, h)) :=
  it_ind (F := fun (k : Int × AH → Option ρ) (s : Int × AH) => F (fun c0 c1 => k (c0, c1)) s.1 s.2) (fun s o => P s.1 s.2 o) (fun s => μ s.1 s.2) (fun kf s ih => hs (fun c0 c1 => kf (c0, c1)) s.1 s.2 (fun b0 h' q => ih (b0, h') q)) n (a0, h) hm
theorem it_2 {ρ : Type} {F : (Int → Int → AH → Option ρ) → Int → Int → AH → Option ρ} (P : Int → Int → AH → Option ρ → Prop) (μ : Int → Int → AH → Nat) (hs : ∀ (kf : Int → Int → AH → Option ρ) (a0 a1 : Int) (h : AH), (∀ (b0 b1 : Int) (h' : AH), μ b0 b1 h' < μ a0 a1 h → P b0 b1 h' (kf b0 b1 h')) → P a0 a1 h (F kf a0 a1 h)) (n : Nat) (a0 a1 : Int) (h : AH) (hm : μ a0 a1 h < n) : P a0 a1 h (it_ (fun (k : Int × Int × AH → Option ρ) (s : Int × Int × AH) => F (fun c0 c1 c2 => k (c0, c1, c2)) s.1 s.2.1 s.2.2) n (a0, a1, h)) :=
  it_ind (F := fun (k : Int × Int × AH → Option ρ) (s : Int × Int × AH) => F (fun c0 c1 c2 => k (c0, c1, c2)) s.1 s.2.1 s.2.2) (fun s o => P s.1 s.2.1 s.2.2 o) (fun s => μ s.1 s.2.1 s.2.2) (fun kf s ih => hs (fun c0 c1 c2 => kf (c0, c1, c2)) s.1 s.2.1 s.2.2 (fun b0 b1 h' q => ih (b0, b1, h') q)) n (a0, a1, h) hm
theorem it_3 {ρ : Type} {F : (Int → Int → Int → AH → Option ρ) → Int → Int → Int → AH → Option ρ} (P : Int → Int → Int → AH → Option ρ → Prop) (μ : Int → Int → Int → AH → Nat) (hs : ∀ (kf : Int → Int → Int → AH → Option ρ) (a0 a1 a2 : Int) (h : AH), (∀ (b0 b1 b2 : Int) (h' : AH), μ b0 b1 b2 h' < μ a0 a1 a2 h → P b0 b1 b2 h' (kf b0 b1 b2 h')) → P a0 a1 a2 h (F kf a0 a1 a2 h)) (n : Nat) (a0 a1 a2 : Int) (h : AH) (hm : μ a0 a1 a2 h < n) : P a0 a1 a2 h (it_ (fun (k : Int × Int × Int × AH → Option ρ) (s : Int × Int × Int × AH) => F (fun c0 c1 c2 c3 => k (c0, c1, c2, c3)) s.1 s.2.1 s.2.2.1 s.2.2.2) n (a0, a1, a2, h)) :=
  it_ind (F := fun (k : Int × Int × Int × AH → Option ρ) (s : Int × Int × Int × AH) => F (fun c0 c1 c2 c3 => k (c0, c1, c2, c3)) s.1 s.2.1 s.2.2.1 s.2.2.2) (fun s o => P s.1 s.2.1 s.2.2.1 s.2.2.2 o) (fun s => μ s.1 s.2.1 s.2.2.1 s.2.2.2) (fun kf s ih => hs (fun c0 c1 c2 c3 => kf (c0, c1, c2, c3)) s.1 s.2.1 s.2.2.1 s.2.2.2 (fun b0 b1 b2 h' q => ih (b0, b1, b2, h') q)) n (a0, a1, a2, h) hm
theorem it_4 {ρ : Type} {F : (Int → Int → Int → Int → AH → Option ρ) → Int → Int → Int → Int → AH → Option ρ} (P : Int → Int → Int → Int → AH → Option ρ → Prop) (μ : Int → Int → Int → Int → AH → Nat) (hs : ∀ (kf : Int → Int → Int → Int → AH → Option ρ) (a0 a1 a2 a3 : Int) (h : AH), (∀ (b0 b1 b2 b3 : Int) (h' : AH), μ b0 b1 b2 b3 h' < μ a0 a1 a2 a3 h → P b0 b1 b2 b3 h' (kf b0 b1 b2 b3 h')) → P a0 a1 a2 a3 h (F kf a0 a1 a2 a3 h)) (n : Nat) (a0 a1 a2 a3 : Int) (h : AH) (hm : μ a0 a1 a2 a3 h < n) : P a0 a1 a2 a3 h (it_ (fun (k : Int × Int × Int × Int × AH → Option ρ) (s : Int × Int × Int × Int × AH) => F (fun c0 c1 c2 c3 c4 => k (c0, c1, c2, c3, c4)) s.1 s.2.1 s.2.2.1 s.2.2.2.1 s.2.2.2.2) n (a0, a1, a2, a3, h)) :=
  it_ind (F := fun (k : Int × Int × Int × Int × AH → Option ρ) (s : Int × Int × Int × Int × AH) => F (fun c0 c1 c2 c3 c4 => k (c0, c1, c2, c3, c4)) s.1 s.2.1 s.2.2.1 s.2.2.2.1 s.2.2.2.2) (fun s o => P s.1 s.2.1 s.2.2.1 s.2.2.2.1 s.2.2.2.2 o) (fun s => μ s.1 s.2.1 s.2.2.1 s.2.2.2.1 s.2.2.2.2) (fun kf s ih => hs (fun c0 c1 c2 c3 c4 => kf (c0, c1, c2, c3, c4)) s.1 s.2.1 s.2.2.1 s.2.2.2.1 s.2.2.2.2 (fun b0 b1 b2 b3 h' q => ih (b0, b1, b2, b3, h') q)) n (a0, a1, a2, a3, h) hm
theorem it_5 {ρ : Type} {F : (Int → Int → Int → Int → Int → AH → Option ρ) → Int → Int → Int → Int → Int → AH → Option ρ} (P : Int → Int → Int → Int → Int → AH → Option ρ → Prop) (μ : Int → Int → Int → Int → Int → AH → Nat) (hs : ∀ (kf : Int → Int → Int → Int → Int → AH → Option ρ) (a0 a1 a2 a3 a4 : Int) (h : AH), (∀ (b0 b1 b2 b3 b4 : Int) (h' : AH), μ b0 b1 b2 b3 b4 h' < μ a0 a1 a2 a3 a4 h → P b0 b1 b2 b3 b4 h' (kf b0 b1 b2 b3 b4 h')) → P a0 a1 a2 a3 a4 h (F kf a0 a1 a2 a3 a4 h)) (n : Nat) (a0 a1 a2 a3 a4 : Int) (h : AH) (hm : μ a0 a1 a2 a3 a4 h < n) : P a0 a1 a2 a3 a4 h (it_ (fun (k : Int × Int × Int × Int × Int × AH → Option ρ) (s : Int × Int × Int × Int × Int × AH) => F (fun c0 c1 c2 c3 c4 c5 => k (c0, c1, c2, c3, c4, c5)) s.1 s.2.1 s.2.2.1 s.2.2.2.1 s.2.2.2.2.1 s.2.2.2.2.2) n (a0, a1, a2, a3, a4, h)) :=
  it_ind (F := fun (k : Int × Int × Int × Int × Int × AH → Option ρ) (s : Int × Int × Int × Int × Int × AH) => F (fun c0 c1 c2 c3 c4 c5 => k (c0, c1, c2, c3, c4, c5)) s.1 s.2.1 s.2.2.1 s.2.2.2.1 s.2.2.2.2.1 s.2.2.2.2.2) (fun s o => P s.1 s.2.1 s.2.2.1 s.2.2.2.1 s.2.2.2.2.1 s.2.2.2.2.2 o) (fun s => μ s.1 s.2.1 s.2.2.1 s.2.2.2.1 s.2.2.2.2.1 s.2.2.2.2.2) (fun kf s ih => hs (fun c0 c1 c2 c3 c4 c5 => kf (c0, c1, c2, c3, c4, c5)) s.1 s.2.1 s.2.2.1 s.2.2.2.1 s.2.2.2.2.1 s.2.2.2.2.2 (fun b0 b1 b2 b3 b4 h' q => ih (b0, b1, b2, b3, b4, h') q)) n (a0, a1, a2, a3, a4, h) hm
theorem it_6 {ρ : Type} {F : (Int → Int → Int → Int → Int → Int → AH → Option ρ) → Int → Int → Int → Int → Int → Int → AH → Option ρ} (P : Int → Int → Int → Int → Int → Int → AH → Option ρ → Prop) (μ : Int → Int → Int → Int → Int → Int → AH → Nat) (hs : ∀ (kf : Int → Int → Int → Int → Int → Int → AH → Option ρ) (a0 a1 a2 a3 a4 a5 : Int) (h : AH), (∀ (b0 b1 b2 b3 b4 b5 : Int) (h' : AH), μ b0 b1 b2 b3 b4 b5 h' < μ a0 a1 a2 a3 a4 a5 h → P b0 b1 b2 b3 b4 b5 h' (kf b0 b1 b2 b3 b4 b5 h')) → P a0 a1 a2 a3 a4 a5 h (F kf a0 a1 a2 a3 a4 a5 h)) (n : Nat) (a0 a1 a2 a3 a4 a5 : Int) (h : AH) (hm : μ a0 a1 a2 a3 a4 a5 h < n) : P a0 a1 a2 a3 a4 a5 h (it_ (fun (k : Int × Int × Int × Int × Int × Int × AH → Option ρ) (s : Int × Int × Int × Int × Int × Int × AH) => F (fun c0 c1 c2 c3 c4 c5 c6 => k (c0, c1, c2, c3, c4, c5, c6)) s.1 s.2.1 s.2.2.1 s.2.2.2.1 s.2.2.2.2.1 s.2.2.2.2.2.1 s.2.2.2.2.2.2) n (a0, a1, a2, a3, a4, a5, h)) :=
  it_ind (F := fun (k : Int × Int × Int × Int × Int × Int × AH → Option ρ) (s : Int × Int × Int × Int × Int × Int × AH) => F (fun c0 c1 c2 c3 c4 c5 c6 => k (c0, c1, c2, c3, c4, c5, c6)) s.1 s.2.1 s.2.2.1 s.2.2.2.1 s.2.2.2.2.1 s.2.2.2.2.2.1 s.2.2.2.2.2.2) (fun s o => P s.1 s.2.1 s.2.2.1 s.2.2.2.1 s.2.2.2.2.1 s.2.2.2.2.2.1 s.2.2.2.2.2.2 o) (fun s => μ s.1 s.2.1 s.2.2.1 s.2.2.2.1 s.2.2.2.2.1 s.2.2.2.2.2.1 s.2.2.2.2.2.2) (fun kf s ih => hs (fun c0 c1 c2 c3 c4 c5 c6 => kf (c0, c1, c2, c3, c4, c5, c6)) s.1 s.2.1 s.2.2.1 s.2.2.2.1 s.2.2.2.2.1 s.2.2.2.2.2.1 s.2.2.2.2.2.2 (fun b0 b1 b2 b3 b4 b5 h' q => ih (b0, b1, b2, b3, b4, b5, h') q)) n (a0, a1, a2, a3, a4, a5, h) hm
theorem it_7 {ρ : Type} {F : (Int → Int → Int → Int → Int → Int → Int → AH → Option ρ) → Int → Int → Int → Int → Int → Int → Int → AH → Option ρ} (P : Int → Int → Int → Int → Int → Int → Int → AH → Option ρ → Prop) (μ : Int → Int → Int → Int → Int → Int → Int → AH → Nat) (hs : ∀ (kf : Int → Int → Int → Int → Int → Int → Int → AH → Option ρ) (a0 a1 a2 a3 a4 a5 a6 : Int) (h : AH), (∀ (b0 b1 b2 b3 b4 b5 b6 : Int) (h' : AH), μ b0 b1 b2 b3 b4 b5 b6 h' < μ a0 a1 a2 a3 a4 a5 a6 h → P b0 b1 b2 b3 b4 b5 b6 h' (kf b0 b1 b2 b3 b4 b5 b6 h')) → P a0 a1 a2 a3 a4 a5 a6 h (F kf a0 a1 a2 a3 a4 a5 a6 h)) (n : Nat) (a0 a1 a2 a3 a4 a5 a6 : Int) (h : AH) (hm : μ a0 a1 a2 a3 a4 a5 a6 h < n) : P a0 a1 a2 a3 a4 a5 a6 h (it_ (fun (k : Int × Int × Int × Int × Int × Int × Int × AH → Option ρ) (s : Int × Int × Int × Int × Int × Int × Int × AH) => F (fun c0 c1 c2 c3 c4 c5 c6 c7 => k (c0, c1, c2, c3, c4, c5, c6, c7)) s.1 s.2.1 s.2.2.1 s.2.2.2.1 s.2.2.2.2.1 s.2.2.2.2.2.1 s.2.2.2.2.2.2.1 s.2.2.2.2.2.2.2) n (a0, a1, a2, a3, a4, a5, a6, h)) :=
  it_ind (F := fun (k : Int × Int × Int × Int × Int × Int × Int × AH → Option ρ) (s : Int × Int × Int × Int × Int × Int × Int × AH) => F (fun c0 c1 c2 c3 c4 c5 c6 c7 => k (c0, c1, c2, c3, c4, c5, c6, c7)) s.1 s.2.1 s.2.2.1 s.2.2.2.1 s.2.2.2.2.1 s.2.2.2.2.2.1 s.2.2.2.2.2.2.1 s.2.2.2.2.2.2.2) (fun s o => P s.1 s.2.1 s.2.2.1 s.2.2.2.1 s.2.2.2.2.1 s.2.2.2.2.2.1 s.2.2.2.2.2.2.1 s.2.2.2.2.2.2.2 o) (fun s => μ s.1 s.2.1 s.2.2.1 s.2.2.2.1 s.2.2.2.2.1 s.2.2.2.2.2.1 s.2.2.2.2.2.2.1 s.2.2.2.2.2.2.2) (fun kf s ih => hs (fun c0 c1 c2 c3 c4 c5 c6 c7 => kf (c0, c1, c2, c3, c4, c5, c6, c7)) s.1 s.2.1 s.2.2.1 s.2.2.2.1 s.2.2.2.2.1 s.2.2.2.2.2.1 s.2.2.2.2.2.2.1 s.2.2.2.2.2.2.2 (fun b0 b1 b2 b3 b4 b5 b6 h' q => ih (b0, b1, b2, b3, b4, b5, b6, h') q)) n (a0, a1, a2, a3, a4, a5, a6, h) hm
theorem fu_gt {n : Nat} (h : n < 1000000) : n < fu_ := h
/-- counts, sums over a stretch of numbers -/
def ct_ (P : Int → Bool) (a : Int) : Nat → Int
  | 0 => 0
  | n + 1 => (if P a then 1 else 0) + ct_ P (a + 1) n
def cn_ (P : Int → Bool) (a b : Int) : Int := ct_ P a (b - a).toNat
theorem cn_e {P : Int → Bool} {a b : Int} (h : b ≤ a) : cn_ P a b = 0 := by
  unfold cn_; rw [show (b - a).toNat = 0 by omega]; rfl
theorem cn_s {P : Int → Bool} {a b : Int} (h : a < b) : cn_ P a b = (if P a then 1 else 0) + cn_ P (a + 1) b := by
  unfold cn_; rw [show (b - a).toNat = (b - (a + 1)).toNat + 1 by omega]; rfl
theorem ct_nn (P : Int → Bool) : ∀ (n : Nat) (a : Int), 0 ≤ ct_ P a n ∧ ct_ P a n ≤ n
  | 0, _ => ⟨Int.le_refl 0, Int.le_refl 0⟩
  | n + 1, a => by
    have := ct_nn P n (a + 1)
    unfold ct_
    split <;> omega
theorem cn_nn (P : Int → Bool) (a b : Int) : 0 ≤ cn_ P a b := (ct_nn P _ _).1
theorem cn_le {P : Int → Bool} {a b : Int} (h : a ≤ b) : cn_ P a b ≤ b - a := by
  have := (ct_nn P (b - a).toNat a).2
  unfold cn_; omega
def sm_ (f : Int → Int) (a : Int) : Nat → Int
  | 0 => 0
  | n + 1 => f a + sm_ f (a + 1) n
def sn_ (f : Int → Int) (a b : Int) : Int := sm_ f a (b - a).toNat
theorem sn_e {f : Int → Int} {a b : Int} (h : b ≤ a) : sn_ f a b = 0 := by
  unfold sn_; rw [show (b - a).toNat = 0 by omega]; rfl
theorem sn_s {f : Int → Int} {a b : Int} (h : a < b) : sn_ f a b = f a + sn_ f (a + 1) b := by
  unfold sn_; rw [show (b - a).toNat = (b - (a + 1)).toNat + 1 by omega]; rfl
