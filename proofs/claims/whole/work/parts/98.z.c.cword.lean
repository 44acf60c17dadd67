/-! ===== the class takes a word ===== -/
section
variable {b : Int → Int} {L p q : Int} {h : AH}
def wm (cd b : Int → Int) (q e f t : Int) : Bool := decide (t - f = e - q) && nhn (fun i => decide (cd i = b (q + i - f))) (t - f).toNat f
theorem wvf_inj {c : Int → Int} {r : Int} : ∀ n : Nat, (∀ i : Nat, i < n → (0 ≤ b (q + i) ∧ b (q + i) < 256) ∧ (0 ≤ c (r + i) ∧ c (r + i) < 256)) → wvf b q n = wvf c r n → ∀ i : Nat, i < n → b (q + i) = c (r + i)
  | 0, _, _, i, hi => by omega
  | n + 1, hb, e, i, hi => by
    have e' : wvf b q n * 256 + b (q + n) = wvf c r n * 256 + c (r + n) := e
    have hn := hb n (by omega)
    by_cases d : i = n
    · rw [d]; omega
    · exact wvf_inj n (fun i hi => hb i (by omega)) (by omega) i (by omega)
theorem wvf_cg {c : Int → Int} {r : Int} : ∀ n : Nat, (∀ i : Nat, i < n → b (q + i) = c (r + i)) → wvf b q n = wvf c r n
  | 0, _ => rfl
  | n + 1, h => by
    show wvf b q n * 256 + b (q + n) = wvf c r n * 256 + c (r + n)
    rw [wvf_cg n fun i hi => h i (by omega), h n (by omega)]
theorem p256 : ∀ m n : Fin 8, m.val < n.val → (256 : Int) ^ m.val * 256 ≤ 256 ^ n.val := by decide
theorem wm_pk {cd : Int → Int} {f t : Int} (hc : ∀ i : Int, f ≤ i → i < t → 97 ≤ cd i ∧ cd i ≤ 122) (h1 : 1 ≤ t - f) (h7 : t - f ≤ 7) : wm cd b q (wen b L q) f t = decide (pk b L q = wvf cd f (t - f).toNat) := by
  have ge : q ≤ wen b L q := sc_ge q
  have al := sc_a (P := lt_ b) (L := L) q
  have wb : ∀ k : Nat, (k : Int) ≤ wen b L q - q → 0 ≤ wvf b q k ∧ wvf b q k < 256 ^ k ∧ (1 ≤ k → 256 ^ k ≤ 256 * wvf b q k) := fun k hk => wvf_b k fun i i0 i1 => al i i0 (by unfold wen at hk; omega)
  have wc : 0 ≤ wvf cd f (t - f).toNat ∧ wvf cd f (t - f).toNat < 256 ^ (t - f).toNat ∧ (1 ≤ (t - f).toNat → 256 ^ (t - f).toNat ≤ 256 * wvf cd f (t - f).toNat) := wvf_b _ fun i i0 i1 => decide_eq_true (hc i i0 (by omega))
  have pp : (0 : Int) < 256 ^ (t - f).toNat := Int.pow_pos (by decide)
  unfold wm
  by_cases c : t - f = wen b L q - q
  · rw [decide_eq_true c, Bool.true_and]
    have ep : pk b L q = wvf b q (t - f).toNat := by unfold pk; rw [if_pos (by omega), c]
    rw [ep]
    cases d : nhn (fun i => decide (cd i = b (q + i - f))) (t - f).toNat f
    · refine (decide_eq_false fun z => ?_).symm
      have : nhn (fun i => decide (cd i = b (q + i - f))) (t - f).toNat f = true := (nhn_i _ _).2 fun j j0 j1 => by
        have hj := wvf_inj (c := cd) (r := f) (b := b) (q := q) (t - f).toNat (fun i hi => by
          have a : 97 ≤ b (q + i) ∧ b (q + i) ≤ 122 := of_decide_eq_true (al (q + i) (by omega) (by unfold wen at c; omega))
          have a' := hc (f + i) (by omega) (by omega)
          omega) z (j - f).toNat (by omega)
        rw [show q + ((j - f).toNat : Int) = q + j - f by omega, show f + ((j - f).toNat : Int) = j by omega] at hj
        exact decide_eq_true hj.symm
      rw [d] at this; cases this
    · refine (decide_eq_true ?_).symm
      have a := (nhn_i _ _).1 d
      refine wvf_cg _ fun i hi => ?_
      have := of_decide_eq_true (a (f + i) (by omega) (by omega))
      rw [show q + (f + (i : Int)) - f = q + i by omega] at this
      exact this.symm
  · rw [decide_eq_false c, Bool.false_and]
    refine (decide_eq_false fun z => ?_).symm
    unfold pk at z
    by_cases d : 1 ≤ wen b L q - q ∧ wen b L q - q ≤ 7
    · rw [if_pos d] at z
      have w := wb (wen b L q - q).toNat (by omega)
      have w3 := w.2.2 (by omega)
      have c3 := wc.2.2 (by omega)
      by_cases l : (wen b L q - q).toNat < (t - f).toNat
      · have := p256 ⟨(wen b L q - q).toNat, by omega⟩ ⟨(t - f).toNat, by omega⟩ l
        dsimp only at this
        omega
      · have := p256 ⟨(t - f).toNat, by omega⟩ ⟨(wen b L q - q).toNat, by omega⟩ (by dsimp only; omega)
        dsimp only at this
        omega
    · rw [if_neg d] at z
      have c3 := wc.2.2 (by omega)
      omega
/-! a list of words -/
def cl : Int → List Int := fun z => if z = -1 then [112, 97, 112, 101, 114, 115, 32, 115, 116, 97, 116, 105, 111, 110, 32, 118, 111, 116, 101, 114, 115, 32, 115, 112, 111, 105, 108, 101, 100] else if z = -2 then [115, 101, 114, 118, 101] else if z = -3 then [115, 116, 97, 116, 105, 111, 110, 32, 119, 97, 105, 116, 105, 110, 103, 32, 115, 116, 111, 99, 107, 32, 98, 111, 120, 32, 115, 112, 111, 105, 108, 101, 100, 32, 110, 101, 120, 116, 32, 114, 117, 110, 115, 32, 99, 114, 111, 119, 100, 32, 108, 101, 102, 116, 32, 104, 111, 117, 114] else if z = -4 then [105, 102] else if z = -5 then [110, 111, 116] else [111, 114, 32, 97, 110, 100]
def cdz (z i : Int) : Int := (cl z).getD i.toNat 0
def lnz (z : Int) : Nat := (cl z).length
def prs (cd : Int → Int) : Nat → Int → Int → List (Int × Int)
  | 0, i, f => [(f, i)]
  | n + 1, i, f => if cd i = 32 then (f, i) :: prs cd n (i + 1) (i + 1) else prs cd n (i + 1) f
def fm (M : Int → Int → Bool) : List (Int × Int) → Int → Int
  | [], _ => -1
  | (f, t) :: r, w => if M f t = true then w else fm M r (w + 1)
def wif : List Int → Int → Int → Int
  | [], _, _ => -1
  | x :: r, v, w => if v = x then w else wif r v (w + 1)
def wi (ws : List Int) (v : Int) : Int := wif ws v 0
def wl (z : Int) : List Int := if z = -1 then [123563799835251, 32497584235442030, 130221066252915, 32493246134117732] else if z = -2 then [495623239269] else if z = -3 then [32497584235442030, 33602627781095015, 495874696043, 6451064, 32493246134117732, 1852143732, 1920298611, 427121669988, 1818584692, 1752135026] else if z = -4 then [26982] else if z = -5 then [7237492] else [28530, 6385252]
def okp (cd : Int → Int) (r : List (Int × Int)) : Bool := r.all fun x => decide (1 ≤ x.2 - x.1 ∧ x.2 - x.1 ≤ 7) && nhn (fun i => decide (97 ≤ cd i ∧ cd i ≤ 122)) (x.2 - x.1).toNat x.1
theorem okp_z : ∀ z ∈ [(-1 : Int), -2, -3, -4, -5, -6], okp (cdz z) (prs (cdz z) (lnz z) 0 0) = true ∧ (prs (cdz z) (lnz z) 0 0).map (fun x => wvf (cdz z) x.1 (x.2 - x.1).toNat) = wl z := by decide +kernel
theorem x_n_z : ∀ z ∈ [(-1 : Int), -2, -3, -4, -5, -6], x_n z = some (lnz z : Int) := by decide +kernel
theorem x_c_z : ∀ z ∈ [(-1 : Int), -2, -3, -4, -5, -6], ∀ i : Fin 60, i.val < lnz z → x_c z (i.val : Int) = some (cdz z (i.val : Int)) := by decide +kernel
theorem cdz_b : ∀ z ∈ [(-1 : Int), -2, -3, -4, -5, -6], lnz z ≤ 59 ∧ ∀ i : Fin 60, 0 ≤ cdz z (i.val : Int) ∧ cdz z (i.val : Int) ≤ 255 := by decide +kernel
theorem fm_wi {cd : Int → Int} : ∀ (r : List (Int × Int)) (w : Int), okp cd r = true → fm (wm cd b q (wen b L q)) r w = wif (r.map fun x => wvf cd x.1 (x.2 - x.1).toNat) (pk b L q) w
  | [], _, _ => rfl
  | (f, t) :: r, w, ho => by
    unfold okp at ho
    rw [List.all_cons, Bool.and_eq_true, Bool.and_eq_true] at ho
    obtain ⟨⟨o1, o2⟩, o3⟩ := ho
    have o1' := of_decide_eq_true o1
    dsimp only at o1' o2
    have o2' := (nhn_i _ _).1 o2
    show (if wm cd b q (wen b L q) f t = true then w else fm _ r (w + 1)) = (if pk b L q = wvf cd f (t - f).toNat then w else wif _ (pk b L q) (w + 1))
    rw [wm_pk (fun i i0 i1 => of_decide_eq_true (o2' i i0 (by omega))) o1'.1 o1'.2, fm_wi r (w + 1) o3]
    by_cases c : pk b L q = wvf cd f (t - f).toNat
    · rw [decide_eq_true c, if_pos rfl, if_pos c]
    · rw [decide_eq_false c, if_neg (by decide), if_neg c]
variable {z : Int}
theorem xcz (hz : z ∈ [(-1 : Int), -2, -3, -4, -5, -6]) {i : Int} (i0 : 0 ≤ i) (i1 : i < lnz z) : x_c z i = some (cdz z i) ∧ 0 ≤ cdz z i ∧ cdz z i ≤ 255 := by
  have l := (cdz_b z hz).1
  have a := x_c_z z hz ⟨i.toNat, by omega⟩ (by dsimp only; omega)
  have c := (cdz_b z hz).2 ⟨i.toNat, by omega⟩
  dsimp only at a c
  rw [show ((i.toNat : Nat) : Int) = i by omega] at a c
  exact ⟨a, c⟩
theorem c_isWord (hz : z ∈ [(-1 : Int), -2, -3, -4, -5, -6]) (C : CS L b q h) {f t e : Int} (f0 : 0 ≤ f) (ft : f ≤ t) (t1 : t ≤ lnz z) (e0 : q ≤ e) (e1 : e ≤ L) : f_P_isWord 2 z f t e h = some (b01 (wm (cdz z) b q e f t), h) := by
  have l := C.hL
  have ln := (cdz_b z hz).1
  obtain ⟨-, -, -, q0, q1⟩ := id C
  unfold f_P_isWord wm
  rw [C.gp, Option.bind_some, nmi (z := t - f) (by omega) (by omega), nmi (z := e - q) (by omega) (by omega)]
  by_cases c : t - f = e - q
  · rw [if_pos c, decide_eq_true c, Bool.true_and]
    have lp : ∀ (n g : Nat) (i : Int), f ≤ i → i + n = t → it_ (fun (k : Int × AH → Option (Int × AH)) (s : Int × AH) => F_P_isWord_18 2 z f t (fun a0 a1 => k (a0, a1)) s.1 s.2) (n + 1 + g) (i, h) = some (b01 (nhn (fun i => decide (cdz z i = b (q + i - f))) n i), h) := by
      intro n
      induction n with
      | zero =>
        intro g i i0 i1
        rw [show 0 + 1 + g = g + 1 by omega, it_un]
        unfold F_P_isWord_18
        dsimp only
        rw [nmi (z := t) (by omega) (by omega), nmi (z := i) (by omega) (by omega), if_pos (by omega), cb_1]
        rfl
      | succ n ih =>
        intro g i i0 i1
        obtain ⟨x1, x2, x3⟩ := xcz hz (i := i) (by omega) (by omega)
        have bb := C.bb (i := q + i - f) (by omega) (by omega)
        have st : ∀ kf : Int × AH → Option (Int × AH), F_P_isWord_18 2 z f t (fun a0 a1 => kf (a0, a1)) i h = if cdz z i = b (q + i - f) then kf (i + 1, h) else some (0, h) := by
          intro kf
          unfold F_P_isWord_18
          rw [nmi (z := t) (by omega) (by omega), nmi (z := i) (by omega) (by omega), if_neg (by omega), x1, Option.bind_some, C.1.g2_0, Option.bind_some, C.gp, Option.bind_some, C.by (by omega) (by omega), Option.bind_some, nmi (z := cdz z i) (by omega) (by omega), nmi (z := b (q + i - f)) (by omega) (by omega), cb_0]
        rw [show n + 1 + 1 + g = (n + 1 + g) + 1 by omega, it_un]
        refine (st _).trans ?_
        show _ = some (b01 (decide (cdz z i = b (q + i - f)) && nhn (fun i => decide (cdz z i = b (q + i - f))) n (i + 1)), h)
        by_cases d : cdz z i = b (q + i - f)
        · rw [if_pos d, decide_eq_true d, Bool.true_and]; exact ih g (i + 1) (by omega) (by omega)
        · rw [if_neg d, decide_eq_false d, Bool.false_and]; rfl
    have := lp (t - f).toNat (1000000 - (t - f).toNat - 1) f (Int.le_refl _) (by omega)
    rw [show (t - f).toNat + 1 + (1000000 - (t - f).toNat - 1) = fu_ by unfold fu_; omega] at this
    exact this
  · rw [if_neg c, decide_eq_false c, Bool.false_and, cb_0]; rfl
theorem c_word54 (hz : z ∈ [(-1 : Int), -2, -3, -4, -5, -6]) (C : CS L b q h) {e : Int} (e0 : q ≤ e) (e1 : e ≤ L) : ∀ (n g : Nat) (i w f : Int), i + n = lnz z → 0 ≤ f → f ≤ i → 0 ≤ w → w ≤ i → it_ (fun (k : Int × Int × Int × AH → Option (Int × AH)) (s : Int × Int × Int × AH) => F_P_takeWord_54 2 z e (fun a0 a1 a2 a3 => k (a0, a1, a2, a3)) s.1 s.2.1 s.2.2.1 s.2.2.2) (n + 2 + g) (w, f, i, h) = (let r := fm (wm (cdz z) b q e) (prs (cdz z) n i f) w; some (r, if r = -1 then h else h_S h 2 2 e)) := by
  have l := C.hL
  have ln := (cdz_b z hz).1
  have hn := x_n_z z hz
  intro n
  induction n with
  | zero =>
    intro g i w f ei f0 fi w0 w1
    have st : ∀ kf : Int × Int × Int × AH → Option (Int × AH), F_P_takeWord_54 2 z e (fun a0 a1 a2 a3 => kf (a0, a1, a2, a3)) w f i h = if wm (cdz z) b q e f i = true then some (w, h_S h 2 2 e) else kf (w + 1, i + 1, i + 1, h) := by
      intro kf
      unfold F_P_takeWord_54
      rw [hn, Option.bind_some, nmi (z := (lnz z : Int)) (by omega) (by omega), nmi (z := i) (by omega) (by omega), if_neg (by omega), Option.bind_some, nmi (z := (lnz z : Int)) (by omega) (by omega), if_pos (by omega)]
      unfold f_P_takeWord_83
      rw [ck_pos C.1.k2, c_isWord hz C f0 fi (by omega) e0 e1, bd_some]
      cases m : wm (cdz z) b q e f i
      · rw [if_pos b01_f, if_neg (by decide), Option.bind_some]
      · rw [if_neg b01_t, if_pos rfl, sf_pos C.1.k2, Option.bind_some]
    rw [show 0 + 2 + g = (g + 1) + 1 by omega, it_un]
    refine (st _).trans ?_
    show _ = (let r := (if wm (cdz z) b q e f i = true then w else -1); some (r, if r = -1 then h else h_S h 2 2 e))
    cases m : wm (cdz z) b q e f i
    · rw [if_neg (by decide), if_neg (by decide), it_un]
      unfold F_P_takeWord_54
      dsimp only
      rw [hn, Option.bind_some, nmi (z := (lnz z : Int)) (by omega) (by omega), nmi (z := i + 1) (by omega) (by omega), if_pos (by omega), if_pos rfl]
    · rw [if_pos rfl, if_pos rfl]
      dsimp only
      rw [if_neg (by omega)]
  | succ n ih =>
    intro g i w f ei f0 fi w0 w1
    obtain ⟨x1, x2, x3⟩ := xcz hz (i := i) (by omega) (by omega)
    have st : ∀ kf : Int × Int × Int × AH → Option (Int × AH), F_P_takeWord_54 2 z e (fun a0 a1 a2 a3 => kf (a0, a1, a2, a3)) w f i h = if cdz z i = 32 then (if wm (cdz z) b q e f i = true then some (w, h_S h 2 2 e) else kf (w + 1, i + 1, i + 1, h)) else kf (w, f, i + 1, h) := by
      intro kf
      unfold F_P_takeWord_54
      rw [hn, Option.bind_some, nmi (z := (lnz z : Int)) (by omega) (by omega), nmi (z := i) (by omega) (by omega), if_neg (by omega), Option.bind_some, nmi (z := (lnz z : Int)) (by omega) (by omega), if_neg (by omega), x1, Option.bind_some, nmi (z := cdz z i) (by omega) (by omega), nmi (z := 32) (by decide) (by decide)]
      by_cases c : cdz z i = 32
      · rw [if_neg (fun y => y c), if_pos c]
        unfold f_P_takeWord_83
        rw [ck_pos C.1.k2, c_isWord hz C f0 fi (by omega) e0 e1, bd_some]
        cases m : wm (cdz z) b q e f i
        · rw [if_pos b01_f, if_neg (by decide), Option.bind_some]
        · rw [if_neg b01_t, if_pos rfl, sf_pos C.1.k2, Option.bind_some]
      · rw [if_pos c, if_neg c]
    rw [show n + 1 + 2 + g = (n + 2 + g) + 1 by omega, it_un]
    refine (st _).trans ?_
    unfold prs
    by_cases c : cdz z i = 32
    · rw [if_pos c, if_pos c]
      show _ = (let r := (if wm (cdz z) b q e f i = true then w else fm (wm (cdz z) b q e) (prs (cdz z) n (i + 1) (i + 1)) (w + 1)); some (r, if r = -1 then h else h_S h 2 2 e))
      cases m : wm (cdz z) b q e f i
      · rw [if_neg (by decide), if_neg (by decide)]
        exact ih g (i + 1) (w + 1) (i + 1) (by omega) (by omega) (by omega) (by omega) (by omega)
      · rw [if_pos rfl, if_pos rfl]
        dsimp only
        rw [if_neg (by omega)]
    · rw [if_neg c, if_neg c]
      exact ih g (i + 1) w f (by omega) (by omega) (by omega) (by omega) (by omega)
theorem c_word (hz : z ∈ [(-1 : Int), -2, -3, -4, -5, -6]) (C : CS L b p h) : ∃ h', f_P_takeWord 2 z h = some (wi (wl z) (pk b L (sk b L p)), h') ∧ CS L b (if wi (wl z) (pk b L (sk b L p)) = -1 then sk b L p else wen b L (sk b L p)) h' ∧ Ag X2p h h' := by
  have l := C.hL
  have ln := (cdz_b z hz).1
  obtain ⟨h1, e1, C1, g1⟩ := c_upc C
  generalize eq : sk b L p = q at *
  obtain ⟨-, -, -, q0, q1⟩ := id C1
  have gE : q ≤ wen b L q := sc_ge q
  have lE : wen b L q ≤ L := sc_le q q1
  have lp : ∀ (n g : Nat) (i : Int), q ≤ i → i + n = wen b L q → it_ (fun (k : Int × AH → Option (Int × AH)) (s : Int × AH) => F_P_takeWord_10 2 z (fun a0 a1 => k (a0, a1)) s.1 s.2) (n + 1 + g) (i, h1) = f_P_takeWord_54 2 z (wen b L q) 0 0 0 h1 := by
    intro n
    induction n with
    | zero =>
      intro g i i0 i1
      rw [show 0 + 1 + g = g + 1 by omega, it_un]
      unfold F_P_takeWord_10
      dsimp only
      have x := sc_x (P := lt_ b) (L := L) q
      rw [C1.gL, Option.bind_some, nmi (z := L) (by omega) (by omega), nmi (z := i) (by omega) (by omega), show i = wen b L q by omega]
      by_cases c : L ≤ wen b L q
      · rw [if_pos c]
      · have bb := C1.bb (show 0 ≤ wen b L q by omega) (by omega)
        have nd : ¬ (97 ≤ b (wen b L q) ∧ b (wen b L q) ≤ 122) := fun y => x ⟨show wen b L q < L by omega, decide_eq_true y⟩
        rw [if_neg c, C1.1.g2_0, Option.bind_some, C1.by (by omega) (by omega), Option.bind_some, Option.bind_some, C1.by (by omega) (by omega), Option.bind_some, nmi (z := b (wen b L q)) (by omega) (by omega), nmi (z := 97) (by decide) (by decide), nmi (z := 122) (by decide) (by decide)]
        by_cases d : b (wen b L q) < 97
        · rw [if_pos d]
        · rw [if_neg d, if_pos (by omega)]
    | succ n ih =>
      intro g i i0 i1
      have al : 97 ≤ b i ∧ b i ≤ 122 := of_decide_eq_true (sc_a (P := lt_ b) (L := L) q i i0 (by unfold wen at i1; omega))
      have st : ∀ kf : Int × AH → Option (Int × AH), F_P_takeWord_10 2 z (fun a0 a1 => kf (a0, a1)) i h1 = kf (i + 1, h1) := by
        intro kf
        unfold F_P_takeWord_10
        rw [C1.gL, Option.bind_some, nmi (z := L) (by omega) (by omega), nmi (z := i) (by omega) (by omega), if_neg (by omega), C1.1.g2_0, Option.bind_some, C1.by (by omega) (by omega), Option.bind_some, Option.bind_some, C1.by (by omega) (by omega), Option.bind_some, nmi (z := b i) (by omega) (by omega), nmi (z := 97) (by decide) (by decide), nmi (z := 122) (by decide) (by decide), if_neg (by omega), if_neg (by omega)]
      rw [show n + 1 + 1 + g = (n + 1 + g) + 1 by omega, it_un]
      exact (st _).trans (ih g (i + 1) (by omega) (by omega))
  have e2 := lp (wen b L q - q).toNat (1000000 - (wen b L q - q).toNat - 1) q (Int.le_refl _) (by omega)
  rw [show (wen b L q - q).toNat + 1 + (1000000 - (wen b L q - q).toNat - 1) = fu_ by unfold fu_; omega] at e2
  have e3 := c_word54 hz C1 gE lE (lnz z) (1000000 - lnz z - 2) 0 0 0 (by omega) (by omega) (by omega) (by omega) (by omega)
  rw [show lnz z + 2 + (1000000 - lnz z - 2) = fu_ by unfold fu_; omega] at e3
  obtain ⟨ok1, ok2⟩ := okp_z z hz
  have ew := fm_wi (b := b) (q := q) (L := L) (prs (cdz z) (lnz z) 0 0) 0 ok1
  rw [ok2] at ew
  have ew' : fm (wm (cdz z) b q (wen b L q)) (prs (cdz z) (lnz z) 0 0) 0 = wi (wl z) (pk b L q) := ew
  dsimp only at e3
  rw [ew'] at e3
  have g2 : Ag X2p h1 (h_S h1 2 2 (wen b L q)) := Ag.rf.st ⟨rfl, rfl⟩
  refine ⟨if wi (wl z) (pk b L q) = -1 then h1 else h_S h1 2 2 (wen b L q), ?_, ?_, ?_⟩
  · unfold f_P_takeWord
    rw [ck_pos C.1.k2, e1, bd_some, C1.gp, Option.bind_some]
    exact e2.trans e3
  · by_cases c : wi (wl z) (pk b L q) = -1
    · rw [if_pos c, if_pos c]; exact C1
    · rw [if_neg c, if_neg c]; exact C1.x2 (g2.mono X2p_2) (by rw [hV_eq, if_pos rfl]) (by omega) lE
  · by_cases c : wi (wl z) (pk b L q) = -1
    · rw [if_pos c]; exact g1
    · rw [if_neg c]; exact g1.tr g2
end
