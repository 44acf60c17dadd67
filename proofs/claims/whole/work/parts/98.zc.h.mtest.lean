/-! ===== a rule's test: the Model, facts that are joined ===== -/
section
variable {b : Int → Int} {L m p q t d : Int} {ms : List CD} {B : List Int} {h h' : AH} {r : PR}
def pnd (wt la : Bool) : List Int := (if la = true then [12] else []) ++ (if wt = true then [13] else [])
def lao (la : Bool) : List CD := if la = true then [(12, 0)] else []
/-- a test's begin -/
def bas (B : List Int) : Prop := B = [] ∨ ∃ C, B = 91 :: C
theorem pnd_ok (wt la : Bool) (ok : okB B) : okB (pnd wt la ++ B) := by
  intro x hx
  rw [List.mem_append] at hx
  rcases hx with z | z
  · cases wt <;> cases la <;> simp [pnd] at z <;> omega
  · exact ok x z
theorem bas_ly {k : Int} (hB : bas B) (k0 : 1 ≤ k) : lyo k B = [] ∧ lyr k B = B ∧ lyd k B = 0 := by
  rcases hB with z | ⟨C, z⟩
  · rw [z]; exact ⟨rfl, rfl, rfl⟩
  · rw [z]
    have s : ¬ k ≤ stq 91 := by have : stq 91 = 0 := rfl; omega
    exact ⟨if_neg s, if_neg s, if_neg s⟩
theorem ly1 {k x : Int} (c : k ≤ stq x) (B : List Int) : lyo k (x :: B) = (cop x, 0) :: lyo k B ∧ lyr k (x :: B) = lyr k B ∧ lyd k (x :: B) = (if x = 11 then 1 else 0) + lyd k B := ⟨if_pos c, if_pos c, if_pos c⟩
theorem ly0 {k x : Int} (c : ¬ k ≤ stq x) (B : List Int) : lyo k (x :: B) = [] ∧ lyr k (x :: B) = x :: B ∧ lyd k (x :: B) = 0 := ⟨if_neg c, if_neg c, if_neg c⟩
theorem pnd_2 (hB : bas B) (wt la : Bool) : lyo 2 (pnd wt la ++ B) = lao la ∧ lyr 2 (pnd wt la ++ B) = pnd wt false ++ B ∧ lyd 2 (pnd wt la ++ B) = 0 := by
  obtain ⟨z1, z2, z3⟩ := bas_ly (k := 2) hB (by decide)
  obtain ⟨y1, y2, y3⟩ := ly0 (k := 2) (x := 13) (by decide) B
  cases la
  · cases wt
    · exact ⟨z1, z2, z3⟩
    · exact ⟨y1, y2, y3⟩
  · obtain ⟨w1, w2, w3⟩ := ly1 (k := 2) (x := 12) (by decide) (pnd wt false ++ B)
    show lyo 2 (12 :: (pnd wt false ++ B)) = _ ∧ lyr 2 (12 :: (pnd wt false ++ B)) = _ ∧ lyd 2 (12 :: (pnd wt false ++ B)) = 0
    rw [w1, w2, w3]
    cases wt
    · refine ⟨?_, z2, ?_⟩
      · show (cop 12, 0) :: lyo 2 B = _; rw [z1]; rfl
      · show (if (12 : Int) = 11 then 1 else 0) + lyd 2 B = 0; rw [z3]; rfl
    · refine ⟨?_, y2, ?_⟩
      · show (cop 12, 0) :: lyo 2 (13 :: B) = _; rw [y1]; rfl
      · show (if (12 : Int) = 11 then 1 else 0) + lyd 2 (13 :: B) = 0; rw [y3]; rfl
theorem pnd_1 (hB : bas B) (wt la : Bool) : lyo 1 (pnd wt la ++ B) = lao la ++ wo wt ∧ lyr 1 (pnd wt la ++ B) = B ∧ lyd 1 (pnd wt la ++ B) = 0 := by
  obtain ⟨z1, z2, z3⟩ := bas_ly (k := 1) hB (by decide)
  have y : lyo 1 (pnd wt false ++ B) = wo wt ∧ lyr 1 (pnd wt false ++ B) = B ∧ lyd 1 (pnd wt false ++ B) = 0 := by
    cases wt
    · exact ⟨z1, z2, z3⟩
    · obtain ⟨y1, y2, y3⟩ := ly1 (k := 1) (x := 13) (by decide) B
      show lyo 1 (13 :: B) = _ ∧ lyr 1 (13 :: B) = _ ∧ lyd 1 (13 :: B) = 0
      rw [y1, y2, y3, z1, z2, z3]; exact ⟨rfl, rfl, rfl⟩
  cases la
  · exact y
  · obtain ⟨w1, w2, w3⟩ := ly1 (k := 1) (x := 12) (by decide) (pnd wt false ++ B)
    show lyo 1 (12 :: (pnd wt false ++ B)) = _ ∧ lyr 1 (12 :: (pnd wt false ++ B)) = _ ∧ lyd 1 (12 :: (pnd wt false ++ B)) = 0
    rw [w1, w2, w3, y.1, y.2.1, y.2.2]; exact ⟨rfl, rfl, rfl⟩
theorem jw_e (b : Int → Int) (L q : Int) : jw b L q = if pk b L q = 28530 then 0 else if pk b L q = 6385252 then 1 else -1 := rfl
theorem jw_93 (h : jw b L q ≠ -1) (hq : q ≤ L) : ch b L q ≠ 93 := by
  have jl := jw_len h
  have lE : wen b L q ≤ L := sc_le q hq
  have a := sc_a (P := lt_ b) (L := L) q q (Int.le_refl q) (by unfold wen at jl; omega)
  have a' : 97 ≤ b q ∧ b q ≤ 122 := of_decide_eq_true a
  unfold ch
  rw [if_pos (by omega)]; omega
/-- a joining word is taken: what it may lay down is laid down, it stands open -/
theorem m_join (H : MQr L b t ms m p B d h) (ok : okB B) (hl : (ms.length : Int) + B.length + 2 ≤ 400) {w k : Int} (hw : (w = 12 ∧ k = 2) ∨ (w = 13 ∧ k = 1)) (e : Nat) : ∃ h', f_M_tested_76 (tE e) 46 1 w h = tE e 1 h' ∧ MQr L b t (ms ++ lyo k B) m (wen b L p) (w :: lyr k B) (d - lyd k B) h' ∧ Ag (XRs t) h h' := by
  obtain ⟨h1, e1, C1, g1⟩ := m_passWord H.1
  have H1 := H.xp g1 C1
  obtain ⟨h2, e2, H2, g2⟩ := m_lay3 (k := k) (by omega) (by omega) ok (by omega) H1
  obtain ⟨H3, g3⟩ := H2.push (lyr_ok B ok) (x := w) (by omega)
  have sk' : stq w = k := by rcases hw with ⟨z, y⟩ | ⟨z, y⟩ <;> rw [z, y] <;> rfl
  have ln := ly_n k B
  refine ⟨_, ?_, H3, ((g1.mono X4p_rs).tr g2).tr g3⟩
  unfold f_M_tested_76
  rw [ck_pos H.1.1.1, e1, bd_some, m_str ⟨by omega, by omega⟩, bd_some, sk', ck_pos C1.1.1, e2, bd_some, H2.g15, Option.bind_some, H2.g16 (lyr_ok B ok), Option.bind_some, H2.w53 (by omega) (by omega), Option.bind_some, gf_pos (show h_T (h_S h2 53 (lyr k B).length w) 46 = 11 from H2.1.1.1), hV_ne (by decide), H2.2.1.2.2.2.2, (lyr_ok B ok).bl, Option.bind_some, sf_pos (show h_T (h_S h2 53 (lyr k B).length w) 46 = 11 from H2.1.1.1), Option.bind_some]
/-- where a joining word comes next -/
theorem m_word (H : MQr L b t ms m p B d h) (ok : okB B) (hl : (ms.length : Int) + B.length + 2 ≤ 400) (hj : jw b L (sk b L p) ≠ -1) {ec e : Nat} (f1 : 1 ≤ ec) : ∃ h', cNx ec e h = tE e 1 h' ∧ MQr L b t (ms ++ lyo (if jw b L (sk b L p) = 0 then 1 else 2) B) m (wen b L (sk b L p)) ((if jw b L (sk b L p) = 0 then 13 else 12) :: lyr (if jw b L (sk b L p) = 0 then 1 else 2) B) (d - lyd (if jw b L (sk b L p) = 0 then 1 else 2) B) h' ∧ Ag (XRs t) h h' := by
  have p1 := H.1.2.2.2.2
  have ls := sk_le (b := b) p1
  obtain ⟨ec', rfl⟩ : ∃ k, ec = k + 1 := ⟨ec - 1, by omega⟩
  obtain ⟨h1, e1, H1, g1⟩ := m_see' H
  have n93 := jw_93 hj ls
  have cb := H1.1.chb H1.1.2.2.2.1
  have sq : sk b L (sk b L p) = sk b L p := sk_sk
  have iw : ∀ {W : Int} {k : AH}, 0 < W → W < 9223372036854775808 → MQr L b t ms m (sk b L p) B d k → ∃ k', f_M_isWord 46 W k = some (b01 (decide (pk b L (sk b L p) = W)), k') ∧ MQr L b t ms m (sk b L p) B d k' ∧ Ag X4p k k' := fun {W k} w0 w1 c => by
    obtain ⟨k', x1, x2, x3⟩ := m_isWord w0 w1 c.1
    rw [sq] at x1 x2
    exact ⟨k', x1, c.xp x3 x2, x3⟩
  unfold cNx
  rw [cLo_un]
  unfold F_M_closes_5
  rw [ck_pos H.1.1.1, e1, bd_some, nmi (z := ch b L (sk b L p)) (by omega) (by omega), nmi (z := 93) (by decide) (by decide), if_pos n93, bd_some]
  unfold kJ
  obtain ⟨h2, e2, H2, g2⟩ := iw (W := 6385252) (by decide) (by decide) H1
  rw [ck_pos H1.1.1.1, e2, bd_some]
  have je := jw_e b L (sk b L p)
  by_cases c : pk b L (sk b L p) = 6385252
  · have ej : jw b L (sk b L p) = 1 := by rw [je, if_neg (by omega), if_pos c]
    obtain ⟨h3, e3, H3, g3⟩ := iw (W := 6385252) (by decide) (by decide) H2
    rw [decide_eq_true c, if_pos b01_t, ej, if_neg (by decide), if_neg (by decide)]
    rw [decide_eq_true c] at e3
    unfold f_M_tested_54
    rw [if_neg (show ¬ nm 1 = 0 by decide +kernel), ck_pos H2.1.1.1, e3, bd_some, if_neg b01_t]
    obtain ⟨h4, e4, H4, g4⟩ := m_join H3 ok hl (w := 12) (k := 2) (Or.inl ⟨rfl, rfl⟩) e
    exact ⟨h4, e4, H4, (((g1.tr g2).tr g3).mono X4p_rs).tr g4⟩
  · have c' : pk b L (sk b L p) = 28530 := by
      by_cases z : pk b L (sk b L p) = 28530
      · exact z
      · exact absurd (by rw [je, if_neg z, if_neg c]) hj
    have ej : jw b L (sk b L p) = 0 := by rw [je, if_pos c']
    obtain ⟨h3, e3, H3, g3⟩ := iw (W := 28530) (by decide) (by decide) H2
    obtain ⟨h4, e4, H4, g4⟩ := iw (W := 6385252) (by decide) (by decide) H3
    rw [decide_eq_false c, if_neg (fun z => z b01_f), ej, if_pos rfl, if_pos rfl, ck_pos H2.1.1.1, e3, bd_some, decide_eq_true c', if_neg b01_t]
    rw [decide_eq_false c] at e4
    unfold f_M_tested_54
    rw [if_neg (show ¬ nm 1 = 0 by decide +kernel), ck_pos H3.1.1.1, e4, bd_some, if_pos b01_f]
    obtain ⟨h5, e5, H5, g5⟩ := m_join H4 ok hl (w := 13) (k := 1) (Or.inr ⟨rfl, rfl⟩) e
    exact ⟨h5, e5, H5, ((((g1.tr g2).tr g3).tr g4).mono X4p_rs).tr g5⟩
end
