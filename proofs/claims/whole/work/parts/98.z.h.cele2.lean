/-! ===== an election's text: the class, all of it ===== -/
section
variable {b : Int → Int} {L p q i : Int} {rd : Int → Int} {h : AH}
theorem c_eV (C : CS L b p h) (H : EC rd h) (W : RW rd i) (i0 : i ≠ 0) : CA L b h (f_E_readVoters 4 h) (eV b L rd (sk b L p)) := by
  have q0 : 0 ≤ sk b L p := Int.le_trans C.2.2.2.1 (sk_ge p)
  obtain ⟨w1, w2, w3, w4, w5, w6⟩ := W
  have w40 : rd 0 = 1 := by rw [w4, if_neg i0]
  obtain ⟨h1, e1, a1, g1, a2, a3⟩ := c_num C (lo := 0) (hi := rd 2 - 1) ⟨by decide, by decide⟩ ⟨by omega, by omega⟩
  have K1 := C.1.ag g1 bp_x2
  unfold f_E_readVoters eV
  rw [C.1.g4_0, Option.bind_some, gf_pos C.1.k4, Option.bind_some, H.1, ck_pos C.1.k2, e1, bd_some]
  by_cases c : nfl b L 0 (rd 2 - 1) (sk b L p) = 0
  · obtain ⟨-, n1, n1', n2, n3⟩ := nfl_0 c q0
    have C1 := a2 c
    obtain ⟨h2, e2, a4, g2, a5, a6⟩ := c_num C1 (lo := 0) (hi := 60) ⟨by decide, by decide⟩ ⟨by decide, by decide⟩
    have K2 := K1.ag g2 bp_x2
    have s0 : 0 ≤ sk b L (nve b L (sk b L p)) := Int.le_trans (by omega) (sk_ge _)
    rw [if_pos c, if_pos ((nv1 (by omega) (by omega)).2 (by omega)), if_neg (show ¬ nfl b L 0 (rd 2 - 1) (sk b L p) ≠ 0 from fun z => z c), K1.g4_0, Option.bind_some, ck_pos K1.k2, e2, bd_some]
    by_cases c2 : nfl b L 0 60 (sk b L (nve b L (sk b L p))) = 0
    · obtain ⟨-, m1, m1', m2, m3⟩ := nfl_0 c2 s0
      have C2 := a5 c2
      obtain ⟨u1, u2, u3, u4, u5⟩ := (H.x2 g1).x2 g2
      rw [if_pos c2, if_pos ((nv1 (by omega) (by omega)).2 (by omega)), if_neg (show ¬ nfl b L 0 60 (sk b L (nve b L (sk b L p))) ≠ 0 from fun z => z c2), K2.g4_2, Option.bind_some, as_pos K2.k6.1 K2.k6.2 (by decide) n1.1 (by omega), Option.bind_some, cb_1]
      have g3 : Ag XEc h2 (h_S h2 6 (nvv b L (sk b L p)) (nvv b L (sk b L (nve b L (sk b L p))))) := Ag.rf.st (by unfold XEc; omega)
      refine ⟨_, rfl, ((g1.tr g2).mono X2_Ec).tr g3, fun _ => ⟨C2.ec g3 (by rw [hV_ne (by decide)]; exact C2.2.2.1) (by dsimp only; omega) m3, ?_⟩, fun z => absurd rfl z⟩
      show EC (up_ rd (123 + nvv b L (sk b L p)) (nvv b L (sk b L (nve b L (sk b L p))))) _
      generalize nvv b L (sk b L (nve b L (sk b L p))) = t at *
      generalize nvv b L (sk b L p) = f at *
      have o : ∀ j, j < 123 → up_ rd (123 + f) t j = rd j := fun j j0 => by rw [up_a, if_neg (by omega)]
      obtain ⟨x1, x2, x3⟩ := u4 w40
      refine ⟨by rw [hV_ne (by decide), o _ (by omega)]; exact u1, fun s s0 s1 => ?_, ?_, fun _ => ⟨by rw [hV_ne (by decide), o _ (by omega)]; exact x1, ?_, fun s s0 s1 => ?_⟩, fun z => by rw [o _ (by omega)] at z; omega⟩
      · rw [hV_eq, up_a]
        by_cases y : s = f
        · rw [if_pos y, if_pos (by omega)]
        · rw [if_neg y, if_neg (by omega)]; exact u2 s s0 s1
      · rw [hV_ne (by decide)]; exact u3.congr fun p p0 p1 => by rw [o _ (by omega)]
      · rw [hV_ne (by decide)]; exact x2.congr fun p p0 p1 => by rw [o _ (by omega)]
      · rw [o _ (by omega)] at s1
        rw [hV_ne (by decide)]; exact (x3 s s0 s1).congr fun p p0 p1 => by rw [o _ (by omega)]
    · rw [if_neg c2, if_pos c2, if_neg (fun z => z rfl), cb_0]
      refine ⟨h2, ?_, (g1.tr g2).mono X2_Ec, fun z => absurd z c2, fun _ => a6 c2⟩
      rw [decide_eq_false c2]; rfl
  · rw [if_neg c, if_pos c, if_neg (fun z => z rfl), cb_0]
    refine ⟨h1, ?_, g1.mono X2_Ec, fun z => absurd z c, fun _ => a3 c⟩
    rw [decide_eq_false c]; rfl
theorem c_eX (C : CS L b p h) (H : EC rd h) (W : RW rd i) (i0 : i ≠ 0) : CA L b h (f_E_readSpoiled 4 h) (eX b L rd (sk b L p)) := by
  have q0 : 0 ≤ sk b L p := Int.le_trans C.2.2.2.1 (sk_ge p)
  obtain ⟨w1, w2, w3, w4, w5, w6⟩ := W
  obtain ⟨v1, v2⟩ := w6 i0
  have w40 : rd 0 = 1 := by rw [w4, if_neg i0]
  obtain ⟨h1, e1, a1, g1, a2, a3⟩ := c_num C (lo := 0) (hi := rd 1 - 1) ⟨by decide, by decide⟩ ⟨by omega, by omega⟩
  have K1 := C.1.ag g1 bp_x2
  obtain ⟨u1, u2, u3, u4, u5⟩ := H.x2 g1
  obtain ⟨x1, x2, x3⟩ := u4 w40
  unfold f_E_readSpoiled eX
  rw [C.1.g4_0, Option.bind_some, gf_pos C.1.k4, Option.bind_some, (H.2.2.2.1 w40).1, ck_pos C.1.k2, e1, bd_some]
  by_cases c : nfl b L 0 (rd 1 - 1) (sk b L p) = 0
  · obtain ⟨-, n1, n1', n2, n3⟩ := nfl_0 c q0
    have C1 := a2 c
    rw [if_pos c, if_pos ((nv1 (by omega) (by omega)).2 (by omega)), if_neg (show ¬ nfl b L 0 (rd 1 - 1) (sk b L p) ≠ 0 from fun z => z c), gf_pos K1.k4, Option.bind_some]
    have bt := br_bit x2 n1.1 (by omega)
    have one := br_one n1.1 (show nvv b L (sk b L p) < 60 by omega)
    by_cases d : rd (3 + nvv b L (sk b L p)) < 0
    · rw [if_pos d, if_neg (fun z => z (bt.2 (decide_eq_false (by omega)))), K1.g4_0, Option.bind_some, Option.bind_some, gf_pos K1.k2, Option.bind_some, a1, ck_pos K1.k2]
      exact CA.pre (g1.mono X2_Ec) (CA_bl C1 rfl q0 (by decide))
    · rw [if_neg d, if_pos (fun z => by have := of_decide_eq_false (bt.1 z); omega), gf_pos K1.k4, Option.bind_some, sf_pos K1.k4, Option.bind_some, cb_1]
      have g3 : Ag XEc h1 (h_S h1 4 4 (l_or (h_V h1 4 4) (l_shl 1 (nvv b L (sk b L p))))) := Ag.rf.st (by unfold XEc; omega)
      refine ⟨_, rfl, (g1.mono X2_Ec).tr g3, fun _ => ⟨C1.ec g3 (by rw [hV_ne (by decide)]; exact C1.2.2.1) (by dsimp only; omega) n3, ?_⟩, fun z => absurd rfl z⟩
      show EC (up_ rd (63 + nvv b L (sk b L p)) 1) _
      generalize nvv b L (sk b L p) = f at *
      have o : ∀ j, (j < 63 ∨ 123 ≤ j) → up_ rd (63 + f) 1 j = rd j := fun j j0 => by rw [up_a, if_neg (by omega)]
      refine ⟨by rw [hV_eq, if_neg (by decide), o _ (by omega)]; exact u1, fun s s0 s1 => by rw [hV_ne (by decide), o _ (by omega)]; exact u2 s s0 s1, ?_, fun _ => ⟨by rw [hV_eq, if_neg (by decide), o _ (by omega)]; exact x1, ?_, fun s s0 s1 => ?_⟩, fun z => by rw [o _ (by omega)] at z; omega⟩
      · rw [hV_eq, if_pos rfl]
        refine (u3.or one).congr fun p p0 p1 => ?_
        rw [up_a]
        by_cases y : p = f
        · rw [decide_eq_true y, Bool.or_true, if_pos (by omega)]; rfl
        · rw [decide_eq_false y, Bool.or_false, if_neg (by omega)]
      · rw [hV_eq, if_neg (by decide)]; exact x2.congr fun p p0 p1 => by rw [o _ (by omega)]
      · rw [o _ (by omega)] at s1
        rw [hV_ne (by decide)]; exact (x3 s s0 s1).congr fun p p0 p1 => by rw [o _ (by omega)]
  · rw [if_neg c, if_pos c, if_neg (fun z => z rfl), cb_0]
    refine ⟨h1, ?_, g1.mono X2_Ec, fun z => absurd z c, fun _ => a3 c⟩
    rw [decide_eq_false c]; rfl
theorem wi_b {ws : List Int} {v : Int} : ∀ (ws : List Int) (w : Int), 0 ≤ w → -1 ≤ wif ws v w ∧ wif ws v w < w + ws.length
  | [], w, h => ⟨Int.le_refl _, by show (-1 : Int) < w + 0; omega⟩
  | x :: r, w, h => by
    have a := wi_b (ws := ws) (v := v) r (w + 1) (by omega)
    show -1 ≤ (if v = x then w else wif r v (w + 1)) ∧ (if v = x then w else wif r v (w + 1)) < w + ((r.length + 1 : Nat) : Int)
    split <;> omega
theorem ew_b (b : Int → Int) (L q : Int) : -1 ≤ ew b L q ∧ ew b L q < 4 := wi_b (ws := []) (wl (-1)) 0 (by decide)
theorem CA_cb {o : Option (Int × AH)} {r : Int × (Int → Int) × Int} (H : CA L b h o r) : CA L b h (bd_ o fun v h => c_b v (some (v, h))) r := by
  obtain ⟨h', e, q⟩ := H
  refine ⟨h', ?_, q⟩
  rw [e, bd_some]
  generalize decide (r.1 = 0) = x
  cases x <;> rfl
theorem c_ecl (C : CS L b p h) (H : EC rd h) (W : RW rd i) (i0 : 0 ≤ i) (i1 : i ≤ 40) : CA L b h (f_E_readClause 4 i h) (ecl b L rd i (sk b L p)) := by
  have l := C.hL
  obtain ⟨h1, e1, C1, g1⟩ := c_upc C
  have sq : sk b L (sk b L p) = sk b L p := sk_sk
  obtain ⟨h2, e2, C2, g2⟩ := c_word (z := -1) (by decide) C1
  rw [sq] at e2 C2
  have wb := ew_b b L (sk b L p)
  have eW : wi (wl (-1)) (pk b L (sk b L p)) = ew b L (sk b L p) := rfl
  rw [eW] at e2 C2
  generalize eq : sk b L p = q at *
  obtain ⟨-, -, -, q0, q1⟩ := id C1
  have G12 : Ag XEc h h2 := ((g1.tr g2).mono X2p_2).mono X2_Ec
  have H2 := H.x2 ((g1.tr g2).mono X2p_2)
  unfold f_E_readClause
  rw [C.1.g4_0, Option.bind_some, ck_pos C.1.k2, e1, bd_some, C1.1.g4_0, Option.bind_some, C1.gp, Option.bind_some, Option.bind_some, ck_pos C1.1.k2, e2, bd_some]
  unfold ecl
  by_cases a1 : ew b L q = -1
  · rw [if_pos a1, a1, if_neg (fun z => z rfl), C2.1.g4_0, Option.bind_some, ck_pos C2.1.k2]
    exact CA.pre G12 (CA_bl C2 rfl q0 (by decide))
  rw [if_neg a1, if_pos ((nv1 (by omega) (by omega)).2 a1), nmi (z := 40) (by decide) (by decide), nmi (z := i) (by omega) (by omega)]
  have bl : ∀ r : Int × (Int → Int) × Int, r.1 = 1 + 8 * q + 4 → CA L b h (f_E_readClause_81 4 q h2) r := fun r er => by
    unfold f_E_readClause_81
    rw [C2.1.g4_0, Option.bind_some, ck_pos C2.1.k2]
    exact CA.pre G12 (CA_bl C2 er q0 (by decide))
  by_cases a2 : 40 ≤ i
  · rw [if_pos a2, if_pos a2]; exact bl _ rfl
  rw [if_neg a2, if_neg a2]
  rw [if_neg a1] at C2
  have go : CA L b h (f_E_readClause_65 4 q (ew b L q) (if ew b L q = 0 then 1 else 0) (if i = 0 then 1 else 0) h2) (if (ew b L q = 0) ≠ (i = 0) then (1 + 8 * q + 4, rd, q) else if ew b L q = 1 ∧ 5 ≤ rd 2 then (1 + 8 * q + 4, rd, q) else if ew b L q = 0 then eP b L rd (sk b L (wen b L q)) else if ew b L q = 1 then eS b L rd (sk b L (wen b L q)) else if ew b L q = 2 then eV b L rd (sk b L (wen b L q)) else eX b L rd (sk b L (wen b L q))) := by
    unfold f_E_readClause_65
    by_cases b0 : ew b L q = 0
    · by_cases b1 : i = 0
      · rw [if_pos b0, if_pos b1, if_neg (fun z => z rfl), if_pos (by rw [b0]; decide +kernel), if_neg (show ¬ ((ew b L q = 0) ≠ (i = 0)) from fun z => z (propext ⟨fun _ => b1, fun _ => b0⟩)), if_neg (show ¬ (ew b L q = 1 ∧ 5 ≤ rd 2) by omega), if_pos b0, b0]
        subst b1
        exact CA.pre G12 (c_eP C2 H2 W)
      · rw [if_pos b0, if_neg b1, if_pos (by decide +kernel), if_pos (show (ew b L q = 0) ≠ (i = 0) from fun z => b1 (z.mp b0))]
        exact bl _ rfl
    · by_cases b1 : i = 0
      · rw [if_neg b0, if_pos b1, if_pos (by decide +kernel), if_pos (show (ew b L q = 0) ≠ (i = 0) from fun z => b0 (z.mpr b1))]
        exact bl _ rfl
      · rw [if_neg b0, if_neg b1, if_neg (show ¬ (nm 0 ≠ nm 0) from fun z => z rfl), if_neg (show ¬ ((ew b L q = 0) ≠ (i = 0)) from fun z => z (propext ⟨fun x => absurd x b0, fun x => absurd x b1⟩)), nmi (z := ew b L q) (by omega) (by omega), nmi (z := 1) (by decide) (by decide)]
        have r2 := W.1
        have go2 : ¬ (ew b L q = 1 ∧ 5 ≤ rd 2) → CA L b h (f_E_readClause_91 4 (ew b L q) h2) (if ew b L q = 1 then eS b L rd (sk b L (wen b L q)) else if ew b L q = 2 then eV b L rd (sk b L (wen b L q)) else eX b L rd (sk b L (wen b L q))) := fun nn => by
          unfold f_E_readClause_91
          rw [nmi (z := ew b L q) (by omega) (by omega), if_neg b0]
          by_cases d1 : ew b L q = 1
          · rw [if_pos d1, if_pos d1, ck_pos C2.1.k4]
            exact CA.pre G12 (CA_cb (c_eS C2 H2 W b1 (by omega)))
          rw [if_neg d1, if_neg d1]
          by_cases d2 : ew b L q = 2
          · rw [if_pos d2, if_pos d2, ck_pos C2.1.k4]
            exact CA.pre G12 (CA_cb (c_eV C2 H2 W b1))
          · rw [if_neg d2, if_neg d2, ck_pos C2.1.k4]
            exact CA.pre G12 (CA_cb (c_eX C2 H2 W b1))
        by_cases d1 : ew b L q = 1
        · rw [if_neg (fun z => z d1), gf_pos C2.1.k4, Option.bind_some, H2.1, nmi (z := rd 2) (by omega) (by omega), nmi (z := 5) (by decide) (by decide)]
          by_cases d2 : rd 2 < 5
          · rw [if_pos d2, if_neg (show ¬ (ew b L q = 1 ∧ 5 ≤ rd 2) by omega), if_neg b0]; exact go2 (by omega)
          · rw [if_neg d2, if_pos (show ew b L q = 1 ∧ 5 ≤ rd 2 by omega)]; exact bl _ rfl
        · rw [if_pos d1, if_neg (show ¬ (ew b L q = 1 ∧ 5 ≤ rd 2) by omega), if_neg b0]; exact go2 (by omega)
  unfold f_E_readClause_56
  rw [nmi (z := i) (by omega) (by omega), nmi (z := ew b L q) (by omega) (by omega)]
  by_cases b0 : ew b L q = 0
  · rw [if_neg (fun z => z b0)]
    rw [if_pos b0] at go
    by_cases b1 : i = 0
    · rw [if_pos b1] at go; rw [if_neg (fun z => z b1)]; exact go
    · rw [if_neg b1] at go; rw [if_pos b1]; exact go
  · rw [if_pos b0]
    rw [if_neg b0] at go
    by_cases b1 : i = 0
    · rw [if_pos b1] at go; rw [if_neg (fun z => z b1)]; exact go
    · rw [if_neg b1] at go; rw [if_pos b1]; exact go
theorem ecl_40 (i40 : 40 ≤ i) (q0 : 0 ≤ q) : (ecl b L rd i q).1 ≠ 0 := by
  unfold ecl
  by_cases a1 : ew b L q = -1
  · rw [if_pos a1]; dsimp only; omega
  · rw [if_neg a1, if_pos i40]; dsimp only; omega
theorem c_eal : ∀ (n e : Nat) (rd : Int → Int) (i p : Int) (h : AH), i + n = 41 → 0 ≤ i → i ≤ 40 → CS L b p h → EC rd h → RW rd i → ∃ h', it_ (fun (k : Int × AH → Option (Int × AH)) (s : Int × AH) => F_E_readAll_32 4 (fun a0 a1 => k (a0, a1)) s.1 s.2) (n + e) (i, h) = some (b01 (decide ((eal b L n rd i p).1 = 0)), h') ∧ Ag XEc h h' ∧ ((eal b L n rd i p).1 = 0 → EC (eal b L n rd i p).2 h' ∧ RW (eal b L n rd i p).2 1) ∧ ((eal b L n rd i p).1 ≠ 0 → h_V h' 2 4 = (eal b L n rd i p).1)
  | 0, e, rd, i, p, h, en, i0, i1, C, H, W => by omega
  | n + 1, e, rd, i, p, h, en, i0, i1, C, H, W => by
    have l := C.hL
    obtain ⟨h1, e1, g1, a1, a2⟩ := c_ecl C H W i0 i1
    have K1 := C.1.ag g1 bp_xec
    have q0 : 0 ≤ sk b L p := Int.le_trans C.2.2.2.1 (sk_ge p)
    have q1 : sk b L p ≤ L := sk_le C.2.2.2.2
    have ok := ecl_ok (b := b) (L := L) W i0 q0 q1
    have n40 : 40 ≤ i → (ecl b L rd i (sk b L p)).1 ≠ 0 := fun z => ecl_40 z q0
    rw [show n + 1 + e = (n + e) + 1 by omega, it_un]
    show ∃ h', F_E_readAll_32 4 _ i h = some (b01 (decide ((if (ecl b L rd i (sk b L p)).1 ≠ 0 then ((ecl b L rd i (sk b L p)).1, rd) else _).1 = 0)), h') ∧ _ ∧ ((if (ecl b L rd i (sk b L p)).1 ≠ 0 then ((ecl b L rd i (sk b L p)).1, rd) else _).1 = 0 → EC (if (ecl b L rd i (sk b L p)).1 ≠ 0 then ((ecl b L rd i (sk b L p)).1, rd) else _).2 h' ∧ RW (if (ecl b L rd i (sk b L p)).1 ≠ 0 then ((ecl b L rd i (sk b L p)).1, rd) else _).2 1) ∧ ((if (ecl b L rd i (sk b L p)).1 ≠ 0 then ((ecl b L rd i (sk b L p)).1, rd) else _).1 ≠ 0 → h_V h' 2 4 = (if (ecl b L rd i (sk b L p)).1 ≠ 0 then ((ecl b L rd i (sk b L p)).1, rd) else _).1)
    generalize ecl b L rd i (sk b L p) = r at *
    by_cases c : r.1 = 0
    · rw [if_neg (fun z => z c)]
      obtain ⟨C1, H1⟩ := a1 c
      obtain ⟨ok1, ok2⟩ := ok c
      obtain ⟨h2, e2, C2, g2⟩ := c_upc C1
      have H2 := H1.x2 (g2.mono X2p_2)
      have cb := C2.chb C2.2.2.2.1
      have W1 : RW r.2.1 1 := by
        obtain ⟨w1, w2, w3, w4, w5, w6⟩ := ok1
        exact ⟨w1, w2, w3, by rw [w4, if_neg (by omega), if_neg (by omega)], fun z => by omega, fun _ => w6 (by omega)⟩
      have st : ∀ kf : Int × AH → Option (Int × AH), F_E_readAll_32 4 (fun a0 a1 => kf (a0, a1)) i h = if ch b L (sk b L r.2.2) = -1 then some (1, h2) else (bd_ (f_P_takeSign 2 59 h2) fun v7 h8 => if nm v7 ≠ 0 then kf (i + 1, h8) else (g_f h8 2 4 0).bind fun v9 => (g_f h8 2 4 0).bind fun v10 => (g_f h8 9 v10 2).bind fun v11 => c_k h8 9 v9 <| bd_ (f_P_blame v9 v11 0 h8) fun v12 h13 => c_b v12 (some (v12, h13))) := by
        intro kf
        unfold F_E_readAll_32
        rw [nmi (z := 40) (by decide) (by decide), nmi (z := i) (by omega) (by omega), if_neg (by omega), ck_pos C.1.k4, e1, bd_some, decide_eq_true c, if_pos b01_t, K1.g4_0, Option.bind_some, ck_pos K1.k2, e2, bd_some, nmi (z := ch b L (sk b L r.2.2)) (by omega) (by omega), nmi (z := -1) (by decide) (by decide), C2.1.g4_0, Option.bind_some, ck_pos C2.1.k2, cb_1]
        by_cases d : ch b L (sk b L r.2.2) = -1
        · rw [if_neg (fun z => z d), if_pos d]
        · rw [if_pos d, if_neg d]
      by_cases d : ch b L (sk b L r.2.2) = -1
      · rw [if_pos d]
        refine ⟨h2, ?_, g1.tr ((g2.mono X2p_2).mono X2_Ec), fun _ => ⟨H2, W1⟩, fun z => absurd rfl z⟩
        refine (st _).trans ?_
        rw [if_pos d]; rfl
      · rw [if_neg d]
        obtain ⟨h3, e3, C3, g3⟩ := c_sign C2 (c := 59) (by decide) (by decide)
        rw [show sk b L (sk b L r.2.2) = sk b L r.2.2 from sk_sk] at e3 C3
        have K3 := C3.1
        have G3 : Ag XEc h h3 := g1.tr (((g2.tr g3).mono X2p_2).mono X2_Ec)
        by_cases f : ch b L (sk b L r.2.2) = 59
        · rw [if_pos f]
          rw [if_pos f] at C3
          have W1' : RW r.2.1 (i + 1) := ok1
          by_cases i40 : i = 40
          · exact absurd c (n40 (by omega))
          · obtain ⟨h4, e4, g4, r1, r2⟩ := c_eal n e r.2.1 (i + 1) (sk b L r.2.2 + 1) h3 (by omega) (by omega) (by omega) C3 (H2.x2 (g3.mono X2p_2)) W1'
            refine ⟨h4, ?_, G3.tr g4, r1, r2⟩
            refine (st _).trans ?_
            rw [if_neg d, e3, bd_some, decide_eq_true f, if_pos b01_t]
            exact e4
        · rw [if_neg f]
          rw [if_neg f] at C3
          obtain ⟨h4, e4, C4, r1, r2⟩ := c_blame C3 (sk b L r.2.2) 0
          have s0 := C2.2.2.2.1
          refine ⟨h4, ?_, G3.tr (r2.mono X2_Ec), fun z => by dsimp only at z; omega, fun _ => r1⟩
          refine (st _).trans ?_
          rw [if_neg d, e3, bd_some, decide_eq_false f, if_neg (fun z => z b01_f), K3.g4_0, Option.bind_some, Option.bind_some, C3.gp, Option.bind_some, ck_pos K3.k2, e4, bd_some, cb_0, decide_eq_false (by dsimp only; omega)]
          rfl
    · rw [if_pos c]
      refine ⟨h1, ?_, g1, fun z => absurd z c, fun _ => a2 c⟩
      unfold F_E_readAll_32
      rw [nmi (z := 40) (by decide) (by decide), nmi (z := i) (by omega) (by omega), if_neg (by omega), ck_pos C.1.k4, e1, bd_some, decide_eq_false c, if_neg (fun z => z b01_f), cb_0]
      rfl
end
