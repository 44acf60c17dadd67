/-! ===== the calls that are done ===== -/
section
variable {B L : Int} {b sd td : Int → Int} {x fo un : Int} {U : Int → Int → Int} {mk : Int → Bool} {I : Int → Int → Int} {If Ix : Int → Int} {rn : Int} {R : Int → (Int → Int) → Int} {h h' : AH}
theorem CC.qa (hC : CC L b sd x fo un U mk I If Ix rn R h) (hV : VV B sd x fo un U mk I If Ix rn) : QA sd R fo rn h := ⟨hC.1, hC.2.2.1.2.1.2.1, hC.2.2.2.2.2.2.1, hC.2.2.1.2.2.2.2.2.1, hV.2.1⟩
theorem CC.nr (hC : CC L b sd x fo un U mk I If Ix rn R h) : NR sd h := hC.2.2.1.2.2.2.1
theorem CC.tb (hC : CC L b sd x fo un U mk I If Ix rn R h) : TR (bg_ sd) 23 h := hC.2.2.1.2.2.1
theorem CC.hh (hC : CC L b sd x fo un U mk I If Ix rn R h) : h_V h 10 8 = if sd 0 = 1 then 1 else 0 := hC.2.2.1.2.2.2.2.2.2
theorem CC.sr (hC : CC L b sd x fo un U mk I If Ix rn R h) : SR sd 11 h := hC.2.2.1.2.1
theorem MM.mf (hM : MM L b sd x fo un U mk I If Ix rn R h) (hV : VV B sd x fo un U mk I If Ix rn) : MF (fr_ R fo) h := hM.2.2.2.1.mf hM.2.2.2.2.1 hV.2.1.1 hV.2.1.2
theorem g_station (G : GG B h) (hB : B ≤ 800000) {s w : Int} (hs : R32 s) (hw : R32 w) : OK (B + 20) (f_B_station 1 s w) (f_M_station 46 s w) h := by
  obtain ⟨L, b, sd, x, fo, un, U, mk, I, If, Ix, rn, R, hC, hM, hV⟩ := G
  have E := hM.2.1
  have W := hV.1
  have S := hC.sr
  have K := hC.1
  have T : TR sd 12 h := S.2.1
  have m := m_station hM.1 (by rw [E]; exact W.1.1) hs hw
  rw [E] at m
  exact read_g hC hM hV (c_station K S W.1.1 W.2.1 hs hw) m
theorem g_paper (G : GG B h) (hB : B ≤ 800000) {p w : Int} (hp : R32 p) (hw : R32 w) : OK (B + 20) (f_B_paper 1 p w) (f_M_paper 46 p w) h := by
  obtain ⟨L, b, sd, x, fo, un, U, mk, I, If, Ix, rn, R, hC, hM, hV⟩ := G
  have E := hM.2.1
  have W := hV.1
  have S := hC.sr
  have K := hC.1
  have T : TR sd 12 h := S.2.1
  have m := m_paper hM.1 (by rw [E]; exact W.1) (by omega) hp hw
  rw [E] at m
  exact read_g hC hM hV (c_paper K S W.1 (by omega) W.2.1 hp hw) m
theorem g_row (G : GG B h) (hB : B ≤ 800000) {s w k : Int} (hs : R32 s) (hw : R32 w) (hk : R32 k) : OK (B + 20) (f_B_row 1 s w k) (f_M_row 46 s w k) h := by
  obtain ⟨L, b, sd, x, fo, un, U, mk, I, If, Ix, rn, R, hC, hM, hV⟩ := G
  have E := hM.2.1
  have W := hV.1
  have S := hC.sr
  have K := hC.1
  have T : TR sd 12 h := S.2.1
  have m := m_row hM.1 (by rw [E]; exact W.1) (by omega) hs hw hk
  rw [E] at m
  exact read_g hC hM hV (c_row K S W.1 (by omega) W.2.1 hs hw hk) m
theorem g_runs (G : GG B h) (hB : B ≤ 800000) {s r w : Int} (hs : R32 s) (hr : R32 r) (hw : R32 w) : OK (B + 20) (f_B_runs 1 s r w) (f_M_runs 46 s r w) h := by
  obtain ⟨L, b, sd, x, fo, un, U, mk, I, If, Ix, rn, R, hC, hM, hV⟩ := G
  have E := hM.2.1
  have W := hV.1
  have S := hC.sr
  have K := hC.1
  have T : TR sd 12 h := S.2.1
  have m := m_runs hM.1 (by rw [E]; exact W.1.1) hs hr hw
  rw [E] at m
  exact read_g hC hM hV (c_runs K T W.1.1 hs hr hw) m
theorem g_moved (G : GG B h) (hB : B ≤ 800000) {s t : Int} (hs : R32 s) (ht : R32 t) : OK (B + 20) (f_B_moved 1 s t) (f_M_moved 46 s t) h := by
  obtain ⟨L, b, sd, x, fo, un, U, mk, I, If, Ix, rn, R, hC, hM, hV⟩ := G
  have E := hM.2.1
  have W := hV.1
  have S := hC.sr
  have K := hC.1
  have T : TR sd 12 h := S.2.1
  have m := m_moved hM.1 (by rw [E]; exact W.1.1) hs ht
  rw [E] at m
  exact read_g hC hM hV (c_moved K S W.1.1 hs ht) m
theorem g_told (G : GG B h) (hB : B ≤ 800000) {s w : Int} (hs : R32 s) (hw : R32 w) : OK (B + 20) (f_B_told 1 s w) (f_M_told 46 s w) h := by
  obtain ⟨L, b, sd, x, fo, un, U, mk, I, If, Ix, rn, R, hC, hM, hV⟩ := G
  have E := hM.2.1
  have W := hV.1
  have S := hC.sr
  have K := hC.1
  have T : TR sd 12 h := S.2.1
  have m := m_told hM.1 (by rw [E]; exact W.1.1) hs hw
  rw [E] at m
  exact read_g hC hM hV (c_told K S W.1.1 hs hw) m
theorem g_way (G : GG B h) (hB : B ≤ 800000) {p k : Int} (hp : R32 p) (hk : R32 k) : OK (B + 20) (f_B_way 1 p k) (f_M_way 46 p k) h := by
  obtain ⟨L, b, sd, x, fo, un, U, mk, I, If, Ix, rn, R, hC, hM, hV⟩ := G
  have E := hM.2.1
  have W := hV.1
  have S := hC.sr
  have K := hC.1
  have T : TR sd 12 h := S.2.1
  have m := m_way hM.1 (by rw [E]; exact W.1.1) (by rw [E]; exact W.2.1) hp hk
  rw [E] at m
  exact read_g hC hM hV (c_way K S W.1.1 W.2.1 hp hk) m
theorem g_balance (G : GG B h) (hB : B ≤ 800000) {s : Int} (hs : R32 s) : OK (B + 20) (f_B_balance 1 s) (f_M_balance 46 s) h := by
  obtain ⟨L, b, sd, x, fo, un, U, mk, I, If, Ix, rn, R, hC, hM, hV⟩ := G
  have E := hM.2.1
  have W := hV.1
  have S := hC.sr
  have K := hC.1
  have T : TR sd 12 h := S.2.1
  have m := m_balance hM.1 (by rw [E]; exact W.1.1) (by rw [E]; exact W.2.1) hs
  rw [E] at m
  exact read_g hC hM hV (c_balance K S W.1.1 W.2.1 hs) m
theorem g_pence (G : GG B h) (hB : B ≤ 800000) {m s : Int} (hm : R32 m) (hs : R32 s) : OK (B + 20) (f_B_pence 1 m s) (f_M_pence 46 m s) h := by
  obtain ⟨L, b, sd, x, fo, un, U, mk, I, If, Ix, rn, R, hC, hM, hV⟩ := G
  have E := hM.2.1
  have W := hV.1
  have S := hC.sr
  have K := hC.1
  have T : TR sd 12 h := S.2.1
  have m := m_pence hM.1 (by rw [E]; exact W.1.1) hm hs
  rw [E] at m
  exact read_g hC hM hV (c_pence K T W.1.1 hm hs) m
theorem g_ahead (G : GG B h) (hB : B ≤ 800000) {s n w : Int} (hs : R32 s) (hn : R32 n) (hw : R32 w) : OK (B + 20) (f_B_ahead 1 s n w) (f_M_ahead 46 s n w) h := by
  obtain ⟨L, b, sd, x, fo, un, U, mk, I, If, Ix, rn, R, hC, hM, hV⟩ := G
  have E := hM.2.1
  have W := hV.1
  have Q := hC.qa hV
  refine ask_g hC hM hV (c_ahead Q W.1 (by omega) hs hn hw) fun h1 M1 => ?_
  have E1 := M1.2.1
  have F1 := M1.mf hV
  have m := m_ahead M1.1 (by rw [E1]; exact W.1) (by omega) F1 hs hn hw
  rw [E1] at m
  exact m
theorem g_dry (G : GG B h) (hB : B ≤ 800000) {s : Int} (hs : R32 s) : OK (B + 20) (f_B_dry 1 s) (f_M_dry 46 s) h := by
  obtain ⟨L, b, sd, x, fo, un, U, mk, I, If, Ix, rn, R, hC, hM, hV⟩ := G
  have E := hM.2.1
  have W := hV.1
  have Q := hC.qa hV
  refine ask_g hC hM hV (c_dry Q W.1 (by omega) hs) fun h1 M1 => ?_
  have E1 := M1.2.1
  have F1 := M1.mf hV
  have m := m_dry M1.1 (by rw [E1]; exact W.1) (by omega) F1 hs
  rw [E1] at m
  exact m
theorem g_served (G : GG B h) (hB : B ≤ 800000)  : OK (B + 20) (f_B_served 1) (f_M_served 46) h := by
  obtain ⟨L, b, sd, x, fo, un, U, mk, I, If, Ix, rn, R, hC, hM, hV⟩ := G
  have E := hM.2.1
  have W := hV.1
  have Q := hC.qa hV
  refine ask_g hC hM hV (c_served Q W.1 (by omega) hC.hh) fun h1 M1 => ?_
  have E1 := M1.2.1
  have F1 := M1.mf hV
  have m := m_served M1.1 (by rw [E1]; exact W.1) (by omega) F1
  rw [E1] at m
  exact m
theorem g_more (G : GG B h) (hB : B ≤ 800000) {f n w : Int} (hf : R32 f) (hn : R32 n) (hw : R32 w) : OK (B + 20) (f_B_more 1 f n w) (f_M_more 46 f n w) h := by
  obtain ⟨L, b, sd, x, fo, un, U, mk, I, If, Ix, rn, R, hC, hM, hV⟩ := G
  have E := hM.2.1
  have W := hV.1
  have Q := hC.qa hV
  refine ask_g hC hM hV (c_more Q W.1 (by omega) W.2.1.2.2.2.2.1 hf hn hw) fun h1 M1 => ?_
  have E1 := M1.2.1
  have F1 := M1.mf hV
  have m := m_more M1.1 (by rw [E1]; exact W.1) (by omega) (by rw [E1]; exact W.2.1.2.2.2.2.1) F1 hf hn hw
  rw [E1] at m
  exact m
theorem g_crowds (G : GG B h) (hB : B ≤ 800000) {s w : Int} (hs : R32 s) (hw : R32 w) : OK (B + 20) (f_B_crowds 1 s w) (f_M_crowds 46 s w) h := by
  obtain ⟨L, b, sd, x, fo, un, U, mk, I, If, Ix, rn, R, hC, hM, hV⟩ := G
  have E := hM.2.1
  have W := hV.1
  have Q := hC.qa hV
  refine ask_g hC hM hV (c_crowds Q W.1 W.2.2.1 W.2.2.2.1 hC.tb hC.nr hs hw) fun h1 M1 => ?_
  have E1 := M1.2.1
  have F1 := M1.mf hV
  have m := m_crowds M1.1 (by rw [E1]; exact W.1) (by rw [E1]; exact W.2.2.1) (by rw [E1]; exact W.2.2.2.1) F1 hs hw
  rw [E1] at m
  exact m
theorem g_rests (G : GG B h) (hB : B ≤ 800000) {o t n w : Int} (ho : R32 o) (ht : R32 t) (hn : R32 n) (hw : R32 w) : OK (B + 20) (f_B_rests 1 o t n w) (f_M_rests 46 o t n w) h := by
  obtain ⟨L, b, sd, x, fo, un, U, mk, I, If, Ix, rn, R, hC, hM, hV⟩ := G
  have E := hM.2.1
  have W := hV.1
  have Q := hC.qa hV
  refine ask_g hC hM hV (c_rests Q W.1 (by omega) ho ht hn hw) fun h1 M1 => ?_
  have E1 := M1.2.1
  have F1 := M1.mf hV
  have m := m_rests M1.1 (by rw [E1]; exact W.1) (by omega) F1 ho ht hn hw
  rw [E1] at m
  exact m
theorem g_ruled (G : GG B h) (hB : B ≤ 800000) {w : Int} (hw : R32 w) : OK (B + 20) (f_B_ruled 1 w) (f_M_ruled 46 w) h := by
  obtain ⟨L, b, sd, x, fo, un, U, mk, I, If, Ix, rn, R, hC, hM, hV⟩ := G
  have E := hM.2.1
  have W := hV.1
  have Q := hC.qa hV
  refine ask_g hC hM hV (c_ruled Q W.1 W.2.2.1 W.2.2.2.1 hC.tb hC.nr hC.hh hw) fun h1 M1 => ?_
  have E1 := M1.2.1
  have F1 := M1.mf hV
  have m := m_ruled M1.1 (by rw [E1]; exact W.1.1) (by rw [E1]; exact W.2.2.1) (by rw [E1]; exact W.2.2.2.1) M1.2.2.2.1 hw
  rw [E1] at m
  exact m
theorem g_look (G : GG B h) (hB : B ≤ 800000) {n w : Int} (hn : R32 n) (hw : R32 w) : OK (B + 20) (f_B_look 1 n w) (f_M_look 46 n w) h := by
  obtain ⟨L, b, sd, x, fo, un, U, mk, I, If, Ix, rn, R, hC, hM, hV⟩ := G
  have E := hM.2.1
  have W := hV.1
  have Q := hC.qa hV
  refine ask_g hC hM hV (c_look Q W.1 W.2.2.1 W.2.2.2.1 hC.tb hC.nr hC.hh hn hw) fun h1 M1 => ?_
  have E1 := M1.2.1
  have F1 := M1.mf hV
  have m := m_look M1.1 (by rw [E1]; exact W.1.1) (by rw [E1]; exact W.2.2.1) (by rw [E1]; exact W.2.2.2.1) M1.2.2.2.1 hn hw
  rw [E1] at m
  exact m
theorem g_crowded (G : GG B h) (hB : B ≤ 800000) {m n p w : Int} (hm : R32 m) (hn : R32 n) (hp : R32 p) (hw : R32 w) : OK (B + 20) (f_B_crowded 1 m n p w) (f_M_crowded 46 m n p w) h := by
  obtain ⟨L, b, sd, x, fo, un, U, mk, I, If, Ix, rn, R, hC, hM, hV⟩ := G
  have E := hM.2.1
  have W := hV.1
  have Q := hC.qa hV
  refine ask_g hC hM hV (c_crowded Q W.1 (by omega) hC.hh hC.2.2.1.2.2.2.2.1 hm hn hp hw) fun h1 M1 => ?_
  have E1 := M1.2.1
  have F1 := M1.mf hV
  have m := m_crowded M1.1 (by rw [E1]; exact W.1) (by omega) F1 M1.2.2.2.2.2.1 hV.2.2.1.1 hV.2.2.1.2 hm hn hp hw
  rw [E1] at m
  exact m
end
