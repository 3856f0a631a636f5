/-! ===== the whole head ===== -/
section
variable {β n : Nat} {a b hc hm : HP}
theorem bd1 {α γ : Type} {A : Option α} {x : α} {K : α → Option γ} (h : A = some x) : A.bind K = K x := by rw [h]; rfl
theorem bd2 {γ : Type} {A : Option (Int32 × HP)} {y : Int32} {h2 hm' : HP} {P : Int32 → HP → Option HP} {K : HP → Option γ} (h : A = some (y, h2)) (h' : P y h2 = some hm') : (A.bind fun q => (P q.1 q.2).bind K) = K hm' := by
  rw [h, Option.bind_some]
  show (P y h2).bind K = _
  rw [h', Option.bind_some]
theorem its_g {j : Nat} {hm : HP} (h : j < 20) : fX10_its (nI j) hm = some (hm (11, 22, 0) (9 + j)) := by
  show (if inb (9 + nI j) 1150 = true then (some (hm (11, 22, 0) (9 + nI j).toNatClampNeg)) else none) = _
  rw [show (9 : Int32) + nI j = nI (9 + j) from n_add 9 j, if_pos (inb_n (by omega) (by decide)), n_c (by omega)]
/-- the class's head, up to its last setting -/
noncomputable def hdC (hp : HP) : Option HP := (fX5_takeWord 0 hp).bind fun hp26 => (fX5_takeSettings 0 4 hp26).bind fun hp29 => (fX5_takeSemicolon hp29).bind fun hp32 => (fX5_takeWord 1 hp32).bind fun hp35 => (fX5_takeSettings 5 8 hp35).bind fun hp38 => (fX5_takeSemicolon hp38).bind fun hp41 => (fX5_takeWord 2 hp41).bind fun hp44 => fX5_takeSettings 9 11 hp44
theorem head_p (hb : Bas n a b) (h : PRx β n a b (Xk 0) hc hm) : ∃ hc' hm', hdC hc = some hc' ∧ fX10_readsHead hm = some hm' ∧ PRx β n a b (Xk 12) hc' hm' := by
  obtain ⟨N, hN⟩ := FU_s
  obtain ⟨c0, m0_, ec0, em0, q0⟩ := word_p hb (Xk_iv 0) 0 (by decide) h
  obtain ⟨x1, g1, c1, y1, j1, m1_, ec1, ed1, em1, en1, q1⟩ := set_q hb (k := 0) (by omega) q0
  obtain ⟨x2, g2, c2, y2, j2, m2_, ec2, ed2, em2, en2, q2⟩ := set_q hb (k := 1) (by omega) q1
  obtain ⟨x3, g3, c3, y3, j3, m3_, ec3, ed3, em3, en3, q3⟩ := set_q hb (k := 2) (by omega) q2
  obtain ⟨x4, g4, c4, y4, j4, m4_, ec4, ed4, em4, en4, q4⟩ := set_q hb (k := 3) (by omega) q3
  obtain ⟨x5, g5, c5, y5, j5, m5_, ec5, ed5, em5, en5, q5⟩ := set_q hb (k := 4) (by omega) q4
  obtain ⟨c6, m6_, ec6, em6, q6⟩ := semi_p hb (Xk_iv 5) q5
  obtain ⟨c7, m7_, ec7, em7, q7⟩ := word_p hb (Xk_iv 5) 1 (by decide) q6
  obtain ⟨x8, g8, c8, y8, j8, m8_, ec8, ed8, em8, en8, q8⟩ := set_q hb (k := 5) (by omega) q7
  obtain ⟨x9, g9, c9, y9, j9, m9_, ec9, ed9, em9, en9, q9⟩ := set_q hb (k := 6) (by omega) q8
  obtain ⟨x10, g10, c10, y10, j10, m10_, ec10, ed10, em10, en10, q10⟩ := set_q hb (k := 7) (by omega) q9
  obtain ⟨x11, g11, c11, y11, j11, m11_, ec11, ed11, em11, en11, q11⟩ := set_q hb (k := 8) (by omega) q10
  obtain ⟨c12, m12_, ec12, em12, q12⟩ := semi_p hb (Xk_iv 9) q11
  obtain ⟨c13, m13_, ec13, em13, q13⟩ := word_p hb (Xk_iv 9) 2 (by decide) q12
  obtain ⟨x14, g14, c14, y14, j14, m14_, ec14, ed14, em14, en14, q14⟩ := set_q hb (k := 9) (by omega) q13
  obtain ⟨x15, g15, c15, y15, j15, m15_, ec15, ed15, em15, en15, q15⟩ := set_q hb (k := 10) (by omega) q14
  obtain ⟨x16, g16, c16, y16, j16, m16_, ec16, ed16, em16, en16, q16⟩ := set_q hb (k := 11) (by omega) q15
  have s1 : fX5_takeSettings 0 4 c0 = some c5 := by
    show fX5_takeSettings_2 FU (nI 4) (nI 0) c0 = _
    rw [hN]
    refine (sets_s (k := 0) (e := 4) (m := N + 11999) (by omega) (by omega) c0).trans ?_
    refine (bd2 (P := fX7_put 0 1 (nI 0)) ec1 ed1).trans ?_
    refine (sets_s (k := 1) (e := 4) (m := N + 11998) (by omega) (by omega) c1).trans ?_
    refine (bd2 (P := fX7_put 0 1 (nI 1)) ec2 ed2).trans ?_
    refine (sets_s (k := 2) (e := 4) (m := N + 11997) (by omega) (by omega) c2).trans ?_
    refine (bd2 (P := fX7_put 0 1 (nI 2)) ec3 ed3).trans ?_
    refine (sets_s (k := 3) (e := 4) (m := N + 11996) (by omega) (by omega) c3).trans ?_
    refine (bd2 (P := fX7_put 0 1 (nI 3)) ec4 ed4).trans ?_
    refine (sets_s (k := 4) (e := 4) (m := N + 11995) (by omega) (by omega) c4).trans ?_
    refine (bd2 (P := fX7_put 0 1 (nI 4)) ec5 ed5).trans ?_
    exact sets_e (k := 5) (e := 4) (m := N + 11994) (by omega) (by omega) c5
  have s2 : fX5_takeSettings 5 8 c7 = some c11 := by
    show fX5_takeSettings_2 FU (nI 8) (nI 5) c7 = _
    rw [hN]
    refine (sets_s (k := 5) (e := 8) (m := N + 11999) (by omega) (by omega) c7).trans ?_
    refine (bd2 (P := fX7_put 0 1 (nI 5)) ec8 ed8).trans ?_
    refine (sets_s (k := 6) (e := 8) (m := N + 11998) (by omega) (by omega) c8).trans ?_
    refine (bd2 (P := fX7_put 0 1 (nI 6)) ec9 ed9).trans ?_
    refine (sets_s (k := 7) (e := 8) (m := N + 11997) (by omega) (by omega) c9).trans ?_
    refine (bd2 (P := fX7_put 0 1 (nI 7)) ec10 ed10).trans ?_
    refine (sets_s (k := 8) (e := 8) (m := N + 11996) (by omega) (by omega) c10).trans ?_
    refine (bd2 (P := fX7_put 0 1 (nI 8)) ec11 ed11).trans ?_
    exact sets_e (k := 9) (e := 8) (m := N + 11995) (by omega) (by omega) c11
  have s3 : fX5_takeSettings 9 11 c13 = some c16 := by
    show fX5_takeSettings_2 FU (nI 11) (nI 9) c13 = _
    rw [hN]
    refine (sets_s (k := 9) (e := 11) (m := N + 11999) (by omega) (by omega) c13).trans ?_
    refine (bd2 (P := fX7_put 0 1 (nI 9)) ec14 ed14).trans ?_
    refine (sets_s (k := 10) (e := 11) (m := N + 11998) (by omega) (by omega) c14).trans ?_
    refine (bd2 (P := fX7_put 0 1 (nI 10)) ec15 ed15).trans ?_
    refine (sets_s (k := 11) (e := 11) (m := N + 11997) (by omega) (by omega) c15).trans ?_
    refine (bd2 (P := fX7_put 0 1 (nI 11)) ec16 ed16).trans ?_
    exact sets_e (k := 12) (e := 11) (m := N + 11996) (by omega) (by omega) c16
  refine ⟨c16, m16_, ?_, ?_, q16⟩
  · show (fX5_takeWord 0 hc).bind _ = _
    refine (bd1 ec0).trans ?_
    refine (bd1 s1).trans ?_
    refine (bd1 ec6).trans ?_
    refine (bd1 ec7).trans ?_
    refine (bd1 s2).trans ?_
    refine (bd1 ec12).trans ?_
    refine (bd1 ec13).trans ?_
    exact s3
  · show (fX10_word 0 hm).bind _ = _
    refine (bd1 em0).trans ?_
    refine (bd2 (P := fX10_puts (nI 0)) em1 en1).trans ?_
    refine (bd2 (P := fX10_puts (nI 1)) em2 en2).trans ?_
    refine (bd1 (its_g (j := 0) (hm := m2_) (by omega))).trans ?_
    refine (bd2 (P := fX10_puts (nI 2)) em3 en3).trans ?_
    refine (bd1 (its_g (j := 2) (hm := m3_) (by omega))).trans ?_
    refine (bd1 (its_g (j := 0) (hm := m3_) (by omega))).trans ?_
    refine (bd2 (P := fX10_puts (nI 3)) em4 en4).trans ?_
    refine (bd1 (its_g (j := 3) (hm := m4_) (by omega))).trans ?_
    refine (bd1 (its_g (j := 2) (hm := m4_) (by omega))).trans ?_
    refine (bd2 (P := fX10_puts (nI 4)) em5 en5).trans ?_
    refine (bd1 em6).trans ?_
    refine (bd1 em7).trans ?_
    refine (bd2 (P := fX10_puts (nI 5)) em8 en8).trans ?_
    refine (bd2 (P := fX10_puts (nI 6)) em9 en9).trans ?_
    refine (bd2 (P := fX10_puts (nI 7)) em10 en10).trans ?_
    refine (bd2 (P := fX10_puts (nI 8)) em11 en11).trans ?_
    refine (bd1 em12).trans ?_
    refine (bd1 em13).trans ?_
    refine (bd2 (P := fX10_puts (nI 9)) em14 en14).trans ?_
    refine (bd2 (P := fX10_puts (nI 10)) em15 en15).trans ?_
    refine (bd2 (P := fX10_puts (nI 11)) em16 en16).trans ?_
    rfl
end
