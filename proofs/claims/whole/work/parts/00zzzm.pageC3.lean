/-! a page of the class is written: all of it -/
theorem k_page {κ : Nat → Nat} {s t b sc c f ty mr md E : Nat} {Rp Df : Nat → Int32} {V : Nat → Int64} {P : List PV} {B : List Nat} (hs : SnkId s) (htb : TB t b) (hs52 : s ≠ 52) (hsb : s ≠ b) (hty : ty < 4) (hP : okP ty P) (hP1 : P.length ≤ 1000) (ho : oF P P.length ≤ 20000) (hmr : mr ≤ 17) (hmd : md ≤ 17) (hE : E ≤ 1000) (hEP : P.length ≤ E) (hκ : ∀ t, SnkId t → κ t ≤ roomOf t) :
    ∃ κ', Kle κ κ' ∧ ∀ (x : St) (post : St → Prop) kb nb, SkS x → Caps x κ → Snk x s B → PgC x t ty V P → PsC x s b sc c f ty mr md Rp Df E → Snk x b (valB ty (cod ty P) P) → fI x 52 5 = 0 → fI x 52 6 = 0 → KP κ ≤ kb + KP κ' → NP κ ≤ nb + NP κ' → (∀ y, SkS y → Caps y κ' → FPg s x y → Snk y s (B ++ pageB ty mr md Rp Df E P) → fI y 52 5 = 0 → fI y 52 6 = 0 → (∀ u, SnkId u → u ≠ s → u ≠ 52 → ∀ D, Snk x u D → Snk y u D) → (P.length ≠ 0 → fJ y 45 13 = V (mnF ty P (P.length - 1)) ∧ fJ y 45 14 = V (mxF ty P (P.length - 1))) → post y) → wp_Wrt_putPage post 45 (nI c) (nI (cod ty P)) kb nb x := by
  have hb := htb.sw.s
  have h52b : b ≠ 52 := by have := htb.sw.t; omega
  have vl := val_len (how := cod ty P) hP hP1 (fun _ => ho)
  have bl1 := body_len (Rp := Rp) (Df := Df) (E := E) hP hP1 ho hmr hmd hE
  have rb := htb.sw.room
  have r52 : roomOf 52 = 40000 := by decide
  have cl := cod_lt (ty := ty) (P := P)
  have n4 : nCod ty ≤ 4 := by unfold nCod; split; decide; split <;> decide
  have up : ∀ {κ κ1 : Nat → Nat}, Kle κ κ1 → ∀ t, SnkId t → κ1 t ≤ roomOf t := fun m t ht => (m t ht).2
  have trv : ∀ x y : St, SkS x → FK s x y → True → True := fun _ _ _ _ _ => trivial
  obtain ⟨κ1, m1, f1⟩ := (k_levels (κ := κ) (r := 62) (most := mr) (E := E) (R := Rp) (B := []) st62 hmr hE hκ).k
  obtain ⟨κ2, m2, f2⟩ := (k_levels (κ := κ1) (r := 63) (most := md) (E := E) (R := Df) (B := [] ++ lvB Rp E mr) st63 hmd hE (up m1)).k
  obtain ⟨κ3, m3, f3⟩ := k_putAllU (κ := κ2) (s := 52) (B := [] ++ lvB Rp E mr ++ lvB Df E md) (C := valB ty (cod ty P) P) id52 (by omega) (up m2)
  obtain ⟨κ4, m4, f4⟩ := (k_varint (κ := κ3) (s := s) (B := B) (v := lN E) (Pre := fun _ => True) hs trv (up m3)).k
  obtain ⟨κ5, m5, f5⟩ := (k_varint (κ := κ4) (s := s) (B := B ++ varB (uL (lN E))) (v := lN (E - P.length)) (Pre := fun _ => True) hs trv (up m4)).k
  obtain ⟨κ6, m6, f6⟩ := (k_put (κ := κ5) (s := s) (b := cod ty P) (B := B ++ varB (uL (lN E)) ++ varB (uL (lN (E - P.length)))) (w := nI (cod ty P)) (Pre := fun _ => True) hs (up m5) (by omega) rfl).k
  obtain ⟨κ7, m7, f7⟩ := k_bnd (κ := κ6) (s := s) (t := t) (ty := ty) (V := V) (P := P) (B := B ++ varB (uL (lN E)) ++ varB (uL (lN (E - P.length))) ++ [cod ty P]) hs hty (up m6)
  obtain ⟨κ8, m8, f8⟩ := (k_varint (κ := κ7) (s := s) (B := B ++ varB (uL (lN E)) ++ varB (uL (lN (E - P.length))) ++ [cod ty P] ++ bndB ty P) (v := lN (bodyB ty mr md Rp Df E P).length) (Pre := fun _ => True) hs trv (up m7)).k
  obtain ⟨κ9, m9, f9⟩ := (k_fixed (κ := κ8) (s := s) (n := 4) (B := B ++ varB (uL (lN E)) ++ varB (uL (lN (E - P.length))) ++ [cod ty P] ++ bndB ty P ++ varB (uL (lN (bodyB ty mr md Rp Df E P).length))) (v := (crcS (fun i => nI ((bodyB ty mr md Rp Df E P).getD i 0)) 0 (bodyB ty mr md Rp Df E P).length).toInt64) (Pre := fun _ => True) hs trv (up m8) (by decide)).k
  obtain ⟨κ10, m10, f10⟩ := k_putAllU (κ := κ9) (s := s) (B := B ++ varB (uL (lN E)) ++ varB (uL (lN (E - P.length))) ++ [cod ty P] ++ bndB ty P ++ varB (uL (lN (bodyB ty mr md Rp Df E P).length)) ++ ckB (bodyB ty mr md Rp Df E P)) (C := bodyB ty mr md Rp Df E P) hs (by omega) (up m9)
  have k9 := m10
  have k8 := m9.trans k9
  have k7 := m8.trans k8
  have k6 := m7.trans k7
  have k5 := m6.trans k6
  have k4 := m5.trans k5
  have k3 := m4.trans k4
  have k2 := m3.trans k3
  have k1 := m2.trans k2
  refine ⟨κ10, m1.trans k1, fun x post kb nb hK hC h hg hp hv h5 h6 hk hn p => ?_⟩
  obtain ⟨q1, q2, q3, q4, q5, q6, q7, q8, q9, q10, q11, q12, q13, q14, q15, q16, q17, q18, q19, q20⟩ := id hp
  unfold wp_Wrt_putPage
  refine ⟨sc, q3, vp_in_nI (by omega) (by omega), nm_r (e' := nI f) (by rw [rA_nI (by omega)]; exact q14) ⟨sc, q3, vp_in_nI (by omega) (by omega), nm_r (e' := nI ty) (by rw [rA_nI (by omega)]; exact q15) ?_⟩⟩
  unfold wp_Snk_forget
  rw [show stC 45 2 = 52 from by decide +kernel]
  refine nm_e (nm_e ?_)
  obtain ⟨o1, o2, o3⟩ := forget_ok id52 hK hC h5 h6
  have fo : FK 52 x (setI (setI x 52 1 0) 52 2 0) := FK.trans id52 (setI_frK (Or.inl rfl)).x (setI_frK (Or.inr rfl)).x
  -- the state behind the forgetting
  have F0 := fo.p2 hs
  have P0 := hp.p hs hK F0
  have G0 := PgC.p hs hK F0 hg
  have B0 := Snk.k id52 hb h52b hK fo hv
  have S0 := Snk.k id52 hs hs52 hK fo h
  have U0 : ∀ u, SnkId u → u ≠ s → u ≠ 52 → ∀ D, Snk x u D → Snk (setI (setI x 52 1 0) 52 2 0) u D := fun u hu _ hne D hD => Snk.k id52 hu hne hK fo hD
  generalize setI (setI x 52 1 0) 52 2 0 = y0 at *
  refine ⟨sc, P0.2.2.1, vp_in_nI (by rw [P0.2.2.2.2.2.2.2.2.2.2.2.1]; omega) (by rw [P0.2.2.2.2.2.2.2.2.2.2.2.1]; decide), ?_⟩
  rw [show rA y0 (stC sc 5) (nI f) = nI mr from by rw [rA_nI (by omega)]; exact P0.2.2.2.2.2.2.2.2.2.2.2.2.2.2.2.1]
  refine f1 κ10 k1 y0 _ kb nb o1 o2 o3 ⟨P0.2.2.2.2.2.2.2.2.2.2.2.2.2.2.2.2.2.1, P0.2.2.2.2.2.2.2.2.2.2.2.2.2.2.2.2.2.2.2⟩ hk hn (fun y1 kb1 nb1 s1 c1 t1 a1 bk1 bn1 => ?_)
  have F1 := FPg.trans hs F0 (t1.p2 hs)
  have P1 := P0.p hs o1 (t1.p2 hs)
  have G1 := PgC.p hs o1 (t1.p2 hs) G0
  have B1 := Snk.k id52 hb h52b o1 t1 B0
  have S1 := Snk.k id52 hs hs52 o1 t1 S0
  have U1 : ∀ u, SnkId u → u ≠ s → u ≠ 52 → ∀ D, Snk x u D → Snk y1 u D := fun u hu a hne D hD => Snk.k id52 hu hne o1 t1 (U0 u hu a hne D hD)
  refine ⟨sc, P1.2.2.1, vp_in_nI (by rw [P1.2.2.2.2.2.2.2.2.2.2.2.2.1]; omega) (by rw [P1.2.2.2.2.2.2.2.2.2.2.2.2.1]; decide), ?_⟩
  rw [show rA y1 (stC sc 6) (nI f) = nI md from by rw [rA_nI (by omega)]; exact P1.2.2.2.2.2.2.2.2.2.2.2.2.2.2.2.2.1]
  refine f2 κ10 k2 y1 _ kb1 nb1 s1 c1 a1 ⟨P1.2.2.2.2.2.2.2.2.2.2.2.2.2.2.2.2.2.2.1, P1.2.2.2.2.2.2.2.2.2.2.2.2.2.2.2.2.2.2.2⟩ bk1 bn1 (fun y2 kb2 nb2 s2 c2 t2 a2 bk2 bn2 => ?_)
  have F2 := FPg.trans hs F1 (t2.p2 hs)
  have P2 := P1.p hs s1 (t2.p2 hs)
  have G2 := PgC.p hs s1 (t2.p2 hs) G1
  have B2 := Snk.k id52 hb h52b s1 t2 B1
  have S2 := Snk.k id52 hs hs52 s1 t2 S1
  have U2 : ∀ u, SnkId u → u ≠ s → u ≠ 52 → ∀ D, Snk x u D → Snk y2 u D := fun u hu a hne D hD => Snk.k id52 hu hne s1 t2 (U1 u hu a hne D hD)
  obtain ⟨q, w1, w2, w3, w4, w5⟩ := B2.src s2 hb id52 h52b (by omega)
  refine ⟨b, P2.2.1, q, w1, b, P2.2.1, ?_⟩
  rw [w5]
  refine f3 κ10 k3 y2 _ kb2 nb2 q s2 c2 a2 w2 w3 w4 bk2 bn2 (fun y3 kb3 nb3 s3 c3 t3 a3 bk3 bn3 => ?_)
  have F3 := FPg.trans hs F2 (t3.p2 hs)
  have P3 := P2.p hs s2 (t3.p2 hs)
  have G3 := PgC.p hs s2 (t3.p2 hs) G2
  have S3 := Snk.k id52 hs hs52 s2 t3 S2
  have U3 : ∀ u, SnkId u → u ≠ s → u ≠ 52 → ∀ D, Snk x u D → Snk y3 u D := fun u hu a hne D hD => Snk.k id52 hu hne s2 t3 (U2 u hu a hne D hD)
  have a3 : Snk y3 52 (bodyB ty mr md Rp Df E P) := by
    rw [List.nil_append, List.append_assoc] at a3
    exact a3
  refine ⟨s, P3.1, ?_⟩
  rw [show fI y3 45 11 = nI E from P3.2.2.2.2.2.2.2.2.2.2.2.2.2.2.2.2.2.2.2, nI_l (by omega)]
  refine f4 κ10 k4 y3 _ kb3 nb3 s3 c3 S3 trivial bk3 bn3 (fun y4 kb4 nb4 s4 c4 t4 a4 bk4 bn4 => ?_)
  have F4 := FPg.trans hs F3 (t4.p1 hs)
  have P4 := P3.p hs s3 (t4.p1 hs)
  have G4 := PgC.p hs s3 (t4.p1 hs) G3
  have D4 := Snk.k hs id52 hs52.symm s3 t4 a3
  have U4 : ∀ u, SnkId u → u ≠ s → u ≠ 52 → ∀ D, Snk x u D → Snk y4 u D := fun u hu a hne D hD => Snk.k hs hu a s3 t4 (U3 u hu a hne D hD)
  refine ⟨s, P4.1, ?_⟩
  rw [show fI y4 45 11 = nI E from P4.2.2.2.2.2.2.2.2.2.2.2.2.2.2.2.2.2.2.2, G4.2.2.1, nI_sub hEP, nI_l (by omega)]
  refine f5 κ10 k5 y4 _ kb4 nb4 s4 c4 a4 trivial bk4 bn4 (fun y5 kb5 nb5 s5 c5 t5 a5 bk5 bn5 => ?_)
  have F5 := FPg.trans hs F4 (t5.p1 hs)
  have P5 := P4.p hs s4 (t5.p1 hs)
  have G5 := PgC.p hs s4 (t5.p1 hs) G4
  have D5 := Snk.k hs id52 hs52.symm s4 t5 D4
  have U5 : ∀ u, SnkId u → u ≠ s → u ≠ 52 → ∀ D, Snk x u D → Snk y5 u D := fun u hu a hne D hD => Snk.k hs hu a s4 t5 (U4 u hu a hne D hD)
  refine ⟨s, P5.1, f6 κ10 k6 y5 _ kb5 nb5 s5 c5 a5 trivial bk5 bn5 (fun y6 kb6 nb6 s6 c6 t6 a6 bk6 bn6 => ?_)⟩
  have F6 := FPg.trans hs F5 (t6.p1 hs)
  have P6 := P5.p hs s5 (t6.p1 hs)
  have G6 := PgC.p hs s5 (t6.p1 hs) G5
  have D6 := Snk.k hs id52 hs52.symm s5 t6 D5
  have U6 : ∀ u, SnkId u → u ≠ s → u ≠ 52 → ∀ D, Snk x u D → Snk y6 u D := fun u hu a hne D hD => Snk.k hs hu a s5 t6 (U5 u hu a hne D hD)
  refine f7 κ10 k7 y6 (fun k n z => j_Wrt_putPage_174 post 45 (nI c) (nI (cod ty P)) (nI f) (nI ty) k n z) kb6 nb6 s6 c6 a6 G6 P6.1 bk6 bn6 (fun y7 kb7 nb7 s7 c7 t7 e7 a7 jb bk7 bn7 => ?_)
  have F7 := FPg.trans hs F6 t7
  have P7 := P6.p hs s6 t7
  have D7 := e7 52 id52 hs52.symm _ D6
  have U7 : ∀ u, SnkId u → u ≠ s → u ≠ 52 → ∀ D, Snk x u D → Snk y7 u D := fun u hu a hne D hD => e7 u hu a _ (U6 u hu a hne D hD)
  unfold j_Wrt_putPage_174
  refine ⟨s, P7.1, ?_⟩
  rw [show fI y7 (stC 45 2) 1 = nI (bodyB ty mr md Rp Df E P).length from D7.ct (by omega), nI_l (by omega)]
  refine f8 κ10 k8 y7 _ kb7 nb7 s7 c7 a7 trivial bk7 bn7 (fun y8 kb8 nb8 s8 c8 t8 a8 bk8 bn8 => ?_)
  have F8 := FPg.trans hs F7 (t8.p1 hs)
  have P8 := P7.p hs s7 (t8.p1 hs)
  have D8 := Snk.k hs id52 hs52.symm s7 t8 D7
  have U8 : ∀ u, SnkId u → u ≠ s → u ≠ 52 → ∀ D, Snk x u D → Snk y8 u D := fun u hu a hne D hD => Snk.k hs hu a s7 t8 (U7 u hu a hne D hD)
  obtain ⟨qb, v1, ⟨v2a, v2b, v2c, v2d⟩, v3, v4, v5⟩ := D8.src s8 id52 hs hs52.symm (by omega)
  refine ⟨s, P8.1, qb, v1, ?_⟩
  rw [show fI y8 (stC 45 2) 1 = nI (bodyB ty mr md Rp Df E P).length from v5]
  refine c_checkOf (T := fun i => nI ((bodyB ty mr md Rp Df E P).getD i 0)) (a := 0) v2b (by omega) (Nat.zero_le _) (fun i _ hi => ⟨by have := v2d i hi; rw [Nat.zero_add] at this; exact this, ?_⟩) ?_
  · have := v2c _ (getD_mem hi)
    constructor <;> (first | omega | (simp (disch := omega) only [Int32.le_iff_toInt_le, Int32.lt_iff_toInt_lt, z_eq, z_in, nI_toInt, z_cl, z_m1, z_sg, z_255, Int32.reduceToInt] <;> omega) | (simp only [Int32.le_iff_toInt_le, Int32.lt_iff_toInt_lt, z_eq, z_in, z_add, z_sub, z_mul, z_neg, z_nI, z_cl, z_sg, z_255, z_lit, Int32.reduceToInt] <;> omega))
  refine f9 κ10 k9 y8 _ kb8 nb8 s8 c8 a8 trivial bk8 bn8 (fun y9 kb9 nb9 s9 c9 t9 a9 bk9 bn9 => ?_)
  have F9 := FPg.trans hs F8 (t9.p1 hs)
  have P9 := P8.p hs s8 (t9.p1 hs)
  have D9 := Snk.k hs id52 hs52.symm s8 t9 D8
  have U9 : ∀ u, SnkId u → u ≠ s → u ≠ 52 → ∀ D, Snk x u D → Snk y9 u D := fun u hu a hne D hD => Snk.k hs hu a s8 t9 (U8 u hu a hne D hD)
  obtain ⟨qc, g1, g2, g3, g4, g5⟩ := D9.src s9 id52 hs hs52.symm (by omega)
  refine ⟨s, P9.1, qc, g1, ?_⟩
  rw [show fI y9 (stC 45 2) 1 = nI (bodyB ty mr md Rp Df E P).length from g5]
  refine f10 κ10 (Kle.refl (up m10)) y9 _ kb9 nb9 qc s9 c9 a9 g2 g3 g4 bk9 bn9 (fun y10 kb10 nb10 s10 c10 t10 a10 bk10 bn10 => ?_)
  have D10 := Snk.k hs id52 hs52.symm s9 t10 D9
  refine p y10 s10 c10 (FPg.trans hs F9 (t10.p1 hs)) ?_ D10.1 D10.2.1 (fun u hu a hne D hD => Snk.k hs hu a s9 t10 (U9 u hu a hne D hD)) (fun w => ⟨(t10.2.1 45 13 id).trans ((t9.2.1 45 13 id).trans ((t8.2.1 45 13 id).trans (jb w).1)), (t10.2.1 45 14 id).trans ((t9.2.1 45 14 id).trans ((t8.2.1 45 14 id).trans (jb w).2))⟩)
  rw [uL_lN (by omega), uL_lN (by omega), uL_lN (by omega)] at a10
  unfold pageB
  rw [← List.append_assoc, ← List.append_assoc, ← List.append_assoc, ← List.append_assoc, ← List.append_assoc, ← List.append_assoc]
  exact a10
