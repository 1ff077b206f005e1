/-! a file's footer is read, model -/
theorem lN_m32 {v : Nat} (h : v < 2 ^ 32) : lN v &&& 4294967295 = lN v := by
  apply Int64.toBitVec_inj.mp
  rw [Int64.toBitVec_and]
  apply BitVec.eq_of_toNat_eq
  rw [BitVec.toNat_and, show (lN v).toBitVec = BitVec.ofNat 64 v from rfl, show (4294967295 : Int64).toBitVec = BitVec.ofNat 64 4294967295 from rfl, BitVec.toNat_ofNat, BitVec.toNat_ofNat, Nat.mod_eq_of_lt (show v < 2 ^ 64 by omega), show 4294967295 % 2 ^ 64 = 2 ^ 32 - 1 from rfl, Nat.and_two_pow_sub_one_eq_mod, Nat.mod_eq_of_lt h]
section
variable {x : St} {T : Nat → Nat} {n : Nat}
/-- what is known behind a footer -/
def FtM (y : St) (F : List SFd) (rows : Nat) (G : List Nat) (K : List ChT) (Q : List PV) : Prop := RepM y 1 F ∧ WfS F ∧ ¬ emG F ∧ F ≠ [] ∧ fI y 0 84 = nI rows ∧ rows ≤ 2000 ∧ fI y 0 85 = nI G.length ∧ G.length ≤ 500 ∧ (∀ g, g < G.length → fA y 53 g = nI (G.getD g 0) ∧ G.getD g 0 ≤ 2000 ∧ 0 < G.getD g 0) ∧ smN G = rows ∧ K.length = ncol F * G.length ∧ K.length ≤ 10000 ∧ (∀ w, w < K.length → KtM y F Q w (w % ncol F) (K.getD w t0)) ∧ PoM y Q ∧ Q.length ≤ 20000 ∧ oF Q Q.length ≤ 40000
theorem s_openFooter {post : St → Prop} (hF : FiM x T n) (h65 : fI x 0 65 = nI n) (h0 : fI x 0 69 = 0) (hP : PoM x [])
    (pe : ∀ e y, ftO T n = .error e → FrFt x y → Flt y e → post y)
    (pk : ∀ F rows G K Q y, ftO T n = .ok (F, rows, G, K) → FrFt x y → fI y 0 69 = 0 → FtM y F rows G K Q → 4 + bsm K + 12 ≤ n → post y) : wp_Mod_openFooter post x := by
  have hn := hF.2.1
  have hT := hF.2.2.1
  have hL := hF.1
  have n41 : fN x 41 = 40000 := hL 41
  have fI9 : ∀ {u : St} {e : Nat}, FrFt x u → FrFt x (setI u 0 69 (nI e)) := fun h => Fq.trans h (Fq.i (by decide))
  have flI : ∀ (u : St) e, 0 < e → e < 100 → Flt (setI u 0 69 (nI e)) e := fun u e a b => ⟨gI_at, a, b⟩
  unfold wp_Mod_openFooter
  refine nm_r (e' := nI n) h65 ?_
  have j30 : (n < 16 ∨ ¬ frmA T 0 ∨ ¬ frmA T (n - 4)) → j_Mod_openFooter_30 post (nI n) x := fun hb => by
    have he : ftO T n = .error 13 := by unfold ftO; rw [if_pos hb]
    have fl := flI x 13 (by decide) (by decide)
    unfold j_Mod_openFooter_30 j_Mod_openFooter_35
    exact s_fl1 h0 ⟨fun z => absurd z fl.ne, fun _ => pe 13 _ he (fI9 Fq.refl) fl⟩
  by_cases c16 : n < 16
  · exact br_t (by (first | omega | (simp (disch := omega) only [Int32.le_iff_toInt_le, Int32.lt_iff_toInt_lt, z_eq, z_in, nI_toInt, z_cl, z_m1, z_sg, z_255, Int32.reduceToInt] <;> omega) | (simp only [Int32.le_iff_toInt_le, Int32.lt_iff_toInt_lt, z_eq, z_in, z_add, z_sub, z_mul, z_neg, z_nI, z_cl, z_sg, z_255, z_lit, Int32.reduceToInt] <;> omega))) (j30 (Or.inl c16))
  refine br_f (by (first | omega | (simp (disch := omega) only [Int32.le_iff_toInt_le, Int32.lt_iff_toInt_lt, z_eq, z_in, nI_toInt, z_cl, z_m1, z_sg, z_255, Int32.reduceToInt] <;> omega) | (simp only [Int32.le_iff_toInt_le, Int32.lt_iff_toInt_lt, z_eq, z_in, z_add, z_sub, z_mul, z_neg, z_nI, z_cl, z_sg, z_255, z_lit, Int32.reduceToInt] <;> omega))) ?_
  rw [show (0 : Int32) = nI 0 from rfl]
  refine s_isFrame hF (by omega) (fun hf0 => br_f (by decide) ?_) (fun hf0 => br_t rfl (j30 (Or.inr (Or.inl hf0))))
  rw [show (4 : Int32) = nI 4 from rfl, nI_sub (by omega)]
  refine s_isFrame hF (by omega) (fun hf1 => bn_f (by decide) ?_) (fun hf1 => bn_t rfl (j30 (Or.inr (Or.inr hf1))))
  have ef0 : ftO T n = (if n - 16 < fxV T (n - 12) 4 then .error 13
    else if crcS (fun i => nI (T i)) (n - 12 - fxV T (n - 12) 4) (n - 12) ≠ (lN (fxV T (n - 8) 4)).toInt32 then .error 14
    else ftO2 T n (n - 12 - fxV T (n - 12) 4)) := by
    unfold ftO
    rw [if_neg (by rintro (z | z | z); exact c16 z; exact z hf0; exact z hf1)]
  unfold j_Mod_openFooter_35
  refine s_fl0 (br_t h0 (nm_e ?_))
  rw [show (12 : Int32) = nI 12 from rfl, show (16 : Int32) = nI 16 from rfl, nI_sub (by omega), nI_sub (by omega)]
  have fa : FrFt x (setI x 0 67 (nI (n - 12))) := Fq.i (by decide)
  have a67 : fI (setI x 0 67 (nI (n - 12))) 0 67 = nI (n - 12) := gI_at
  have a69 : fI (setI x 0 67 (nI (n - 12))) 0 69 = 0 := (gI_ne (by decide)).trans h0
  have aI : ∀ k, k ≠ 67 → fI (setI x 0 67 (nI (n - 12))) 0 k = fI x 0 k := fun k hk => gI_ne hk
  generalize setI x 0 67 (nI (n - 12)) = a at fa a67 a69 aI
  have efx : fxd T 4 n (n - 12) = .ok (fxV T (n - 12) 4, n - 12 + 4) := by unfold fxd; rw [if_neg (by omega)]
  have efx2 : fxd T 4 n (n - 12 + 4) = .ok (fxV T (n - 12 + 4) 4, n - 12 + 4 + 4) := by unfold fxd; rw [if_neg (by omega)]
  rw [show n - 8 = n - 12 + 4 by omega] at ef0
  refine s_fxd (fa.fi hF) a69 a67 (by omega) (Nat.le_refl _) (by decide) (fun e u u1 => by rw [efx] at u1; cases u1) (fun v q u u1 u2 u3 u4 => ?_)
  have fo := fxd_ok hT u1
  rw [efx] at u1
  simp only [Except.ok.injEq, Prod.mk.injEq] at u1
  obtain ⟨rfl, rfl⟩ := u1
  have sz : fxV T (n - 12) 4 < 2 ^ 32 := fo.2.2
  have fu : FrFt x u := Fq.trans fa u2.ft
  refine nm_r (e' := lN (fxV T (n - 12) 4)) (lN_m32 sz) ?_
  refine s_fxd (fu.fi hF) u4 u3 (by omega) (Nat.le_refl _) (by decide) (fun e v v1 => by rw [efx2] at v1; cases v1) (fun s q v v1 v2 v3 v4 => ?_)
  rw [efx2] at v1
  simp only [Except.ok.injEq, Prod.mk.injEq] at v1
  obtain ⟨rfl, rfl⟩ := v1
  have fv : FrFt x v := Fq.trans fu v2.ft
  refine nm_e ?_
  generalize hsum : (lN (fxV T (n - 12 + 4) 4)).toInt32 = sum at *
  generalize hsz : fxV T (n - 12) 4 = size at *
  have cmp : lg_cmp (lN size) (nI (n - 16)).toInt64 ≤ 0 ↔ size ≤ n - 16 := by rw [nI_l (by omega), lg_cmp_le, lN_le2 (by omega) (by omega)]
  rw [cmp]
  by_cases csz : n - 16 < size
  · rw [if_pos csz] at ef0
    have fl := flI v 13 (by decide) (by decide)
    refine br_f (by omega) ?_
    unfold j_Mod_openFooter_92
    exact s_fl1 v4 ⟨fun z => absurd z fl.ne, fun _ => pe 13 _ ef0 (fI9 fv) fl⟩
  rw [if_neg csz] at ef0
  refine br_t (by omega) ?_
  unfold j_Mod_openFooter_92
  refine s_fl0 (br_t v4 ?_)
  rw [show (12 : Int32) = nI 12 from rfl, nI_sub (by omega), lN_i, nI_sub (by omega)]
  refine nm_e (nm_e ?_)
  generalize hb : n - 12 - size = b at *
  have Fv := fv.fi hF
  have n41v : fN v 41 = 40000 := Fv.1 41
  refine s_check (T := fun i => nI (T i)) (by omega) (by omega) (by omega) (fun i _ hi => ⟨Fv.2.2.2 i (by omega), ?_⟩) ?_
  · have := hT i
    constructor <;> (first | omega | (simp (disch := omega) only [Int32.le_iff_toInt_le, Int32.lt_iff_toInt_lt, z_eq, z_in, nI_toInt, z_cl, z_m1, z_sg, z_255, Int32.reduceToInt] <;> omega) | (simp only [Int32.le_iff_toInt_le, Int32.lt_iff_toInt_lt, z_eq, z_in, z_add, z_sub, z_mul, z_neg, z_nI, z_cl, z_sg, z_255, z_lit, Int32.reduceToInt] <;> omega))
  -- behind the check
  have post166 : ∀ (u : St) e, Flt u e → ftO T n = .error e → FrFt x u → j_Mod_openFooter_166 post (nI n) (lN size) sum (nI b) (nI (n - 12)) u := fun u e hf he hu => by
    unfold j_Mod_openFooter_166
    exact br_f hf.ne (pe e u he hu hf)
  by_cases c14 : crcS (fun i => nI (T i)) b (n - 12) = sum
  · rw [if_neg (fun w => w c14)] at ef0
    refine br_t c14 ?_
    unfold j_Mod_openFooter_142
    refine s_fl0 (nm_e ?_)
    have fg : FrFt x (setI v 0 67 (nI b)) := Fq.trans fv (Fq.i (by decide))
    have g67 : fI (setI v 0 67 (nI b)) 0 67 = nI b := gI_at
    have g69 : fI (setI v 0 67 (nI b)) 0 69 = 0 := (gI_ne (by decide)).trans v4
    have gI : ∀ k, k ≠ 67 → k ≠ 69 → fI (setI v 0 67 (nI b)) 0 k = fI x 0 k := fun k h1 h2 => (gI_ne h1).trans ((v2.1 0 k (by omega)).trans ((u2.1 0 k (by omega)).trans (aI k h1)))
    have gP : PoM (setI v 0 67 (nI b)) [] := ⟨(gI 93 (by decide) (by decide)).trans hP.1, (gI 94 (by decide) (by decide)).trans hP.2.1, by decide, by decide, fun k hk => absurd hk (Nat.not_lt_zero _)⟩
    clear gI
    · generalize setI v 0 67 (nI b) = g at fg g67 g69 gP
      refine ⟨fun z => absurd g69 z, fun _ => ?_⟩
      refine s_openSchema (fg.fi hF) g69 g67 (by omega) (by omega) (fun e w w1 w2 w3 => ?_) (fun F q w w1 w2 w3 w4 w5 w6 w7 w8 w9 w10 => ?_)
      · exact post166 w e w3 (by rw [ef0]; unfold ftO2; rw [w1]) (Fq.trans fg (w2.q (by decide) (by decide)))
      · have fw : FrFt x w := Fq.trans fg (w2.q (by decide) (by decide))
        have ef1 : ftO T n = (match nm4 T 2000 16 (n - 12) q with
          | .error e => .error e
          | .ok (rows, q1) => match nm4 T 500 16 (n - 12) q1 with
            | .error e => .error e
            | .ok (gs, q2) => match gpsO T F (n - 12) gs [] [] q2 with
              | .error e => .error e
              | .ok ((G, K), q3) => if smN G ≠ rows then .error 16 else if q3 < n - 12 then .error 6 else if 4 + bsm K ≠ b then .error 17 else .ok (F, rows, G, K)) := by
          rw [ef0]; unfold ftO2; rw [w1]; rfl
        have wP : PoM w [] := by
          refine ⟨?_, ?_, by decide, by decide, fun k hk => absurd hk (Nat.not_lt_zero _)⟩
          · exact (w2.1 0 93 (by decide)).trans gP.1
          · exact (w2.1 0 94 (by decide)).trans gP.2.1
        have hC := w6.2.1
        -- behind a fault in a group
        have F3 : ∀ (u : St) e l7 l8 l10 s0, Flt u e → ftO T n = .error e → FrFt x u → j_Mod_openFooter_373 post (nI n) (lN size) sum (nI b) (nI (n - 12)) l7 l8 l10 s0 u := fun u e l7 l8 l10 s0 hf he hu => by
          have f2 : ∀ s, j_Mod_openFooter_413 post (nI n) (lN size) sum (nI b) (nI (n - 12)) l7 l8 l10 s u := fun s => by
            unfold j_Mod_openFooter_413
            exact s_flt hf.ne (pe e u he hu hf)
          have f1 : ∀ s, j_Mod_openFooter_393 post (nI n) (lN size) sum (nI b) (nI (n - 12)) l7 l8 l10 s u := fun s => by
            unfold j_Mod_openFooter_393
            exact s_flt hf.ne ⟨fun _ => f2 0, fun _ => f2 1⟩
          unfold j_Mod_openFooter_373
          exact s_flt hf.ne ⟨fun _ => f1 0, fun _ => f1 1⟩
        have F2 : ∀ (u : St) e l7 l8 l10, Flt u e → ftO T n = .error e → FrFt x u → j_Mod_openFooter_358 post (nI n) (lN size) sum (nI b) (nI (n - 12)) l7 l8 l10 u := fun u e l7 l8 l10 hf he hu => by
          unfold j_Mod_openFooter_358
          exact ⟨fun _ => F3 u e _ _ _ _ hf he hu, fun _ => F3 u e _ _ _ _ hf he hu⟩
        have F1 : ∀ (u : St) e l7 l8 l10, Flt u e → ftO T n = .error e → FrFt x u → ∃ m : Nat, wl_Mod_openFooter_215 post m (nI n) (lN size) sum (nI b) (nI (n - 12)) l7 l8 l10 u := fun u e l7 l8 l10 hf he hu => ⟨1, by
          unfold wl_Mod_openFooter_215 j_Mod_openFooter_215
          exact ⟨fun _ => F2 u e _ _ _ hf he hu, fun _ => ⟨fun _ => F2 u e _ _ _ hf he hu, fun z => absurd z hf.ne⟩⟩⟩
        unfold j_Mod_openFooter_166
        refine br_t w3 ?_
        rw [show (2000 : Int32) = nI 2000 from rfl, show (16 : Int32) = nI 16 from rfl, show (500 : Int32) = nI 500 from rfl]
        refine s_num4 (fw.fi hF) w3 w4 w10 (by omega) (by decide) (by decide) (by decide) (fun e c c1 c2 c3 => ?_) (fun rows q1 c c1 c2 c3 c4 => ?_)
        · have he : ftO T n = .error e := by rw [ef1, c1]
          have fc : FrFt x c := Fq.trans fw c2.ft
          have cI : ∀ {k : Nat} {v : Int32}, k ≠ 69 → Flt (setI c 0 k v) e := fun h => ⟨(gI_ne (fun z => h z.symm)).trans c3.1, c3.2⟩
          refine nm_e (s_num40 (cI (by decide)).ne (nm_e (F1 _ e _ _ _ ?_ he ?_)))
          · exact ⟨(gI_ne (by decide)).trans ((gI_ne (by decide)).trans c3.1), c3.2⟩
          · exact Fq.trans fc (Fq.trans (Fq.i (by decide)) (Fq.i (by decide)))
        · have ro := nm4_ok hT c1
          rw [c1] at ef1
          simp only at ef1
          refine nm_e ?_
          have fd : FrFt x (setI c 0 84 (nI rows)) := Fq.trans fw (Fq.trans c2.ft (Fq.i (by decide)))
          have d84 : fI (setI c 0 84 (nI rows)) 0 84 = nI rows := gI_at
          have dI : ∀ k, k ≠ 84 → fI (setI c 0 84 (nI rows)) 0 k = fI c 0 k := fun k hk => gI_ne hk
          have dA : ∀ r, fA (setI c 0 84 (nI rows)) r = fA w r := fun r => c2.2.2.2.1 r id
          have dL : ∀ r, fL (setI c 0 84 (nI rows)) r = fL w r := fun r => c2.2.2.2.2.1 r id
          generalize setI c 0 84 (nI rows) = d at fd d84 dI dA dL
          refine s_num4 (fd.fi hF) ((dI 69 (by decide)).trans c4) ((dI 67 (by decide)).trans c3) ro.2.2 (by omega) (by decide) (by decide) (by decide) (fun e h h1 h2 h3 => ?_) (fun gs q2 h h1 h2 h3 h4 => ?_)
          · have he : ftO T n = .error e := by rw [ef1, h1]
            refine nm_e (F1 _ e _ _ _ ⟨(gI_ne (by decide)).trans h3.1, h3.2⟩ he (Fq.trans fd (Fq.trans h2.ft (Fq.i (by decide)))))
          · have go := nm4_ok hT h1
            rw [h1] at ef1
            simp only at ef1
            refine nm_e ?_
            have fi : FrFt x (setI h 0 85 (nI gs)) := Fq.trans fd (Fq.trans h2.ft (Fq.i (by decide)))
            have i85 : fI (setI h 0 85 (nI gs)) 0 85 = nI gs := gI_at
            have iI : ∀ k, k ≠ 85 → fI (setI h 0 85 (nI gs)) 0 k = fI h 0 k := fun k hk => gI_ne hk
            have iA : ∀ r, fA (setI h 0 85 (nI gs)) r = fA w r := fun r => (h2.2.2.2.1 r id).trans (dA r)
            have iL : ∀ r, fL (setI h 0 85 (nI gs)) r = fL w r := fun r => (h2.2.2.2.2.1 r id).trans (dL r)
            generalize setI h 0 85 (nI gs) = i at fi i85 iI iA iL
            have i84 : fI i 0 84 = nI rows := (iI 84 (by decide)).trans ((h2.1 0 84 (by decide)).trans d84)
            have i69 : fI i 0 69 = 0 := (iI 69 (by decide)).trans h4
            have i67 : fI i 0 67 = nI q2 := (iI 67 (by decide)).trans h3
            have iR : RepM i 1 F := by
              unfold RepM
              rw [iA, iA, iA, iA, iA, iA, iA, iA, iA]
              exact w5
            have iP : PoM i [] := wP.cg ((iI 93 (by decide)).trans ((h2.1 0 93 (by decide)).trans ((dI 93 (by decide)).trans (c2.1 0 93 (by decide))))) ((iI 94 (by decide)).trans ((h2.1 0 94 (by decide)).trans ((dI 94 (by decide)).trans (c2.1 0 94 (by decide))))) (iL 54) (iA 55) (iA 56) (iA 57)
            have nC : 0 < ncol F := by
              -- the last field is no group, for a group's fields come behind it
              have hl : 0 < F.length := Nat.pos_of_ne_zero (fun z => w8 (List.length_eq_zero_iff.mp z))
              by_cases ct : fTy F (F.length - 1) = 4
              · exact absurd ⟨F.length - 1, by omega, ct, fun ⟨g', g1, g2, _⟩ => by omega⟩ w7
              · have := ncol_lt (f := F.length - 1) (by omega) ct
                omega
            have lens : ∀ (u : St), FrFt x u → fN u 53 = 500 ∧ fN u 10 = 3 := fun u hu => ⟨(hu.fi hF).1 53, (hu.fi hF).1 10⟩
            have r10 : ∀ {u : St}, RepM u 1 F → rA u 10 1 = nI (ncol F) := fun h => h.2.1
            refine lp_Mod_openFooter_215 (fun a0 a1 a2 a3 a4 a5 a6 a7 u => nI n = a0 ∧ lN size = a1 ∧ sum = a2 ∧ nI b = a3 ∧ nI (n - 12) = a4 ∧ FrFt x u ∧ fI u 0 85 = nI gs ∧ fI u 0 84 = nI rows ∧ ∃ g, nI g = a7 ∧ g ≤ gs ∧ ((∃ e, ftO T n = .error e ∧ Flt u e) ∨ (∃ G K Q p', G.length = g ∧ K.length = ncol F * g ∧ gpsO T F (n - 12) gs [] [] q2 = gpsO T F (n - 12) (gs - g) G K p' ∧ nI (smN G) = a5 ∧ lN (4 + bsm K) = a6 ∧ smN G ≤ 2000 * g ∧ bsm K ≤ 80000 * K.length ∧ b + 4 * K.length ≤ p' ∧ p' ≤ n - 12 ∧ fI u 0 69 = 0 ∧ fI u 0 67 = nI p' ∧ RepM u 1 F ∧ (∀ k, k < G.length → fA u 53 k = nI (G.getD k 0) ∧ G.getD k 0 ≤ 2000 ∧ 0 < G.getD k 0) ∧ (∀ k, k < K.length → KtM u F Q k (k % ncol F) (K.getD k t0)) ∧ PoM u Q ∧ Q.length ≤ 2 * K.length ∧ oF Q Q.length + b ≤ p'))) (fun _ _ _ _ _ _ _ a7 _ => gs - a7.toNatClampNeg) ?_ _ _ _ _ _ _ _ _ _ ⟨rfl, rfl, rfl, rfl, rfl, fi, i85, i84, 0, rfl, Nat.zero_le _, Or.inr ⟨[], [], [], q2, rfl, rfl, rfl, rfl, rfl, Nat.zero_le _, Nat.zero_le _, by show b + 0 ≤ q2; omega, go.2.2, i69, i67, iR, fun k hk => absurd hk (Nat.not_lt_zero _), fun k hk => absurd hk (Nat.not_lt_zero _), iP, Nat.zero_le _, by show 0 + b ≤ q2; omega⟩⟩
            rintro S a0 a1 a2 a3 a4 a5 a6 a7 u ⟨rfl, rfl, rfl, rfl, rfl, fu', u85, u84, g, rfl, g1, hu⟩ ih
            unfold j_Mod_openFooter_215
            rcases hu with ⟨e, e1, e2⟩ | ⟨G, K, Q, p', G1, K1, G2, rfl, rfl, G3, K3, G4, G5, G6, G7, G8, G9, G10, G11, G12, G13⟩
            · exact ⟨fun _ => F2 u e _ _ _ e2 e1 fu', fun _ => ⟨fun _ => F2 u e _ _ _ e2 e1 fu', fun z => absurd z e2.ne⟩⟩
            have hK10 : K.length ≤ 10000 := by omega
            rw [u85]
            by_cases cg : g < gs
            · refine br_f (by (first | omega | (simp (disch := omega) only [Int32.le_iff_toInt_le, Int32.lt_iff_toInt_lt, z_eq, z_in, nI_toInt, z_cl, z_m1, z_sg, z_255, Int32.reduceToInt] <;> omega) | (simp only [Int32.le_iff_toInt_le, Int32.lt_iff_toInt_lt, z_eq, z_in, z_add, z_sub, z_mul, z_neg, z_nI, z_cl, z_sg, z_255, z_lit, Int32.reduceToInt] <;> omega))) ⟨fun z => absurd G6 z, fun _ => ?_⟩
              have stp : gpsO T F (n - 12) gs [] [] q2 = (match nm4 T 2000 16 (n - 12) p' with
                | .error e => .error e
                | .ok (r, q) => if r = 0 then .error 16 else match tdsO T F (n - 12) (ncol F) 0 K q with
                  | .error e => .error e
                  | .ok (K', q1) => gpsO T F (n - 12) (gs - (g + 1)) (G ++ [r]) K' q1) := by
                rw [G2, show gs - g = (gs - (g + 1)) + 1 by omega]
                rfl
              have v53 : ∀ (z : St), FrFt x z → vp_in (nI g) (fN z 53) := fun z hz => by rw [(lens z hz).1]; exact vp_in_nI (by omega) (by omega)
              have v10 : ∀ (z : St), FrFt x z → vp_in 1 (fN z 10) := fun z hz => by rw [(lens z hz).2]; exact vp_in_nI (n := 1) (by omega) (by omega)
              -- behind a fault within a group
              have B285 : ∀ (z : St) e l7 l8 l11, Flt z e → ftO T n = .error e → FrFt x z → fI z 0 85 = nI gs → fI z 0 84 = nI rows → RepM z 1 F → ∃ m : Nat, wl_Mod_openFooter_285 post S m (nI n) (lN size) sum (nI b) (nI (n - 12)) l7 l8 (nI g) l11 z := fun z e l7 l8 l11 hf he hz z85 z84 hR => ⟨1, by
                have nx : j_Mod_openFooter_352 post S (nI n) (lN size) sum (nI b) (nI (n - 12)) l7 l8 (nI g) l11 z := by
                  unfold j_Mod_openFooter_352
                  rw [nI_1]
                  exact ih _ _ _ _ _ _ _ _ _ ⟨rfl, rfl, rfl, rfl, rfl, hz, z85, z84, g + 1, rfl, by omega, Or.inl ⟨e, he, hf⟩⟩ (by rw [nI_clamp (by omega), nI_clamp (by omega)]; omega)
                unfold wl_Mod_openFooter_285 j_Mod_openFooter_285
                exact ⟨v10 z hz, fun _ => nx, fun _ => ⟨fun _ => nx, fun w => absurd w hf.ne⟩⟩⟩
              have B265 : ∀ (z : St) e l7 l8 s0, Flt z e → ftO T n = .error e → FrFt x z → fI z 0 85 = nI gs → fI z 0 84 = nI rows → RepM z 1 F → j_Mod_openFooter_265 post S (nI n) (lN size) sum (nI b) (nI (n - 12)) l7 l8 (nI g) s0 z := fun z e l7 l8 s0 hf he hz z85 z84 hR => by
                unfold j_Mod_openFooter_265
                exact s_flt hf.ne ⟨v53 z hz, nm_e (B285 z e _ _ _ hf he hz z85 z84 hR)⟩
              rw [show (2000 : Int32) = nI 2000 from rfl, show (16 : Int32) = nI 16 from rfl]
              refine s_num4 (fu'.fi hF) G6 G7 G5 (by omega) (by decide) (by decide) (by decide) (fun e z z1 z2 z3 => ?_) (fun r q z z1 z2 z3 z4 => ?_)
              · have he : ftO T n = .error e := by rw [ef1, stp, z1]
                have fz : FrFt x z := Fq.trans fu' z2.ft
                have fz' : FrFt x (setA z 53 (nI g) 0) := Fq.trans fz (Fq.a (by decide))
                have rz : RepM (setA z 53 (nI g) 0) 1 F := by
                  have e' : ∀ r, r ≠ 53 → fA (setA z 53 (nI g) 0) r = fA u r := fun r hr => (gA_ne hr).trans (z2.2.2.2.1 r id)
                  unfold RepM
                  rw [e' 3 (by decide), e' 4 (by decide), e' 5 (by decide), e' 6 (by decide), e' 7 (by decide), e' 8 (by decide), e' 9 (by decide), e' 10 (by decide), e' 11 (by decide)]
                  exact G8
                have b' := fun s => B265 (setA z 53 (nI g) 0) e (nI (smN G)) (lN (4 + bsm K)) s z3 he fz' ((z2.1 0 85 (by decide)).trans u85) ((z2.1 0 84 (by decide)).trans u84) rz
                exact ⟨v53 z fz, nm_e ⟨v53 _ fz', fun _ => b' 0, fun _ => b' 1⟩⟩
              · have ro' := nm4_ok hT z1
                rw [z1] at stp
                simp only at stp
                have fz : FrFt x z := Fq.trans fu' z2.ft
                refine ⟨v53 z fz, nm_e ?_⟩
                have fj : FrFt x (setA z 53 (nI g) (nI r)) := Fq.trans fz (Fq.a (by decide))
                have jA : ∀ a, a ≠ 53 → fA (setA z 53 (nI g) (nI r)) a = fA u a := fun a ha => (gA_ne ha).trans (z2.2.2.2.1 a id)
                have j53 : fA (setA z 53 (nI g) (nI r)) 53 g = nI r := gA_on (by omega)
                have j53' : ∀ k, k ≠ g → fA (setA z 53 (nI g) (nI r)) 53 k = fA u 53 k := fun k hk => (gA_off (by omega) hk).trans (by rw [show fA z 53 = fA u 53 from z2.2.2.2.1 53 id])
                have jI : ∀ k, fI (setA z 53 (nI g) (nI r)) 0 k = fI z 0 k := fun _ => rfl
                have jL : ∀ a, fL (setA z 53 (nI g) (nI r)) a = fL u a := fun a => z2.2.2.2.2.1 a id
                generalize setA z 53 (nI g) (nI r) = j at fj jA j53 j53' jI jL
                have jR : RepM j 1 F := by
                  unfold RepM
                  rw [jA 3 (by decide), jA 4 (by decide), jA 5 (by decide), jA 6 (by decide), jA 7 (by decide), jA 8 (by decide), jA 9 (by decide), jA 10 (by decide), jA 11 (by decide)]
                  exact G8
                have j85 : fI j 0 85 = nI gs := (jI 85).trans ((z2.1 0 85 (by decide)).trans u85)
                have j84 : fI j 0 84 = nI rows := (jI 84).trans ((z2.1 0 84 (by decide)).trans u84)
                have j69 : fI j 0 69 = 0 := (jI 69).trans z4
                have rr53 : rA j 53 (nI g) = nI r := by rw [rA_nI (by omega)]; exact j53
                rw [rr53]
                refine ⟨v53 j fj, ?_⟩
                by_cases c0 : r = 0
                · rw [if_pos c0] at stp
                  have he : ftO T n = .error 16 := by rw [ef1, stp]
                  refine ⟨fun y => absurd (by rw [c0]; rfl) y, fun _ => ?_⟩
                  have fl := flI j 16 (by decide) (by decide)
                  unfold j_Mod_openFooter_265
                  exact s_fl1 j69 ⟨v53 _ (fI9 fj), nm_e (B285 _ 16 _ _ _ fl he (fI9 fj) ((gI_ne (by decide)).trans j85) ((gI_ne (by decide)).trans j84) (RepM.I jR))⟩
                · rw [if_neg c0] at stp
                  refine ⟨fun _ => ?_, fun y => absurd (nI_inj (b := 0) (by omega) (by decide) y) c0⟩
                  unfold j_Mod_openFooter_265
                  refine s_fl0 ⟨v53 j fj, nm_r (e' := nI (smN G + r)) (by rw [rr53, nI_add]) ?_⟩
                  refine lp_Mod_openFooter_285 (fun b0 b1 b2 b3 b4 b5 b6 b7 b8 m => nI n = b0 ∧ lN size = b1 ∧ sum = b2 ∧ nI b = b3 ∧ nI (n - 12) = b4 ∧ nI (smN G + r) = b5 ∧ nI g = b7 ∧ FrFt x m ∧ fI m 0 85 = nI gs ∧ fI m 0 84 = nI rows ∧ RepM m 1 F ∧ ∃ c, nI c = b8 ∧ c ≤ ncol F ∧ ((∃ e, ftO T n = .error e ∧ Flt m e) ∨ (∃ K' Q' p'', K'.length = ncol F * g + c ∧ tdsO T F (n - 12) (ncol F) 0 K q = tdsO T F (n - 12) (ncol F - c) c K' p'' ∧ lN (4 + bsm K') = b6 ∧ bsm K' ≤ 80000 * K'.length ∧ b + 4 * K'.length ≤ p'' ∧ p'' ≤ n - 12 ∧ fI m 0 69 = 0 ∧ fI m 0 67 = nI p'' ∧ fA m 53 = fA j 53 ∧ (∀ k, k < K'.length → KtM m F Q' k (k % ncol F) (K'.getD k t0)) ∧ PoM m Q' ∧ Q'.length ≤ 2 * K'.length ∧ oF Q' Q'.length + b ≤ p''))) (fun _ _ _ _ _ _ _ _ b8 _ => ncol F - b8.toNatClampNeg) ?_ _ _ _ _ _ _ _ _ _ _ ⟨rfl, rfl, rfl, rfl, rfl, rfl, rfl, fj, j85, j84, jR, 0, rfl, Nat.zero_le _, Or.inr ⟨K, Q, q, K1, rfl, rfl, K3, by omega, ro'.2.2, j69, (jI 67).trans z3, rfl, fun k hk => ?_, ?_, G12, by omega⟩⟩
                  · rintro S2 b0 b1 b2 b3 b4 b5 b6 b7 b8 m ⟨rfl, rfl, rfl, rfl, rfl, rfl, rfl, fm, m85, m84, mR, c, rfl, c1', hm⟩ ih2
                    have nx : ∀ l8 l11, (∃ e, ftO T n = .error e ∧ Flt m e) → j_Mod_openFooter_352 post S (nI n) (lN size) sum (nI b) (nI (n - 12)) (nI (smN G + r)) l8 (nI g) l11 m := fun l8 l11 he => by
                      unfold j_Mod_openFooter_352
                      rw [nI_1]
                      exact ih _ _ _ _ _ _ _ _ _ ⟨rfl, rfl, rfl, rfl, rfl, fm, m85, m84, g + 1, rfl, by omega, Or.inl he⟩ (by rw [nI_clamp (by omega), nI_clamp (by omega)]; omega)
                    unfold j_Mod_openFooter_285
                    rw [r10 mR]
                    refine ⟨v10 m fm, ?_⟩
                    rcases hm with ⟨e, e1, e2⟩ | ⟨K', Q', p'', k1, k2, rfl, k3, k4, k5, k6, k7, k8, k9, k10, k11, k12⟩
                    · exact ⟨fun _ => nx _ _ ⟨e, e1, e2⟩, fun _ => ⟨fun _ => nx _ _ ⟨e, e1, e2⟩, fun y => absurd y e2.ne⟩⟩
                    by_cases cc : c < ncol F
                    · have hK' : K'.length ≤ 10000 := by omega
                      refine br_f (by (first | omega | (simp (disch := omega) only [Int32.le_iff_toInt_le, Int32.lt_iff_toInt_lt, z_eq, z_in, nI_toInt, z_cl, z_m1, z_sg, z_255, Int32.reduceToInt] <;> omega) | (simp only [Int32.le_iff_toInt_le, Int32.lt_iff_toInt_lt, z_eq, z_in, z_add, z_sub, z_mul, z_neg, z_nI, z_cl, z_sg, z_255, z_lit, Int32.reduceToInt] <;> omega))) ⟨fun y => absurd k6 y, fun _ => ⟨v10 m fm, ?_⟩⟩
                      rw [nI_mul, nI_add, ← k1]
                      have st2 : tdsO T F (n - 12) (ncol F) 0 K q = (match tdR T (tyC F c) (n - 12) p'' with
                        | .error e => .error e
                        | .ok (t, q) => tdsO T F (n - 12) (ncol F - (c + 1)) (c + 1) (K' ++ [t]) q) := by
                        rw [k2, show ncol F - c = (ncol F - (c + 1)) + 1 by omega]
                        rfl
                      refine s_openTold (wh := K'.length) (c := c) (fm.fi hF) w6 mR cc k6 k7 k5 (by omega) (by omega) k10 (by omega) (by omega) (fun e y y1 y2 y3 y4 => ?_) (fun t q' Z y y1 y2 y3 y4 y5 y6 y7 y8 y9 => ?_)
                      · have he : ftO T n = .error e := by rw [ef1, stp, st2, y1]
                        have fy : FrFt x y := Fq.trans fm y2.ft
                        rw [r10 (y2.rep mR), nI_mul, nI_add, ← k1]
                        refine ⟨v10 y fy, y4, nm_e ?_⟩
                        rw [nI_1]
                        exact ih2 _ _ _ _ _ _ _ _ _ _ ⟨rfl, rfl, rfl, rfl, rfl, rfl, rfl, fy, (y2.1 0 85 (by decide)).trans m85, (y2.1 0 84 (by decide)).trans m84, y2.rep mR, c + 1, rfl, by omega, Or.inl ⟨e, he, y3⟩⟩ (by rw [nI_clamp (by omega), nI_clamp (by omega)]; omega)
                      · have fy : FrFt x y := Fq.trans fm y2.ft
                        have to := tdR_ok hT y1
                        rw [r10 (y2.rep mR), nI_mul, nI_add, ← k1]
                        have n50 : fN y 50 = 13400 := (fy.fi hF).1 50
                        have cl80 := clp_le t.1
                        have lk : (K' ++ [t]).length = K'.length + 1 := by rw [List.length_append]; rfl
                        refine ⟨v10 y fy, by rw [n50]; exact vp_in_nI (by omega) (by omega), nm_r (e' := lN (4 + bsm (K' ++ [t]))) ?_ ?_⟩
                        · rw [rA_nI (by omega), y6.1, nI_l (by omega), bsm_add, ← Nat.add_assoc]
                          exact (Int64.ofNat_add _ _).symm
                        · rw [nI_1]
                          refine ih2 _ _ _ _ _ _ _ _ _ _ ⟨rfl, rfl, rfl, rfl, rfl, rfl, rfl, fy, (y2.1 0 85 (by decide)).trans m85, (y2.1 0 84 (by decide)).trans m84, y2.rep mR, c + 1, rfl, by omega, Or.inr ⟨K' ++ [t], Q' ++ Z, q', by rw [lk]; omega, ?_, rfl, by rw [bsm_add, lk]; omega, by rw [lk]; omega, to.2.1, y3, y4, (y2.2.2.2.1 53 (by decide)).trans k8, fun k hk => ?_, y5, by rw [List.length_append, lk]; omega, by omega⟩⟩ (by rw [nI_clamp (by omega), nI_clamp (by omega)]; omega)
                          · rw [st2, y1]
                          · rw [lk] at hk
                            by_cases e : k = K'.length
                            · rw [e, getD_n, k1, Nat.mul_add_mod, Nat.mod_eq_of_lt cc, ← k1]
                              exact y6
                            · rw [getD_l (by omega)]
                              exact (k9 k (by omega)).cg (fun r' hr => y7 r' k hr e)
                    · have ec : c = ncol F := by omega
                      subst ec
                      refine br_t (by (first | omega | (simp (disch := omega) only [Int32.le_iff_toInt_le, Int32.lt_iff_toInt_lt, z_eq, z_in, nI_toInt, z_cl, z_m1, z_sg, z_255, Int32.reduceToInt] <;> omega) | (simp only [Int32.le_iff_toInt_le, Int32.lt_iff_toInt_lt, z_eq, z_in, z_add, z_sub, z_mul, z_neg, z_nI, z_cl, z_sg, z_255, z_lit, Int32.reduceToInt] <;> omega))) ?_
                      rw [Nat.sub_self] at k2
                      have k2 : tdsO T F (n - 12) (ncol F) 0 K q = .ok (K', p'') := k2
                      rw [k2] at stp
                      simp only at stp
                      unfold j_Mod_openFooter_352
                      rw [nI_1]
                      refine ih _ _ _ _ _ _ _ _ _ ⟨rfl, rfl, rfl, rfl, rfl, fm, m85, m84, g + 1, rfl, by omega, Or.inr ⟨G ++ [r], K', Q', p'', by rw [List.length_append, G1]; rfl, by rw [k1, Nat.mul_succ], stp, by rw [smN_add], rfl, by rw [smN_add]; omega, k3, k4, k5, k6, k7, mR, fun k hk => ?_, k9, k10, k11, k12⟩⟩ (by rw [nI_clamp (by omega), nI_clamp (by omega)]; omega)
                      rw [List.length_append, show [r].length = 1 from rfl] at hk
                      rw [k8]
                      by_cases e : k = G.length
                      · rw [e, getD_n, G1]
                        exact ⟨j53, ro'.1, by omega⟩
                      · rw [getD_l (by omega), j53' k (by omega)]
                        exact G9 k (by omega)
                  · have := (G10 k hk).cg (y := j) (Z := []) (fun r' hr => by rw [jA r' (by omega)])
                    rw [List.append_nil] at this
                    exact this
                  · exact G11.cg ((jI 93).trans (z2.1 0 93 (by decide))) ((jI 94).trans (z2.1 0 94 (by decide))) (jL 54) (jA 55 (by decide)) (jA 56 (by decide)) (jA 57 (by decide))
            · have eg : g = gs := by omega
              rw [eg, Nat.sub_self] at G2
              have G2 : gpsO T F (n - 12) gs [] [] q2 = .ok ((G, K), p') := G2
              rw [G2] at ef1
              simp only at ef1
              refine br_t (by (first | omega | (simp (disch := omega) only [Int32.le_iff_toInt_le, Int32.lt_iff_toInt_lt, z_eq, z_in, nI_toInt, z_cl, z_m1, z_sg, z_255, Int32.reduceToInt] <;> omega) | (simp only [Int32.le_iff_toInt_le, Int32.lt_iff_toInt_lt, z_eq, z_in, z_add, z_sub, z_mul, z_neg, z_nI, z_cl, z_sg, z_255, z_lit, Int32.reduceToInt] <;> omega))) ?_
              unfold j_Mod_openFooter_358
              rw [u84]
              by_cases c16' : smN G = rows
              · rw [if_neg (fun z => z c16')] at ef1
                refine br_t (by rw [c16']) ?_
                unfold j_Mod_openFooter_373
                refine s_fl0 ?_
                rw [G7]
                by_cases c6 : p' < n - 12
                · rw [if_pos c6] at ef1
                  refine br_f (by (first | omega | (simp (disch := omega) only [Int32.le_iff_toInt_le, Int32.lt_iff_toInt_lt, z_eq, z_in, nI_toInt, z_cl, z_m1, z_sg, z_255, Int32.reduceToInt] <;> omega) | (simp only [Int32.le_iff_toInt_le, Int32.lt_iff_toInt_lt, z_eq, z_in, z_add, z_sub, z_mul, z_neg, z_nI, z_cl, z_sg, z_255, z_lit, Int32.reduceToInt] <;> omega))) ?_
                  have fl := flI u 6 (by decide) (by decide)
                  have f2 : ∀ s, j_Mod_openFooter_413 post (nI n) (lN size) sum (nI b) (nI (n - 12)) (nI (smN G)) (lN (4 + bsm K)) (nI g) s (setI u 0 69 6) := fun s => by
                    unfold j_Mod_openFooter_413
                    exact s_flt fl.ne (pe 6 _ ef1 (fI9 fu') fl)
                  unfold j_Mod_openFooter_393
                  exact s_fl1 G6 ⟨fun _ => f2 0, fun _ => f2 1⟩
                · rw [if_neg c6] at ef1
                  refine br_t (by (first | omega | (simp (disch := omega) only [Int32.le_iff_toInt_le, Int32.lt_iff_toInt_lt, z_eq, z_in, nI_toInt, z_cl, z_m1, z_sg, z_255, Int32.reduceToInt] <;> omega) | (simp only [Int32.le_iff_toInt_le, Int32.lt_iff_toInt_lt, z_eq, z_in, z_add, z_sub, z_mul, z_neg, z_nI, z_cl, z_sg, z_255, z_lit, Int32.reduceToInt] <;> omega))) ?_
                  unfold j_Mod_openFooter_393
                  refine s_fl0 ?_
                  have ecmp : lg_cmp (lN (4 + bsm K)) (nI b).toInt64 = 0 ↔ 4 + bsm K = b := by
                    rw [nI_l (by omega), lg_cmp_eq]
                    constructor
                    · intro z
                      have := congrArg uL z
                      rw [uL_lN (by omega), uL_lN (by omega)] at this
                      exact this
                    · intro z; rw [z]
                  rw [ecmp]
                  unfold j_Mod_openFooter_413
                  by_cases c17 : 4 + bsm K = b
                  · rw [if_neg (fun z => z c17)] at ef1
                    refine br_t c17 (s_fl0 ?_)
                    exact pk F rows G K Q u ef1 fu' G6 ⟨G8, w6, w7, w8, u84, ro.1, by rw [G1, eg]; exact u85, by omega, G9, c16', by rw [K1, G1], hK10, G10, G11, by omega, by omega⟩ (by omega)
                  · rw [if_pos c17] at ef1
                    refine br_f c17 (s_fl1 G6 ?_)
                    exact pe 17 _ ef1 (fI9 fu') (flI u 17 (by decide) (by decide))
              · rw [if_pos c16'] at ef1
                have fl := flI u 16 (by decide) (by decide)
                refine br_f (fun z => c16' (nI_inj (by omega) (by omega) z)) ?_
                have f2 : ∀ s, j_Mod_openFooter_413 post (nI n) (lN size) sum (nI b) (nI (n - 12)) (nI (smN G)) (lN (4 + bsm K)) (nI g) s (setI u 0 69 16) := fun s => by
                  unfold j_Mod_openFooter_413
                  exact s_flt fl.ne (pe 16 _ ef1 (fI9 fu') fl)
                have f1 : ∀ s, j_Mod_openFooter_393 post (nI n) (lN size) sum (nI b) (nI (n - 12)) (nI (smN G)) (lN (4 + bsm K)) (nI g) s (setI u 0 69 16) := fun s => by
                  unfold j_Mod_openFooter_393
                  exact s_flt fl.ne ⟨fun _ => f2 0, fun _ => f2 1⟩
                unfold j_Mod_openFooter_373
                exact s_fl1 G6 ⟨fun _ => f1 0, fun _ => f1 1⟩
  · rw [if_pos c14] at ef0
    refine br_f c14 ?_
    have fl := flI v 14 (by decide) (by decide)
    unfold j_Mod_openFooter_142
    refine s_fl1 v4 (nm_e ?_)
    have fl2 : Flt (setI (setI v 0 69 14) 0 67 (nI b)) 14 := ⟨(gI_ne (by decide)).trans gI_at, by decide, by decide⟩
    exact ⟨fun _ => post166 _ 14 fl2 ef0 (Fq.trans (fI9 fv) (Fq.i (by decide))), fun z => absurd z fl2.ne⟩
end
