/-! all values of a field are written, model -/
section
variable {x y : St} {F : List SFd} {W : Nat → Bool} {Q : List PV} {e q : Nat → Nat} {S : Nat → List SEn} {g : Int32} {D d f : Nat}
abbrev mrR (F : List SFd) (f c : Nat) (S : Nat → List SEn) : Prop := rst (rF F f) (S c) ≠ [] ∧ hdR' (rst (rF F f) (S c)) = rF F f
theorem ElM.trans {z : St} (h : ElM x y F W g) (k : ElM y z F W g) : ElM x z F W g := fun c hc hn => (k c hc hn).trans (h c hc hn)
theorem ElM.tl (f : FrTl x y) : ElM x y F W g := fun c _ _ => by rw [f.aa (show ¬ 76 = 75 by decide)]
/-- the next value of a field that repeats -/
theorem TgM.nx (hw : WfS F) (hf : f < F.length) (hk : fKd F f = 2) (hgd : gdL F W f ≠ []) (T : TgM x F W Q e q S (nI f)) (m : mrR F f (gdc F W f) S) : TgM x F W Q e q (fun c => rst (rF F f) (S c)) (nI f) ∧ ∀ c, c < ncol F → W c = true → dsc F f (lfC F c) → rst (rgF F (fPa F f)) (S c) = rst (rgF F (fPa F f)) (rst (rF F f) (S c)) := by
  obtain ⟨t1, t2, t3, t4, t5⟩ := T
  obtain ⟨g1, g2, g3⟩ := gdc_ok hgd
  obtain ⟨j1, j2⟩ := (t3.nx hw t4 hf hk g1 g2 g3).1 m
  refine ⟨⟨t1, t2.rest _, j1, t4.rest _, fun c hc wc hi => ?_⟩, j2⟩
  obtain ⟨r1, r2, r3⟩ := (t5 c hc wc hi).nx (r := rF F f)
  obtain ⟨n1, n2, n3⟩ := j1.1 c hc wc hi
  refine r2 ?_
  rcases Nat.lt_or_ge (q c) (rst (rF F f) (S c)).length with z | z
  · exact z
  · rcases r3 (by omega) with y | y
    · exact absurd y n1
    · -- its head's level is that of the field
      exfalso
      have rp := rF_pos hw hf hk
      have t4' := t4 c hc wc
      have ne : S c ≠ [] := (t3.1 c hc wc hi).1
      have pc := t3.2
      -- levels of two columns' rests agree
      have : hdR' (rst (rF F f) (S c)) = rF F f := by
        by_cases ht : fTy F f = 4
        · have p := j1.2 f hf ht ((inG_f hf hw.1).mpr (dsc_self hw hf)) (gdc F W f) c g1 hc g2 wc g3 ((inG_f hf hw.1).mp hi)
          have h0 := (j1.1 _ g1 g2 ((inG_f hf hw.1).mpr g3))
          exact ((fl2_hd p h0.1 n1 h0.2.1 n2).1).symm.trans m.2
        · have k1 := leaf_col hw hf ht g1 g3
          have k2 := leaf_col hw hf ht hc ((inG_f hf hw.1).mp hi)
          have ec : c = gdc F W f := by rw [k1.2, k2.2]
          rw [ec]; exact m.2
      omega
theorem s_vals {post : St → Prop} {R : Int32 → Int32 → Int32 → St → Prop} {B : List Nat} {l5 : Int32} (hw : WfS F) (ho : okTO F W Q e q D d) (hf : f < F.length) (hg : fPa F f = g) (hgd : gdL F W f ≠ []) (T : TgM y F W Q e q S (nI f)) (hD : 17 ≤ upS wOne (fPa F) (nI f) + D) (hl5 : l5 = if fKd F f = 2 then 1 else 0) (hO : OutM y B) (hC : CuM y F W e S (nI f))
    (hB : (B ++ (if fKd F f = 2 then tlR (tlG vlB F W D) vlB F f (gdc F W f) (S (gdc F W f)).length S ++ [93] else tlO (tlG vlB F W D) vlB F f (gdc F W f) S)).length < 2 ^ 29)
    (p : ∀ z, FrTm y z → OutM z (B ++ (if fKd F f = 2 then tlR (tlG vlB F W D) vlB F f (gdc F W f) (S (gdc F W f)).length S ++ [93] else tlO (tlG vlB F W D) vlB F f (gdc F W f) S)) → CuM z F W e (fun c => rst (rgF F g) (S c)) (nI f) → ElM y z F W (nI f) → R g 1 (nI (f + 1)) z) :
    j_Mod_tellGroup_177 post (wr_Mod_tellGroup d).1 (wr_Mod_tellGroup d).2 R g 1 (nI f) (nI (gdc F W f)) l5 y := by
  have h128 := hw.1
  have h64 := hw.2.1
  obtain ⟨g1, g2, g3⟩ := gdc_ok hgd
  have er := rg_f hw hf
  unfold j_Mod_tellGroup_177
  by_cases hk : fKd F f = 2
  rotate_left
  · -- one value
    rw [if_neg hk] at hl5 hB p
    have w0 : wRep (fKd F) f = 0 := if_neg hk
    rw [hg] at er
    have er : rF F f = rgF F g := by omega
    refine ho _ y S f B hf T hD hgd hO hB hC (fun z z1 z2 z3 z4 => ⟨1, ?_⟩)
    show j_Mod_tellGroup_184 post (wr_Mod_tellGroup d).1 (wr_Mod_tellGroup d).2 R _ g 1 (nI f) (nI (gdc F W f)) l5 z
    unfold j_Mod_tellGroup_184 j_Mod_tellGroup_244 j_Mod_tellGroup_255
    rw [er] at z3
    refine br_t hl5 (br_t hl5 ?_)
    rw [nI_1]
    exact p z z1 z2 z3 z4
  · rw [if_pos hk] at hl5 hB p
    have ic : inG F (nI f) (lfC F (gdc F W f)) := (inG_f hf h128).mpr g3
    have rp := rF_pos hw hf hk
    have r17 := rF_le hw hf
    generalize hc : gdc F W f = c at *
    -- behind a value
    have lp : ∀ z, FrTm y z → (∃ S' P m, TgM z F W Q e q S' (nI f) ∧ OutM z P ∧ P ++ ((if mrR F f c S' then 44 :: tlR (tlG vlB F W D) vlB F f c m (fun c => rst (rF F f) (S' c)) else []) ++ [93]) = B ++ (tlR (tlG vlB F W D) vlB F f c (S c).length S ++ [93]) ∧ (rst (rF F f) (S' c)).length ≤ m ∧ CuM z F W e (fun c => rst (rF F f) (S' c)) (nI f) ∧ ElM y z F W (nI f) ∧ ∀ c, c < ncol F → W c = true → dsc F f (lfC F c) → rst (rgF F (fPa F f)) (S' c) = rst (rgF F (fPa F f)) (S c)) → ∃ n, wl_Mod_tellGroup_184 post (wr_Mod_tellGroup d).1 (wr_Mod_tellGroup d).2 R n g 1 (nI f) (nI c) l5 z := fun z z0 hz => by
      refine lp_Mod_tellGroup_184 (fun a0 a1 a2 a3 a4 z => g = a0 ∧ (1 : Int32) = a1 ∧ nI f = a2 ∧ nI c = a3 ∧ l5 = a4 ∧ FrTm y z ∧ ∃ S' P m, TgM z F W Q e q S' (nI f) ∧ OutM z P ∧ P ++ ((if mrR F f c S' then 44 :: tlR (tlG vlB F W D) vlB F f c m (fun c => rst (rF F f) (S' c)) else []) ++ [93]) = B ++ (tlR (tlG vlB F W D) vlB F f c (S c).length S ++ [93]) ∧ (rst (rF F f) (S' c)).length ≤ m ∧ CuM z F W e (fun c => rst (rF F f) (S' c)) (nI f) ∧ ElM y z F W (nI f) ∧ ∀ c, c < ncol F → W c = true → dsc F f (lfC F c) → rst (rgF F (fPa F f)) (S' c) = rst (rgF F (fPa F f)) (S c)) (fun _ _ _ _ _ z => e c - (fA z 76 c).toNatClampNeg) ?_ _ _ _ _ _ _ ⟨rfl, rfl, rfl, rfl, rfl, z0, hz⟩
      clear z0 hz
      clear z
      rintro R' a0 a1 a2 a3 a4 z ⟨rfl, rfl, rfl, rfl, rfl, z0, S', P, m, z1, z2, z3, z4, z5, z6, z7⟩ ih
      have hL := z1.1.1
      have l76 : fN z 76 = 64 := hL 76
      have l77 : fN z 77 = 64 := hL 77
      have l58 : fN z 58 = 10000 := hL 58
      have cu : fA z 76 c = nI (e c - (rst (rF F f) (S' c)).length) := z5 c g1 g2 ic
      obtain ⟨e1, e2, e3⟩ := z1.1.2.2.2.2 c g1 g2
      obtain ⟨u1, u2⟩ := (z1.2.1.rest (rF F f)) c g1 g2
      obtain ⟨q1, q2, q3⟩ := (z1.2.2.2.2 c g1 g2 ic).nx (r := rF F f)
      have ln := congrArg List.length z3
      rw [List.length_append, List.length_append, List.length_append] at ln
      have lB : (B ++ (tlR (tlG vlB F W D) vlB F f c (S c).length S ++ [93])).length < 2 ^ 29 := hB
      rw [List.length_append] at lB
      have l1 : ([93] : List Nat).length = 1 := rfl
      -- out of the loop
      have out : ¬ mrR F f c S' → j_Mod_tellGroup_244 post (wr_Mod_tellGroup d).1 (wr_Mod_tellGroup d).2 R g 1 (nI f) (nI c) l5 z := fun no => by
        rw [if_neg no, List.nil_append] at z3
        unfold j_Mod_tellGroup_244 j_Mod_tellGroup_255
        refine br_f (by rw [hl5]; decide) (s_tell (b := 93) hL z2 (by omega) (by decide) (fun z' f1 o1 => ?_))
        rw [nI_1]
        rw [z3] at o1
        refine p z' (Fg.trans z0 f1.tm) o1 (fun c' hc' wc' hi' => ?_) (z6.trans (ElM.tl f1))
        have dc' := (inG_f hf h128).mp hi'
        have := (z1.2.2.1.nx hw z1.2.2.2.1 hf hk g1 g2 g3).2 no c' hc' wc' dc'
        show fA z' 76 c' = nI (e c' - (rst (rgF F g) (S c')).length)
        rw [← hg, ← z7 c' hc' wc' dc', this, f1.aa (show ¬ 76 = 75 by decide)]
        exact z5 c' hc' wc' hi'
      unfold j_Mod_tellGroup_184
      rw [l76, l77, l58, show rA z 76 (nI c) = nI (e c - (rst (rF F f) (S' c)).length) from by rw [rA_nI (by omega)]; exact cu, show rA z 77 (nI c) = nI (e c - q c) from by rw [rA_nI (by omega)]; exact e3]
      have u1 : (rst (rF F f) (S' c)).length ≤ e c := u1
      refine br_f (by rw [hl5]; decide) ⟨vp_in_nI (by omega) (by decide), vp_in_nI (by omega) (by decide), ?_⟩
      by_cases ce : (rst (rF F f) (S' c)).length = q c
      · rw [ce]
        refine br_t (by (first | omega | (simp (disch := omega) only [Int32.le_iff_toInt_le, Int32.lt_iff_toInt_lt, z_eq, z_in, nI_toInt, z_cl, z_m1, z_sg, z_255, Int32.reduceToInt] <;> omega) | (simp only [Int32.le_iff_toInt_le, Int32.lt_iff_toInt_lt, z_eq, z_in, z_add, z_sub, z_mul, z_neg, z_nI, z_cl, z_sg, z_255, z_lit, Int32.reduceToInt] <;> omega))) (out (fun mm => ?_))
        rcases q3 ce with w | w
        · exact mm.1 w
        · have := mm.2; omega
      · have lt : q c < (rst (rF F f) (S' c)).length := by omega
        have ne : rst (rF F f) (S' c) ≠ [] := fun w => by rw [w] at lt; exact absurd lt (Nat.not_lt_zero _)
        refine br_f (by (first | omega | (simp (disch := omega) only [Int32.le_iff_toInt_le, Int32.lt_iff_toInt_lt, z_eq, z_in, nI_toInt, z_cl, z_m1, z_sg, z_255, Int32.reduceToInt] <;> omega) | (simp only [Int32.le_iff_toInt_le, Int32.lt_iff_toInt_lt, z_eq, z_in, z_add, z_sub, z_mul, z_neg, z_nI, z_cl, z_sg, z_255, z_lit, Int32.reduceToInt] <;> omega))) ⟨vp_in_nI (by omega) (by decide), vp_in_nI (by omega) (by decide), s_lev1 hL hw z1.1.2.1 hf ?_⟩
        rw [if_neg (by decide)]
        have v1 : fA z 58 (e c - (rst (rF F f) (S' c)).length) = nI (hdR' (rst (rF F f) (S' c))) := by
          have := (u2 0 (by show 0 < (rst (rF F f) (S' c)).length; omega)).1
          rw [Nat.add_zero] at this
          exact this
        have h17 : hdR' (rst (rF F f) (S' c)) ≤ 17 := by have := rst_hd ne; omega
        rw [show rA z 58 (nI (e c - (rst (rF F f) (S' c)).length)) = nI (hdR' (rst (rF F f) (S' c))) from by rw [rA_nI (by omega)]; exact v1]
        by_cases cr : hdR' (rst (rF F f) (S' c)) = rF F f
        · have mm : mrR F f c S' := ⟨ne, cr⟩
          refine bn_t (by rw [cr]) (s_tell (b := 44) hL z2 (by omega) (by decide) (fun z' f1 o1 => ?_))
          obtain ⟨N1, N2⟩ := TgM.nx hw hf hk hgd z1 (by rw [hc]; exact mm)
          rw [if_pos mm] at z3 ln
          obtain ⟨m', rfl⟩ : ∃ m', m = m' + 1 := ⟨m - 1, by omega⟩
          have un : tlR (tlG vlB F W D) vlB F f c (m' + 1) (fun c => rst (rF F f) (S' c)) = tlO (tlG vlB F W D) vlB F f c (fun c => rst (rF F f) (S' c)) ++ (if mrR F f c (fun c => rst (rF F f) (S' c)) then 44 :: tlR (tlG vlB F W D) vlB F f c m' (fun c' => rst (rF F f) (rst (rF F f) (S' c'))) else []) := rfl
          rw [un] at z3 ln
          have z3' : (P ++ [44] ++ tlO (tlG vlB F W D) vlB F f c (fun c => rst (rF F f) (S' c))) ++ ((if mrR F f c (fun c => rst (rF F f) (S' c)) then 44 :: tlR (tlG vlB F W D) vlB F f c m' (fun c' => rst (rF F f) (rst (rF F f) (S' c'))) else []) ++ [93]) = B ++ (tlR (tlG vlB F W D) vlB F f c (S c).length S ++ [93]) := by
            rw [← z3]
            simp only [List.append_assoc, List.cons_append, List.nil_append]
          have ls : (P ++ [44] ++ tlO (tlG vlB F W D) vlB F f c (fun c => rst (rF F f) (S' c))).length < 2 ^ 29 := by
            have := congrArg List.length z3'
            rw [List.length_append] at this
            have q := hB
            omega
          have ho' := ho (fun z'' => R' g 1 (nI f) (nI c) l5 z'') z' (fun c => rst (rF F f) (S' c)) f (P ++ [44]) hf (N1.fr f1.tm) hD hgd o1
          rw [hc] at ho'
          refine ho' ls (z5.tl f1) (fun z'' k1 k2 k3 k4 => ih _ _ _ _ _ _ ⟨rfl, rfl, rfl, rfl, rfl, Fg.trans (Fg.trans z0 f1.tm) k1, fun c => rst (rF F f) (S' c), _, m', (N1.fr f1.tm).fr k1, k2, z3', ?_, k3, (z6.trans (ElM.tl f1)).trans k4, fun c' hc' wc' dc' => ?_⟩ ?_)
          · have := rst_len (r := rF F f) ne
            show (rst (rF F f) (rst (rF F f) (S' c))).length ≤ m'
            omega
          · rw [← z7 c' hc' wc' dc']
            exact (N2 c' hc' wc' dc').symm
          · have k3c : fA z'' 76 c = nI (e c - (rst (rF F f) (rst (rF F f) (S' c))).length) := k3 c g1 g2 ic
            have := rst_len (r := rF F f) ne
            rw [k3c, cu, nI_clamp (by omega), nI_clamp (by omega)]
            omega
        · refine bn_f (fun w => cr (nI_inj (by omega) (by omega) w)) (out (fun mm => cr mm.2))
    have pos : 0 < (S c).length := List.length_pos_iff.mpr (T.2.2.1.1 c g1 g2 ic).1
    obtain ⟨m, hm⟩ : ∃ m, (S c).length = m + 1 := ⟨(S c).length - 1, by omega⟩
    have un : tlR (tlG vlB F W D) vlB F f c (m + 1) S = tlO (tlG vlB F W D) vlB F f c S ++ (if mrR F f c S then 44 :: tlR (tlG vlB F W D) vlB F f c m (fun c => rst (rF F f) (S c)) else []) := rfl
    have lS : (B ++ tlO (tlG vlB F W D) vlB F f c S).length < 2 ^ 29 := by
      rw [hm, un] at hB
      simp only [List.length_append] at hB ⊢
      omega
    have ho' := ho (fun z => ∃ n, wl_Mod_tellGroup_184 post (wr_Mod_tellGroup d).1 (wr_Mod_tellGroup d).2 R n g 1 (nI f) (nI c) l5 z) y S f B hf T hD hgd hO
    rw [hc] at ho'
    refine ho' lS hC (fun z z1 z2 z3 z4 => lp z z1 ⟨S, _, m, T.fr z1, z2, ?_, ?_, z3, z4, fun _ _ _ _ => rfl⟩)
    · rw [hm, un]
      simp only [List.append_assoc]
    · have := rst_len (r := rF F f) (List.length_pos_iff.mp pos)
      omega
end
