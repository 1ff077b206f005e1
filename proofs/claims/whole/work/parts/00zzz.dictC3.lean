/-! the DICTIONARY of the class: its bytes -/
def dcW (m : Nat) : Nat := if m = 0 then 0 else bl (m - 1)
def dcD (ty : Nat) (P : List PV) : List PV := (dI ty P P.length).map (pvd P)
def dcN (ty : Nat) (P : List PV) (k : Nat) : Int32 := nI (ixF (kk ty P k) ((dI ty P P.length).map (kk ty P)))
def dictB (ty : Nat) (P : List PV) : List Nat := varB (dcD ty P).length ++ (plainB ty (dcD ty P) ++ ([dcW (dcD ty P).length] ++ runB (dcN ty P) P.length (dcW (dcD ty P).length)))
theorem dcW_le {m : Nat} (h : m ≤ 1000) : dcW m ≤ 10 := by
  unfold dcW
  split
  · exact Nat.zero_le _
  · exact bl_le.mpr (by omega)
/-- what the output rests on -/
def PrD (x : St) (s ty : Nat) (W : Nat → Int64) (D : List PV) (N : Nat → Int32) (n : Nat) : Prop := PrP x s 67 ty W D ∧ RwI x 65 N n ∧ fI x 45 12 = nI n
theorem PrD.k {s ty n : Nat} {W : Nat → Int64} {D : List PV} {N : Nat → Int32} (hs : SnkId s) : ∀ x y, SkS x → FK s x y → PrD x s ty W D N n → PrD y s ty W D N n := fun x y hK f z => by
  obtain ⟨z1, z2, z3⟩ := z
  have h45 := (snk45 hs).1
  exact ⟨PrP.k hs (by decide) x y hK f z1, RwI.k st65 hs x y hK f z2, (f.1 45 12 (fun c => h45 c.1.symm)).trans z3⟩
theorem k_dictOut {κ : Nat → Nat} {s ty n : Nat} {W : Nat → Int64} {D : List PV} {N : Nat → Int32} {B : List Nat} {l3 : Int32} (hs : SnkId s) (hty : ty < 4) (hD : okP ty D) (hDl : D.length ≤ 1000) (hn : n ≤ 1000) (hκ : ∀ t, SnkId t → κ t ≤ roomOf t) :
    App κ s B (varB D.length ++ (plainB ty D ++ ([dcW D.length] ++ runB N n (dcW D.length)))) (fun x => PrD x s ty W D N n) (fun post kb nb x => j_Wrt_putDictionary_127 post 45 (nI ty) (nI D.length) l3 (nI (dcW D.length)) kb nb x) := by
  have st := PrD.k (ty := ty) (W := W) (D := D) (N := N) (n := n) hs
  have hw := dcW_le hDl
  have h4 : ∀ κ B, (∀ t, SnkId t → κ t ≤ roomOf t) → App κ s B (runB N n (dcW D.length)) (fun x => PrD x s ty W D N n) (fun post kb nb x => ∃ q18 : Nat, fR x 45 4 = some q18 ∧ (∃ k19 n20 k21 n22 : Nat, k19 + k21 = kb ∧ n20 + n22 = nb ∧ wp_Snk_putRuns (fun (x23 : St) => post x23) q18 65 (fI x 45 12) (nI (dcW D.length)) k19 n20 x)) := fun κ B hκ =>
    (((k_runs (r := 65) (n := n) (R := N) hs st65 (by omega) (by omega) hκ).one).pre (fun x _ hx => hx.2.1)).cg (fun post kb nb x _ _ hx z => ⟨s, hx.1.1, by rw [hx.2.2]; exact z⟩)
  have h3 : ∀ κ B, (∀ t, SnkId t → κ t ≤ roomOf t) → App κ s B ([dcW D.length] ++ runB N n (dcW D.length)) (fun x => PrD x s ty W D N n) (fun post kb nb x => ∃ q12 : Nat, fR x 45 4 = some q12 ∧ (∃ k13 n14 k15 n16 : Nat, k13 + k15 = kb ∧ n14 + n16 = nb ∧ wp_Snk_put (fun (x17 : St) => ∃ q18 : Nat, fR x17 45 4 = some q18 ∧ (∃ k19 n20 k21 n22 : Nat, k19 + k21 = k15 ∧ n20 + n22 = n16 ∧ wp_Snk_putRuns (fun (x23 : St) => post x23) q18 65 (fI x17 45 12) (nI (dcW D.length)) k19 n20 x17)) q12 (nI (dcW D.length)) k13 n14 x)) := fun κ B hκ =>
    (App.seq hs st (k_put (b := dcW D.length) (w := nI (dcW D.length)) hs hκ (by omega) rfl) (fun κ1 h1 => h4 κ1 _ h1)).cg (fun post kb nb x _ _ hx z => ⟨s, hx.1.1, z⟩)
  have h2 : ∀ κ B, (∀ t, SnkId t → κ t ≤ roomOf t) → App κ s B (plainB ty D ++ ([dcW D.length] ++ runB N n (dcW D.length))) (fun x => PrD x s ty W D N n) (fun post kb nb x => ∃ k1 n1 k2 n2 : Nat, k1 + k2 = kb ∧ n1 + n2 = nb ∧ wp_Wrt_putPlain (fun (y : St) => ∃ q12 : Nat, fR y 45 4 = some q12 ∧ (∃ k13 n14 k15 n16 : Nat, k13 + k15 = k2 ∧ n14 + n16 = n2 ∧ wp_Snk_put (fun (x17 : St) => ∃ q18 : Nat, fR x17 45 4 = some q18 ∧ (∃ k19 n20 k21 n22 : Nat, k19 + k21 = k15 ∧ n20 + n22 = n16 ∧ wp_Snk_putRuns (fun (x23 : St) => post x23) q18 65 (fI x17 45 12) (nI (dcW D.length)) k19 n20 x17)) q12 (nI (dcW D.length)) k13 n14 y)) 45 (nI ty) 67 (nI D.length) k1 n1 x) := fun κ B hκ =>
    App.seq hs st ((k_plain (rr := 67) (V := W) hs (by decide) hty hD hκ).pre (fun x _ hx => hx.1)) (fun κ1 h1 => h3 κ1 _ h1)
  have h1 := App.seq hs st (k_varint (κ := κ) (B := B) (v := (nI D.length).toInt64) hs st hκ) (fun κ1 h1 => h2 κ1 _ h1)
  rw [nI_l (by omega), uL_lN (by omega)] at h1
  refine h1.cg (fun post kb nb x _ _ hx z => ?_)
  unfold j_Wrt_putDictionary_127
  refine ⟨s, hx.1.1, ?_⟩
  rw [nI_l (by omega)]
  exact z
theorem k_dict {κ : Nat → Nat} {s ty : Nat} {V : Nat → Int64} {P : List PV} {B : List Nat} (hs : SnkId s) (hty : ty < 4) (hP : okP ty P) (hP1 : P.length ≤ 1000) (hκ : ∀ t, SnkId t → κ t ≤ roomOf t) :
    AppC κ s B (dictB ty P) (fun x => PgC x s ty V P ∧ ∀ i, i < 2048 → fA x 68 i = 0) (fun post kb nb x => wp_Wrt_putDictionary post 45 (nI ty) kb nb x) := by
  have hDl : (dcD ty P).length = (dI ty P P.length).length := List.length_map _
  have hl := dI_len (ty := ty) (P := P) P.length
  have hD0 : ∀ d, d < (dI ty P P.length).length → (dI ty P P.length).getD d 0 < P.length := by
    have : ∀ k d, d < (dI ty P k).length → (dI ty P k).getD d 0 < k := by
      intro k
      induction k with
      | zero => intro d h; exact absurd h (Nat.not_lt_zero _)
      | succ k ih =>
        intro d h
        by_cases c : kk ty P k ∈ (dI ty P k).map (kk ty P)
        · have e : dI ty P (k + 1) = dI ty P k := if_pos c
          rw [e] at h ⊢
          have := ih d h
          omega
        · have e : dI ty P (k + 1) = dI ty P k ++ [k] := if_neg c
          rw [e] at h ⊢
          have hl : (dI ty P k ++ [k]).length = (dI ty P k).length + 1 := by rw [List.length_append]; rfl
          by_cases c2 : d < (dI ty P k).length
          · rw [gd_app1 c2]
            have := ih d c2
            omega
          · rw [show d = (dI ty P k).length by omega, gd_app2]
            omega
    exact this _
  have hDg : ∀ d, d < (dcD ty P).length → (dcD ty P).getD d (0, []) = pvd P ((dI ty P P.length).getD d 0) := fun d hd => gm (by omega)
  have hD : okP ty (dcD ty P) := ⟨by omega, fun d hd => by rw [hDg d hd]; exact hP.2 _ (hD0 d (by omega))⟩
  obtain ⟨κ1, m1, f1⟩ := k_dictOut (κ := κ) (W := fun d => V ((dI ty P P.length).getD d 0)) (N := dcN ty P) (n := P.length) (D := dcD ty P) (B := B) (l3 := nI (dcD ty P).length) hs hty hD (by omega) hP1 hκ
  refine ⟨κ1, m1, fun x post kb nb hK hC h hp hk hn p => ?_⟩
  show wp_Wrt_putDictionary post 45 (nI ty) kb nb x
  unfold wp_Wrt_putDictionary
  refine lp_Wrt_putDictionary_4 (fun a0 a1 a2 a3 a4 a5 y => 45 = a0 ∧ nI ty = a1 ∧ kb = a4 ∧ nb = a5 ∧ ∃ k, nI k = a3 ∧ nI (dI ty P k).length = a2 ∧ k ≤ P.length ∧ SkS y ∧ Caps y κ ∧ FD s x y ∧ Snk y s B ∧ HT y ty V P (dI ty P k) ∧ (∀ i, i < k → fA y 65 i = nI (ixF (kk ty P i) ((dI ty P k).map (kk ty P))) ∧ kk ty P i ∈ (dI ty P k).map (kk ty P)) ∧ (∀ i, 2048 ≤ i → fA y 68 i = fA x 68 i)) (fun _ _ _ a3 _ _ _ => P.length - a3.toNatClampNeg) ?_ _ _ _ _ _ _ _ ⟨rfl, rfl, rfl, rfl, 0, rfl, rfl, by omega, hK, hC, FX.refl x, h, ⟨fun d hd => absurd hd (Nat.not_lt_zero _), fun d hd => absurd hd (Nat.not_lt_zero _), fun u hu => Or.inl (hp.2 u hu), fun d e hd => absurd hd (Nat.not_lt_zero _), Nat.zero_le _⟩, fun i hi => absurd hi (Nat.not_lt_zero _), fun _ _ => rfl⟩
  rintro Q a0 a1 a2 a3 a4 a5 y ⟨rfl, rfl, rfl, rfl, k, rfl, rfl, k1, y1, y2, y3, y4, y5, y6, y7⟩ ih
  have hg := PgC.d hs hK y3 hp.1
  obtain ⟨g1, g2, g3, -⟩ := id hg
  have e64 : fN y (stC 45 10) = 1000 := (g1 64 (by decide)).trans (by decide +kernel)
  have e65 : fN y (stC 45 15) = 1000 := (g1 65 (by decide)).trans (by decide +kernel)
  have e67 : fN y (stC 45 17) = 1000 := (g1 67 (by decide)).trans (by decide +kernel)
  have e68 : fN y (stC 45 18) = 2048 := (g1 68 (by decide)).trans (by decide +kernel)
  have e69 : fN y (stC 45 19) = 1000 := (g1 69 (by decide)).trans (by decide +kernel)
  have hlk := dI_len (ty := ty) (P := P) k
  unfold j_Wrt_putDictionary_4
  rw [g3]
  by_cases c : k < P.length
  · refine br_f (by (first | omega | (simp (disch := omega) only [Int32.le_iff_toInt_le, Int32.lt_iff_toInt_lt, z_eq, z_in, nI_toInt, z_cl, z_m1, z_sg, z_255, Int32.reduceToInt] <;> omega) | (simp only [Int32.le_iff_toInt_le, Int32.lt_iff_toInt_lt, z_eq, z_in, z_add, z_sub, z_mul, z_neg, z_nI, z_cl, z_sg, z_255, z_lit, Int32.reduceToInt] <;> omega))) ⟨vp_in_nI (by omega) (by omega), ?_⟩
    have ev : rL y (stC 45 10) (nI k) = V k := by rw [rL_nI (by omega)]; exact g2.2.2.1.2.2 k c
    rw [ev]
    refine c_slotOf hty hP hg y5 c (g2.2.2.2 k c) (fun d u d1 u1 d2 d3 => ?_) (fun u j u1 u2 u3 u4 u5 => ?_)
    · -- it is there
      have hm : kk ty P k ∈ (dI ty P k).map (kk ty P) := mem_gd.mpr ⟨d, d1, d2⟩
      have eG : dI ty P (k + 1) = dI ty P k := if_pos hm
      have er : rA y (stC 45 18) (nI u) = nI (d + 1) := by rw [rA_nI (by omega)]; exact d3
      refine ⟨vp_in_nI (by omega) (by omega), ?_⟩
      rw [er]
      refine bn_f (nz (by omega)) ?_
      unfold j_Wrt_putDictionary_66
      refine ⟨vp_in_nI (by omega) (by omega), vp_in_nI (by omega) (by omega), ?_⟩
      rw [er, show nI (d + 1) - 1 = nI d from by rw [show (1 : Int32) = nI 1 from rfl, nI_sub (by omega)]; rfl, nI_1]
      obtain ⟨o1, o2, o3⟩ := setA_all (r := 65) (i := nI k) (v := nI d) hs (not_sk (by decide) (by decide)) y1 y2 y4
      refine nm_e (ih _ _ _ _ _ _ _ ⟨rfl, rfl, rfl, rfl, k + 1, rfl, by rw [eG], by omega, o1, o2, FD.trans hs y3 (FD.a (Or.inl rfl)), o3, ?_, fun i hi => ?_, fun i hi => ?_⟩ (by rw [nI_clamp (by omega), nI_clamp (by omega)]; omega))
      · rw [eG]
        exact y5.cg rfl (gA_ne (by decide)) (gA_ne (by decide))
      · rw [eG]
        show fA (setA y 65 (nI k) (nI d)) 65 i = _ ∧ _
        rw [gA_at, nI_clamp (by omega)]
        by_cases z : i = k
        · subst z
          rw [upd_at]
          refine ⟨?_, hm⟩
          rw [ixF_is (d := d) (by rw [List.length_map]; exact d1) (by rw [gm d1]; exact d2) (fun e he => by
            rw [gm (by omega)]
            exact fun w => absurd (y5.2.2.2.1 e d (by omega) d1 (w.trans d2.symm)) (by omega))]
        · rw [upd_ne z]
          exact y6 i (by omega)
      · show fA (setA y 65 (nI k) (nI d)) 68 i = _
        rw [gA_ne (by decide)]
        exact y7 i hi
    · -- it is new
      have hm : ¬ kk ty P k ∈ (dI ty P k).map (kk ty P) := fun z => by
        obtain ⟨d, d1, d2⟩ := mem_gd.mp z
        exact u2 d d1 d2
      have eG : dI ty P (k + 1) = dI ty P k ++ [k] := if_neg hm
      have er : rA y (stC 45 18) (nI u) = 0 := by rw [rA_nI (by omega)]; exact u3
      refine ⟨vp_in_nI (by omega) (by omega), ?_⟩
      rw [er]
      refine bn_t rfl ⟨vp_in_nI (by omega) (by omega), vp_in_nI (by omega) (by omega), ?_⟩
      rw [ev]
      refine nm_e ⟨vp_in_nI (by show _ < fN y (stC 45 19); omega) (by show fN y (stC 45 19) < _; omega), nm_e ⟨vp_in_nI (by show _ < fN y (stC 45 18); omega) (by show fN y (stC 45 18) < _; omega), nm_e ?_⟩⟩
      rw [nI_1]
      unfold j_Wrt_putDictionary_66
      refine ⟨vp_in_nI (by show _ < fN y (stC 45 18); omega) (by show fN y (stC 45 18) < _; omega), vp_in_nI (by show _ < fN y (stC 45 15); omega) (by show fN y (stC 45 15) < _; omega), ?_⟩
      have er2 : rA (setA (setA (setL y (stC 45 17) (nI (dI ty P k).length) (V k)) (stC 45 19) (nI (dI ty P k).length) (nI u)) (stC 45 18) (nI u) (nI ((dI ty P k).length + 1))) (stC 45 18) (nI u) = nI ((dI ty P k).length + 1) := by
        rw [rA_nI (by omega), gA_at, nI_clamp (by omega), upd_at]
      rw [er2, show nI ((dI ty P k).length + 1) - 1 = nI (dI ty P k).length from by rw [show (1 : Int32) = nI 1 from rfl, nI_sub (by omega)]; rfl, nI_1]
      obtain ⟨o1, o2, o3⟩ := setA_all (r := 69) (i := nI (dI ty P k).length) (v := nI u) (x := setL y 67 (nI (dI ty P k).length) (V k)) hs (not_sk (by decide) (by decide)) y1 y2 y4
      obtain ⟨o4, o5, o6⟩ := setA_all (r := 68) (i := nI u) (v := nI ((dI ty P k).length + 1)) hs (not_sk (by decide) (by decide)) o1 o2 o3
      obtain ⟨o7, o8, o9⟩ := setA_all (r := 65) (i := nI k) (v := nI (dI ty P k).length) hs (not_sk (by decide) (by decide)) o4 o5 o6
      have hlen : (dI ty P k ++ [k]).length = (dI ty P k).length + 1 := by rw [List.length_append]; rfl
      refine nm_e (ih _ _ _ _ _ _ _ ⟨rfl, rfl, rfl, rfl, k + 1, rfl, by rw [eG, hlen], by omega, o7, o8, FD.trans hs y3 (FD.trans hs (FD.l (Or.inr rfl)) (FD.trans hs (FD.a (Or.inr (Or.inr rfl))) (FD.trans hs (FD.a (Or.inr (Or.inl rfl))) (FD.a (Or.inl rfl))))), o9, ?_, fun i hi => ?_, fun i hi => ?_⟩ (by rw [nI_clamp (by omega), nI_clamp (by omega)]; omega))
      · rw [eG]
        refine y5.add c (by omega) u1 u2 u3 u4 u5 (fun i => ?_) (fun i => ?_) (fun i => ?_)
        · show fL (setL y 67 (nI (dI ty P k).length) (V k)) 67 i = _
          rw [gL_at, nI_clamp (by omega)]
          by_cases z : i = (dI ty P k).length
          · rw [z, updL_at, if_pos rfl]
          · rw [updL_ne z, if_neg z]
        · show fA (setA (setA (setA (setL y 67 (nI (dI ty P k).length) (V k)) 69 (nI (dI ty P k).length) (nI u)) 68 (nI u) (nI ((dI ty P k).length + 1))) 65 (nI k) (nI (dI ty P k).length)) 69 i = _
          rw [gA_ne (by decide), gA_ne (by decide), gA_at, nI_clamp (by omega)]
          by_cases z : i = (dI ty P k).length
          · rw [z, upd_at, if_pos rfl]
          · rw [upd_ne z, if_neg z]; rfl
        · show fA (setA (setA (setA (setL y 67 (nI (dI ty P k).length) (V k)) 69 (nI (dI ty P k).length) (nI u)) 68 (nI u) (nI ((dI ty P k).length + 1))) 65 (nI k) (nI (dI ty P k).length)) 68 i = _
          rw [gA_ne (by decide), gA_at, nI_clamp (by omega)]
          by_cases z : i = u
          · rw [z, upd_at, if_pos rfl]
          · rw [upd_ne z, if_neg z, gA_ne (by decide)]; rfl
      · rw [eG, List.map_append]
        show fA (setA (setA (setA (setL y 67 (nI (dI ty P k).length) (V k)) 69 (nI (dI ty P k).length) (nI u)) 68 (nI u) (nI ((dI ty P k).length + 1))) 65 (nI k) (nI (dI ty P k).length)) 65 i = _ ∧ _
        rw [gA_at, nI_clamp (by omega)]
        by_cases z : i = k
        · subst z
          rw [upd_at]
          refine ⟨?_, List.mem_append_right _ (List.mem_singleton.mpr rfl)⟩
          show nI _ = nI (ixF (kk ty P i) ((dI ty P i).map (kk ty P) ++ [kk ty P i]))
          rw [ixF_new hm, List.length_map]
        · have y8 := y6 i (by omega)
          rw [upd_ne z]
          refine ⟨?_, List.mem_append_left _ y8.2⟩
          show fA (setA (setA (setL y 67 (nI (dI ty P k).length) (V k)) 69 (nI (dI ty P k).length) (nI u)) 68 (nI u) (nI ((dI ty P k).length + 1))) 65 i = nI (ixF (kk ty P i) ((dI ty P k).map (kk ty P) ++ [kk ty P k]))
          rw [ixF_app y8.2, ← y8.1, gA_ne (by decide), gA_ne (by decide)]
          rfl
      · show fA (setA (setA (setA (setL y 67 (nI (dI ty P k).length) (V k)) 69 (nI (dI ty P k).length) (nI u)) 68 (nI u) (nI ((dI ty P k).length + 1))) 65 (nI k) (nI (dI ty P k).length)) 68 i = _
        rw [gA_ne (by decide), gA_at, nI_clamp (by omega), upd_ne (by omega), gA_ne (by decide)]
        exact y7 i hi
  · have ek : k = P.length := by omega
    subst ek
    refine br_t (by (first | omega | (simp (disch := omega) only [Int32.le_iff_toInt_le, Int32.lt_iff_toInt_lt, z_eq, z_in, nI_toInt, z_cl, z_m1, z_sg, z_255, Int32.reduceToInt] <;> omega) | (simp only [Int32.le_iff_toInt_le, Int32.lt_iff_toInt_lt, z_eq, z_in, z_add, z_sub, z_mul, z_neg, z_nI, z_cl, z_sg, z_255, z_lit, Int32.reduceToInt] <;> omega))) ?_
    refine lp_Wrt_putDictionary_89 (fun a0 a1 a2 a3 a4 a5 z => 45 = a0 ∧ nI ty = a1 ∧ nI (dI ty P P.length).length = a2 ∧ kb = a4 ∧ nb = a5 ∧ ∃ j, nI j = a3 ∧ j ≤ (dI ty P P.length).length ∧ SkS z ∧ Caps z κ ∧ FD s x z ∧ Snk z s B ∧ fL z 67 = fL y 67 ∧ fA z 65 = fA y 65 ∧ fA z 69 = fA y 69 ∧ (∀ u, u < 2048 → fA z 68 u = 0 ∨ ∃ d, j ≤ d ∧ d < (dI ty P P.length).length ∧ fA y 69 d = nI u) ∧ (∀ i, 2048 ≤ i → fA z 68 i = fA x 68 i)) (fun _ _ _ a3 _ _ _ => (dI ty P P.length).length - a3.toNatClampNeg) ?_ _ _ _ _ _ _ _ ⟨rfl, rfl, rfl, rfl, rfl, 0, rfl, by omega, y1, y2, y3, y4, rfl, rfl, rfl, fun u hu => ?_, y7⟩
    · rintro Q' a0 a1 a2 a3 a4 a5 z ⟨rfl, rfl, rfl, rfl, rfl, j, rfl, j1, z1, z2, z3, z4, z5, z6, z7, z8, z9⟩ ih'
      have hg' := PgC.d hs hK z3 hp.1
      obtain ⟨t1, t2, t3, -⟩ := id hg'
      have t68 : fN z (stC 45 18) = 2048 := (t1 68 (by decide)).trans (by decide +kernel)
      have t69 : fN z (stC 45 19) = 1000 := (t1 69 (by decide)).trans (by decide +kernel)
      unfold j_Wrt_putDictionary_89
      by_cases cj : j < (dI ty P P.length).length
      · obtain ⟨u, q1, q2, -⟩ := y5.2.1 j cj
        have er : rA z (stC 45 19) (nI j) = nI u := by
          rw [rA_nI (by omega)]
          show fA z 69 j = _
          rw [z7]; exact q2
        refine br_f (by (first | omega | (simp (disch := omega) only [Int32.le_iff_toInt_le, Int32.lt_iff_toInt_lt, z_eq, z_in, nI_toInt, z_cl, z_m1, z_sg, z_255, Int32.reduceToInt] <;> omega) | (simp only [Int32.le_iff_toInt_le, Int32.lt_iff_toInt_lt, z_eq, z_in, z_add, z_sub, z_mul, z_neg, z_nI, z_cl, z_sg, z_255, z_lit, Int32.reduceToInt] <;> omega))) ⟨vp_in_nI (by omega) (by omega), ?_⟩
        rw [er, nI_1]
        obtain ⟨o1, o2, o3⟩ := setA_all (r := 68) (i := nI u) (v := 0) hs (not_sk (by decide) (by decide)) z1 z2 z4
        refine ⟨vp_in_nI (by omega) (by omega), nm_e (ih' _ _ _ _ _ _ _ ⟨rfl, rfl, rfl, rfl, rfl, j + 1, rfl, by omega, o1, o2, FD.trans hs z3 (FD.a (Or.inr (Or.inl rfl))), o3, z5, ?_, ?_, fun w hw => ?_, fun i hi => ?_⟩ (by rw [nI_clamp (by omega), nI_clamp (by omega)]; omega))⟩
        · exact (gA_ne (by decide)).trans z6
        · exact (gA_ne (by decide)).trans z7
        · show fA (setA z 68 (nI u) 0) 68 w = 0 ∨ _
          rw [gA_at, nI_clamp (by omega)]
          by_cases cw : w = u
          · exact Or.inl (by rw [cw, upd_at])
          · rw [upd_ne cw]
            rcases z8 w hw with v | ⟨d, v1, v2, v3⟩
            · exact Or.inl v
            · refine Or.inr ⟨d, ?_, v2, v3⟩
              by_cases cd : d = j
              · exfalso
                rw [cd, q2] at v3
                have := congrArg uI v3
                rw [uI_nI (by omega), uI_nI (by omega)] at this
                exact cw this.symm
              · omega
        · show fA (setA z 68 (nI u) 0) 68 i = _
          rw [gA_at, nI_clamp (by omega), upd_ne (by omega)]
          exact z9 i hi
      · refine br_t (by (first | omega | (simp (disch := omega) only [Int32.le_iff_toInt_le, Int32.lt_iff_toInt_lt, z_eq, z_in, nI_toInt, z_cl, z_m1, z_sg, z_255, Int32.reduceToInt] <;> omega) | (simp only [Int32.le_iff_toInt_le, Int32.lt_iff_toInt_lt, z_eq, z_in, z_add, z_sub, z_mul, z_neg, z_nI, z_cl, z_sg, z_255, z_lit, Int32.reduceToInt] <;> omega))) ?_
        have ef : fA z 68 = fA x 68 := by
          funext i
          by_cases ci : i < 2048
          · rw [hp.2 i ci]
            rcases z8 i ci with v | ⟨d, v1, v2, -⟩
            · exact v
            · omega
          · exact z9 i (by omega)
        have fc := FD.c hs z3 ef
        have hpd : PrD z s ty (fun d => V ((dI ty P P.length).getD d 0)) (dcD ty P) (dcN ty P) P.length := by
          refine ⟨⟨t2.1, t2.2.1, ⟨?_, ?_, fun i hi => ?_⟩, fun d hd => ?_⟩, ⟨?_, ?_, fun i hi => ?_⟩, t3⟩
          · rw [t1 67 (by decide), hDl]; show _ ≤ 1000; omega
          · rw [t1 67 (by decide)]; decide +kernel
          · rw [z5]; exact (y5.1 i (by omega)).2
          · rw [hDg d hd]; exact t2.2.2.2 _ (hD0 d (by omega))
          · rw [t1 65 (by decide)]; exact hP1
          · rw [t1 65 (by decide)]; decide +kernel
          · rw [z6]; exact (y6 i hi).1
        have ej : nI j = nI (dcD ty P).length := by rw [hDl]; congr 1; omega
        have fin : j_Wrt_putDictionary_127 post 45 (nI ty) (nI (dI ty P P.length).length) (nI j) (nI (dcW (dcD ty P).length)) kb nb z := by
          rw [ej, ← hDl]
          exact f1 z post kb nb z1 z2 z4 hpd hk hn (fun w w1 w2 w3 w4 => p w w1 w2 (FC.trans hs fc (w3.c hs)) w4)
        rw [hDl] at fin
        by_cases c0 : (dI ty P P.length).length = 0
        · refine bn_t (by rw [c0]; rfl) ?_
          have e : dcW (dI ty P P.length).length = 0 := by unfold dcW; rw [if_pos c0]
          rw [e] at fin
          exact fin
        · refine bn_f (by (first | omega | (simp (disch := omega) only [Int32.le_iff_toInt_le, Int32.lt_iff_toInt_lt, z_eq, z_in, nI_toInt, z_cl, z_m1, z_sg, z_255, Int32.reduceToInt] <;> omega) | (simp only [Int32.le_iff_toInt_le, Int32.lt_iff_toInt_lt, z_eq, z_in, z_add, z_sub, z_mul, z_neg, z_nI, z_cl, z_sg, z_255, z_lit, Int32.reduceToInt] <;> omega))) ?_
          have e : dcW (dI ty P P.length).length = bl ((dI ty P P.length).length - 1) := by unfold dcW; rw [if_neg c0]
          rw [e] at fin
          rw [show nI (dI ty P P.length).length - 1 = nI ((dI ty P P.length).length - 1) from by rw [show (1 : Int32) = nI 1 from rfl, nI_sub (by omega)]]
          refine c_widthOf ?_
          rw [nI_l (by omega), uL_lN (by omega)]
          exact fin
    · rcases y5.2.2.1 u hu with v | ⟨d, v1, -, v3⟩
      · exact Or.inl v
      · exact Or.inr ⟨d, Nat.zero_le _, v1, v3⟩
