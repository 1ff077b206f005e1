/-! lengths and bytes; what is in common, how many more, and these: the class -/
abbrev pvd (P : List PV) (k : Nat) : PV := P.getD k (0, [])
def cm (P : List PV) (k : Nat) : Nat := if k = 0 then 0 else cpl (pvd P (k - 1)).2 (pvd P k).2
def cdB (V : Nat → Int64) (n : Nat) : List Nat := varB (codeB V n).length ++ codeB V n
def rsF (c : Nat → Nat) (P : List PV) : Nat → Nat → List Nat
  | 0, _ => []
  | d + 1, k => tB ((pvd P k).2.drop (c k)) ++ rsF c P d (k + 1)
def lesV (c : Nat → Nat) (P : List PV) (k : Nat) : Int64 := lN ((pvd P k).2.length - c k)
def lensB (P : List PV) : List Nat := cdB (lesV (fun _ => 0) P) P.length ++ rsF (fun _ => 0) P P.length 0
def frontB (P : List PV) : List Nat := cdB (fun k => lN (cm P k)) P.length ++ (cdB (lesV (cm P) P) P.length ++ rsF (cm P) P P.length 0)
theorem k_cd {κ : Nat → Nat} {s n : Nat} {V : Nat → Int64} {B : List Nat} (hs : SnkId s) (hn' : n ≤ 1000) (hκ : ∀ t, SnkId t → κ t ≤ roomOf t) :
    ∃ κ', Kle κ κ' ∧ ∀ κ2, Kle κ' κ2 → ∀ (x : St) (post : Nat → Nat → St → Prop) kb nb l1, SkS x → Caps x κ → Snk x s B → LC x → fR x 45 4 = some s → RwL x 66 V n → (B.length ≤ roomOf s → l1 = nI B.length) → KP κ ≤ kb + KP κ2 → NP κ ≤ nb + NP κ2 → (∀ y k m, SkS y → Caps y κ' → FKw s x y → Snk y s (B ++ cdB V n) → KP κ' ≤ k + KP κ2 → NP κ' ≤ m + NP κ2 → post k m y) → ∃ k18 n19 k20 n21 : Nat, k18 + k20 = kb ∧ n19 + n21 = nb ∧ wp_Snk_putCode (fun (x22 : St) => (∃ q23 : Nat, fR x22 45 4 = some q23 ∧ (∃ k24 n25 k26 n27 : Nat, k24 + k26 = k20 ∧ n25 + n27 = n21 ∧ wp_Snk_tellSizeFrom (fun (x28 : St) => post k26 n27 x28) q23 l1 k24 n25 x22))) s 66 (nI n) k18 n19 x := by
  obtain ⟨κ1, m1, f1⟩ := k_code (κ := κ) (s := s) (r := 66) (V := V) (n := n) (B := B) hs (by decide) (by omega) hκ
  obtain ⟨κ', m2, f2⟩ := k_tell (κ := κ1) (s := s) (B := B) (C := codeB V n) hs (fun t ht => (m1 t ht).2)
  refine ⟨κ', m1.trans m2, fun κ2 m3 x post kb nb l1 hK hC h hL h4 hR hl hk hn p => ?_⟩
  refine bseq m1 (m2.trans m3) hk hn (fun k1 n1 k2 n2 b1 b2 b3 b4 => f1 x _ k1 n1 hK hC h ⟨hR, sk_4 hs hL⟩ b1 b2 (fun y y1 y2 y3 y4 => ?_))
  have h45 := (snk45 hs).1
  refine ⟨s, (y3.2.2.1 45 4 id (fun c => h45 c.1.symm)).trans h4, bseq m2 m3 b3 b4 (fun k3 n3 k4 n4 d1 d2 d3 d4 => f2 y _ k3 n3 l1 y1 y2 y4 hl d1 d2 (fun z z1 z2 z3 z4 => p z k4 n4 z1 z2 (FKw.trans hs y3 (z3.w hs)) z4 d3 d4))⟩
theorem wl_t169 (post : St → Prop) (f : Nat) : wl_Wrt_putTexts_169 post (f + 1) = j_Wrt_putTexts_169 post (wl_Wrt_putTexts_169 post f) := rfl
theorem k_restL {s : Nat} {V : Nat → Int64} {P : List PV} {c : Nat → Nat} {l1 l3 : Int32} (hs : SnkId s) (hP : P.length ≤ 1000) (hc : ∀ k, k < P.length → c k ≤ (pvd P k).2.length) : ∀ d k f κ B, k + d = P.length → d < f → (∀ t, SnkId t → κ t ≤ roomOf t) → App κ s B (rsF c P d k) (fun x => PgC x s 3 V P ∧ RwL x 66 (lesV c P) P.length) (fun post kb nb x => wl_Wrt_putTexts_169 post f 45 l1 42 l3 (nI k) kb nb x) := by
  have st : ∀ x y, SkS x → FK s x y → (PgC x s 3 V P ∧ RwL x 66 (lesV c P) P.length) → (PgC y s 3 V P ∧ RwL y 66 (lesV c P) P.length) := fun x y hK f z => ⟨z.1.c hs hK (f.c hs), RwL.k (by decide) x y hK f z.2⟩
  intro d
  induction d with
  | zero =>
    intro k f κ B hk hf hκ
    obtain ⟨g, rfl⟩ : ∃ g, f = g + 1 := ⟨f - 1, by omega⟩
    refine (App.nil hκ).cg (fun post kb nb x _ _ hx z => ?_)
    rw [wl_t169]
    unfold j_Wrt_putTexts_169
    rw [hx.1.2.2.1]
    exact br_t (by (first | omega | (simp (disch := omega) only [Int32.le_iff_toInt_le, Int32.lt_iff_toInt_lt, z_eq, z_in, nI_toInt, z_cl, z_m1, z_sg, z_255, Int32.reduceToInt] <;> omega) | (simp only [Int32.le_iff_toInt_le, Int32.lt_iff_toInt_lt, z_eq, z_in, z_add, z_sub, z_mul, z_neg, z_nI, z_cl, z_sg, z_255, z_lit, Int32.reduceToInt] <;> omega))) z
  | succ d ih =>
    intro k f κ B hk hf hκ
    obtain ⟨g, rfl⟩ : ∃ g, f = g + 1 := ⟨f - 1, by omega⟩
    have hkl : k < P.length := by omega
    have hck := hc k hkl
    refine App.ex (Z := okT (pvd P k).2 ∧ ∃ a, a + (pvd P k).2.length < 2 ^ 30 ∧ V k = lN (256 * a + (pvd P k).2.length)) hκ (fun x hx => ?_) ?_
    · obtain ⟨h1, h2, a, h3, h4, h5⟩ := (hx.1.2.1.2.2.2 k hkl).2 rfl
      have h4 : a + (pvd P k).2.length ≤ fN x 42 := h4
      exact ⟨h1, a, by omega, h3⟩
    rintro ⟨ho, a, ha, hv⟩
    have hl := ho.1
    have e1 := ref_sz hl (show a < 2 ^ 31 by omega)
    have e2 := ref_pl hl (show a < 2 ^ 31 by omega)
    have ln : (tB ((pvd P k).2.drop (c k))).length = (pvd P k).2.length - c k := by rw [tB_len, List.length_drop]
    have q1 : App κ s B (tB ((pvd P k).2.drop (c k))) (fun x => PgC x s 3 V P ∧ RwL x 66 (lesV c P) P.length) (fun post kb nb x => wp_Snk_putAll post s 42 (nI (a + c k)) (nI ((pvd P k).2.length - c k)) kb nb x) := by
      have q := k_putAll (κ := κ) (s := s) (r := 42) (a := a + c k) (B := B) (C := tB ((pvd P k).2.drop (c k))) hs hκ (by omega) (by omega)
      rw [ln] at q
      refine q.pre (fun x hK hx => ⟨?_, Or.inl (by decide), stRow_ne hs hK st42⟩)
      obtain ⟨g1, g2, a', g3, g4, g5⟩ := (hx.1.2.1.2.2.2 k hkl).2 rfl
      have ea : a' = a := by
        rw [hv] at g3
        have := congrArg uL g3
        rw [uL_lN (by omega), uL_lN (by omega)] at this
        have e : (pvd P k).2.length = (P.getD k (0, [])).2.length := rfl
        omega
      subst ea
      have g4 : a' + (pvd P k).2.length ≤ fN x 42 := g4
      have hdr : ∀ i, i < (pvd P k).2.length - c k → ((pvd P k).2.drop (c k)).getD i 0 = (pvd P k).2.getD (c k + i) 0 := fun i hi => by
        rw [List.getD_eq_getElem?_getD, List.getElem?_drop, List.getD_eq_getElem?_getD]
      refine ⟨by rw [ln]; omega, by omega, tB_by ⟨by rw [List.length_drop]; omega, fun j hj => ?_⟩, fun i hi => ?_⟩
      · rw [List.length_drop] at hj
        rw [hdr j hj]
        exact ho.2 _ (by omega)
      · rw [ln] at hi
        rw [tB_sg (by rw [List.length_drop]; exact hi), hdr i hi, Nat.add_assoc]
        exact g5 (c k + i) (by show c k + i < (pvd P k).2.length; omega)
    refine (App.seq hs st q1 (fun κ1 h1 => ih (k + 1) g κ1 _ (by omega) (by omega) h1)).cg (fun post kb nb x _ _ hx z => ?_)
    rw [wl_t169]
    unfold j_Wrt_putTexts_169 wp_V_placeOf wp_V_sizeOf
    obtain ⟨⟨x1, x2, x3, x4⟩, r1, r2, r3⟩ := hx
    rw [x3]
    have e64 : fN x (stC 45 10) = 1000 := (x1 64 (by decide)).trans (by decide +kernel)
    have ev : rL x (stC 45 10) (nI k) = lN (256 * a + (pvd P k).2.length) := by
      rw [rL_nI (by omega)]
      exact (x2.2.2.1.2.2 k hkl).trans hv
    have ew : rL x (stC 45 16) (nI k) = lN ((pvd P k).2.length - c k) := by
      rw [rL_nI (by omega)]
      exact r3 k hkl
    have e66 : fN x (stC 45 16) = 1000 := (x1 66 (by decide)).trans (by decide +kernel)
    refine br_f (by (first | omega | (simp (disch := omega) only [Int32.le_iff_toInt_le, Int32.lt_iff_toInt_lt, z_eq, z_in, nI_toInt, z_cl, z_m1, z_sg, z_255, Int32.reduceToInt] <;> omega) | (simp only [Int32.le_iff_toInt_le, Int32.lt_iff_toInt_lt, z_eq, z_in, z_add, z_sub, z_mul, z_neg, z_nI, z_cl, z_sg, z_255, z_lit, Int32.reduceToInt] <;> omega))) ⟨vp_in_nI (by omega) (by omega), ?_⟩
    rw [ew, lN_i]
    refine nm_e ⟨s, x2.1, vp_in_nI (by omega) (by omega), vp_in_nI (by omega) (by omega), ?_⟩
    rw [ev, e1, e2]
    show ∃ k8 n9 k10 n11 : Nat, k8 + k10 = kb ∧ n9 + n11 = nb ∧ wp_Snk_putAll (fun (x12 : St) => wl_Wrt_putTexts_169 post g 45 l1 42 l3 (nI k + 1) k10 n11 x12) s 42 ((nI a + nI (pvd P k).2.length) - nI ((pvd P k).2.length - c k)) (nI ((pvd P k).2.length - c k)) k8 n9 x
    rw [nI_add, nI_sub (by omega), show a + (pvd P k).2.length - ((pvd P k).2.length - c k) = a + c k by omega, nI_1]
    exact z
theorem cm_le {P : List PV} (k : Nat) : cm P k ≤ (pvd P k).2.length := by
  unfold cm
  split
  · exact Nat.zero_le _
  · exact (cpl_le _ _).2
theorem t169_l3 {post : St → Prop} {l1 a b : Int32} {l2 : Nat} : ∀ f k kb nb x, wl_Wrt_putTexts_169 post f 45 l1 l2 a k kb nb x = wl_Wrt_putTexts_169 post f 45 l1 l2 b k kb nb x := by
  intro f
  induction f with
  | zero => intros; rfl
  | succ f ih =>
    intro k kb nb x
    rw [wl_t169]
    unfold j_Wrt_putTexts_169
    simp only [ih]
theorem wl_t90 (post : St → Prop) (f : Nat) : wl_Wrt_putTexts_90 post (f + 1) = j_Wrt_putTexts_90 post (wl_Wrt_putTexts_90 post f) := rfl
/-- sizes, then the bytes that are left -/
theorem k_sizes {κ : Nat → Nat} {s : Nat} {V : Nat → Int64} {P : List PV} {c : Nat → Nat} {B : List Nat} {l1 l3 : Int32} (hs : SnkId s) (hP : P.length ≤ 1000) (hc : ∀ k, k < P.length → c k ≤ (pvd P k).2.length) (h1 : l1 = 0 → ∀ k, c k = 0) (hκ : ∀ t, SnkId t → κ t ≤ roomOf t) :
    AppC κ s B (cdB (lesV c P) P.length ++ rsF c P P.length 0) (fun x => PgC x s 3 V P ∧ (¬ l1 = 0 → RwL x 66 (fun k => lN (c k)) P.length)) (fun post kb nb x => j_Wrt_putTexts_88 post 45 l1 42 l3 kb nb x) := by
  obtain ⟨κ1, m1, f1⟩ := k_cd (κ := κ) (s := s) (n := P.length) (V := lesV c P) (B := B) hs hP hκ
  obtain ⟨κ2, m2, f2⟩ := k_restL (V := V) (c := c) (l1 := l1) (l3 := 0) hs hP hc P.length 0 (P.length + 1) κ1 (B ++ cdB (lesV c P) P.length) (by omega) (by omega) (fun t ht => (m1 t ht).2)
  refine ⟨κ2, m1.trans m2, fun x post kb nb hK hC h hp hk hn p => ?_⟩
  show j_Wrt_putTexts_88 post 45 l1 42 l3 kb nb x
  unfold j_Wrt_putTexts_88
  refine lp_Wrt_putTexts_90 (fun a0 a1 a2 a3 a4 a5 y => 45 = a0 ∧ l1 = a1 ∧ 42 = a2 ∧ kb = a4 ∧ nb = a5 ∧ ∃ k, nI k = a3 ∧ k ≤ P.length ∧ SkS y ∧ Caps y κ ∧ FC s x y ∧ Snk y s B ∧ (∀ i, i < k → fL y 66 i = lesV c P i) ∧ (¬ l1 = 0 → ∀ i, k ≤ i → i < P.length → fL y 66 i = lN (c i))) (fun _ _ _ a3 _ _ _ => P.length - a3.toNatClampNeg) ?_ _ _ _ _ _ _ _ ⟨rfl, rfl, rfl, rfl, rfl, 0, rfl, by omega, hK, hC, FX.refl x, h, fun i hi => by omega, fun z i _ hi => (hp.2 z).2.2 i hi⟩
  rintro Q a0 a1 a2 a3 a4 a5 y ⟨rfl, rfl, rfl, rfl, rfl, k, rfl, k1, y1, y2, y3, y4, y5, y6⟩ ih
  have hg := PgC.c hs hK y3 hp.1
  obtain ⟨g1, g2, g3, -⟩ := hg
  have e64 : fN y (stC 45 10) = 1000 := (g1 64 (by decide)).trans (by decide +kernel)
  have e66 : fN y (stC 45 16) = 1000 := (g1 66 (by decide)).trans (by decide +kernel)
  unfold j_Wrt_putTexts_90
  rw [g3]
  by_cases cc : k < P.length
  · obtain ⟨o1, o2, a, o3, o4, o5⟩ := (g2.2.2.2 k cc).2 rfl
    have o4 : a + (pvd P k).2.length ≤ fN y 42 := o4
    have hl : (pvd P k).2.length ≤ 255 := o1.1
    have ev : rL y (stC 45 10) (nI k) = lN (256 * a + (pvd P k).2.length) := by
      rw [rL_nI (by omega)]
      exact (g2.2.2.1.2.2 k cc).trans o3
    refine br_f (by (first | omega | (simp (disch := omega) only [Int32.le_iff_toInt_le, Int32.lt_iff_toInt_lt, z_eq, z_in, nI_toInt, z_cl, z_m1, z_sg, z_255, Int32.reduceToInt] <;> omega) | (simp only [Int32.le_iff_toInt_le, Int32.lt_iff_toInt_lt, z_eq, z_in, z_add, z_sub, z_mul, z_neg, z_nI, z_cl, z_sg, z_255, z_lit, Int32.reduceToInt] <;> omega))) ⟨vp_in_nI (by omega) (by omega), ?_⟩
    unfold wp_V_sizeOf
    rw [ev, ref_sz hl (by omega)]
    have hck := hc k cc
    have go : ∀ w : Int64, (nI (pvd P k).2.length).toInt64 - w = lesV c P k → j_Wrt_putTexts_127 post Q 45 l1 42 (nI k) w (nI (pvd P k).2.length).toInt64 (nI k) (stC 45 16) kb nb y := fun w hw => by
      unfold j_Wrt_putTexts_127
      rw [hw, nI_1]
      refine ⟨vp_in_nI (by omega) (by omega), nm_e (ih _ _ _ _ _ _ _ ⟨rfl, rfl, rfl, rfl, rfl, k + 1, rfl, by omega, y1, y2, FC.trans hs y3 (FC.l (Or.inl rfl)), y4, fun i hi => ?_, fun z i hi hi2 => ?_⟩ (by rw [nI_clamp (by omega), nI_clamp (by omega)]; omega))⟩
      · show fL (setL y 66 (nI k) _) 66 i = _
        rw [gL_at, nI_clamp (by omega)]
        by_cases e : i = k
        · rw [e, updL_at]
        · rw [updL_ne e]; exact y5 i (by omega)
      · show fL (setL y 66 (nI k) _) 66 i = _
        rw [gL_at, nI_clamp (by omega), updL_ne (by omega)]
        exact y6 z i (by omega) hi2
    have el : (nI (pvd P k).2.length).toInt64 = lN (pvd P k).2.length := nI_l (by omega)
    by_cases z : l1 = 0
    · refine br_t z (go 0 ?_)
      unfold lesV
      rw [h1 z k, el, Int64.sub_zero]
      rfl
    · refine br_f z ⟨vp_in_nI (by omega) (by omega), go _ ?_⟩
      have e6 : rL y (stC 45 16) (nI k) = lN (c k) := by rw [rL_nI (by omega)]; exact y6 z k (Nat.le_refl _) cc
      rw [e6, el]
      unfold lesV
      have := lN_add ((pvd P k).2.length - c k) (c k)
      rw [show (pvd P k).2.length - c k + c k = (pvd P k).2.length by omega] at this
      rw [← this, Int64.add_sub_cancel]
  · have ek : k = P.length := by omega
    subst ek
    refine br_t (by (first | omega | (simp (disch := omega) only [Int32.le_iff_toInt_le, Int32.lt_iff_toInt_lt, z_eq, z_in, nI_toInt, z_cl, z_m1, z_sg, z_255, Int32.reduceToInt] <;> omega) | (simp only [Int32.le_iff_toInt_le, Int32.lt_iff_toInt_lt, z_eq, z_in, z_add, z_sub, z_mul, z_neg, z_nI, z_cl, z_sg, z_255, z_lit, Int32.reduceToInt] <;> omega))) ⟨s, g2.1, nm_e ⟨s, g2.1, ?_⟩⟩
    refine f1 κ2 m2 y (fun k26 n27 x28 => ∃ n : Nat, wl_Wrt_putTexts_169 post n 45 l1 42 (fI y s 1) 0 k26 n27 x28) kb nb (fI y s 1) y1 y2 y4 g1 g2.1 ⟨?_, ?_, y5⟩ (fun hb => ?_) hk hn (fun z k m z1 z2 z3 z4 b1 b2 => ⟨P.length + 1, ?_⟩)
    · rw [g1 66 (by decide)]; exact hP
    · rw [g1 66 (by decide)]; decide +kernel
    · rcases y4.2.2 with w | w
      · exact w.2.2.1
      · exact absurd w.1 (by omega)
    · rw [t169_l3 (b := 0)]
      refine f2 z post k m z1 z2 z4 ⟨PgC.c hs y1 (FKw.c hs z3) (PgC.c hs hK y3 hp.1), RwL.w (by decide) z3 ⟨by rw [g1 66 (by decide)]; exact hP, by rw [g1 66 (by decide)]; decide +kernel, y5⟩⟩ b1 b2 (fun w w1 w2 w3 w4 => p w w1 w2 (FC.trans hs y3 (FC.trans hs (FKw.c hs z3) (w3.c hs))) (by rw [← List.append_assoc]; exact w4))
/-- TEXTS: lengths and bytes -/
theorem k_lens {κ : Nat → Nat} {s : Nat} {V : Nat → Int64} {P : List PV} {B : List Nat} (hs : SnkId s) (hP : P.length ≤ 1000) (hκ : ∀ t, SnkId t → κ t ≤ roomOf t) : AppC κ s B (lensB P) (fun x => PgC x s 3 V P) (fun post kb nb x => wp_Wrt_putTexts post 45 0 kb nb x) := by
  obtain ⟨κ1, m1, f1⟩ := k_sizes (κ := κ) (V := V) (P := P) (c := fun _ => 0) (B := B) (l1 := 0) (l3 := 0) hs hP (fun _ _ => Nat.zero_le _) (fun _ _ => rfl) hκ
  refine ⟨κ1, m1, fun x post kb nb hK hC h hp hk hn p => ?_⟩
  show wp_Wrt_putTexts post 45 0 kb nb x
  unfold wp_Wrt_putTexts
  refine ⟨36, hp.2.1.2.1, 1, ?_⟩
  show j_Wrt_putTexts_10 post _ 45 0 42 0 kb nb x
  unfold j_Wrt_putTexts_10
  have := f1 x post kb nb hK hC h ⟨hp, fun z => absurd rfl z⟩ hk hn p
  have hh : j_Wrt_putTexts_61 post 45 0 42 0 kb nb x := by
    unfold j_Wrt_putTexts_61
    exact br_t rfl this
  exact ⟨fun _ => hh, fun _ => br_t rfl hh⟩
/-- TEXTS: in parts -/
theorem k_front {κ : Nat → Nat} {s : Nat} {V : Nat → Int64} {P : List PV} (hs : SnkId s) (hP : P.length ≤ 1000) (hκ : ∀ t, SnkId t → κ t ≤ roomOf t) : AppC κ s [] (frontB P) (fun x => PgC x s 3 V P) (fun post kb nb x => wp_Wrt_putTexts post 45 1 kb nb x) := by
  obtain ⟨κ1, m1, f1⟩ := k_cd (κ := κ) (s := s) (n := P.length) (V := fun k => lN (cm P k)) (B := []) hs hP hκ
  obtain ⟨κ2, m2, f2⟩ := k_sizes (κ := κ1) (V := V) (P := P) (c := cm P) (B := cdB (fun k => lN (cm P k)) P.length) (l1 := 1) (l3 := nI P.length) hs hP (fun k _ => cm_le k) (fun z => absurd z (by decide)) (fun t ht => (m1 t ht).2)
  refine ⟨κ2, m1.trans m2, fun x post kb nb hK hC h hp hk hn p => ?_⟩
  show wp_Wrt_putTexts post 45 1 kb nb x
  unfold wp_Wrt_putTexts
  refine ⟨36, hp.2.1.2.1, ?_⟩
  refine lp_Wrt_putTexts_10 (fun a0 a1 a2 a3 a4 a5 y => 45 = a0 ∧ 1 = a1 ∧ 42 = a2 ∧ kb = a4 ∧ nb = a5 ∧ ∃ k, nI k = a3 ∧ k ≤ P.length ∧ SkS y ∧ Caps y κ ∧ FC s x y ∧ Snk y s [] ∧ (∀ i, i < k → fL y 66 i = lN (cm P i))) (fun _ _ _ a3 _ _ _ => P.length - a3.toNatClampNeg) ?_ _ _ _ _ _ _ _ ⟨rfl, rfl, rfl, rfl, rfl, 0, rfl, by omega, hK, hC, FX.refl x, h, fun i hi => by omega⟩
  rintro Q a0 a1 a2 a3 a4 a5 y ⟨rfl, rfl, rfl, rfl, rfl, k, rfl, k1, y1, y2, y3, y4, y5⟩ ih
  have hg := PgC.c hs hK y3 hp
  obtain ⟨g1, g2, g3, -⟩ := hg
  have e64 : fN y (stC 45 10) = 1000 := (g1 64 (by decide)).trans (by decide +kernel)
  have e66 : fN y (stC 45 16) = 1000 := (g1 66 (by decide)).trans (by decide +kernel)
  unfold j_Wrt_putTexts_10
  rw [g3]
  by_cases cc : k < P.length
  · refine br_f (by (first | omega | (simp (disch := omega) only [Int32.le_iff_toInt_le, Int32.lt_iff_toInt_lt, z_eq, z_in, nI_toInt, z_cl, z_m1, z_sg, z_255, Int32.reduceToInt] <;> omega) | (simp only [Int32.le_iff_toInt_le, Int32.lt_iff_toInt_lt, z_eq, z_in, z_add, z_sub, z_mul, z_neg, z_nI, z_cl, z_sg, z_255, z_lit, Int32.reduceToInt] <;> omega))) (br_f (by decide) ?_)
    have go : ∀ w : Int64, w = lN (cm P k) → j_Wrt_putTexts_54 post Q 45 1 42 (nI k) w (nI k) (stC 45 16) kb nb y := fun w hw => by
      subst hw
      unfold j_Wrt_putTexts_54
      rw [nI_1]
      refine ⟨vp_in_nI (by omega) (by omega), nm_e (ih _ _ _ _ _ _ _ ⟨rfl, rfl, rfl, rfl, rfl, k + 1, rfl, by omega, y1, y2, FC.trans hs y3 (FC.l (Or.inl rfl)), y4, fun i hi => ?_⟩ (by rw [nI_clamp (by omega), nI_clamp (by omega)]; omega))⟩
      show fL (setL y 66 (nI k) _) 66 i = _
      rw [gL_at, nI_clamp (by omega)]
      by_cases e : i = k
      · rw [e, updL_at]
      · rw [updL_ne e]; exact y5 i (by omega)
    by_cases z : k = 0
    · subst z
      exact bn_t rfl (go 0 (by unfold cm; rw [if_pos rfl]; rfl))
    · refine bn_f (by (first | omega | (simp (disch := omega) only [Int32.le_iff_toInt_le, Int32.lt_iff_toInt_lt, z_eq, z_in, nI_toInt, z_cl, z_m1, z_sg, z_255, Int32.reduceToInt] <;> omega) | (simp only [Int32.le_iff_toInt_le, Int32.lt_iff_toInt_lt, z_eq, z_in, z_add, z_sub, z_mul, z_neg, z_nI, z_cl, z_sg, z_255, z_lit, Int32.reduceToInt] <;> omega))) ?_
      rw [show nI k - 1 = nI (k - 1) from by rw [show (1 : Int32) = nI 1 from rfl, nI_sub (by omega)]]
      refine ⟨vp_in_nI (by omega) (by omega), vp_in_nI (by omega) (by omega), ?_⟩
      rw [rL_nI (by omega), rL_nI (by omega)]
      have r1 := g2.2.2.2 (k - 1) (by omega)
      have r2 := g2.2.2.2 k cc
      rw [show fL y (stC 45 10) (k - 1) = V (k - 1) from g2.2.2.1.2.2 _ (by omega), show fL y (stC 45 10) k = V k from g2.2.2.1.2.2 _ cc]
      refine c_inCommon r1 r2 (go _ ?_)
      have hm := (cpl_le (pvd P (k - 1)).2 (pvd P k).2).2
      have hl : (pvd P k).2.length ≤ 255 := (r2.2 rfl).1.1
      show (nI (cpl (pvd P (k - 1)).2 (pvd P k).2)).toInt64 = _
      rw [nI_l (by omega)]
      unfold cm
      rw [if_neg z]
  · have ek : k = P.length := by omega
    subst ek
    refine br_t (by (first | omega | (simp (disch := omega) only [Int32.le_iff_toInt_le, Int32.lt_iff_toInt_lt, z_eq, z_in, nI_toInt, z_cl, z_m1, z_sg, z_255, Int32.reduceToInt] <;> omega) | (simp only [Int32.le_iff_toInt_le, Int32.lt_iff_toInt_lt, z_eq, z_in, z_add, z_sub, z_mul, z_neg, z_nI, z_cl, z_sg, z_255, z_lit, Int32.reduceToInt] <;> omega))) ?_
    unfold j_Wrt_putTexts_61
    rw [g3]
    refine br_f (by decide) ⟨s, g2.1, ?_⟩
    refine f1 κ2 m2 y (fun k26 n27 x28 => j_Wrt_putTexts_88 post 45 1 42 (nI P.length) k26 n27 x28) kb nb 0 y1 y2 y4 g1 g2.1 ⟨?_, ?_, y5⟩ (fun hb => rfl) hk hn (fun z k m z1 z2 z3 z4 b1 b2 => ?_)
    · rw [g1 66 (by decide)]; exact hP
    · rw [g1 66 (by decide)]; decide +kernel
    · rw [List.nil_append] at z4
      exact f2 z post k m z1 z2 z4 ⟨PgC.c hs y1 (FKw.c hs z3) (PgC.c hs hK y3 hp), fun _ => RwL.w (by decide) z3 ⟨by rw [g1 66 (by decide)]; exact hP, by rw [g1 66 (by decide)]; decide +kernel, y5⟩⟩ b1 b2 (fun w w1 w2 w3 w4 => p w w1 w2 (FC.trans hs y3 (FC.trans hs (FKw.c hs z3) w3)) (by unfold frontB; rw [List.nil_append]; exact w4))
