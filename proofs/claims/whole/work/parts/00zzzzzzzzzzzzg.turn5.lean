/-! open, show, answer -/
section
variable {x x' y y' : St} {κ : Nat → Nat} {l1 l2 l3 l4 l5 : Int32}
theorem Fq.io {I A L : Nat → Prop} (f : Fq I A L y y') (hI : ∀ k, k = 3 ∨ k = 4 ∨ k = 65 → ¬ I k) (hA : ∀ a, a = 1 ∨ a = 2 ∨ a = 41 → ¬ A a) : IoM y y' := ⟨fun k hk => f.1 0 k (fun z => hI k hk z.2), fun a ha => funext (fun i => f.2.2.2.1 a i (hA a ha) (by omega))⟩
theorem Fq.sc {I A L : Nat → Prop} (f : Fq I A L y y') (hI : ∀ k, k = 14 ∨ k = 34 ∨ k = 35 ∨ k = 36 → ¬ I k) (hA : ∀ a, 3 ≤ a ∧ a ≤ 11 ∨ 18 ≤ a ∧ a ≤ 24 → ¬ A a) (hL : ¬ L 25) : ScM' y y' := ⟨fun k hk => f.1 0 k (fun z => hI k hk z.2), fun a i l1 l2 l3 => f.2.2.2.1 a i (hA a (Or.inl ⟨l1, l2⟩)) (fun _ _ => l3), fun a l1 l2 => funext (fun i => f.2.2.2.1 a i (hA a (Or.inr ⟨l1, l2⟩)) (by omega)), f.2.2.2.2.1 25 hL⟩
/-- nothing is open -/
theorem OqJ.none {qo qs a c : Nat} (h97 : fI x 97 0 = 0) (h82 : fI y 0 82 = 0) (hq : qo = 106 ∧ qs = 117 ∨ qo = 117 ∧ qs = 106) (h10 : fR x 0 10 = some qo) (h11 : fR x 0 11 = some qs) (hq0 : fI x qo 0 = 0) (h120 : fI y 0 120 = 0) (ha : a = 128 ∧ c = 137 ∨ a = 137 ∧ c = 128) (h12 : fR x 0 12 = some a) (h13 : fR x 0 13 = some c) (ha0 : fI x a 0 = 0) (h121 : fI y 0 121 = 0) : OqJ x y :=
  ⟨false, [], [], [], [], 0, 0, [], false, ([], [], [], []), qo, qs, 0, false, ([], [], [], []), a, c, 0, ⟨h97, h82, by decide, fun e => nomatch e⟩, ⟨hq, h10, h11, hq0, h120, by decide, fun e => nomatch e⟩, ⟨ha, h12, h13, by decide, fun e => (nomatch e), ⟨ha0, fun e => nomatch e⟩, ⟨h121, fun e => nomatch e⟩⟩⟩
theorem J_open (h : Inv κ x y) : wp_V_open (fun r x' => wp_Mod_open (fun r' y' => r = r' ∧ Inv κ x' y') y) 0 x := by
  obtain ⟨b1, b2, b3, b4, b5, ⟨op, H, G, K, CK, b, dE, Pl, hq, Q, qo, qs, kp, on, P, a, c, la, h6, h7, h8⟩, ⟨ft, oc, f1, f2, f3⟩, b8⟩ := h
  have b3' := b3
  obtain ⟨t, i, f, w, cc, n, m, U, T, B, h3⟩ := b3
  obtain ⟨⟨-, -, tf, -⟩, -, ⟨-, -, c3, -⟩, -, -, -, ⟨d1, d2, q, d3, d4, d5⟩, gB, gm, -, -, g5, g6⟩ := h3
  obtain ⟨qr, -, q31⟩ := b1.row tf.s d3
  obtain ⟨u1, u2, u3, -⟩ := h7
  obtain ⟨v1, v2, v3, -⟩ := h8
  have hF : FiM y B m := ⟨b2.1, gm, gB, g6⟩
  -- what stays
  have keep : ∀ x' y', FrOC qo a x x' → FrOn y y' → fA y' 34 0 = 0 → OqJ x' y' → FtJ x' y' → Inv κ x' y' := by
    intro x' y' fx fy y34 jq jf
    have hsn : ∀ q, skRow q → ¬ (70 ≤ q ∧ q ≤ 105) := fun q hq => by have := sk_st hq; omega
    refine ⟨b1.fg fx (fun s hs z => by unfold SnkId at hs; omega) (fun _ _ z => z) hsn, ⟨fun r => by show y'.2.2.2.2.2 r = _; rw [fy.2.2.2.2.2]; exact b2.1 r, (fy.2.2.2.1 33 0 (by omega) (by omega)).trans b2.2.1, y34⟩, b3'.k (IoC.f b1 fx (fun _ _ z => z) (fun z => z) (fun _ _ z => z) (fun s k hs hk z => by unfold Tin at hs; omega) hsn) (Fq.io fy (fun k hk z => by omega) (fun a ha z => by omega)), b4.k (WrC.f fx (fun _ _ z => z) (by omega) (fun o k ho hk z => by omega)), b5.k (ScC'.f fx (fun _ _ z => z) (fun o k ho z => by omega) (fun a l1 l2 z => by omega) (by omega)) (Fq.sc fy (fun k hk z => by omega) (fun a ha z => by omega) (by omega)), jq, jf, b8.k (OuC.f b1 fx (fun z => z) (fun k hk z => by omega) hsn) ⟨fy.1 0 113 (by omega), funext (fun j => fy.2.2.2.1 75 j (by omega) (by omega))⟩⟩
  have R : ∀ {x'}, FrOC qo a x x' → fR x' 0 10 = some qo ∧ fR x' 0 11 = some qs ∧ fR x' 0 12 = some a ∧ fR x' 0 13 = some c := fun fx => ⟨(f_r fx (fun z => z)).trans u2, (f_r fx (fun z => z)).trans u3, (f_r fx (fun z => z)).trans v2, (f_r fx (fun z => z)).trans v3⟩
  refine k_open b1.1 u2 v2 (by omega) (by omega) c3 tf.s d3 qr d1 d4 q31 gm gB (fun k hk => (d5 k hk).1) f2 f1 (fun ho x' fx x3 x98 x97 xq xa => ?_) (fun ho e g c' k x' he e1 e2 fx x3 xg xc xk x97 xq xa => ?_) (fun ho F' rows G' K' CK' x' he fx xO xne xem xr x3 x98 x97 xq xa => ?_)
  · refine s_open hF g5 b2.2.2 f3 f1 (fun _ y' fy y0 y82 y120 y121 y83 y52 y34 => ⟨rfl, ?_⟩) (fun z => absurd z (by omega)) (fun z => absurd z (by omega))
    obtain ⟨r1, r2, r3, r4⟩ := R fx
    exact keep x' y' fx fy y34 (OqJ.none x97 y82 u1 r1 r2 xq y120 v1 r3 r4 xa y121) ⟨fun k hk => by rw [x98 k hk, y52 k hk], oc, f1, x3, y83⟩
  · refine s_open hF g5 b2.2.2 f3 f1 (fun z => absurd z (by omega)) (fun _ e' g' c2 k' y' he' fy _ _ y0 y82 y120 y121 y83 yg yc yk y34 => ?_) (fun _ F' rows G' K' CK' y' he' => by rw [he] at he'; exact nomatch he')
    rw [he] at he'
    injection he' with he'
    injection he' with e1' he'
    injection he' with e2' he'
    injection he' with e3' e4'
    refine ⟨by rw [e1'], ?_⟩
    obtain ⟨r1, r2, r3, r4⟩ := R fx
    refine keep x' y' fx fy y34 (OqJ.none x97 y82 u1 r1 r2 xq y120 v1 r3 r4 xa y121) ⟨fun j hj => ?_, oc + 1, by omega, x3, y83⟩
    have : j = 0 ∨ j = 1 ∨ j = 2 := by omega
    rcases this with rfl | rfl | rfl
    · rw [xg, yg, e2']
    · rw [xc, yc, e3']
    · rw [xk, yk, e4']
  · refine s_open hF g5 b2.2.2 f3 f1 (fun z => absurd z (by omega)) (fun _ e' g' c2 k' y' he' => by rw [he] at he'; exact nomatch he') (fun _ F2 rows2 G2 K2 CK2 y' he' fy yO y0 y82 y120 y121 y83 y52 y34 => ?_)
    rw [he] at he'
    injection he' with he'
    injection he' with e1' he'
    injection he' with e2' he'
    injection he' with e3' he'
    injection he' with e4' e5'
    subst e1' e2' e3' e4' e5'
    refine ⟨rfl, ?_⟩
    obtain ⟨r1, r2, r3, r4⟩ := R fx
    have hw := xO.2.1
    obtain ⟨kok, kl⟩ := opO_okO gB gm hw he
    have kt := opO_ktO he
    have wd := opO_wd gB hw he
    have Ly : LM y' := fun r => by show y'.2.2.2.2.2 r = _; rw [fy.2.2.2.2.2]; exact b2.1 r
    obtain ⟨Pl', hn⟩ := yO.rn Ly kt
    subst xr
    obtain ⟨b', dE', hB⟩ := xO.2.2.2.2.2.2.2.2.2.2.2.2.2.2
    have s2000 := xO.2.2.2.2.2.2.2.1
    refine keep x' y' fx fy y34 ?_ ⟨fun k hk => by rw [x98 k hk, y52 k hk], oc + 1, by omega, x3, y83⟩
    exact ⟨true, F', G', K', CK', b', dE', Pl', false, ([], [], [], []), qo, qs, 0, false, ([], [], [], []), a, c, 0, ⟨x97, y82, s2000, fun _ => ⟨xO, hB, yO, hn, kok, kt, wd⟩⟩, ⟨u1, r1, r2, xq, y120, by decide, fun e => nomatch e⟩, ⟨v1, r3, r4, by decide, fun e => (nomatch e), ⟨xa, fun e => nomatch e⟩, ⟨y121, fun e => nomatch e⟩⟩⟩
/-- the output's sink has changed -/
theorem ag_keep (hK : SkS x) (f : FAg x x') : IoC x x' ∧ WrC x x' ∧ ScC' x x' ∧ OqC x x' ∧ FtC' x x' := by
  have hS : ∀ s, s = 147 → SnkId s := fun s e => by unfold SnkId; omega
  have hA : ∀ q, skRow q → ¬ (q = 150 ∨ q = 151) := fun q hq => by have := sk_st hq; omega
  have hr : ∀ a, a < 147 → ¬ skRow a → fA x' a = fA x a := fun a ha hn => FX.ra hK f hS (by omega) hn (by omega)
  refine ⟨⟨fun k hk => f.2.2.1 0 k (fun z => z) (by omega), f.2.2.1 45 0 (fun z => z) (by omega), fun s hs => ⟨f.2.2.1 s 0 (fun z => z) (by unfold Tin at hs; omega), fun k hk => f.1 s k (by unfold Tin at hs; omega)⟩, fun s q hs hq => FX.rs hK f hS hs.s (by unfold Tin at hs; omega) hq hA⟩, ⟨fun k hk => f.2.2.1 45 k (fun z => z) (by omega), hr 68 (by decide) (by unfold skRow; omega), fun o k ho hk => f.1 o k (by omega)⟩, ⟨fun k hk => f.2.2.1 0 k (fun z => z) (by omega), fun o k ho => f.1 o k (by omega), fun a l1 l2 => hr a (by omega) (by unfold skRow; omega), f.2.2.2.2.1 39 (fun z => z)⟩, ⟨fun k l1 l2 => f.2.2.1 0 k (fun z => z) (by omega), fun o k ho => f.1 o k (by omega), fun a ha => hr a (by omega) (by unfold skRow; omega), fun a _ => f.2.2.2.2.1 a (fun z => z)⟩, ⟨hr 98 (by decide) (by unfold skRow; omega), f.1 96 3 (by omega)⟩⟩
theorem shw_keep {κ' : Nat → Nat} {O : List Nat} (h : Inv κ x y) (xK : SkS x') (xC : Caps x' κ') (fx : FAg x x') (fy : FrShw y y') (hS : Snk x' 147 O) (hO : OutM y' O) (hl : O.length ≤ 100000) : Inv κ' x' y' := by
  obtain ⟨b1, b2, b3, b4, b5, b6, b7, b8⟩ := h
  have fm : MkM (fun k => k = 113 ∨ k = 0) (fun a => a = 75 ∨ a = 76 ∨ a = 77 ∨ a = 78) no1 y y' := fy
  obtain ⟨k1, k2, k3, k4, k5⟩ := ag_keep b1.2.1 fx
  exact ⟨⟨fun r hr => (fx.2.2.2.2.2.1 r hr).trans (b1.1 r hr), xK, xC⟩, b2.k (BaM'.f fm (by decide) (by decide)), b3.k k1 (IoM.f fm (fun k hk z => by omega) (fun a ha z => by omega)), b4.k k2, b5.k k3 (ScM'.f fm (fun k hk z => by omega) (fun a ha z => by omega) (fun z => z)), b6.k k4 (OqM.f b2.1 fm (fun k hk z => by omega) (fun a ha z => by omega) (fun _ _ z => z)), b7.k k5 (FtM'.f fm (by decide) (by decide)), ⟨O, hS, hO, hl⟩⟩
theorem OutM.nil (h : fI y 0 113 = 0) : OutM y [] := ⟨h, fun b hb => absurd hb List.not_mem_nil, fun i hi => absurd hi (Nat.not_lt_zero _)⟩
theorem J_show (h : Inv κ x y) : ∃ κ', Kle κ κ' ∧ ∀ kb nb, KP κ ≤ kb + KP κ' → NP κ ≤ nb + NP κ' → wp_V_show (fun r x' => wp_Mod_show (fun r' y' => r = r' ∧ Inv κ' x' y') l1 y) 0 l1 kb nb x := by
  have hI := h
  obtain ⟨b1, b2, b3, b4, b5, ⟨op, H, G, K, CK, b, dE, Pl, hq, Q, qo, qs, kp, on, P, a, c, la, h6, h7, h8⟩, b7, ⟨O, o1, o2, o3⟩⟩ := h
  obtain ⟨p1, p2, p3, p4⟩ := h6
  have hκ := b1.2.2.room b1.2.1
  obtain ⟨κ', k1, k2⟩ := k_show (l1 := l1) b1.2.1 b1.2.2 hκ b1.1 o1.1 o1.2.1 p1 (fun ho => ⟨(p4 ho).1, (p4 ho).2.2.2.2.1⟩)
  have hM : op = true → OpM y H (smN G) G K CK ∧ KtO H G K CK ∧ OkO H G CK ∧ NmS H := fun ho => ⟨(p4 ho).2.2.1, (p4 ho).2.2.2.2.2.1, (p4 ho).2.2.2.2.1, (p4 ho).1.1.2.2.1⟩
  refine ⟨κ', k1, fun kb nb hk hn => k2 _ kb nb hk hn (fun no x' xK xC fx xS => ?_) (fun r ho e hr hl x' xK xC fx xS => ?_) (fun r ho e hr hl x' xK xC fx xS => ?_)⟩
  · refine s_show b2.1 p2 hM (fun _ y' fy y0 y113 => ⟨rfl, shw_keep hI xK xC fx fy xS (OutM.nil y113) (by decide)⟩) (fun r ho e hr _ y' fy y0 y113 => ⟨rfl, shw_keep hI xK xC fx fy xS (OutM.nil y113) (by decide)⟩) (fun r ho e hr => absurd ⟨ho, (by rw [e]; (first | omega | (simp (disch := omega) only [Int32.le_iff_toInt_le, Int32.lt_iff_toInt_lt, z_eq, z_in, nI_toInt, z_cl, z_m1, z_sg, z_255, Int32.reduceToInt] <;> omega) | (simp only [Int32.le_iff_toInt_le, Int32.lt_iff_toInt_lt, z_eq, z_in, z_add, z_sub, z_mul, z_neg, z_nI, z_cl, z_sg, z_255, z_lit, Int32.reduceToInt] <;> omega))), (by rw [e]; (first | omega | (simp (disch := omega) only [Int32.le_iff_toInt_le, Int32.lt_iff_toInt_lt, z_eq, z_in, nI_toInt, z_cl, z_m1, z_sg, z_255, Int32.reduceToInt] <;> omega) | (simp only [Int32.le_iff_toInt_le, Int32.lt_iff_toInt_lt, z_eq, z_in, z_add, z_sub, z_mul, z_neg, z_nI, z_cl, z_sg, z_255, z_lit, Int32.reduceToInt] <;> omega)))⟩ no)
  · refine s_show b2.1 p2 hM (fun _ y' fy y0 y113 => ⟨rfl, shw_keep hI xK xC fx fy xS (OutM.nil y113) (by decide)⟩) (fun _ _ _ _ _ y' fy y0 y113 => ⟨rfl, shw_keep hI xK xC fx fy xS (OutM.nil y113) (by decide)⟩) (fun r' _ e' hr' hl' => ?_)
    exfalso
    have : r = r' := nI_inj (by omega) (by omega) (by rw [← e, ← e'])
    subst this
    omega
  · have z1 : 0 ≤ l1 := by rw [e]; (first | omega | (simp (disch := omega) only [Int32.le_iff_toInt_le, Int32.lt_iff_toInt_lt, z_eq, z_in, nI_toInt, z_cl, z_m1, z_sg, z_255, Int32.reduceToInt] <;> omega) | (simp only [Int32.le_iff_toInt_le, Int32.lt_iff_toInt_lt, z_eq, z_in, z_add, z_sub, z_mul, z_neg, z_nI, z_cl, z_sg, z_255, z_lit, Int32.reduceToInt] <;> omega))
    have z2 : l1 < nI (smN G) := by rw [e]; (first | omega | (simp (disch := omega) only [Int32.le_iff_toInt_le, Int32.lt_iff_toInt_lt, z_eq, z_in, nI_toInt, z_cl, z_m1, z_sg, z_255, Int32.reduceToInt] <;> omega) | (simp only [Int32.le_iff_toInt_le, Int32.lt_iff_toInt_lt, z_eq, z_in, z_add, z_sub, z_mul, z_neg, z_nI, z_cl, z_sg, z_255, z_lit, Int32.reduceToInt] <;> omega))
    refine s_show b2.1 p2 hM (fun no => absurd ⟨ho, z1, z2⟩ no) (fun r' _ e' hr' hl' => ?_) (fun r' _ e' hr' hl' y' fy y0 yO => ?_)
    · exfalso
      have : r = r' := nI_inj (by omega) (by omega) (by rw [← e, ← e'])
      subst this
      omega
    · have : r = r' := nI_inj (by omega) (by omega) (by rw [← e, ← e'])
      subst this
      exact ⟨rfl, shw_keep hI xK xC fx fy xS yO hl⟩
theorem J_answer (h : Inv κ x y) : ∃ κ', Kle κ κ' ∧ ∀ kb nb, KP κ ≤ kb + KP κ' → NP κ ≤ nb + NP κ' → wp_V_answer (fun r x' => wp_Mod_answer (fun r' y' => r = r' ∧ Inv κ' x' y') l1 y) 0 l1 kb nb x := by
  have hI := h
  obtain ⟨b1, b2, b3, b4, b5, ⟨op, H, G, K, CK, b, dE, Pl, hq, Q, qo, qs, kp, on, P, a, c, la, h6, h7, h8⟩, b7, ⟨O, o1, o2, o3⟩⟩ := h
  obtain ⟨i1, -⟩ := h8.id
  have h6' := h6
  obtain ⟨p1, p2, p3, p4⟩ := h6
  obtain ⟨-, a12, -, -, aop, aC, aM⟩ := h8
  have hκ := b1.2.2.room b1.2.1
  obtain ⟨κ', k1, k2⟩ := k_answerQ (v := l1) i1 a12 aC (fun ho => (aop ho).1) b1.2.1 b1.2.2 hκ b1.1 o1.1 o1.2.1 p1 (fun ho => ⟨(p4 ho).1, (p4 ho).2.2.2.2.1⟩) p3
  have hM : on = true → RdM y H G CK Pl ∧ WfS H ∧ NmS H ∧ OkO H G CK ∧ CK.length = ncol H * G.length := fun ho => ⟨(h6'.rd (aop ho).1).1, (h6'.rd (aop ho).1).2.1, (p4 (aop ho).1).1.1.2.2.1, (h6'.rd (aop ho).1).2.2⟩
  refine ⟨κ', k1, fun kb nb hk hn => k2 _ kb nb hk hn (fun e x' xK xC fx xS => ?_) (fun r e hl x' xK xC fx xS => ?_) (fun r e hl x' xK xC fx xS => ?_)⟩
  · exact s_answer b2.1 aM hM (fun _ y' fy y0 y113 => ⟨rfl, shw_keep hI xK xC fx fy xS (OutM.nil y113) (by decide)⟩) (fun r' e' => by rw [e] at e'; exact nomatch e') (fun r' e' => by rw [e] at e'; exact nomatch e')
  · refine s_answer b2.1 aM hM (fun e' => by rw [e] at e'; exact nomatch e') (fun _ _ _ y' fy y0 y113 => ⟨rfl, shw_keep hI xK xC fx fy xS (OutM.nil y113) (by decide)⟩) (fun r' e' hl' => ?_)
    rw [e] at e'
    injection e' with e'
    subst e'
    exact absurd hl (by omega)
  · refine s_answer b2.1 aM hM (fun e' => by rw [e] at e'; exact nomatch e') (fun r' e' hl' => ?_) (fun r' e' hl' y' fy y0 yO => ?_)
    · rw [e] at e'
      injection e' with e'
      subst e'
      exact absurd hl (by omega)
    · rw [e] at e'
      injection e' with e'
      subst e'
      exact ⟨rfl, shw_keep hI xK xC fx fy xS yO hl⟩
end
