/-! a chunk is opened, model -/
def clp (m : Nat) : Nat := if m ≤ 40000 then m else 80000
theorem clp_le (m : Nat) : clp m ≤ 80000 := by unfold clp; split <;> omega
def KtM (x : St) (F : List SFd) (Q : List PV) (wh c : Nat) (t : ChT) : Prop := fA x 50 wh = nI (clp t.1) ∧ fA x 51 wh = nI (clp t.2.1) ∧ fA x 61 wh = nI t.2.2.1 ∧ fA x 62 wh = nI t.2.2.2.1 ∧ t.2.1 ≠ 0 ∧ t.2.2.1 ≤ 10000 ∧ t.2.2.2.1 ≤ t.2.2.1 ∧ (t.2.2.2.1 = t.2.2.1 → fA x 63 wh = -1 ∧ fA x 64 wh = -1) ∧ (t.2.2.2.1 < t.2.2.1 → ∃ a b, a < Q.length ∧ b < Q.length ∧ fA x 63 wh = nI a ∧ fA x 64 wh = nI b ∧ pvd Q a = t.2.2.2.2.1 ∧ pvd Q b = t.2.2.2.2.2 ∧ okPv (tyC F c) t.2.2.2.2.1 ∧ okPv (tyC F c) t.2.2.2.2.2)
abbrev FrKo (x y : St) : Prop := Fg (fun o k => o = 0 ∧ (38 ≤ k ∧ k ≤ 43 ∨ k = 58 ∨ k = 59 ∨ k = 67 ∨ k = 68 ∨ k = 69 ∨ k = 71 ∨ k = 86 ∨ k = 87 ∨ k = 88 ∨ k = 93 ∨ k = 94)) no2 no2 (fun a => a = 28 ∨ a = 29 ∨ a = 34 ∨ a = 35 ∨ a = 37 ∨ a = 38 ∨ a = 44 ∨ a = 45 ∨ a = 46 ∨ a = 48 ∨ a = 49 ∨ a = 52 ∨ a = 55 ∨ a = 56 ∨ a = 57 ∨ a = 58 ∨ a = 59 ∨ a = 60 ∨ a = 65 ∨ 66 ≤ a ∧ a ≤ 74) (fun a => a = 31 ∨ a = 32 ∨ a = 43 ∨ a = 47 ∨ a = 54) x y
section
variable {x : St} {F : List SFd} {T : Nat → Nat} {n c g row rows p : Nat} {Q : List PV} {E A E0 : List SEn} {PP : List OPg} {t : ChT}
theorem FrOp.ck {y : St} (f : FrOp x y) : FrKo x y := f.mono (fun _ _ z => z) (fun _ _ z => z) (fun _ _ z => z) (fun _ z => by omega) (fun _ z => z)
theorem FrKo.fi {y : St} (f : FrKo x y) (h : FiM x T n) : FiM y T n := h.cg (f.2.2.2.1 41 (by decide)) (fun o => by show y.2.2.2.2.2 o = _; rw [f.2.2.2.2.2])
theorem FrKo.rep {y : St} {q : Nat} (f : FrKo x y) (h : RepM x q F) : RepM y q F := by
  have e : ∀ a, 3 ≤ a → a ≤ 11 → fA y a = fA x a := fun a h1 h2 => f.2.2.2.1 a (by omega)
  unfold RepM
  rw [e 3 (by decide) (by decide), e 4 (by decide) (by decide), e 5 (by decide) (by decide), e 6 (by decide) (by decide), e 7 (by decide) (by decide), e 8 (by decide) (by decide), e 9 (by decide) (by decide), e 10 (by decide) (by decide), e 11 (by decide) (by decide)]
  exact h
theorem KtM.cg {y : St} {Z : List PV} {wh : Nat} (h : KtM x F Q wh c t) (e : ∀ r, r = 50 ∨ r = 51 ∨ r = 61 ∨ r = 62 ∨ r = 63 ∨ r = 64 → fA y r wh = fA x r wh) : KtM y F (Q ++ Z) wh c t := by
  obtain ⟨h1, h2, h3, h4, h5, h6, h7, h8, h9⟩ := h
  refine ⟨by rw [e 50 (by decide)]; exact h1, by rw [e 51 (by decide)]; exact h2, by rw [e 61 (by decide)]; exact h3, by rw [e 62 (by decide)]; exact h4, h5, h6, h7, fun z => by rw [e 63 (by decide), e 64 (by decide)]; exact h8 z, fun z => ?_⟩
  obtain ⟨a, b, a1, b1, a2, b2, a3, b3, ok⟩ := h9 z
  exact ⟨a, b, by rw [List.length_append]; omega, by rw [List.length_append]; omega, by rw [e 63 (by decide)]; exact a2, by rw [e 64 (by decide)]; exact b2, by rw [pvd_l a1]; exact a3, by rw [pvd_l b1]; exact b3, ok⟩
theorem kv_un {ty : Nat} {V : List PV} (ok : ∀ v, v ∈ V → okPv ty v) (h : V ≠ []) {a b : PV} (ha : IsMn ty V a) (hb : IsMx ty V b) : kv ty (mnV ty V) = kv ty a ∧ kv ty (mxV ty V) = kv ty b := by
  have hl : V.length ≠ 0 := fun z => h (List.length_eq_zero_iff.mp z)
  have q := mn_is (ty := ty) (P := V) (fun i hi => (ok _ (pvd_mem hi)).v) (V.length - 1) (by omega)
  rw [show V.length - 1 + 1 = V.length by omega, List.take_length] at q
  exact ⟨ltV_tot (ha.2 _ q.1.1) (q.1.2 _ ha.1), ltV_tot (q.2.2 _ hb.1) (hb.2 _ q.2.1)⟩
theorem s_openChunk {post : St → Prop} (hF : FiM x T n) (hw : WfS F) (hR : RepM x 1 F) (hc : c < ncol F) (h0 : fI x 0 69 = 0) (hp : fI x 0 67 = nI p) (hb : p + t.1 ≤ n) (h34 : fA x 34 0 = 0) (hO : OsM x F Q E PP) (h88 : fI x 0 88 = nI (tx E)) (hE : E.length ≤ 10000) (hPP : PP.length ≤ E.length) (htx : tx E ≤ 60000) (hQ : Q.length ≤ 20000 + 2 * E.length) (hoQ : oF Q Q.length ≤ 40000 + tx E + p) (hok : ∀ e, e ∈ E → okE F e)
    (hK : KtM x F Q (ncol F * g + c) c t) (hg : g < 500) (h53 : fA x 53 g = nI rows) (hrows : rows ≤ 2000) (hrow : row ≤ 2000) (hwh : ncol F * g + c < 13400) (hpr : c ≠ 0 → E = E0 ++ A ∧ fA x 65 (ncol F * g + c - 1) = nI E0.length)
    (pe : ∀ e k y, ckO T F c t rows A E p = .error (e, k) → FrKo x y → Flt y e → fA y 34 0 = 0 → fA y 52 0 = nI g → fA y 52 1 = nI c → fA y 52 2 = k → post y)
    (pk : ∀ G q Z y, ckO T F c t rows A E p = .ok (G, q) → FrKo x y → fI y 0 69 = 0 → fI y 0 67 = nI q → OsM y F (Q ++ Z) (E ++ ckC G) (PP ++ pgP c row G) → fI y 0 88 = nI (tx (E ++ ckC G)) → (E ++ ckC G).length ≤ 10000 → (PP ++ pgP c row G).length ≤ (E ++ ckC G).length → tx (E ++ ckC G) ≤ 60000 → (Q ++ Z).length ≤ 20000 + 2 * (E ++ ckC G).length → oF (Q ++ Z) (Q ++ Z).length ≤ 40000 + tx (E ++ ckC G) + q → (∀ e, e ∈ ckC G → okE F e ∧ e.1 = c) → fA y 34 0 = 0 → fA y 52 2 = -1 → q = p + t.1 → (∀ k, k ≠ ncol F * g + c → k ≠ ncol F * g + c + 1 → fA y 65 k = fA x 65 k) → fA y 65 (ncol F * g + c) = nI E.length → fA y 65 (ncol F * g + c + 1) = nI (E ++ ckC G).length → post y) : wp_Mod_openChunk post (nI g) (nI c) (nI row) x := by
  have hn := hF.2.1
  have hT := hF.2.2.1
  have hL := hF.1
  have hC := hw.2.1
  obtain ⟨ty1, ty2⟩ := tyC_ok hw hc
  have n10 : fN x 10 = 3 := hL 10
  have n52 : fN x 52 = 3 := hL 52
  have n50 : fN x 50 = 13400 := hL 50
  have n51 : fN x 51 = 13400 := hL 51
  have n53 : fN x 53 = 500 := hL 53
  have n61 : fN x 61 = 13400 := hL 61
  have n62 : fN x 62 = 13400 := hL 62
  have n63 : fN x 63 = 13400 := hL 63
  have n64 : fN x 64 = 13400 := hL 64
  have n65 : fN x 65 = 13401 := hL 65
  have n68 : fN x 68 = 10000 := hL 68
  generalize hwe : ncol F * g + c = wh at *
  have ebytes : clp t.1 = t.1 := by unfold clp; rw [if_pos (by omega)]
  have r10 : rA x 10 1 = nI (ncol F) := by
    show fA x 10 (Int32.toNatClampNeg 1) = _
    rw [show (1 : Int32).toNatClampNeg = 1 from rfl]
    exact hR.2.1
  unfold wp_Mod_openChunk
  refine ⟨vp_in_nI (n := 1) (N := fN x 10) (by omega) (by omega), nm_r (e' := nI wh) (by rw [r10, nI_mul, nI_add, hwe]) ⟨vp_in_nI (n := 0) (N := fN x 52) (by omega) (by omega), nm_e ⟨vp_in_nI (n := 1) (N := fN x 52) (by omega) (by omega), nm_e ?_⟩⟩⟩
  rw [show (0 : Int32) = nI 0 from rfl, show (1 : Int32) = nI 1 from rfl]
  generalize hx1 : setA (setA x 52 (nI 0) (nI g)) 52 (nI 1) (nI c) = x1
  have xI : ∀ o k, fI x1 o k = fI x o k := fun o k => by rw [← hx1]; rfl
  have xL : ∀ a, fL x1 a = fL x a := fun a => by rw [← hx1]; rfl
  have xA : ∀ r, r ≠ 52 → fA x1 r = fA x r := fun r hr => by rw [← hx1, gA_ne hr, gA_ne hr]
  have x520 : fA x1 52 0 = nI g := by rw [← hx1, gA_off (by decide) (by decide), gA_on (by decide)]
  have x521 : fA x1 52 1 = nI c := by rw [← hx1, gA_on (by decide)]
  have fx1 : FrKo x x1 := by
    rw [← hx1]
    exact Fg.trans (Fg.a (by decide)) (Fg.a (by decide))
  have xN : ∀ o, fN x1 o = fN x o := fun o => by rw [← hx1]; rfl
  clear hx1
  refine ⟨by rw [xN]; exact vp_in_nI (by omega) (by omega), nm_r (e' := nI (p + t.1)) ?_ (nm_r (e' := nI E.length) ((xI 0 87).trans hO.2.1) (nm_r (e' := nI PP.length) ((xI 0 86).trans hO.2.2.1) ⟨by rw [xN]; exact vp_in_nI (by omega) (by omega), nm_e ?_⟩))⟩
  · rw [xI, hp, rA_nI (by omega), xA 50 (by decide), hK.1, ebytes, nI_add]
  generalize hx2 : setA x1 65 (nI wh) (nI E.length) = x2
  have x2I : ∀ o k, fI x2 o k = fI x o k := fun o k => by rw [← hx2]; exact xI o k
  have x2L : ∀ a, fL x2 a = fL x a := fun a => by rw [← hx2]; exact xL a
  have x2A : ∀ r, r ≠ 52 → r ≠ 65 → fA x2 r = fA x r := fun r hr hr2 => by rw [← hx2, gA_ne hr2]; exact xA r hr
  have x2520 : fA x2 52 0 = nI g := by rw [← hx2, gA_ne (by decide)]; exact x520
  have x2521 : fA x2 52 1 = nI c := by rw [← hx2, gA_ne (by decide)]; exact x521
  have x265 : fA x2 65 wh = nI E.length := by rw [← hx2, gA_on (by omega)]
  have x265' : ∀ k, k ≠ wh → fA x2 65 k = fA x 65 k := fun k hk => by rw [← hx2, gA_off (by omega) hk, xA 65 (by decide)]
  have fx2 : FrKo x x2 := by
    rw [← hx2]
    exact Fg.trans fx1 (Fg.a (by decide))
  have x2N : ∀ o, fN x2 o = fN x o := fun o => by rw [← hx2]; exact xN o
  clear hx2 xI xL xA x520 x521 fx1 xN
  -- what the chunk's rows hold, however far it is
  have told : ∀ (u : St), FrKo x u → ∀ r, r = 50 ∨ r = 51 ∨ r = 53 ∨ r = 61 ∨ r = 62 ∨ r = 63 ∨ r = 64 → fA u r = fA x r := fun u hu r hr => hu.2.2.2.1 r (by omega)
  have uN : ∀ (u : St), FrKo x u → ∀ o, fN u o = fN x o := fun u hu o => by show u.2.2.2.2.2 o = _; rw [hu.2.2.2.2.2]
  have v51 : ∀ u, FrKo x u → vp_in (nI wh) (fN u 51) := fun u hu => by rw [uN u hu]; exact vp_in_nI (by omega) (by omega)
  have r51 : ∀ u, FrKo x u → rA u 51 (nI wh) = nI (clp t.2.1) := fun u hu => by rw [rA_nI (by omega), told u hu 51 (by decide)]; exact hK.2.1
  have cl80 := clp_le t.2.1
  -- behind a fault in a page
  have F134 : ∀ (u : St) e k l8 l9, Flt u e → pgsO T F c (p + t.1) t.2.1 [] E p = .error (e, k) → FrKo x u → fA u 34 0 = 0 → fA u 52 0 = nI g → fA u 52 1 = nI c → fA u 52 2 = nI k → j_Mod_openChunk_134 post (nI g) (nI c) (nI row) (nI wh) (nI (p + t.1)) (nI E.length) (nI PP.length) l8 l9 u := fun u e k l8 l9 hf he hu h34u a0 a1 a2 => by
    unfold j_Mod_openChunk_134
    refine br_f hf.ne (pe e (nI k) u ?_ hu hf h34u a0 a1 a2)
    unfold ckO
    rw [he]
  refine lp_Mod_openChunk_67 (fun a0 a1 a2 a3 a4 a5 a6 a7 a8 u => nI g = a0 ∧ nI c = a1 ∧ nI row = a2 ∧ nI wh = a3 ∧ nI (p + t.1) = a4 ∧ nI E.length = a5 ∧ nI PP.length = a6 ∧ FrKo x u ∧ fA u 34 0 = 0 ∧ fA u 52 0 = nI g ∧ fA u 52 1 = nI c ∧ fA u 65 = fA x2 65 ∧ ∃ j, nI j = a8 ∧ j ≤ 4001 ∧ ((∃ e k, pgsO T F c (p + t.1) t.2.1 [] E p = .error (e, k) ∧ Flt u e ∧ fA u 52 2 = nI k) ∨ (∃ G Z q, G.length = j ∧ j ≤ t.2.1 ∧ pgsO T F c (p + t.1) t.2.1 [] E p = pgsO T F c (p + t.1) (t.2.1 - j) G (E ++ ckC G) q ∧ p + 10 * j ≤ q ∧ q ≤ p + t.1 ∧ a7 = nI (nR (ckC G)) ∧ fI u 0 69 = 0 ∧ fI u 0 67 = nI q ∧ OsM u F (Q ++ Z) (E ++ ckC G) (PP ++ pgP c row G) ∧ fI u 0 88 = nI (tx (E ++ ckC G)) ∧ (E ++ ckC G).length ≤ 10000 ∧ (PP ++ pgP c row G).length ≤ (E ++ ckC G).length ∧ tx (E ++ ckC G) ≤ 60000 ∧ (Q ++ Z).length ≤ 20000 + 2 * (E ++ ckC G).length ∧ oF (Q ++ Z) (Q ++ Z).length ≤ 40000 + tx (E ++ ckC G) + q ∧ (∀ e, e ∈ ckC G → okE F e ∧ e.1 = c) ∧ (j ≠ 0 → fI u 0 38 = nI (tyC F c))))) (fun _ _ _ _ _ _ _ _ a8 _ => 5000 - a8.toNatClampNeg) ?_ _ _ _ _ _ _ _ _ _ _ ⟨rfl, rfl, rfl, rfl, rfl, rfl, rfl, fx2, by rw [x2A 34 (by decide) (by decide)]; exact h34, x2520, x2521, rfl, 0, rfl, by decide, Or.inr ⟨[], [], p, rfl, Nat.zero_le _, by rw [show ckC [] = [] from rfl, List.append_nil]; rfl, Nat.le_refl _, by omega, rfl, (x2I 0 69).trans h0, (x2I 0 67).trans hp, ?_, ?_, ?_, ?_, ?_, ?_, ?_, fun e he => absurd he (by simp [ckC]), fun z => absurd rfl z⟩⟩
  · rintro S a0 a1 a2 a3 a4 a5 a6 a7 a8 u ⟨rfl, rfl, rfl, rfl, rfl, rfl, rfl, fu, u34, u520, u521, u65, j, rfl, j1, hj⟩ ih
    unfold j_Mod_openChunk_67
    rw [r51 u fu]
    refine ⟨v51 u fu, ?_⟩
    rcases hj with ⟨e, k, e1, e2, e3⟩ | ⟨G, Z, q, G1, G2, G3, G4, G5, rfl, G7, G8, G9, G10, G11, G12, G13, G14, G15, G16, G17⟩
    · exact ⟨fun _ => F134 u e k _ _ e2 e1 fu u34 u520 u521 e3, fun _ => ⟨fun _ => F134 u e k _ _ e2 e1 fu u34 u520 u521 e3, fun z => absurd z e2.ne⟩⟩
    · have jb : j ≤ 4000 := by omega
      have nRl := nR_le (ckC G)
      have lC : (E ++ ckC G).length = E.length + (ckC G).length := List.length_append
      by_cases cj : j < t.2.1
      · have cc : j < clp t.2.1 := by unfold clp; split <;> omega
        refine br_f (by (first | omega | (simp (disch := omega) only [Int32.le_iff_toInt_le, Int32.lt_iff_toInt_lt, z_eq, z_in, nI_toInt, z_cl, z_m1, z_sg, z_255, Int32.reduceToInt] <;> omega) | (simp only [Int32.le_iff_toInt_le, Int32.lt_iff_toInt_lt, z_eq, z_in, z_add, z_sub, z_mul, z_neg, z_nI, z_cl, z_sg, z_255, z_lit, Int32.reduceToInt] <;> omega))) ⟨fun z => absurd G7 z, fun _ => ⟨by rw [uN u fu]; exact vp_in_nI (n := 2) (by omega) (by omega), nm_e ?_⟩⟩
        rw [nI_add, show (2 : Int32) = nI 2 from rfl]
        generalize hv : setA u 52 (nI 2) (nI j) = v
        have vI : ∀ o k, fI v o k = fI u o k := fun o k => by rw [← hv]; rfl
        have vL : ∀ a, fL v a = fL u a := fun a => by rw [← hv]; rfl
        have vA : ∀ r, r ≠ 52 → fA v r = fA u r := fun r hr => by rw [← hv, gA_ne hr]
        have v520 : fA v 52 0 = nI g := by rw [← hv, gA_off (by decide) (by decide)]; exact u520
        have v521 : fA v 52 1 = nI c := by rw [← hv, gA_off (by decide) (by decide)]; exact u521
        have v522 : fA v 52 2 = nI j := by rw [← hv, gA_on (by decide)]
        have fv : FrKo x v := by
          rw [← hv]
          exact Fg.trans fu (Fg.a (by decide))
        clear hv
        have st1 : pgsO T F c (p + t.1) t.2.1 [] E p = (match pgO T F c (E ++ ckC G).length (tx (E ++ ckC G)) (p + t.1) q with
          | .error e => .error (e, G.length)
          | .ok (g, q') => pgsO T F c (p + t.1) (t.2.1 - (j + 1)) (G ++ [g]) ((E ++ ckC G) ++ g.1) q') := by
          rw [G3, show t.2.1 - j = (t.2.1 - (j + 1)) + 1 by omega]
          rfl
        refine s_openPage (row := row + nR (ckC G)) (fv.fi hF) hw (fv.rep hR) hc ((vI 0 69).trans G7) ((vI 0 67).trans G8) G5 hb (by rw [vA 34 (by decide)]; exact u34) (G9.cg (fun k _ => vI 0 k) (fun r r1 r2 r3 => vA r (by omega)) (vL 54)) ((vI 0 88).trans G10) G11 G12 G13 G14 G15 (fun e y y1 y2 y3 y4 => ?_) (fun L W q' Z' y y1 y2 y3 y4 y5 y6 y7 y8 y9 y10 y11 y12 y13 y14 y15 y16 => ?_)
        · refine ⟨fun _ => ?_, fun z => absurd z y3.ne⟩
          unfold j_Mod_openChunk_128
          rw [nI_1]
          have w52 : fA y 52 = fA v 52 := y2.2.2.2.1 52 (by decide)
          refine ih _ _ _ _ _ _ _ _ _ _ ⟨rfl, rfl, rfl, rfl, rfl, rfl, rfl, Fg.trans fv y2.ck, y4, by rw [w52]; exact v520, by rw [w52]; exact v521, (y2.2.2.2.1 65 (by decide)).trans ((vA 65 (by decide)).trans u65), j + 1, rfl, by omega, Or.inl ⟨e, j, ?_, y3, by rw [w52]; exact v522⟩⟩ (by rw [nI_clamp (by omega), nI_clamp (by omega)]; omega)
          rw [st1, y1, G1]
        · refine ⟨fun z => absurd y3 z, fun _ => ?_⟩
          have w52 : fA y 52 = fA v 52 := y2.2.2.2.1 52 (by decide)
          have lpp : (PP ++ pgP c row G).length = PP.length + G.length := by rw [List.length_append, pgP_len]
          have e86 : fI y 0 86 - 1 = nI (PP ++ pgP c row G).length := by
            rw [y5.2.2.1, List.length_append, show [(c, row + nR (ckC G), L, W)].length = 1 from rfl, show (1 : Int32) = nI 1 from rfl, nI_sub (by omega), Nat.add_sub_cancel]
          rw [e86]
          have p10 := pgO_ok hw hc hT y1
          refine ⟨by rw [show fN y 68 = fN x 68 from uN y (Fg.trans fv y2.ck) 68]; exact vp_in_nI (by omega) (by omega), nm_r (e' := nI (nR (ckC (G ++ [(L, W)])))) (by rw [rA_nI (by omega), y16, nI_add, ckC_add, nR_app]) ?_⟩
          unfold j_Mod_openChunk_128
          rw [nI_1]
          have eC : E ++ ckC (G ++ [(L, W)]) = (E ++ ckC G) ++ L := by rw [ckC_add, List.append_assoc]
          have eP : PP ++ pgP c row (G ++ [(L, W)]) = (PP ++ pgP c row G) ++ [(c, row + nR (ckC G), L, W)] := by rw [pgP_add, List.append_assoc]
          have eZ : Q ++ (Z ++ Z') = (Q ++ Z) ++ Z' := (List.append_assoc _ _ _).symm
          refine ih _ _ _ _ _ _ _ _ _ _ ⟨rfl, rfl, rfl, rfl, rfl, rfl, rfl, Fg.trans fv y2.ck, y9, by rw [w52]; exact v520, by rw [w52]; exact v521, (y2.2.2.2.1 65 (by decide)).trans ((vA 65 (by decide)).trans u65), j + 1, rfl, by omega, Or.inr ⟨G ++ [(L, W)], Z ++ Z', q', by rw [List.length_append, G1]; rfl, by omega, ?_, by omega, y12, rfl, y3, y4, ?_, ?_, ?_, ?_, ?_, ?_, ?_, ?_, fun _ => y10⟩⟩ (by rw [nI_clamp (by omega), nI_clamp (by omega)]; omega)
          · rw [st1, y1, eC]
          · rw [eZ, eC, eP]; exact y5
          · rw [eC]; exact y6
          · rw [eC]; exact y14
          · rw [eC, eP, List.length_append (as := PP ++ pgP c row G), List.length_append (as := E ++ ckC G), show [(c, row + nR (ckC G), L, W)].length = 1 from rfl]
            omega
          · rw [eC]; exact y15
          · rw [eZ, eC]; exact y7
          · rw [eZ, eC]; exact y8
          · intro e he
            rw [ckC_add] at he
            rcases List.mem_append.mp he with z | z
            · exact G16 e z
            · exact p10.2.2.2.2.2.2.1 e z
      · have ej : j = t.2.1 := by omega
        subst ej
        rw [Nat.sub_self] at G3
        have G3 : pgsO T F c (p + t.1) t.2.1 [] E p = .ok (G, q) := G3
        have eo : ckO T F c t rows A E p = (if q < p + t.1 then .error (6, -1) else if ckE F c t rows A (ckC G) ≠ 0 then .error (ckE F c t rows A (ckC G), -1) else .ok (G, q)) := by
          unfold ckO
          rw [G3]
        have ec : clp t.2.1 = t.2.1 := by unfold clp; rw [if_pos (by omega)]
        rw [ec]
        refine br_t (by (first | omega | (simp (disch := omega) only [Int32.le_iff_toInt_le, Int32.lt_iff_toInt_lt, z_eq, z_in, nI_toInt, z_cl, z_m1, z_sg, z_255, Int32.reduceToInt] <;> omega) | (simp only [Int32.le_iff_toInt_le, Int32.lt_iff_toInt_lt, z_eq, z_in, z_add, z_sub, z_mul, z_neg, z_nI, z_cl, z_sg, z_255, z_lit, Int32.reduceToInt] <;> omega))) ?_
        unfold j_Mod_openChunk_134
        refine br_t G7 ⟨by rw [uN u fu]; exact vp_in_nI (n := 2) (by omega) (by omega), nm_e ?_⟩
        rw [show (2 : Int32) = nI 2 from rfl]
        generalize hv : setA u 52 (nI 2) (-1) = v
        have vI : ∀ o k, fI v o k = fI u o k := fun o k => by rw [← hv]; rfl
        have vL : ∀ a, fL v a = fL u a := fun a => by rw [← hv]; rfl
        have vA : ∀ r, r ≠ 52 → fA v r = fA u r := fun r hr => by rw [← hv, gA_ne hr]
        have v520 : fA v 52 0 = nI g := by rw [← hv, gA_off (by decide) (by decide)]; exact u520
        have v521 : fA v 52 1 = nI c := by rw [← hv, gA_off (by decide) (by decide)]; exact u521
        have v522 : fA v 52 2 = -1 := by rw [← hv, gA_on (by decide)]
        have fv : FrKo x v := by
          rw [← hv]
          exact Fg.trans fu (Fg.a (by decide))
        clear hv
        have V69 : fI v 0 69 = 0 := (vI 0 69).trans G7
        have V38 : fI v 0 38 = nI (tyC F c) := (vI 0 38).trans (G17 hK.2.2.2.2.1)
        have Ov : OsM v F (Q ++ Z) (E ++ ckC G) (PP ++ pgP c row G) := G9.cg (fun k _ => vI 0 k) (fun r r1 r2 r3 => vA r (by omega)) (vL 54)
        have V34 : fA v 34 0 = 0 := by rw [vA 34 (by decide)]; exact u34
        have hQZ := Ov.1.2.2.1
        -- states that differ from v in the fault alone
        have sub : ∀ e : Nat, ∃ w : St, setI v 0 69 (nI e) = w ∧ (∀ k, k ≠ 69 → fI w 0 k = fI v 0 k) ∧ (∀ r, fA w r = fA v r) ∧ (∀ r, fL w r = fL v r) ∧ FrKo x w ∧ OsM w F (Q ++ Z) (E ++ ckC G) (PP ++ pgP c row G) := fun e => ⟨_, rfl, fun k hk => gI_ne hk, fun _ => rfl, fun _ => rfl, Fg.trans fv (Fg.i ⟨rfl, by decide⟩), Ov.cg (fun k hk => gI_ne (by omega)) (fun _ _ _ _ => rfl) rfl⟩
        -- behind a fault
        have f453 : ∀ e l9 l10 l11 l12, 0 < e → e < 100 → ckO T F c t rows A E p = .error (e, -1) → j_Mod_openChunk_453 post (nI g) (nI c) (nI row) (nI wh) (nI (p + t.1)) (nI E.length) (nI PP.length) (nI (nR (ckC G))) l9 l10 l11 l12 (setI v 0 69 (nI e)) := fun e l9 l10 l11 l12 e0 e1 he => by
          obtain ⟨w, hw', w1, w2, w3, w4, w5⟩ := sub e
          have wf : Flt w e := ⟨by rw [← hw']; exact gI_at, e0, e1⟩
          rw [hw']
          unfold j_Mod_openChunk_453
          rw [nI_1]
          refine ⟨by rw [uN w w4]; exact vp_in_nI (by omega) (by omega), nm_e ⟨fun _ => ?_, fun z => absurd z wf.ne⟩⟩
          refine pe e (-1) _ he (Fg.trans w4 (Fg.a (by decide))) wf ?_ ?_ ?_ ?_
          · rw [gA_ne (by decide), w2]; exact V34
          · rw [gA_ne (by decide), w2]; exact v520
          · rw [gA_ne (by decide), w2]; exact v521
          · rw [gA_ne (by decide), w2]; exact v522
        have f409 : ∀ e l9 l10 l11 l12, 0 < e → e < 100 → ckO T F c t rows A E p = .error (e, -1) → j_Mod_openChunk_409 post (nI g) (nI c) (nI row) (nI wh) (nI (p + t.1)) (nI E.length) (nI PP.length) (nI (nR (ckC G))) l9 l10 l11 l12 (setI v 0 69 (nI e)) := fun e l9 l10 l11 l12 e0 e1 he => by
          have wf : Flt (setI v 0 69 (nI e)) e := ⟨gI_at, e0, e1⟩
          unfold j_Mod_openChunk_409
          exact ⟨fun _ => f453 e _ _ _ _ e0 e1 he, fun z => absurd z wf.ne⟩
        have f360 : ∀ e l9 l10 l11 l12 s0, 0 < e → e < 100 → ckO T F c t rows A E p = .error (e, -1) → j_Mod_openChunk_360 post (nI g) (nI c) (nI row) (nI wh) (nI (p + t.1)) (nI E.length) (nI PP.length) (nI (nR (ckC G))) l9 l10 l11 l12 s0 (setI v 0 69 (nI e)) := fun e l9 l10 l11 l12 s0 e0 e1 he => by
          have wf : Flt (setI v 0 69 (nI e)) e := ⟨gI_at, e0, e1⟩
          unfold j_Mod_openChunk_360
          exact s_flt wf.ne ⟨fun _ => f409 e _ _ _ _ e0 e1 he, fun z => absurd z wf.ne⟩
        have cC : (ckC G).length ≤ 10000 := by omega
        have f221 : ∀ e, 0 < e → e < 100 → ckO T F c t rows A E p = .error (e, -1) → ∃ n : Nat, wl_Mod_openChunk_221 post n (nI g) (nI c) (nI row) (nI wh) (nI (p + t.1)) (nI E.length) (nI PP.length) (nI (nR (ckC G))) 0 (-1) (-1) (nI PP.length) (setI v 0 69 (nI e)) := fun e e0 e1 he => by
          obtain ⟨w, hw', w1, w2, w3, w4, w5⟩ := sub e
          rw [hw']
          refine s_ckL (w4.fi hF).1 ty2 w5 (by omega) G16 cC ((w1 38 (by decide)).trans V38) (fun S lo hi _ => ?_)
          unfold j_Mod_openChunk_221
          rw [w5.2.2.1]
          refine br_t (by (first | omega | (simp (disch := omega) only [Int32.le_iff_toInt_le, Int32.lt_iff_toInt_lt, z_eq, z_in, nI_toInt, z_cl, z_m1, z_sg, z_255, Int32.reduceToInt] <;> omega) | (simp only [Int32.le_iff_toInt_le, Int32.lt_iff_toInt_lt, z_eq, z_in, z_add, z_sub, z_mul, z_neg, z_nI, z_cl, z_sg, z_255, z_lit, Int32.reduceToInt] <;> omega))) ⟨by rw [uN w w4]; exact vp_in_nI (by omega) (by omega), ?_⟩
          have := fun s0 => f360 e (nI ((ckC G).length - (vlE (mdC F c) (ckC G)).length)) lo hi (nI (PP ++ pgP c row G).length) s0 e0 e1 he
          rw [hw'] at this
          exact ⟨fun _ => this 0, fun _ => this 1⟩
        have f203 : ∀ e s0, 0 < e → e < 100 → ckO T F c t rows A E p = .error (e, -1) → j_Mod_openChunk_203 post (nI g) (nI c) (nI row) (nI wh) (nI (p + t.1)) (nI E.length) (nI PP.length) (nI (nR (ckC G))) (nI t.2.1) s0 (setI v 0 69 (nI e)) := fun e s0 e0 e1 he => by
          have wf : Flt (setI v 0 69 (nI e)) e := ⟨gI_at, e0, e1⟩
          unfold j_Mod_openChunk_203
          exact s_flt wf.ne (f221 e e0 e1 he)
        have r61 : ∀ w, FrKo x w → vp_in (nI wh) (fN w 61) ∧ rA w 61 (nI wh) = nI t.2.2.1 := fun w fw => ⟨by rw [uN w fw]; exact vp_in_nI (by omega) (by omega), by rw [rA_nI (by omega), told w fw 61 (by decide)]; exact hK.2.2.1⟩
        have r53 : ∀ w, FrKo x w → vp_in (nI g) (fN w 53) ∧ rA w 53 (nI g) = nI rows := fun w fw => ⟨by rw [uN w fw]; exact vp_in_nI (by omega) (by omega), by rw [rA_nI (by omega), told w fw 53 (by decide)]; exact h53⟩
        rw [(vI 0 67).trans G8]
        unfold j_Mod_openChunk_164
        by_cases c6 : q < p + t.1
        · rw [if_pos c6] at eo
          refine br_f (by (first | omega | (simp (disch := omega) only [Int32.le_iff_toInt_le, Int32.lt_iff_toInt_lt, z_eq, z_in, nI_toInt, z_cl, z_m1, z_sg, z_255, Int32.reduceToInt] <;> omega) | (simp only [Int32.le_iff_toInt_le, Int32.lt_iff_toInt_lt, z_eq, z_in, z_add, z_sub, z_mul, z_neg, z_nI, z_cl, z_sg, z_255, z_lit, Int32.reduceToInt] <;> omega))) (s_fl1 V69 ?_)
          have fw : FrKo x (setI v 0 69 6) := Fg.trans fv (Fg.i ⟨rfl, by decide⟩)
          have f2 : ∀ s0, j_Mod_openChunk_203 post (nI g) (nI c) (nI row) (nI wh) (nI (p + t.1)) (nI E.length) (nI PP.length) (nI (nR (ckC G))) (nI t.2.1) s0 (setI v 0 69 6) := fun s0 => f203 6 s0 (by decide) (by decide) eo
          unfold j_Mod_openChunk_198
          exact ⟨(r61 _ fw).1, fun _ => f2 1, fun _ => ⟨(r53 _ fw).1, fun _ => f2 0, fun _ => f2 1⟩⟩
        · rw [if_neg c6] at eo
          refine br_t (by (first | omega | (simp (disch := omega) only [Int32.le_iff_toInt_le, Int32.lt_iff_toInt_lt, z_eq, z_in, nI_toInt, z_cl, z_m1, z_sg, z_255, Int32.reduceToInt] <;> omega) | (simp only [Int32.le_iff_toInt_le, Int32.lt_iff_toInt_lt, z_eq, z_in, z_add, z_sub, z_mul, z_neg, z_nI, z_cl, z_sg, z_255, z_lit, Int32.reduceToInt] <;> omega))) (s_fl0 ?_)
          rw [(r61 v fv).2, (r53 v fv).2, show fI v 0 87 = nI (E ++ ckC G).length from Ov.2.1, nI_sub (by omega), show (E ++ ckC G).length - E.length = (ckC G).length by omega]
          refine ⟨(r61 v fv).1, ?_⟩
          have hK6 := hK.2.2.2.2.2.1
          have bad16 : (ckC G).length ≠ t.2.2.1 ∨ nR (ckC G) ≠ rows → j_Mod_openChunk_198 post (nI g) (nI c) (nI row) (nI wh) (nI (p + t.1)) (nI E.length) (nI PP.length) (nI (nR (ckC G))) (nI t.2.1) v := fun hbad => by
            have ek : ckE F c t rows A (ckC G) = 16 := by unfold ckE; rw [if_pos hbad]
            rw [ek, if_pos (by decide)] at eo
            unfold j_Mod_openChunk_198 j_Mod_openChunk_203
            exact s_fl1 V69 (f221 16 (by decide) (by decide) eo)
          by_cases c16 : (ckC G).length = t.2.2.1
          · refine bn_t (by rw [c16]) ⟨(r53 v fv).1, ?_⟩
            by_cases c16' : nR (ckC G) = rows
            · refine br_t (by rw [c16']) ?_
              unfold j_Mod_openChunk_203
              refine s_fl0 ?_
              have okV : ∀ u, u ∈ vlE (mdC F c) (ckC G) → okPv (tyC F c) u := fun u hu => by
                obtain ⟨e, e1, e2, e3⟩ := vlE_mem hu
                obtain ⟨q1, q2⟩ := G16 e e1
                have := q1.2.2.2.1
                rw [q2, e3] at this
                exact this e2
              have hvl := vlE_le (md := mdC F c) (ckC G)
              refine s_ckL (fv.fi hF).1 ty2 Ov (by omega) G16 cC V38 (fun S lo hi hbd => ?_)
              unfold j_Mod_openChunk_221
              rw [Ov.2.2.1]
              refine br_t (by (first | omega | (simp (disch := omega) only [Int32.le_iff_toInt_le, Int32.lt_iff_toInt_lt, z_eq, z_in, nI_toInt, z_cl, z_m1, z_sg, z_255, Int32.reduceToInt] <;> omega) | (simp only [Int32.le_iff_toInt_le, Int32.lt_iff_toInt_lt, z_eq, z_in, z_add, z_sub, z_mul, z_neg, z_nI, z_cl, z_sg, z_255, z_lit, Int32.reduceToInt] <;> omega))) ⟨by rw [uN v fv]; exact vp_in_nI (by omega) (by omega), ?_⟩
              rw [show rA v 62 (nI wh) = nI t.2.2.2.1 from by rw [rA_nI (by omega), told v fv 62 (by decide)]; exact hK.2.2.2.1]
              have hK7 := hK.2.2.2.2.2.2.1
              unfold j_Mod_openChunk_360
              have Kv : KtM v F (Q ++ Z) wh c t := hK.cg (fun r hr => by rw [told v fv r (by omega)])
              -- the end of it
              have last : ckE F c t rows A (ckC G) = (if c ≠ 0 ∧ aprt F (lfC F (c - 1)) (lfC F c) A (ckC G) then 21 else 0) → ∀ l9 l12, j_Mod_openChunk_453 post (nI g) (nI c) (nI row) (nI wh) (nI (p + t.1)) (nI E.length) (nI PP.length) (nI (nR (ckC G))) l9 lo hi l12 v := fun hck l9 l12 => by
                unfold j_Mod_openChunk_453
                rw [nI_1, show fI v 0 87 = nI (E ++ ckC G).length from Ov.2.1]
                refine ⟨by rw [uN v fv]; exact vp_in_nI (by omega) (by omega), nm_e ⟨fun z => absurd V69 z, fun _ => ?_⟩⟩
                generalize hy : setA v 65 (nI (wh + 1)) (nI (E ++ ckC G).length) = y
                have yI : ∀ o k, fI y o k = fI v o k := fun o k => by rw [← hy]; rfl
                have yL : ∀ a, fL y a = fL v a := fun a => by rw [← hy]; rfl
                have yA : ∀ r, r ≠ 65 → fA y r = fA v r := fun r hr => by rw [← hy, gA_ne hr]
                have y65 : fA y 65 (wh + 1) = nI (E ++ ckC G).length := by rw [← hy, gA_on (by omega)]
                have y65' : ∀ k, k ≠ wh + 1 → fA y 65 k = fA x2 65 k := fun k hk => by rw [← hy, gA_off (by omega) hk, vA 65 (by decide), u65]
                have fy : FrKo x y := by
                  rw [← hy]
                  exact Fg.trans fv (Fg.a (by decide))
                clear hy
                have Oy : OsM y F (Q ++ Z) (E ++ ckC G) (PP ++ pgP c row G) := Ov.cg (fun k _ => yI 0 k) (fun r r1 r2 r3 => yA r (by omega)) (yL 54)
                have y52 : fA y 52 = fA v 52 := yA 52 (by decide)
                have y34 : fA y 34 0 = 0 := by rw [yA 34 (by decide)]; exact V34
                have fine : ckE F c t rows A (ckC G) = 0 → post y := fun hz => by
                  rw [hz, if_neg (fun w => w rfl)] at eo
                  refine pk G q Z y eo fy ((yI 0 69).trans V69) ((yI 0 67).trans ((vI 0 67).trans G8)) Oy ((yI 0 88).trans ((vI 0 88).trans G10)) G11 G12 G13 G14 G15 G16 y34 (by rw [y52]; exact v522) (by omega) (fun k k1 k2 => ?_) ?_ y65
                  · rw [y65' k k2]; exact x265' k k1
                  · rw [y65' wh (by omega)]; exact x265
                by_cases c0 : c = 0
                · rw [if_neg (fun w => w.1 c0)] at hck
                  exact br_t (by rw [c0]; decide) (fine hck)
                · refine br_f (by (first | omega | (simp (disch := omega) only [Int32.le_iff_toInt_le, Int32.lt_iff_toInt_lt, z_eq, z_in, nI_toInt, z_cl, z_m1, z_sg, z_255, Int32.reduceToInt] <;> omega) | (simp only [Int32.le_iff_toInt_le, Int32.lt_iff_toInt_lt, z_eq, z_in, z_add, z_sub, z_mul, z_neg, z_nI, z_cl, z_sg, z_255, z_lit, Int32.reduceToInt] <;> omega))) ?_
                  obtain ⟨hE0, h65a⟩ := hpr c0
                  obtain ⟨c', rfl⟩ : ∃ c', c = c' + 1 := ⟨c - 1, by omega⟩
                  obtain ⟨w', rfl⟩ : ∃ w', wh = w' + 1 := ⟨wh - 1, by omega⟩
                  rw [Nat.add_sub_cancel] at hck h65a
                  have okAll : ∀ e, e ∈ E ++ ckC G → okE F e := fun e he => by
                    rcases List.mem_append.mp he with z | z
                    · exact hok e z
                    · exact (G16 e z).1
                  have lE : E.length = E0.length + A.length := by rw [hE0, List.length_append]
                  refine s_apart (a0 := E0.length) (A := A) (B := ckC G) (fy.fi hF).1 hw (fy.rep hR) ((yI 0 69).trans V69) hc (by omega) ?_ ?_ ?_ (by omega) (fun k hk => ?_) (fun hn => ?_) (fun hy' => ?_)
                  · rw [y65' w' (by omega), x265' w' (by omega)]; exact h65a
                  · rw [y65' (w' + 1) (by omega), x265, lE]
                  · rw [Oy.2.1, lC, lE]
                  · have en := Oy.2.2.2.1 (E0.length + k) (by omega)
                    have ee : (E ++ ckC G).getD (E0.length + k) en0 = (A ++ ckC G).getD k en0 := by rw [hE0, List.append_assoc, getD_r]
                    rw [ee] at en
                    have hm : (A ++ ckC G).getD k en0 ∈ E ++ ckC G := by
                      rw [hE0, List.append_assoc]
                      refine List.mem_append_right _ ?_
                      have hk' : k < (A ++ ckC G).length := by rw [List.length_append]; exact hk
                      rw [en_at hk']
                      exact List.getElem_mem hk'
                    have ok := okAll _ hm
                    have l17 := lv17 hw ok.1
                    exact ⟨en.1, en.2.1, by have := ok.2.1; omega, by have := ok.2.2.1; omega⟩
                  · rw [if_neg (fun w => hn w.2)] at hck
                    exact fine hck
                  · rw [if_pos ⟨by omega, hy'⟩] at hck
                    rw [hck, if_pos (by decide)] at eo
                    exact pe 21 (-1) _ eo (Fg.trans fy (Fg.i ⟨rfl, by decide⟩)) ⟨gI_at, by decide, by decide⟩ y34 (by show fA y 52 0 = _; rw [y52]; exact v520) (by show fA y 52 1 = _; rw [y52]; exact v521) (by show fA y 52 2 = _; rw [y52]; exact v522)
              by_cases c10 : (ckC G).length - (vlE (mdC F c) (ckC G)).length = t.2.2.2.1
              · refine br_t (by rw [c10]) (s_fl0 ⟨fun z => absurd V69 z, fun _ => ?_⟩)
                have ek0 : ckE F c t rows A (ckC G) = (if vlE (mdC F c) (ckC G) ≠ [] ∧ kv (tyC F c) (mnV (tyC F c) (vlE (mdC F c) (ckC G))) ≠ kv (tyC F c) t.2.2.2.2.1 then 11 else if vlE (mdC F c) (ckC G) ≠ [] ∧ kv (tyC F c) (mxV (tyC F c) (vlE (mdC F c) (ckC G))) ≠ kv (tyC F c) t.2.2.2.2.2 then 12 else if c ≠ 0 ∧ aprt F (lfC F (c - 1)) (lfC F c) A (ckC G) then 21 else 0) := by
                  unfold ckE
                  rw [if_neg (by omega), if_neg (fun w => w c10)]
                by_cases cV : vlE (mdC F c) (ckC G) = []
                · rw [if_neg (fun w => w.1 cV), if_neg (fun w => w.1 cV)] at ek0
                  obtain ⟨q1, q2⟩ := hbd.1 cV
                  refine br_t q1 ?_
                  unfold j_Mod_openChunk_409
                  exact ⟨fun z => absurd V69 z, fun _ => br_t q1 (last ek0 _ _)⟩
                · obtain ⟨a, b, a1, b1, a2, b2, a3, b3⟩ := hbd.2 cV
                  have hV0 : (vlE (mdC F c) (ckC G)).length ≠ 0 := fun z => cV (List.length_eq_zero_iff.mp z)
                  obtain ⟨ta, tb, ta1, tb1, ta2, tb2, ta3, tb3, tok1, tok2⟩ := Kv.2.2.2.2.2.2.2.2 (by omega)
                  have ku := kv_un okV cV a3 b3
                  have oka := okV _ a3.1
                  have okb := okV _ b3.1
                  have v63 : vp_in (nI wh) (fN v 63) ∧ rA v 63 (nI wh) = nI ta := ⟨by rw [uN v fv]; exact vp_in_nI (by omega) (by omega), by rw [rA_nI (by omega)]; exact ta2⟩
                  have v64 : vp_in (nI wh) (fN v 64) ∧ rA v 64 (nI wh) = nI tb := ⟨by rw [uN v fv]; exact vp_in_nI (by omega) (by omega), by rw [rA_nI (by omega)]; exact tb2⟩
                  have hQl := Ov.1.2.2.1
                  have nlo : ¬ lo = -1 := by rw [a2]; exact nI_nm1 (by omega)
                  have great : kv (tyC F c) (mnV (tyC F c) (vlE (mdC F c) (ckC G))) = kv (tyC F c) t.2.2.2.2.1 → ∀ l9 l12, j_Mod_openChunk_409 post (nI g) (nI c) (nI row) (nI wh) (nI (p + t.1)) (nI E.length) (nI PP.length) (nI (nR (ckC G))) l9 lo hi l12 v := fun hlow l9 l12 => by
                    rw [if_neg (fun w => w.2 hlow)] at ek0
                    unfold j_Mod_openChunk_409
                    refine ⟨fun z => absurd V69 z, fun _ => br_f nlo ⟨v64.1, ?_⟩⟩
                    rw [v64.2, V38]
                    have cmp : wp_Mod_compare (fun (r1683 : Int32) (x1682 : St) => ((r1683 = 0 → j_Mod_openChunk_448 post (nI g) (nI c) (nI row) (nI wh) (nI (p + t.1)) (nI E.length) (nI PP.length) (nI (nR (ckC G))) l9 lo hi l12 0 x1682) ∧ (¬ r1683 = 0 → j_Mod_openChunk_448 post (nI g) (nI c) (nI row) (nI wh) (nI (p + t.1)) (nI E.length) (nI PP.length) (nI (nR (ckC G))) l9 lo hi l12 1 x1682))) (nI (tyC F c)) (nI b) (nI tb) v := by
                      refine s_compare (fv.fi hF).1 Ov.1 b1 tb1 ty2 okb.v (by rw [tb3]; exact tok2.v) ?_
                      rw [tb3, cmpV_0 okb.v tok2.v]
                      unfold j_Mod_openChunk_448
                      refine ⟨fun he => s_fl0 (last ?_ _ _), fun he => s_fl1 V69 ?_⟩
                      · rw [ek0, if_neg (fun w => w.2 (ku.2.trans he))]
                      · rw [if_pos ⟨cV, fun w => he (ku.2.symm.trans w)⟩] at ek0
                        rw [ek0, if_pos (by decide)] at eo
                        exact f453 12 _ _ _ _ (by decide) (by decide) eo
                    rw [← b2] at cmp
                    exact cmp
                  refine br_f nlo ⟨v63.1, ?_⟩
                  rw [v63.2, V38]
                  have cmp : ∀ l9 l12, wp_Mod_compare (fun (r1690 : Int32) (x1689 : St) => ((r1690 = 0 → j_Mod_openChunk_404 post (nI g) (nI c) (nI row) (nI wh) (nI (p + t.1)) (nI E.length) (nI PP.length) (nI (nR (ckC G))) l9 lo hi l12 0 x1689) ∧ (¬ r1690 = 0 → j_Mod_openChunk_404 post (nI g) (nI c) (nI row) (nI wh) (nI (p + t.1)) (nI E.length) (nI PP.length) (nI (nR (ckC G))) l9 lo hi l12 1 x1689))) (nI (tyC F c)) (nI a) (nI ta) v := fun l9 l12 => by
                    refine s_compare (fv.fi hF).1 Ov.1 a1 ta1 ty2 oka.v (by rw [ta3]; exact tok1.v) ?_
                    rw [ta3, cmpV_0 oka.v tok1.v]
                    unfold j_Mod_openChunk_404
                    refine ⟨fun he => s_fl0 (great (ku.1.trans he) _ _), fun he => s_fl1 V69 ?_⟩
                    rw [if_pos ⟨cV, fun w => he (ku.1.symm.trans w)⟩] at ek0
                    rw [ek0, if_pos (by decide)] at eo
                    exact f409 11 _ _ _ _ (by decide) (by decide) eo
                  rw [← a2] at cmp
                  exact cmp _ _
              · have ek : ckE F c t rows A (ckC G) = 10 := by unfold ckE; rw [if_neg (by omega), if_pos c10]
                rw [ek, if_pos (by decide)] at eo
                have wf : Flt (setI v 0 69 10) 10 := ⟨gI_at, by decide, by decide⟩
                refine br_f (fun z => c10 (nI_inj (by omega) (by omega) z)) (s_fl1 V69 ⟨fun _ => f409 10 _ _ _ _ (by decide) (by decide) eo, fun z => absurd z wf.ne⟩)
            · exact br_f (fun z => c16' (nI_inj (by omega) (by omega) z)) (bad16 (Or.inr c16'))
          · exact bn_f (fun z => c16 (nI_inj (by omega) (by omega) z)) (bad16 (Or.inl c16))
  · rw [show ckC [] = [] from rfl, show pgP c row [] = [] from rfl, List.append_nil, List.append_nil, List.append_nil]
    exact hO.cg (fun k _ => x2I 0 k) (fun r r1 r2 r3 => x2A r (by omega) (by omega)) (x2L 54)
  · rw [show ckC [] = [] from rfl, List.append_nil]; exact (x2I 0 88).trans h88
  · rw [show ckC [] = [] from rfl, List.append_nil]; exact hE
  · rw [show ckC [] = [] from rfl, show pgP c row [] = [] from rfl, List.append_nil, List.append_nil]; exact hPP
  · rw [show ckC [] = [] from rfl, List.append_nil]; exact htx
  · rw [show ckC [] = [] from rfl, List.append_nil, List.append_nil]; exact hQ
  · rw [show ckC [] = [] from rfl, List.append_nil, List.append_nil]; exact hoQ
end
