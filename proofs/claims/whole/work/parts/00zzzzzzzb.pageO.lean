/-! the Opener looks at a page -/
def EnV (x : St) (F : List SFd) (b i : Nat) (e : SEn) : Prop := fA x 83 i = nI e.2.1 ∧ fA x 84 i = nI e.2.2.1 ∧ (e.2.2.1 = mdC F e.1 → RfP x b (tyC F e.1) (fL x 85 i) e.2.2.2) ∧ (e.2.2.1 ≠ mdC F e.1 → fL x 85 i = 0)
/-- what is told of entries -/
def TeC (x : St) (F : List SFd) (b t c first : Nat) (C : List SEn) : Prop := fA x 89 t = nI first ∧ fA x 90 t = nI C.length ∧ fA x 91 t = nI (C.length - (vlE (mdC F c) C).length) ∧ BdC x b (tyC F c) (vlE (mdC F c) C) (fL x 92 t) (fL x 93 t)
/-- the words of a page -/
def DiC (x : St) (b dE t ty : Nat) (W : List PV) (Z : Prop) : Prop := (fA x 94 t = -1 ∧ W = []) ∨ ∃ d, fA x 94 t = nI (d * 128 + W.length) ∧ d + W.length ≤ dE ∧ VsC x 95 d b ty W ∧ W.length ≤ 100 ∧ (W = [] → Z)
/-- the entries that are kept -/
def VtC (x : St) (F : List SFd) (b dE : Nat) (E : List SEn) : Prop := fI x 97 4 = nI E.length ∧ E.length ≤ 10000 ∧ fI x 96 14 = nI b ∧ 40000 ≤ b ∧ b ≤ 40000 + tx E ∧ fI x 96 16 = nI (tx E) ∧ tx E ≤ 60000 ∧ fI x 96 13 = nI dE ∧ dE ≤ E.length ∧ ∀ i, i < E.length → EnV x F b i (E.getD i en0)
def FrPC (b : Nat) (x y : St) : Prop := Fg (fun a k => a = 104 ∧ (k = 1 ∨ k = 2 ∨ k = 3) ∨ a = 96 ∧ (k = 9 ∨ 12 ≤ k ∧ k ≤ 16) ∨ a = 97 ∧ (k = 3 ∨ k = 4)) no2 no2 (fun a => a = 82 ∨ a = 83 ∨ a = 84 ∨ a = 86 ∨ a = 90 ∨ a = 91 ∨ a = 94 ∨ a = 105) (fun a => a = 85 ∨ a = 92 ∨ a = 93 ∨ a = 95 ∨ a = 100 ∨ a = 101) x y ∧ ∀ i, i < b → fA y 82 i = fA x 82 i
def FrQC (b : Nat) (x y : St) : Prop := Fg (fun a k => a = 104 ∧ (k = 1 ∨ k = 2 ∨ k = 3) ∨ a = 96 ∧ (k = 9 ∨ 13 ≤ k ∧ k ≤ 15)) no2 no2 (fun a => a = 82 ∨ a = 83 ∨ a = 84 ∨ a = 90 ∨ a = 91 ∨ a = 94 ∨ a = 105) (fun a => a = 92 ∨ a = 93 ∨ a = 95 ∨ a = 100 ∨ a = 101) x y ∧ ∀ i, i < b → fA y 82 i = fA x 82 i
section
variable {x y z : St} {T : Nat → Nat} {n st p b : Nat} {F : List SFd}
theorem FrPC.trans (h : FrPC b x y) (k : FrPC b y z) : FrPC b x z := ⟨Fg.trans h.1 k.1, fun i hi => (k.2 i hi).trans (h.2 i hi)⟩
theorem FrQC.trans (h : FrQC b x y) (k : FrQC b y z) : FrQC b x z := ⟨Fg.trans h.1 k.1, fun i hi => (k.2 i hi).trans (h.2 i hi)⟩
theorem FrQC.pc (h : FrQC b x y) : FrPC b x y := ⟨h.1.mono (fun o k z => by omega) (fun _ _ z => z) (fun _ _ z => z) (fun a z => by omega) (fun a z => by omega), h.2⟩
theorem FrQC.hd (f : FrHd x y) : FrQC b x y := ⟨f.mono (fun o k z => Or.inl z) (fun _ _ z => z) (fun _ _ z => z) (fun a z => by omega) (fun a z => by omega), fun i _ => by rw [f.aa (by decide)]⟩
theorem FrQC.lv {r : Nat} (hr : r = 83 ∨ r = 84) (f : FrLv r x y) : FrQC b x y := ⟨f.mono (fun o k z => Or.inl z) (fun _ _ z => z) (fun _ _ z => z) (fun a z => by have : a = r := z; omega) (fun a z => by have : a = 100 := z; omega), fun i _ => by rw [f.aa (fun z => by have : 82 = r := z; omega)]⟩
theorem FrQC.vc (f : FrVC b x y) : FrQC b x y := ⟨f.1.mono (fun o k z => by omega) (fun _ _ z => z) (fun _ _ z => z) (fun a z => by omega) (fun a z => by omega), f.2⟩
theorem FrQC.sr (f : FrSr 104 x y) : FrQC b x y := FrQC.vc (FrVC.sr f)
theorem FrQC.i {k : Nat} {v : Int32} (h : k = 9 ∨ 13 ≤ k ∧ k ≤ 15) : FrQC b x (setI x 96 k v) := ⟨Fg.i (Or.inr ⟨rfl, h⟩), fun _ _ => rfl⟩
theorem FrQC.fi (f : FrQC b x y) (h : FiC x T n) (hb : n ≤ b) : FiC y T n := ⟨fun r hr => (f.1.len r).trans (h.1 r hr), h.2.1, h.2.2.1, fun i hi => (f.2 i (by omega)).trans (h.2.2.2 i hi)⟩
theorem FrPC.fi (f : FrPC b x y) (h : FiC x T n) (hb : n ≤ b) : FiC y T n := ⟨fun r hr => (f.1.len r).trans (h.1 r hr), h.2.1, h.2.2.1, fun i hi => (f.2 i (by omega)).trans (h.2.2.2 i hi)⟩
theorem FrPC.rep (f : FrPC b x y) (h : RepC x 70 F) : RepC y 70 F := h.cg7 (f.1.ii (by decide)) (f.1.ii (by decide)) (fun r h1 h2 => f.1.aa (by omega))
theorem FrPC.kl (f : FrKl x y) : FrPC b x y := ⟨f.mono (fun o k z => by omega) (fun _ _ z => z) (fun _ _ z => z) (fun a z => by have : a = 86 := z; omega) (fun a z => by have : a = 85 := z; omega), fun i _ => by rw [f.aa (by decide)]⟩
theorem FrPC.kt (f : FrKt x y) : FrPC b x y := ⟨f.mono (fun o k z => by omega) (fun _ _ z => z) (fun _ _ z => z) (fun a z => by omega) (fun a z => by omega), fun i _ => by rw [f.aa (by decide)]⟩
theorem EnV.up {i c : Nat} {e : SEn} (h : EnV x F b i e) (e1 : fA y 83 i = fA x 83 i) (e2 : fA y 84 i = fA x 84 i) (e3 : fL y 85 i = fL x 85 i) (e4 : ∀ i, i < b → fA y 82 i = fA x 82 i) (hb : b ≤ c) : EnV y F c i e := ⟨e1.trans h.1, e2.trans h.2.1, fun z => by rw [e3]; exact (h.2.2.1 z).up e4 hb, fun z => by rw [e3]; exact h.2.2.2 z⟩
theorem TeC.up {t c first b' : Nat} {C : List SEn} (h : TeC x F b t c first C) (e1 : fA y 89 t = fA x 89 t) (e2 : fA y 90 t = fA x 90 t) (e3 : fA y 91 t = fA x 91 t) (e5 : fL y 92 t = fL x 92 t) (e6 : fL y 93 t = fL x 93 t) (e4 : ∀ i, i < b → fA y 82 i = fA x 82 i) (hb : b ≤ b') : TeC y F b' t c first C := ⟨e1.trans h.1, e2.trans h.2.1, e3.trans h.2.2.1, by rw [e5, e6]; exact h.2.2.2.up e4 hb⟩
theorem DiC.up {t ty dE dE' b' : Nat} {W : List PV} {Z : Prop} (h : DiC x b dE t ty W Z) (e1 : fA y 94 t = fA x 94 t) (e2 : ∀ i, i < dE → fL y 95 i = fL x 95 i) (hd : dE ≤ dE') (e4 : ∀ i, i < b → fA y 82 i = fA x 82 i) (hb : b ≤ b') : DiC y b' dE' t ty W Z := by
  rcases h with ⟨h1, h2⟩ | ⟨d, h1, h2, h3, h4⟩
  · exact Or.inl ⟨e1.trans h1, h2⟩
  · exact Or.inr ⟨d, e1.trans h1, by omega, fun k hk => by rw [e2 _ (by omega)]; exact (h3 k hk).up e4 hb, h4⟩
theorem mn_all {ty : Nat} {P : List PV} (ok : ∀ v, v ∈ P → okPv ty v) (h : P.length ≠ 0) : IsMn ty P (mnV ty P) ∧ IsMx ty P (mxV ty P) := by
  have q := mn_is (ty := ty) (P := P) (fun i hi => (ok _ (pvd_mem hi)).v) (P.length - 1) (by omega)
  rw [show P.length - 1 + 1 = P.length by omega, List.take_length] at q
  exact q
/-- what follows a page that was kept -/
def KpP (x y : St) (F : List SFd) (b b' dE dE' c ct pg G0 rh : Nat) (E C L : List SEn) (W : List PV) : Prop := VtC y F b' dE' (E ++ L) ∧ b ≤ b' ∧ dE ≤ dE' ∧ TeC y F b' ct c (E.length - C.length) (C ++ L) ∧ TeC y F b' pg c E.length L ∧ DiC y b' dE' pg (tyC F c) W (vlE (mdC F c) L = []) ∧ (∀ t, t ≠ ct → t ≠ pg → fA y 90 t = fA x 90 t ∧ fA y 91 t = fA x 91 t ∧ fL y 92 t = fL x 92 t ∧ fL y 93 t = fL x 93 t) ∧ (∀ t, t ≠ pg → fA y 94 t = fA x 94 t) ∧ (∀ i, i < dE → fL y 95 i = fL x 95 i) ∧ fI y 96 12 = nI (nR (C ++ L)) ∧ (∀ k, k < L.length → (L.getD k en0).2.1 = 0 → nR C + nR (L.take k) < rh → (G0 + (nR C + nR (L.take k))) * ncol F + c < 10000 → fA y 86 ((G0 + (nR C + nR (L.take k))) * ncol F + c) = nI (E.length + k)) ∧ (∀ a, (∀ j, nR C ≤ j → j < rh → a ≠ (G0 + j) * ncol F + c) → fA y 86 a = fA x 86 a)
/-- the page is kept -/
theorem k_keep {post : St → Prop} {c ct pg g G0 rh pgs dE b' dE' m no : Nat} {E C : List SEn} {R D : List Nat} {P W : List PV} (hL : LC x) (hw : WfS F) (hR : RepC x 70 F) (hc : c < ncol F) (hE : fI x 97 4 = nI E.length) (hE2 : E.length + m ≤ 10000) (hbb : b ≤ b') (hb3 : b' ≤ 40000 + tx E + oF P P.length) (hb4 : 40000 ≤ b') (h14 : fI x 96 14 = nI b') (h16 : fI x 96 16 = nI (tx E)) (htx : tx E + oF P P.length ≤ 60000) (h15 : fI x 96 15 = nI (oF P P.length)) (h13 : fI x 96 13 = nI dE') (hdd : dE ≤ dE') (hdE2 : dE' ≤ E.length + m) (hEn : ∀ i, i < E.length → EnV x F b' i (E.getD i en0))
    (hct : ct < 6000) (hpg : pg < 6000) (hne : pg ≠ ct) (tC : TeC x F b' ct c (E.length - C.length) C) (hCE : C.length ≤ E.length) (h89 : fA x 89 pg = nI E.length) (h90 : fA x 90 pg = nI m) (h91 : fA x 91 pg = nI no) (hno : no + P.length = m) (hDi : DiC x b' dE' pg (tyC F c) W (P = []))
    (hm : D.length = m) (hm1 : m ≤ 1000) (hRl : R.length = m) (hPl : hvN (mdC F c) D = P.length) (hrow : ∀ i, i < m → fA x 83 (E.length + i) = nI (R.getD i 0) ∧ fA x 84 (E.length + i) = nI (D.getD i 0)) (hd : ∀ v, v ∈ D → v ≤ mdC F c) (hr : ∀ v, v ∈ R → v ≤ mrC F c) (h9 : fI x 96 9 = nI P.length) (hP : VsC x 101 0 b' (tyC F c) P) (bP : BdC x b' (tyC F c) P (fL x 92 pg) (fL x 93 pg))
    (hcr : fI x 96 12 = nI (nR C)) (h98 : fA x 98 0 = nI g) (hg : g < 500) (hG0 : fA x 87 g = nI G0) (hG1 : fA x 87 (g + 1) = nI (G0 + rh)) (hG2 : G0 + rh ≤ 2000) (hpgs : fI x 97 3 = nI pgs)
    (k : ∀ y, FrPC b x y → (∀ a k, a = 104 → fI y a k = fI x a k) → fA y 82 = fA x 82 → KpP x y F b b' dE dE' c ct pg G0 rh E C (entL c (mdC F c) R D P) W → fI y 97 3 = nI (pgs + 1) → post y) : wp_Opn_keepPage post 96 (nI c) (nI ct) (nI pg) x := by
  obtain ⟨l1, l2, l3⟩ := lfC_ok hc
  obtain ⟨ty4, tyE⟩ := ty_lt hw hc
  have l17 := lv17 hw hc
  have h128 := hw.1
  have h64 := hw.2.1
  have dm : ∀ i, i < m → D.getD i 0 ≤ 17 := fun i hi => by have := hd _ (getD_mem (B := D) (show i < D.length by omega)); omega
  have rm : ∀ i, i < m → R.getD i 0 ≤ 17 := fun i hi => by have := hr _ (getD_mem (B := R) (show i < R.length by omega)); omega
  have pl : P.length ≤ 1000 := by have := hv_le (md := mdC F c) D; omega
  have nC := nR_le C
  have vlC := vlE_le (md := mdC F c) C
  have el : (entL c (mdC F c) R D P).length = m := by rw [entL_len, hm]
  have va := vlE_all (c := c) (R := R) hPl
  have ta := tx_all (c := c) (R := R) hPl
  unfold wp_Opn_keepPage
  rw [show stC (stC (stC 96 0) 5) 10 = 79 from rfl, show stC (stC (stC 96 0) 5) 3 = 72 from rfl, show stC (stC 96 0) 14 = 90 from rfl, show stC 96 4 = 98 from rfl, show stC (stC 96 0) 11 = 87 from rfl, show stC 96 0 = 97 from rfl, show fN x 79 = 64 from hL 79 (by decide), show fN x 72 = 128 from hL 72 (by decide), show fN x 90 = 6000 from hL 90 (by decide), show fN x 98 = 3 from hL 98 (by decide), show fN x 87 = 501 from hL 87 (by decide), rA_nI (by omega : c < 2 ^ 31), col79 hR hc, rA_nI (by omega : lfC F c < 2 ^ 31), col72 hw hR hc, rA_nI (by omega : pg < 2 ^ 31), h90, show rA x 98 0 = nI g from by rw [show (0 : Int32) = nI 0 from rfl, rA_nI (by decide)]; exact h98]
  refine ⟨vp_in_nI (by omega) (by decide), vp_in_nI (by omega) (by decide), nm_e ⟨vp_in_nI hpg (by decide), nm_e ⟨vp_in_nI (n := 0) (by decide) (by decide), nm_e ?_⟩⟩⟩
  rw [nI_1, rA_nI (by omega : g + 1 < 2 ^ 31), rA_nI (by omega : g < 2 ^ 31), hG1, hG0, nI_sub (by omega), show G0 + rh - G0 = rh by omega, hE]
  refine ⟨vp_in_nI (by omega) (by decide), vp_in_nI (by omega) (by decide), nm_e (nm_e ?_)⟩
  refine k_keepL (P := P) hL hw hR hc hE hE2 hm hrow dm rm (by omega) hcr (by omega) (by omega) hG0 hG2 (fun y y1 y2 y3 y4 y5 y6 => ?_)
  refine k_keepT (V := vlE (mdC F c) C) (P := P) (b := b') (cN := C.length) (cNo := C.length - (vlE (mdC F c) C).length) (no := no) (E := E.length) (pgs := pgs) (aT := tx E) (pT := oF P P.length) (fun r hr => (y1.len r).trans (hL r hr)) ty4 (by omega) hct hpg hne ((by rw [y1.aa (by decide)]; exact tC.2.1)) (by rw [y1.aa (by decide)]; exact tC.2.2.1) (by omega) (by omega) (by rw [y1.aa (by decide)]; exact h91) ((y1.ii (by decide)).trans hE) ((y1.ii (by decide)).trans hpgs) ((y1.ii (by decide)).trans h16) ((y1.ii (by decide)).trans h15) ((y1.ii (by decide)).trans h9) (by omega) ?_ ?_ (fun w w1 w2 w3 w4 w5 w6 w7 w8 => ?_)
  · rw [y1.ll (by decide), y1.ll (by decide)]
    exact tC.2.2.2.up (fun i _ => by rw [y1.aa (by decide)]) (Nat.le_refl _)
  · rw [y1.ll (by decide), y1.ll (by decide)]
    exact bP.up (fun i _ => by rw [y1.aa (by decide)]) (Nat.le_refl _)
  -- rows that stay
  have r82 : fA w 82 = fA x 82 := (w1.aa (by decide)).trans (y1.aa (by decide))
  have r83 : fA w 83 = fA x 83 := (w1.aa (by decide)).trans (y1.aa (by decide))
  have r84 : fA w 84 = fA x 84 := (w1.aa (by decide)).trans (y1.aa (by decide))
  have r86 : fA w 86 = fA y 86 := w1.aa (by decide)
  have r89 : fA w 89 = fA x 89 := (w1.aa (by decide)).trans (y1.aa (by decide))
  have r94 : fA w 94 = fA x 94 := (w1.aa (by decide)).trans (y1.aa (by decide))
  have r85 : fL w 85 = fL y 85 := w1.ll (by decide)
  have r95 : fL w 95 = fL x 95 := (w1.ll (by decide)).trans (y1.ll (by decide))
  have y90 : fA y 90 = fA x 90 := y1.aa (by decide)
  have y91 : fA y 91 = fA x 91 := y1.aa (by decide)
  have y92 : fL y 92 = fL x 92 := y1.ll (by decide)
  have y93 : fL y 93 = fL x 93 := y1.ll (by decide)
  rw [y90] at w2
  rw [y91] at w3
  rw [y92, y93] at w7
  have e82 : ∀ i, i < b' → fA w 82 i = fA x 82 i := fun i _ => by rw [r82]
  have hDi' : DiC x b' dE' pg (tyC F c) W (vlE (mdC F c) (entL c (mdC F c) R D P) = []) := by rw [vlE_all hPl]; exact hDi
  refine k w ((FrPC.kl y1).trans (FrPC.kt w1)) (fun a kk ha => by subst ha; exact (w1.ii (by omega)).trans (y1.ii (by omega))) r82 ⟨⟨?_, ?_, ?_, hb4, ?_, ?_, ?_, ?_, ?_, ?_⟩, hbb, hdd, ⟨?_, ?_, ?_, ?_⟩, ⟨?_, ?_, ?_, ?_⟩, hDi'.up (by rw [r94]) (fun i _ => by rw [r95]) (Nat.le_refl _) e82 (Nat.le_refl _), fun t t1 t2 => ⟨by rw [w2, upd_ne t1], by rw [w3, upd_ne t1], (w7 t t1).1, (w7 t t1).2⟩, fun t _ => by rw [r94], fun i _ => by rw [r95], ?_, fun kk hk z1 z2 z3 => ?_, fun a ha => by rw [r86]; exact y6 a ha⟩ w5
  · rw [w4, List.length_append, el]
  · rw [List.length_append, el]; omega
  · exact (w1.ii (by decide)).trans ((y1.ii (by decide)).trans h14)
  · rw [tx_app, ta]; omega
  · rw [w6, tx_app, ta]
  · rw [tx_app, ta]; omega
  · exact (w1.ii (by decide)).trans ((y1.ii (by decide)).trans h13)
  · rw [List.length_append, el]; exact hdE2
  · intro i hi
    rw [List.length_append, el] at hi
    by_cases ci : i < E.length
    · rw [getD_l ci]
      exact (hEn i ci).up (by rw [r83]) (by rw [r84]) (by rw [r85]; exact y3 i ci) e82 (Nat.le_refl _)
    · obtain ⟨j, rfl⟩ : ∃ j, i = E.length + j := ⟨i - E.length, by omega⟩
      rw [getD_r, entL_at (by omega)]
      obtain ⟨g1, g2⟩ := hrow j (by omega)
      have g3 := y4 j (by omega)
      refine ⟨by rw [r83]; exact g1, by rw [r84]; exact g2, fun z => ?_, fun z => ?_⟩
      · have z : D.getD j 0 = mdC F c := z
        rw [if_pos z] at g3
        have lt := hv_lt (md := mdC F c) (D := D) (by omega) z
        have := hP (hvN (mdC F c) (D.take j)) (by omega)
        rw [Nat.zero_add] at this
        show RfP w b' (tyC F c) (fL w 85 (E.length + j)) (if D.getD j 0 = mdC F c then pvd P (hvN (mdC F c) (D.take j)) else (0, []))
        rw [r85, g3, if_pos z]
        exact this.same r82
      · have z : ¬ D.getD j 0 = mdC F c := z
        rw [if_neg z] at g3
        rw [r85]
        exact g3
  · rw [r89]; exact tC.1
  · rw [w2, upd_at, List.length_append, el]
  · rw [w3, upd_at, List.length_append, el, vlE_app, va, List.length_append]
    congr 1
    omega
  · rw [vlE_app, va]
    exact w8
  · rw [r89]; exact h89
  · rw [w2, upd_ne hne, h90, el]
  · rw [w3, upd_ne hne, h91, el, va]
    congr 1
    omega
  · rw [va, (w7 pg hne).1, (w7 pg hne).2]
    exact bP.up e82 (Nat.le_refl _)
  · rw [nR_app]
    exact (w1.ii (by decide)).trans y2
  · rw [el] at hk
    rw [entL_at (by omega)] at z1
    rw [r86]
    exact y5 kk hk z1 z2 z3
end
