/-! a file is opened: what comes out, and the model -/
abbrev Ft4 : Type := Nat × Int32 × Int32 × Int32
/-- entries of chunks; pages of chunks -/
def enA (CK : List (List PgW)) : List SEn := (CK.map ckC).flatten
def ppA (nC : Nat) (G : List Nat) (CK : List (List PgW)) : List OPg := ((List.range CK.length).map (fun w => pgP (w % nC) (smN (G.take (w / nC))) (CK.getD w []))).flatten
def cksO (T : Nat → Nat) (F : List SFd) (K : List ChT) (rows g : Nat) : Nat → Nat → List (List PgW) → List SEn → Nat → Except Ft4 (List (List PgW) × Nat)
  | 0, _, CK, _, p => .ok (CK, p)
  | d + 1, c, CK, A, p => match ckO T F c (K.getD (ncol F * g + c) t0) rows A (enA CK) p with
    | .error (e, k) => .error (e, nI g, nI c, k)
    | .ok (X, q) => cksO T F K rows g d (c + 1) (CK ++ [X]) (ckC X) q
def grpO (T : Nat → Nat) (F : List SFd) (G : List Nat) (K : List ChT) : Nat → Nat → List (List PgW) → Nat → Except Ft4 (List (List PgW) × Nat)
  | 0, _, CK, p => .ok (CK, p)
  | d + 1, g, CK, p => match cksO T F K (G.getD g 0) g (ncol F) 0 CK [] p with
    | .error z => .error z
    | .ok (CK', q) => grpO T F G K d (g + 1) CK' q
abbrev OpT : Type := List SFd × Nat × List Nat × List ChT × List (List PgW)
def opO (T : Nat → Nat) (n : Nat) : Except Ft4 OpT := match ftO T n with
  | .error e => .error (e, -1, -1, -1)
  | .ok (F, rows, G, K) => match grpO T F G K G.length 0 [] 4 with
    | .error z => .error z
    | .ok (CK, _) => .ok (F, rows, G, K, CK)
theorem enA_add {CK : List (List PgW)} {X : List PgW} : enA (CK ++ [X]) = enA CK ++ ckC X := by
  unfold enA
  rw [List.map_append, List.flatten_append]
  show _ ++ (ckC X ++ []) = _
  rw [List.append_nil]
theorem ppA_add {nC : Nat} {G : List Nat} {CK : List (List PgW)} {X : List PgW} : ppA nC G (CK ++ [X]) = ppA nC G CK ++ pgP (CK.length % nC) (smN (G.take (CK.length / nC))) X := by
  unfold ppA
  rw [List.length_append, show [X].length = 1 from rfl, List.range_succ, List.map_append, List.flatten_append]
  congr 1
  · congr 1
    refine List.map_congr_left (fun w hw => ?_)
    rw [getD_l (List.mem_range.mp hw)]
  · show pgP _ _ ((CK ++ [X]).getD CK.length []) ++ [] = _
    rw [List.append_nil, getD_n]
theorem bsm_take {K : List ChT} {w : Nat} (h : w < K.length) : bsm (K.take (w + 1)) = bsm (K.take w) + clp (K.getD w t0).1 := by
  have e : K.getD w t0 = K[w] := by rw [List.getD_eq_getElem?_getD, List.getElem?_eq_getElem h]; rfl
  rw [List.take_succ_eq_append_getElem h, bsm_add, e]
theorem bsm_le {K : List ChT} {w : Nat} : bsm (K.take w) ≤ bsm K := by
  have key : ∀ A B : List ChT, bsm (A ++ B) = bsm A + bsm B := by
    intro A B
    induction A with
    | nil => show bsm B = 0 + bsm B; omega
    | cons a A ih => show clp a.1 + bsm (A ++ B) = clp a.1 + bsm A + bsm B; omega
  have := key (K.take w) (K.drop w)
  rw [List.take_append_drop] at this
  omega
theorem smN_take {G : List Nat} {g : Nat} (h : g < G.length) : smN (G.take (g + 1)) = smN (G.take g) + G.getD g 0 := by
  have e : G.getD g 0 = G[g] := by rw [List.getD_eq_getElem?_getD, List.getElem?_eq_getElem h]; rfl
  rw [List.take_succ_eq_append_getElem h, smN_add, e]
theorem smN_le {G : List Nat} {g : Nat} : smN (G.take g) ≤ smN G := by
  have key : ∀ A B : List Nat, smN (A ++ B) = smN A + smN B := by
    intro A B
    induction A with
    | nil => show smN B = 0 + smN B; omega
    | cons a A ih => show a + smN (A ++ B) = a + smN A + smN B; omega
  have := key (G.take g) (G.drop g)
  rw [List.take_append_drop] at this
  omega
/-- what is told of a chunk, without its bytes and pages: write lays these anew -/
def KtW (x : St) (F : List SFd) (Q : List PV) (wh c : Nat) (t : ChT) : Prop := True ∧ True ∧ fA x 61 wh = nI t.2.2.1 ∧ fA x 62 wh = nI t.2.2.2.1 ∧ t.2.1 ≠ 0 ∧ t.2.2.1 ≤ 10000 ∧ t.2.2.2.1 ≤ t.2.2.1 ∧ (t.2.2.2.1 = t.2.2.1 → fA x 63 wh = -1 ∧ fA x 64 wh = -1) ∧ (t.2.2.2.1 < t.2.2.1 → ∃ a b, a < Q.length ∧ b < Q.length ∧ fA x 63 wh = nI a ∧ fA x 64 wh = nI b ∧ pvd Q a = t.2.2.2.2.1 ∧ pvd Q b = t.2.2.2.2.2 ∧ okPv (tyC F c) t.2.2.2.2.1 ∧ okPv (tyC F c) t.2.2.2.2.2)
theorem KtM.w {x : St} {F : List SFd} {Q : List PV} {wh c : Nat} {t : ChT} (h : KtM x F Q wh c t) : KtW x F Q wh c t := ⟨trivial, trivial, h.2.2⟩
/-- what is open, in the model -/
def OpM (y : St) (F : List SFd) (rows : Nat) (G : List Nat) (K : List ChT) (CK : List (List PgW)) : Prop := RepM y 1 F ∧ WfS F ∧ ¬ emG F ∧ F ≠ [] ∧ fI y 0 84 = nI rows ∧ rows ≤ 2000 ∧ fI y 0 85 = nI G.length ∧ G.length ≤ 500 ∧ (∀ g, g < G.length → fA y 53 g = nI (G.getD g 0) ∧ G.getD g 0 ≤ 2000 ∧ 0 < G.getD g 0) ∧ smN G = rows ∧ K.length = ncol F * G.length ∧ K.length ≤ 10000 ∧ CK.length = K.length ∧ ∃ Q, (∀ w, w < K.length → KtW y F Q w (w % ncol F) (K.getD w t0)) ∧ OsM y F Q (enA CK) (ppA (ncol F) G CK) ∧ (∀ w, w < CK.length → fA y 65 w = nI (enA (CK.take w)).length) ∧ (enA CK).length ≤ 10000 ∧ (ppA (ncol F) G CK).length ≤ (enA CK).length ∧ tx (enA CK) ≤ 60000 ∧ ∀ e, e ∈ enA CK → okE F e
section
variable {x : St} {T : Nat → Nat} {n : Nat}
theorem s_open {post : Int32 → St → Prop} {o : Nat} (hF : FiM x T n) (h65 : fI x 0 65 = nI n) (h34 : fA x 34 0 = 0) (h83 : fI x 0 83 = nI o) (ho : o ≤ 100)
    (pw : o = 100 → ∀ y, FrOn x y → fI y 0 0 = 0 → fI y 0 82 = 0 → fI y 0 120 = 0 → fI y 0 121 = 0 → fI y 0 83 = nI o → (∀ k, k < 3 → fA y 52 k = -1) → fA y 34 0 = 0 → post 23 y)
    (pe : o < 100 → ∀ e g c k y, opO T n = .error (e, g, c, k) → FrOn x y → 0 < e → e < 100 → fI y 0 0 = 0 → fI y 0 82 = 0 → fI y 0 120 = 0 → fI y 0 121 = 0 → fI y 0 83 = nI (o + 1) → fA y 52 0 = g → fA y 52 1 = c → fA y 52 2 = k → fA y 34 0 = 0 → post (nI e) y)
    (pk : o < 100 → ∀ F rows G K CK y, opO T n = .ok (F, rows, G, K, CK) → FrOn x y → OpM y F rows G K CK → fI y 0 0 = 0 → fI y 0 82 = 1 → fI y 0 120 = 0 → fI y 0 121 = 0 → fI y 0 83 = nI (o + 1) → (∀ k, k < 3 → fA y 52 k = -1) → fA y 34 0 = 0 → post 0 y) : wp_Mod_open post x := by
  have hn := hF.2.1
  have hT := hF.2.2.1
  have lens : ∀ (u : St), FrOn x u → fN u 52 = 3 ∧ fN u 10 = 3 ∧ fN u 53 = 500 := fun u hu => ⟨(hu.fi hF).1 52, (hu.fi hF).1 10, (hu.fi hF).1 53⟩
  unfold wp_Mod_open
  refine nm_e (nm_e (nm_e (nm_e ?_)))
  have fa : FrOn x (setI (setI (setI (setI x 0 0 0) 0 82 0) 0 120 0) 0 121 0) := Fq.trans (Fq.i (by decide)) (Fq.trans (Fq.i (by decide)) (Fq.trans (Fq.i (by decide)) (Fq.i (by decide))))
  have aI : ∀ k, k ≠ 0 → k ≠ 82 → k ≠ 120 → k ≠ 121 → fI (setI (setI (setI (setI x 0 0 0) 0 82 0) 0 120 0) 0 121 0) 0 k = fI x 0 k := fun k k1 k2 k3 k4 => (gI_ne k4).trans ((gI_ne k3).trans ((gI_ne k2).trans (gI_ne k1)))
  have a0 : fI (setI (setI (setI (setI x 0 0 0) 0 82 0) 0 120 0) 0 121 0) 0 0 = 0 := (gI_ne (by decide)).trans ((gI_ne (by decide)).trans ((gI_ne (by decide)).trans gI_at))
  have a82 : fI (setI (setI (setI (setI x 0 0 0) 0 82 0) 0 120 0) 0 121 0) 0 82 = 0 := (gI_ne (by decide)).trans ((gI_ne (by decide)).trans gI_at)
  have a120 : fI (setI (setI (setI (setI x 0 0 0) 0 82 0) 0 120 0) 0 121 0) 0 120 = 0 := (gI_ne (by decide)).trans gI_at
  have a121 : fI (setI (setI (setI (setI x 0 0 0) 0 82 0) 0 120 0) 0 121 0) 0 121 = 0 := gI_at
  have aA : ∀ r, fA (setI (setI (setI (setI x 0 0 0) 0 82 0) 0 120 0) 0 121 0) r = fA x r := fun _ => rfl
  generalize setI (setI (setI (setI x 0 0 0) 0 82 0) 0 120 0) 0 121 0 = a at fa aI a0 a82 a120 a121 aA
  -- what stays so to the end
  have keep : ∀ {u v : St}, Fq (fun k => k = 38 ∨ 38 ≤ k ∧ k ≤ 43 ∨ k = 58 ∨ k = 59 ∨ k = 67 ∨ k = 68 ∨ k = 69 ∨ k = 71 ∨ 84 ≤ k ∧ k ≤ 88 ∨ k = 93 ∨ k = 94) (fun a => a = 28 ∨ a = 29 ∨ a = 34 ∨ a = 35 ∨ a = 37 ∨ a = 38 ∨ a = 44 ∨ a = 45 ∨ a = 46 ∨ 48 ≤ a ∧ a ≤ 53 ∨ 55 ≤ a ∧ a ≤ 74) (fun a => a = 31 ∨ a = 32 ∨ a = 43 ∨ a = 47 ∨ a = 54) u v → (∀ k, k = 0 ∨ k = 82 ∨ k = 83 ∨ k = 120 ∨ k = 121 → fI v 0 k = fI u 0 k) := fun f k hk => f.1 0 k (by omega)
  refine lp_Mod_open_22 (fun b0 u => ∃ k, nI k = b0 ∧ k ≤ 3 ∧ FrOn x u ∧ (∀ j, fI u 0 j = fI a 0 j) ∧ (∀ r, r ≠ 52 → fA u r = fA x r) ∧ (∀ r, fL u r = fL a r) ∧ ∀ j, j < k → fA u 52 j = -1) (fun b0 _ => 3 - b0.toNatClampNeg) ?_ _ _ ⟨0, rfl, by decide, fa, fun _ => rfl, fun r _ => aA r, fun _ => rfl, fun j hj => absurd hj (Nat.not_lt_zero _)⟩
  rintro S b0 u ⟨k, rfl, k1, fu, uI, uA, uL, u52⟩ ih
  unfold j_Mod_open_22
  by_cases ck : k < 3
  · refine br_f (by (first | omega | (simp (disch := omega) only [Int32.le_iff_toInt_le, Int32.lt_iff_toInt_lt, z_eq, z_in, nI_toInt, z_cl, z_m1, z_sg, z_255, Int32.reduceToInt] <;> omega) | (simp only [Int32.le_iff_toInt_le, Int32.lt_iff_toInt_lt, z_eq, z_in, z_add, z_sub, z_mul, z_neg, z_nI, z_cl, z_sg, z_255, z_lit, Int32.reduceToInt] <;> omega))) ⟨by rw [(lens u fu).1]; exact vp_in_nI (by omega) (by omega), nm_e ?_⟩
    rw [nI_1]
    refine ih _ _ ⟨k + 1, rfl, by omega, Fq.trans fu (Fq.a (by decide)), uI, fun r hr => (gA_ne hr).trans (uA r hr), uL, fun j hj => ?_⟩ (by rw [nI_clamp (by omega), nI_clamp (by omega)]; omega)
    by_cases e : j = k
    · rw [e, gA_on (by omega)]
    · rw [gA_off (by omega) e]; exact u52 j (by omega)
  · have ek : k = 3 := by omega
    subst ek
    refine br_t (by decide) ?_
    have u83 : fI u 0 83 = nI o := (uI 83).trans ((aI 83 (by decide) (by decide) (by decide) (by decide)).trans h83)
    have u34 : fA u 34 0 = 0 := by rw [uA 34 (by decide)]; exact h34
    rw [u83]
    by_cases co : o = 100
    · exact bn_t (by rw [co]; rfl) (pw co u fu ((uI 0).trans a0) ((uI 82).trans a82) ((uI 120).trans a120) ((uI 121).trans a121) u83 u52 u34)
    · refine bn_f (fun z => co (nI_inj (b := 100) (by omega) (by decide) z)) ?_
      rw [nI_1]
      refine nm_e (nm_e (nm_e (nm_e (nm_e (nm_e (nm_e (nm_e (nm_e ?_))))))))
      generalize hb : setI (setI (setI (setI (setI (setI (setI (setI (setI u 0 83 (nI (o + 1))) 0 67 0) 0 69 0) 0 85 0) 0 86 0) 0 87 0) 0 88 0) 0 93 0) 0 94 0 = b
      have fb : FrOn x b := by
        rw [← hb]
        exact Fq.trans fu (Fq.trans (Fq.i (by decide)) (Fq.trans (Fq.i (by decide)) (Fq.trans (Fq.i (by decide)) (Fq.trans (Fq.i (by decide)) (Fq.trans (Fq.i (by decide)) (Fq.trans (Fq.i (by decide)) (Fq.trans (Fq.i (by decide)) (Fq.trans (Fq.i (by decide)) (Fq.i (by decide))))))))))
      have bA : ∀ r, fA b r = fA u r := fun r => by rw [← hb]; rfl
      have b94 : fI b 0 94 = 0 := by rw [← hb]; exact gI_at
      have b93 : fI b 0 93 = 0 := by rw [← hb]; exact (gI_ne (by decide)).trans gI_at
      have b88 : fI b 0 88 = 0 := by rw [← hb]; exact (gI_ne (by decide)).trans ((gI_ne (by decide)).trans gI_at)
      have b87 : fI b 0 87 = 0 := by rw [← hb]; exact (gI_ne (by decide)).trans ((gI_ne (by decide)).trans ((gI_ne (by decide)).trans gI_at))
      have b86 : fI b 0 86 = 0 := by rw [← hb]; exact (gI_ne (by decide)).trans ((gI_ne (by decide)).trans ((gI_ne (by decide)).trans ((gI_ne (by decide)).trans gI_at)))
      have b69 : fI b 0 69 = 0 := by rw [← hb]; exact (gI_ne (by decide)).trans ((gI_ne (by decide)).trans ((gI_ne (by decide)).trans ((gI_ne (by decide)).trans ((gI_ne (by decide)).trans ((gI_ne (by decide)).trans gI_at)))))
      have bI : ∀ k, k ≠ 83 → k ≠ 67 → k ≠ 69 → k ≠ 85 → k ≠ 86 → k ≠ 87 → k ≠ 88 → k ≠ 93 → k ≠ 94 → fI b 0 k = fI u 0 k := fun k k1 k2 k3 k4 k5 k6 k7 k8 k9 => by rw [← hb]; exact (gI_ne k9).trans ((gI_ne k8).trans ((gI_ne k7).trans ((gI_ne k6).trans ((gI_ne k5).trans ((gI_ne k4).trans ((gI_ne k3).trans ((gI_ne k2).trans (gI_ne k1))))))))
      have b83 : fI b 0 83 = nI (o + 1) := by rw [← hb]; exact (gI_ne (by decide)).trans ((gI_ne (by decide)).trans ((gI_ne (by decide)).trans ((gI_ne (by decide)).trans ((gI_ne (by decide)).trans ((gI_ne (by decide)).trans ((gI_ne (by decide)).trans ((gI_ne (by decide)).trans gI_at)))))))
      clear hb
      have base : ∀ k, k = 0 ∨ k = 82 ∨ k = 120 ∨ k = 121 → fI b 0 k = 0 := fun k hk => by
        have e : fI b 0 k = fI a 0 k := (bI k (by omega) (by omega) (by omega) (by omega) (by omega) (by omega) (by omega) (by omega) (by omega)).trans (uI k)
        rw [e]
        rcases hk with z | z | z | z <;> rw [z]
        · exact a0
        · exact a82
        · exact a120
        · exact a121
      have b65 : fI b 0 65 = nI n := (bI 65 (by decide) (by decide) (by decide) (by decide) (by decide) (by decide) (by decide) (by decide) (by decide)).trans ((uI 65).trans ((aI 65 (by decide) (by decide) (by decide) (by decide)).trans h65))
      have bP : PoM b [] := ⟨b93, b94, by decide, by decide, fun k hk => absurd hk (Nat.not_lt_zero _)⟩
      have b34 : fA b 34 0 = 0 := by rw [bA]; exact u34
      -- a fault, told
      have fault : ∀ (y : St) e g c k l1 l2, Flt y e → opO T n = .error (e, g, c, k) → FrOn x y → (∀ j, j = 0 ∨ j = 82 ∨ j = 83 ∨ j = 120 ∨ j = 121 → fI y 0 j = fI b 0 j) → fA y 52 0 = g → fA y 52 1 = c → fA y 52 2 = k → fA y 34 0 = 0 → j_Mod_open_177 post l1 l2 y := fun y e g c k l1 l2 hf he hy hk h1 h2 h3 h4 => by
        unfold j_Mod_open_177
        refine br_f hf.ne ?_
        rw [hf.1]
        exact pe (by omega) e g c k y he hy hf.2.1 hf.2.2 ((hk 0 (by decide)).trans (base 0 (by decide))) ((hk 82 (by decide)).trans (base 82 (by decide))) ((hk 120 (by decide)).trans (base 120 (by decide))) ((hk 121 (by decide)).trans (base 121 (by decide))) ((hk 83 (by decide)).trans b83) h1 h2 h3 h4
      refine s_openFooter (fb.fi hF) b65 b69 bP (fun e y y1 y2 y3 => nm_e ?_) (fun F rows G K Q y y1 y2 y3 y4 y5 => nm_e ?_)
      · have fy : FrOn x (setI y 0 67 4) := Fq.trans fb (Fq.trans y2.on (Fq.i (by decide)))
        have fl : Flt (setI y 0 67 4) e := ⟨(gI_ne (by decide)).trans y3.1, y3.2⟩
        have he : opO T n = .error (e, -1, -1, -1) := by unfold opO; rw [y1]
        have y52 : fA y 52 = fA u 52 := (Fq.row y2 (by decide) (by decide)).trans (bA 52)
        have kp : ∀ j, j = 0 ∨ j = 82 ∨ j = 83 ∨ j = 120 ∨ j = 121 → fI (setI y 0 67 4) 0 j = fI b 0 j := fun j hj => (gI_ne (by omega)).trans (y2.1 0 j (by omega))
        have w0 : fA (setI y 0 67 4) 52 = fA u 52 := y52
        have f := fun l1 l2 => fault _ e (-1) (-1) (-1) l1 l2 fl he fy kp (by rw [w0]; exact u52 0 (by decide)) (by rw [w0]; exact u52 1 (by decide)) (by rw [w0]; exact u52 2 (by decide)) (by
          show fA y 34 0 = 0
          rw [Fq.row y2 (by decide) (by decide)]; exact b34)
        refine ⟨1, ?_⟩
        unfold wl_Mod_open_115 j_Mod_open_115
        exact ⟨fun _ => f _ _, fun _ => ⟨fun _ => f _ _, fun z => absurd z fl.ne⟩⟩
      · obtain ⟨f1, f2, f3, f4, f5, f6, f7, f8, f9, f10, f11, f12, f13, f14, f15, f16⟩ := y4
        have hC := f2.2.1
        have nC : 0 < ncol F := by
          have hl : 0 < F.length := Nat.pos_of_ne_zero (fun z => f4 (List.length_eq_zero_iff.mp z))
          by_cases ct : fTy F (F.length - 1) = 4
          · exact absurd ⟨F.length - 1, by omega, ct, fun ⟨g', g1, g2, _⟩ => by omega⟩ f3
          · have := ncol_lt (f := F.length - 1) (by omega) ct
            omega
        have fy : FrOn x (setI y 0 67 4) := Fq.trans fb (Fq.trans y2.on (Fq.i (by decide)))
        have zI : ∀ j, j ≠ 67 → fI (setI y 0 67 4) 0 j = fI y 0 j := fun j hj => gI_ne hj
        have z67 : fI (setI y 0 67 4) 0 67 = nI 4 := gI_at
        have zA : ∀ r, fA (setI y 0 67 4) r = fA y r := fun _ => rfl
        have zL : ∀ r, fL (setI y 0 67 4) r = fL y r := fun _ => rfl
        generalize setI y 0 67 4 = z at fy zI z67 zA zL
        have zK : ∀ j, j = 0 ∨ j = 82 ∨ j = 83 ∨ j = 120 ∨ j = 121 → fI z 0 j = fI b 0 j := fun j hj => (zI j (by omega)).trans (y2.1 0 j (by omega))
        have z52 : ∀ j, j < 3 → fA z 52 j = -1 := fun j hj => by rw [zA, Fq.row y2 (by decide) (by decide), bA]; exact u52 j hj
        have eo : opO T n = (match grpO T F G K G.length 0 [] 4 with
          | .error z => .error z
          | .ok (CK, _) => .ok (F, rows, G, K, CK)) := by unfold opO; rw [y1]
        have v10 : ∀ (w : St), FrOn x w → vp_in 1 (fN w 10) := fun w hw => by rw [(lens w hw).2.1]; exact vp_in_nI (n := 1) (by omega) (by omega)
        have r10 : ∀ {w : St}, RepM w 1 F → rA w 10 1 = nI (ncol F) := fun h => h.2.1
        have kl : ∀ w, w < K.length → (K.getD w t0).1 = clp (K.getD w t0).1 ∧ 4 + bsm (K.take w) + (K.getD w t0).1 ≤ n := fun w hw => by
          have a1 := bsm_take hw
          have a2 := bsm_le (K := K) (w := w + 1)
          have a3 : clp (K.getD w t0).1 ≤ 40000 := by omega
          have a4 : clp (K.getD w t0).1 = (K.getD w t0).1 := by
            unfold clp at a3 ⊢
            split at a3
            · rename_i h; rw [if_pos h]
            · omega
          omega
        -- how it is at a place
        refine lp_Mod_open_115 (fun c0 c1 v => ∃ g, nI g = c1 ∧ g ≤ G.length ∧ FrOn x v ∧ (∀ j, j = 0 ∨ j = 82 ∨ j = 83 ∨ j = 120 ∨ j = 121 → fI v 0 j = fI b 0 j) ∧ fI v 0 85 = nI G.length ∧ fA v 34 0 = 0 ∧ RepM v 1 F ∧ (∀ k, k < G.length → fA v 53 k = nI (G.getD k 0)) ∧ ((∃ e g' c' k, opO T n = .error (e, g', c', k) ∧ Flt v e ∧ fA v 52 0 = g' ∧ fA v 52 1 = c' ∧ fA v 52 2 = k) ∨ (∃ CK Q', nI (smN (G.take g)) = c0 ∧ CK.length = ncol F * g ∧ grpO T F G K G.length 0 [] 4 = grpO T F G K (G.length - g) g CK (4 + bsm (K.take (ncol F * g))) ∧ fI v 0 69 = 0 ∧ fI v 0 67 = nI (4 + bsm (K.take (ncol F * g))) ∧ fI v 0 84 = nI rows ∧ (∀ w, w < K.length → KtM v F Q' w (w % ncol F) (K.getD w t0)) ∧ OsM v F Q' (enA CK) (ppA (ncol F) G CK) ∧ fI v 0 88 = nI (tx (enA CK)) ∧ (enA CK).length ≤ 10000 ∧ (ppA (ncol F) G CK).length ≤ (enA CK).length ∧ tx (enA CK) ≤ 60000 ∧ Q'.length ≤ 20000 + 2 * (enA CK).length ∧ oF Q' Q'.length ≤ 40000 + tx (enA CK) + (4 + bsm (K.take (ncol F * g))) ∧ (∀ e, e ∈ enA CK → okE F e) ∧ (∀ w, w < CK.length → fA v 65 w = nI (enA (CK.take w)).length)))) (fun _ c1 _ => G.length - c1.toNatClampNeg) ?_ _ _ _ ⟨0, rfl, Nat.zero_le _, fy, zK, (zI 85 (by decide)).trans f7, ?_, ?_, fun k hk => by rw [zA]; exact (f9 k hk).1, Or.inr ⟨[], Q, rfl, rfl, rfl, (zI 69 (by decide)).trans y3, by rw [Nat.mul_zero]; exact z67, (zI 84 (by decide)).trans f5, fun w hw => ?_, ?_, ?_, by decide, Nat.zero_le _, by decide, by show _ ≤ 20000 + 2 * 0; omega, ?_, fun e he => absurd he (by simp [enA]), fun w hw => absurd hw (Nat.not_lt_zero _)⟩⟩
        · rintro S2 c0 c1 v ⟨g, rfl, g1, fv, vK, v85, v34, vR, v53, hv⟩ ih2
          unfold j_Mod_open_115
          rw [v85]
          rcases hv with ⟨e, g', c', k, e1, e2, e3, e4, e5⟩ | ⟨CK, Q', rfl, h1, h2, h3, h4, h5, h6, h7, h8, h9, h10, h11, h12, h13, h14, h15⟩
          · have f := fun l1 l2 => fault v e g' c' k l1 l2 e2 e1 fv vK e3 e4 e5 v34
            exact ⟨fun _ => f _ _, fun _ => ⟨fun _ => f _ _, fun w => absurd w e2.ne⟩⟩
          by_cases cg : g < G.length
          · have hrow : smN (G.take g) ≤ 2000 := by have := smN_le (G := G) (g := g); omega
            have hK0 : ncol F * g + ncol F ≤ K.length := by rw [f11, ← Nat.mul_succ]; exact Nat.mul_le_mul_left _ cg
            refine br_f (by (first | omega | (simp (disch := omega) only [Int32.le_iff_toInt_le, Int32.lt_iff_toInt_lt, z_eq, z_in, nI_toInt, z_cl, z_m1, z_sg, z_255, Int32.reduceToInt] <;> omega) | (simp only [Int32.le_iff_toInt_le, Int32.lt_iff_toInt_lt, z_eq, z_in, z_add, z_sub, z_mul, z_neg, z_nI, z_cl, z_sg, z_255, z_lit, Int32.reduceToInt] <;> omega))) ⟨fun w => absurd h3 w, fun _ => ?_⟩
            have st1 : grpO T F G K G.length 0 [] 4 = (match cksO T F K (G.getD g 0) g (ncol F) 0 CK [] (4 + bsm (K.take (ncol F * g))) with
              | .error z => .error z
              | .ok (CK', q) => grpO T F G K (G.length - (g + 1)) (g + 1) CK' q) := by
              rw [h2, show G.length - g = (G.length - (g + 1)) + 1 by omega]
              rfl
            have v53' : ∀ (w : St), FrOn x w → vp_in (nI g) (fN w 53) := fun w hw => by rw [(lens w hw).2.2]; exact vp_in_nI (by omega) (by omega)
            refine lp_Mod_open_132 (fun d0 d1 d2 w => nI (smN (G.take g)) = d0 ∧ nI g = d1 ∧ ∃ c, nI c = d2 ∧ c ≤ ncol F ∧ FrOn x w ∧ (∀ j, j = 0 ∨ j = 82 ∨ j = 83 ∨ j = 120 ∨ j = 121 → fI w 0 j = fI b 0 j) ∧ fI w 0 85 = nI G.length ∧ fA w 34 0 = 0 ∧ RepM w 1 F ∧ (∀ k, k < G.length → fA w 53 k = nI (G.getD k 0)) ∧ ((∃ e g' c' k, opO T n = .error (e, g', c', k) ∧ Flt w e ∧ fA w 52 0 = g' ∧ fA w 52 1 = c' ∧ fA w 52 2 = k) ∨ (∃ CK' Q'' A, CK'.length = ncol F * g + c ∧ cksO T F K (G.getD g 0) g (ncol F) 0 CK [] (4 + bsm (K.take (ncol F * g))) = cksO T F K (G.getD g 0) g (ncol F - c) c CK' A (4 + bsm (K.take (ncol F * g + c))) ∧ (c ≠ 0 → ∃ E0, enA CK' = E0 ++ A ∧ fA w 65 (ncol F * g + c - 1) = nI E0.length) ∧ fI w 0 69 = 0 ∧ fI w 0 67 = nI (4 + bsm (K.take (ncol F * g + c))) ∧ fI w 0 84 = nI rows ∧ (∀ k, k < K.length → KtM w F Q'' k (k % ncol F) (K.getD k t0)) ∧ OsM w F Q'' (enA CK') (ppA (ncol F) G CK') ∧ fI w 0 88 = nI (tx (enA CK')) ∧ (enA CK').length ≤ 10000 ∧ (ppA (ncol F) G CK').length ≤ (enA CK').length ∧ tx (enA CK') ≤ 60000 ∧ Q''.length ≤ 20000 + 2 * (enA CK').length ∧ oF Q'' Q''.length ≤ 40000 + tx (enA CK') + (4 + bsm (K.take (ncol F * g + c))) ∧ (∀ e, e ∈ enA CK' → okE F e) ∧ (∀ k, k < CK'.length → fA w 65 k = nI (enA (CK'.take k)).length)))) (fun _ _ d2 _ => ncol F - d2.toNatClampNeg) ?_ _ _ _ _ ⟨rfl, rfl, 0, rfl, Nat.zero_le _, fv, vK, v85, v34, vR, v53, Or.inr ⟨CK, Q', [], h1, rfl, fun w => absurd rfl w, h3, h4, h5, h6, h7, h8, h9, h10, h11, h12, h13, h14, h15⟩⟩
            rintro S3 d0 d1 d2 w ⟨rfl, rfl, c, rfl, c1', fw, wK, w85, w34, wR, w53, hw⟩ ih3
            -- to the next group
            have nxt : ∀ l3 l0, ((∃ e g' c' k, opO T n = .error (e, g', c', k) ∧ Flt w e ∧ fA w 52 0 = g' ∧ fA w 52 1 = c' ∧ fA w 52 2 = k) ∨ (l0 = smN (G.take g) ∧ c = ncol F ∧ ∃ CK' Q'' , CK'.length = ncol F * (g + 1) ∧ grpO T F G K G.length 0 [] 4 = grpO T F G K (G.length - (g + 1)) (g + 1) CK' (4 + bsm (K.take (ncol F * (g + 1)))) ∧ fI w 0 69 = 0 ∧ fI w 0 67 = nI (4 + bsm (K.take (ncol F * (g + 1)))) ∧ fI w 0 84 = nI rows ∧ (∀ k, k < K.length → KtM w F Q'' k (k % ncol F) (K.getD k t0)) ∧ OsM w F Q'' (enA CK') (ppA (ncol F) G CK') ∧ fI w 0 88 = nI (tx (enA CK')) ∧ (enA CK').length ≤ 10000 ∧ (ppA (ncol F) G CK').length ≤ (enA CK').length ∧ tx (enA CK') ≤ 60000 ∧ Q''.length ≤ 20000 + 2 * (enA CK').length ∧ oF Q'' Q''.length ≤ 40000 + tx (enA CK') + (4 + bsm (K.take (ncol F * (g + 1)))) ∧ (∀ e, e ∈ enA CK' → okE F e) ∧ (∀ k, k < CK'.length → fA w 65 k = nI (enA (CK'.take k)).length))) → j_Mod_open_162 post S2 (nI (smN (G.take g))) (nI g) l3 w := fun l3 l0 hh => by
              unfold j_Mod_open_162
              refine ⟨v53' w fw, nm_r (e' := nI (smN (G.take (g + 1)))) (by rw [rA_nI (by omega), w53 g cg, nI_add, smN_take cg]) ?_⟩
              rw [nI_1]
              refine ih2 _ _ _ ⟨g + 1, rfl, by omega, fw, wK, w85, w34, wR, w53, ?_⟩ (by rw [nI_clamp (by omega), nI_clamp (by omega)]; omega)
              rcases hh with hh | ⟨-, -, CK', Q'', q1, q2⟩
              · exact Or.inl hh
              · exact Or.inr ⟨CK', Q'', rfl, q1, q2⟩
            unfold j_Mod_open_132
            rw [r10 wR]
            refine ⟨v10 w fw, ?_⟩
            rcases hw with hw | ⟨CK', Q'', A, q1, q2, q3, q4, q5, q6, q7, q8, q9, q10, q11, q12, q13, q14, q15, q16⟩
            · obtain ⟨e, g', c', k, e1, e2, e3⟩ := hw
              exact ⟨fun _ => nxt _ 0 (Or.inl ⟨e, g', c', k, e1, e2, e3⟩), fun _ => ⟨fun _ => nxt _ 0 (Or.inl ⟨e, g', c', k, e1, e2, e3⟩), fun w => absurd w e2.ne⟩⟩
            by_cases cc : c < ncol F
            · refine br_f (by (first | omega | (simp (disch := omega) only [Int32.le_iff_toInt_le, Int32.lt_iff_toInt_lt, z_eq, z_in, nI_toInt, z_cl, z_m1, z_sg, z_255, Int32.reduceToInt] <;> omega) | (simp only [Int32.le_iff_toInt_le, Int32.lt_iff_toInt_lt, z_eq, z_in, z_add, z_sub, z_mul, z_neg, z_nI, z_cl, z_sg, z_255, z_lit, Int32.reduceToInt] <;> omega))) ⟨fun w => absurd q4 w, fun _ => ?_⟩
              have hw0 : ncol F * g + c < K.length := by omega
              obtain ⟨kl1, kl2⟩ := kl _ hw0
              have bt := bsm_take hw0
              rw [← kl1] at bt
              have md0 : (ncol F * g + c) % ncol F = c := by rw [Nat.mul_add_mod, Nat.mod_eq_of_lt cc]
              have dv0 : (ncol F * g + c) / ncol F = g := by rw [Nat.mul_add_div nC, Nat.div_eq_of_lt cc, Nat.add_zero]
              have kt := q7 _ hw0
              rw [md0] at kt
              have st2 : cksO T F K (G.getD g 0) g (ncol F) 0 CK [] (4 + bsm (K.take (ncol F * g))) = (match ckO T F c (K.getD (ncol F * g + c) t0) (G.getD g 0) A (enA CK') (4 + bsm (K.take (ncol F * g + c))) with
                | .error (e, k) => .error (e, nI g, nI c, k)
                | .ok (X, q) => cksO T F K (G.getD g 0) g (ncol F - (c + 1)) (c + 1) (CK' ++ [X]) (ckC X) q) := by
                rw [q2, show ncol F - c = (ncol F - (c + 1)) + 1 by omega]
                rfl
              obtain ⟨E0, hE0⟩ : ∃ E0, c ≠ 0 → enA CK' = E0 ++ A ∧ fA w 65 (ncol F * g + c - 1) = nI E0.length := by
                by_cases c0 : c = 0
                · exact ⟨[], fun h => absurd c0 h⟩
                · obtain ⟨E0, h⟩ := q3 c0
                  exact ⟨E0, fun _ => h⟩
              refine s_openChunk (g := g) (rows := G.getD g 0) (row := smN (G.take g)) (A := A) (E0 := E0) (t := K.getD (ncol F * g + c) t0) (fw.fi hF) f2 wR cc q4 q5 kl2 w34 q8 q9 q10 q11 q12 q13 q14 q15 kt (by omega) (w53 g cg) (f9 g cg).2.1 hrow (by omega) hE0 (fun e k m m1 m2 m3 m4 m5 m6 m7 => ?_) (fun X q Z m m1 m2 m3 m4 m5 m6 m7 m8 m9 m10 m11 m12 m13 m14 m15 m16 m17 m18 => ?_)
              · have he : opO T n = .error (e, nI g, nI c, k) := by rw [eo, st1, st2, m1]
                have mI : ∀ j, j = 0 ∨ j = 82 ∨ j = 83 ∨ j = 85 ∨ j = 120 ∨ j = 121 → fI m 0 j = fI w 0 j := fun j hj => m2.1 0 j (by omega)
                rw [nI_1]
                refine ih3 _ _ _ _ ⟨rfl, rfl, c + 1, rfl, by omega, Fq.trans fw m2.on, fun j hj => (mI j (by omega)).trans (wK j hj), (mI 85 (by decide)).trans w85, m4, m2.rep wR, fun k hk => by rw [show fA m 53 = fA w 53 from m2.2.2.2.1 53 (by decide)]; exact w53 k hk, Or.inl ⟨e, nI g, nI c, k, he, m3, m5, m6, m7⟩⟩ (by rw [nI_clamp (by omega), nI_clamp (by omega)]; omega)
              · have mI : ∀ j, j = 0 ∨ j = 82 ∨ j = 83 ∨ j = 84 ∨ j = 85 ∨ j = 120 ∨ j = 121 → fI m 0 j = fI w 0 j := fun j hj => m2.1 0 j (by omega)
                have ePP : ppA (ncol F) G (CK' ++ [X]) = ppA (ncol F) G CK' ++ pgP c (smN (G.take g)) X := by rw [ppA_add, q1, md0, dv0]
                have eE : enA (CK' ++ [X]) = enA CK' ++ ckC X := enA_add
                have eb : 4 + bsm (K.take (ncol F * g + (c + 1))) = q := by
                  rw [← Nat.add_assoc, bt]
                  omega
                have lX : (CK' ++ [X]).length = CK'.length + 1 := by rw [List.length_append]; rfl
                rw [nI_1]
                refine ih3 _ _ _ _ ⟨rfl, rfl, c + 1, rfl, by omega, Fq.trans fw m2.on, fun j hj => (mI j (by omega)).trans (wK j hj), (mI 85 (by decide)).trans w85, m13, m2.rep wR, fun k hk => by rw [show fA m 53 = fA w 53 from m2.2.2.2.1 53 (by decide)]; exact w53 k hk, Or.inr ⟨CK' ++ [X], Q'' ++ Z, ckC X, by rw [lX, q1]; rfl, ?_, fun _ => ⟨enA CK', eE, ?_⟩, m3, by rw [eb]; exact m4, (mI 84 (by decide)).trans q6, fun k hk => ?_, by rw [eE, ePP]; exact m5, by rw [eE]; exact m6, by rw [eE]; exact m7, by rw [eE, ePP]; exact m8, by rw [eE]; exact m9, by rw [eE]; exact m10, by rw [eE, eb]; exact m11, fun e he => ?_, fun k hk => ?_⟩⟩ (by rw [nI_clamp (by omega), nI_clamp (by omega)]; omega)
                · rw [st2, m1, eb]
                · rw [show ncol F * g + (c + 1) - 1 = ncol F * g + c by omega]
                  exact m17
                · exact (q7 k hk).cg (fun r hr => by rw [show fA m r = fA w r from m2.2.2.2.1 r (by omega)])
                · rw [eE] at he
                  rcases List.mem_append.mp he with z' | z'
                  · exact q15 e z'
                  · exact (m12 e z').1
                · rw [lX] at hk
                  by_cases e : k = CK'.length
                  · rw [e, List.take_left, q1]
                    exact m17
                  · rw [m16 k (by omega) (by omega), q16 k (by omega), List.take_append_of_le_length (by omega)]
            · have ec : c = ncol F := by omega
              refine br_t (by (first | omega | (simp (disch := omega) only [Int32.le_iff_toInt_le, Int32.lt_iff_toInt_lt, z_eq, z_in, nI_toInt, z_cl, z_m1, z_sg, z_255, Int32.reduceToInt] <;> omega) | (simp only [Int32.le_iff_toInt_le, Int32.lt_iff_toInt_lt, z_eq, z_in, z_add, z_sub, z_mul, z_neg, z_nI, z_cl, z_sg, z_255, z_lit, Int32.reduceToInt] <;> omega))) (nxt _ (smN (G.take g)) (Or.inr ⟨rfl, ec, CK', Q'', ?_⟩))
              subst ec
              rw [Nat.sub_self] at q2
              have q2 : cksO T F K (G.getD g 0) g (ncol F) 0 CK [] (4 + bsm (K.take (ncol F * g))) = .ok (CK', 4 + bsm (K.take (ncol F * g + ncol F))) := q2
              rw [q2] at st1
              rw [← Nat.mul_succ] at q1 q5 q14 st1
              exact ⟨q1, st1, q4, q5, q6, q7, q8, q9, q10, q11, q12, q13, q14, q15, q16⟩
          · have eg : g = G.length := by omega
            rw [eg, Nat.sub_self] at h2
            have h2 : grpO T F G K G.length 0 [] 4 = .ok (CK, 4 + bsm (K.take (ncol F * G.length))) := h2
            rw [h2] at eo
            simp only at eo
            refine br_t (by (first | omega | (simp (disch := omega) only [Int32.le_iff_toInt_le, Int32.lt_iff_toInt_lt, z_eq, z_in, nI_toInt, z_cl, z_m1, z_sg, z_255, Int32.reduceToInt] <;> omega) | (simp only [Int32.le_iff_toInt_le, Int32.lt_iff_toInt_lt, z_eq, z_in, z_add, z_sub, z_mul, z_neg, z_nI, z_cl, z_sg, z_255, z_lit, Int32.reduceToInt] <;> omega))) ?_
            unfold j_Mod_open_177
            refine br_t h3 ?_
            refine lp_Mod_open_191 (fun d0 d1 w => ∃ k, nI k = d1 ∧ k ≤ 3 ∧ FrOn x w ∧ (∀ j, fI w 0 j = fI v 0 j) ∧ (∀ r, r ≠ 52 → fA w r = fA v r) ∧ (∀ r, fL w r = fL v r) ∧ ∀ j, j < k → fA w 52 j = -1) (fun _ d1 _ => 3 - d1.toNatClampNeg) ?_ _ _ _ ⟨0, rfl, by decide, fv, fun _ => rfl, fun _ _ => rfl, fun _ => rfl, fun j hj => absurd hj (Nat.not_lt_zero _)⟩
            rintro S3 d0 d1 w ⟨k, rfl, k1', fw, wI, wA, wL, w52⟩ ih3
            unfold j_Mod_open_191
            by_cases ck' : k < 3
            · refine br_f (by (first | omega | (simp (disch := omega) only [Int32.le_iff_toInt_le, Int32.lt_iff_toInt_lt, z_eq, z_in, nI_toInt, z_cl, z_m1, z_sg, z_255, Int32.reduceToInt] <;> omega) | (simp only [Int32.le_iff_toInt_le, Int32.lt_iff_toInt_lt, z_eq, z_in, z_add, z_sub, z_mul, z_neg, z_nI, z_cl, z_sg, z_255, z_lit, Int32.reduceToInt] <;> omega))) ⟨by rw [(lens w fw).1]; exact vp_in_nI (by omega) (by omega), nm_e ?_⟩
              rw [nI_1]
              refine ih3 _ _ _ ⟨k + 1, rfl, by omega, Fq.trans fw (Fq.a (by decide)), wI, fun r hr => (gA_ne hr).trans (wA r hr), wL, fun j hj => ?_⟩ (by rw [nI_clamp (by omega), nI_clamp (by omega)]; omega)
              by_cases e : j = k
              · rw [e, gA_on (by omega)]
              · rw [gA_off (by omega) e]; exact w52 j (by omega)
            · have ek' : k = 3 := by omega
              subst ek'
              refine br_t (by decide) (nm_e ?_)
              have mI : ∀ j, j ≠ 82 → fI (setI w 0 82 1) 0 j = fI v 0 j := fun j hj => (gI_ne hj).trans (wI j)
              have m82 : fI (setI w 0 82 1) 0 82 = 1 := gI_at
              have fm : FrOn x (setI w 0 82 1) := Fq.trans fw (Fq.i (by decide))
              have mA : ∀ r, r ≠ 52 → fA (setI w 0 82 1) r = fA v r := wA
              have m52 : fA (setI w 0 82 1) 52 = fA w 52 := rfl
              have mL : ∀ r, fL (setI w 0 82 1) r = fL v r := wL
              generalize setI w 0 82 1 = m at mI m82 fm mA m52 mL
              have mR : RepM m 1 F := by
                unfold RepM
                rw [mA 3 (by decide), mA 4 (by decide), mA 5 (by decide), mA 6 (by decide), mA 7 (by decide), mA 8 (by decide), mA 9 (by decide), mA 10 (by decide), mA 11 (by decide)]
                exact vR
              refine pk (by omega) F rows G K CK m eo fm ⟨mR, f2, f3, f4, (mI 84 (by decide)).trans h5, f6, (mI 85 (by decide)).trans v85, f8, fun g hg => ⟨by rw [mA 53 (by decide)]; exact v53 g hg, (f9 g hg).2⟩, f10, f11, f12, by rw [h1, f11, eg], Q', fun w' hw' => ?_, h7.cg (fun j hj => mI j (by omega)) (fun r r1 r2 r3 => mA r (by omega)) (mL 54), fun w' hw' => by rw [mA 65 (by decide)]; exact h15 w' hw', h9, h10, h11, h14⟩ ?_ m82 ?_ ?_ ?_ (fun j hj => by rw [m52]; exact w52 j hj) (by rw [mA 34 (by decide)]; exact v34)
              · have := (h6 w' hw').cg (y := m) (Z := []) (fun r hr => by rw [mA r (by omega)])
                rw [List.append_nil] at this
                exact this.w
              · exact (mI 0 (by decide)).trans ((vK 0 (by decide)).trans (base 0 (by decide)))
              · exact (mI 120 (by decide)).trans ((vK 120 (by decide)).trans (base 120 (by decide)))
              · exact (mI 121 (by decide)).trans ((vK 121 (by decide)).trans (base 121 (by decide)))
              · exact (mI 83 (by decide)).trans ((vK 83 (by decide)).trans b83)
        · rw [zA, Fq.row y2 (by decide) (by decide)]; exact b34
        · unfold RepM
          rw [zA, zA, zA, zA, zA, zA, zA, zA, zA]
          exact f1
        · have := (f13 w hw).cg (y := z) (Z := []) (fun r hr => by rw [zA])
          rw [List.append_nil] at this
          exact this
        · refine ⟨f14.cg (zI 93 (by decide)) (zI 94 (by decide)) (zL 54) (zA 55) (zA 56) (zA 57), ?_, ?_, fun i hi => absurd hi (Nat.not_lt_zero _), fun k hk => absurd hk (Nat.not_lt_zero _)⟩
          · exact (zI 87 (by decide)).trans ((y2.1 0 87 (by decide)).trans b87)
          · exact (zI 86 (by decide)).trans ((y2.1 0 86 (by decide)).trans b86)
        · exact (zI 88 (by decide)).trans ((y2.1 0 88 (by decide)).trans b88)
        · show _ ≤ 40000 + 0 + _
          omega
end
