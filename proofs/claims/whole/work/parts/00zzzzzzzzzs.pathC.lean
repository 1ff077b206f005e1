/-! paths of a query, class -/
theorem st_se : isSt 11 [115, 101, 108, 101, 99, 116] := by unfold isSt; decide +kernel
theorem st_wh : isSt 16 [119, 104, 101, 114, 101] := by unfold isSt; decide +kernel
theorem st_by : isSt 17 [98, 121] := by unfold isSt; decide +kernel
theorem st_an : isSt 18 [97, 110, 100] := by unfold isSt; decide +kernel
theorem st_or : isSt 19 [111, 114] := by unfold isSt; decide +kernel
theorem st_no : isSt 20 [110, 111, 116] := by unfold isSt; decide +kernel
theorem st_is : isSt 21 [105, 115] := by unfold isSt; decide +kernel
theorem st_nu : isSt 22 [110, 117, 108, 108] := by unfold isSt; decide +kernel
theorem st_in : isSt 23 [105, 110] := by unfold isSt; decide +kernel
theorem st_co : isSt 12 [99, 111, 117, 110, 116] := by unfold isSt; decide +kernel
theorem st_su : isSt 13 [115, 117, 109] := by unfold isSt; decide +kernel
theorem st_mi : isSt 14 [109, 105, 110] := by unfold isSt; decide +kernel
theorem st_ma : isSt 15 [109, 97, 120] := by unfold isSt; decide +kernel
theorem d_isWord {post : Int32 → St → Prop} {y : St} {q j k n : Nat} {T : Nat → Int32} {w : List Nat} (hT : TxC y 10 q T n) (h4 : fI y 10 4 = nI k) (h5 : fI y 10 5 = nI (wln T n k)) (hk : k ≤ n) (hj : isSt j w) (p : post (if isWd T n k w then 1 else 0) y) : wp_Scn_isWord post 10 j y := by
  have hw := @wln_le T n k hk
  have hn := hT.2.2.1
  have hj2 := hj.2.1
  unfold wp_Scn_isWord
  rw [h5, hj.1]
  by_cases d : wln T n k = w.length
  · refine br_t (by rw [d]) ⟨_, c_isWord_loop (s := k) hT hj h4 (by rw [h5, d]) (by omega) (fun z => ?_) (fun z => ?_) w.length 0 (by omega) lt_0⟩
    · rw [if_pos ⟨d, z⟩] at p; exact p
    · rw [if_neg (fun e => z e.2)] at p; exact p
  · rw [if_neg (fun e => d e.1)] at p
    exact br_f (fun z => d ((nI_eq (by omega) (by omega)).mp z)) p
theorem k_own {post : Int32 → St → Prop} {y : St} {q k n o : Nat} {T : Nat → Int32} (h17 : fR y o 17 = some 10) (hT : TxC y 10 q T n) (h4 : fI y 10 4 = nI k) (h5 : fI y 10 5 = nI (wln T n k)) (hk : k ≤ n) (p : post (if ownB T n k = true then 1 else 0) y) : wp_Qry_isOwnWord post o y := by
  have o1 : ∀ w, w ∈ ownW → isWd T n k w → post 1 y := fun w hm h => by rw [if_pos (own_t w hm h)] at p; exact p
  have o0 : (∀ w, w ∈ ownW → ¬ isWd T n k w) → post 0 y := fun h => by rw [own_f h] at p; exact p
  clear p
  unfold wp_Qry_isOwnWord j_Qry_isOwnWord_192
  refine ⟨10, h17, d_isWord hT h4 h5 hk st_se ?_⟩
  by_cases c0 : isWd T n k [115, 101, 108, 101, 99, 116]
  · rw [if_pos c0]; exact bn_f (by decide) (o1 _ (by decide) c0)
  rw [if_neg c0]
  refine bn_t rfl ⟨10, h17, d_isWord hT h4 h5 hk st_wh ?_⟩
  by_cases c1 : isWd T n k [119, 104, 101, 114, 101]
  · rw [if_pos c1]; exact bn_f (by decide) (o1 _ (by decide) c1)
  rw [if_neg c1]
  refine bn_t rfl ⟨10, h17, d_isWord hT h4 h5 hk st_t4 ?_⟩
  by_cases c2 : isWd T n k [103, 114, 111, 117, 112]
  · rw [if_pos c2]; exact bn_f (by decide) (o1 _ (by decide) c2)
  rw [if_neg c2]
  refine bn_t rfl ⟨10, h17, d_isWord hT h4 h5 hk st_by ?_⟩
  by_cases c3 : isWd T n k [98, 121]
  · rw [if_pos c3]; exact bn_f (by decide) (o1 _ (by decide) c3)
  rw [if_neg c3]
  refine bn_t rfl ⟨10, h17, d_isWord hT h4 h5 hk st_an ?_⟩
  by_cases c4 : isWd T n k [97, 110, 100]
  · rw [if_pos c4]; exact bn_f (by decide) (o1 _ (by decide) c4)
  rw [if_neg c4]
  refine bn_t rfl ⟨10, h17, d_isWord hT h4 h5 hk st_or ?_⟩
  by_cases c5 : isWd T n k [111, 114]
  · rw [if_pos c5]; exact bn_f (by decide) (o1 _ (by decide) c5)
  rw [if_neg c5]
  refine bn_t rfl ⟨10, h17, d_isWord hT h4 h5 hk st_no ?_⟩
  by_cases c6 : isWd T n k [110, 111, 116]
  · rw [if_pos c6]; exact bn_f (by decide) (o1 _ (by decide) c6)
  rw [if_neg c6]
  refine bn_t rfl ⟨10, h17, d_isWord hT h4 h5 hk st_is ?_⟩
  by_cases c7 : isWd T n k [105, 115]
  · rw [if_pos c7]; exact bn_f (by decide) (o1 _ (by decide) c7)
  rw [if_neg c7]
  refine bn_t rfl ⟨10, h17, d_isWord hT h4 h5 hk st_nu ?_⟩
  by_cases c8 : isWd T n k [110, 117, 108, 108]
  · rw [if_pos c8]; exact bn_f (by decide) (o1 _ (by decide) c8)
  rw [if_neg c8]
  refine bn_t rfl ⟨10, h17, d_isWord hT h4 h5 hk st_in ?_⟩
  by_cases c9 : isWd T n k [105, 110]
  · rw [if_pos c9]; exact bn_f (by decide) (o1 _ (by decide) c9)
  rw [if_neg c9]
  refine bn_t rfl ⟨10, h17, d_isWord hT h4 h5 hk st_tr ?_⟩
  by_cases c10 : isWd T n k [116, 114, 117, 101]
  · rw [if_pos c10]; exact bn_f (by decide) (o1 _ (by decide) c10)
  rw [if_neg c10]
  refine bn_t rfl ⟨10, h17, d_isWord hT h4 h5 hk st_fa ?_⟩
  by_cases c11 : isWd T n k [102, 97, 108, 115, 101]
  · rw [if_pos c11]; exact bn_f (by decide) (o1 _ (by decide) c11)
  rw [if_neg c11]
  refine bn_t rfl ⟨10, h17, d_isWord hT h4 h5 hk st_co ?_⟩
  by_cases c12 : isWd T n k [99, 111, 117, 110, 116]
  · rw [if_pos c12]; exact bn_f (by decide) (o1 _ (by decide) c12)
  rw [if_neg c12]
  refine bn_t rfl ⟨10, h17, d_isWord hT h4 h5 hk st_su ?_⟩
  by_cases c13 : isWd T n k [115, 117, 109]
  · rw [if_pos c13]; exact bn_f (by decide) (o1 _ (by decide) c13)
  rw [if_neg c13]
  refine bn_t rfl ⟨10, h17, d_isWord hT h4 h5 hk st_mi ?_⟩
  by_cases c14 : isWd T n k [109, 105, 110]
  · rw [if_pos c14]; exact bn_f (by decide) (o1 _ (by decide) c14)
  rw [if_neg c14]
  refine bn_t rfl ⟨10, h17, d_isWord hT h4 h5 hk st_ma ?_⟩
  by_cases c15 : isWd T n k [109, 97, 120]
  · rw [if_pos c15]; exact br_f (by decide) (o1 _ (by decide) c15)
  rw [if_neg c15]
  refine br_t rfl (o0 ?_)
  intro w hw
  unfold ownW at hw
  rcases List.mem_cons.mp hw with e | hw
  · rw [e]; exact c0
  rcases List.mem_cons.mp hw with e | hw
  · rw [e]; exact c1
  rcases List.mem_cons.mp hw with e | hw
  · rw [e]; exact c2
  rcases List.mem_cons.mp hw with e | hw
  · rw [e]; exact c3
  rcases List.mem_cons.mp hw with e | hw
  · rw [e]; exact c4
  rcases List.mem_cons.mp hw with e | hw
  · rw [e]; exact c5
  rcases List.mem_cons.mp hw with e | hw
  · rw [e]; exact c6
  rcases List.mem_cons.mp hw with e | hw
  · rw [e]; exact c7
  rcases List.mem_cons.mp hw with e | hw
  · rw [e]; exact c8
  rcases List.mem_cons.mp hw with e | hw
  · rw [e]; exact c9
  rcases List.mem_cons.mp hw with e | hw
  · rw [e]; exact c10
  rcases List.mem_cons.mp hw with e | hw
  · rw [e]; exact c11
  rcases List.mem_cons.mp hw with e | hw
  · rw [e]; exact c12
  rcases List.mem_cons.mp hw with e | hw
  · rw [e]; exact c13
  rcases List.mem_cons.mp hw with e | hw
  · rw [e]; exact c14
  rcases List.mem_cons.mp hw with e | hw
  · rw [e]; exact c15
  exact absurd hw List.not_mem_nil
theorem skip_ltr {T : Nat → Int32} {n k : Nat} (h : 0 < wln T n k) : skip T n k = k := by
  refine skip_no (fun z => ?_)
  have := (wln_pos.mp h).2
  have z := z.2
  unfold blk at z
  unfold ltr at this
  (first | omega | (simp (disch := omega) only [Int32.le_iff_toInt_le, Int32.lt_iff_toInt_lt, z_eq, z_in, nI_toInt, z_cl, z_m1, z_sg, z_255, Int32.reduceToInt] at * <;> omega) | (simp only [Int32.le_iff_toInt_le, Int32.lt_iff_toInt_lt, z_eq, z_in, z_add, z_sub, z_mul, z_neg, z_nI, z_cl, z_sg, z_255, z_lit, Int32.reduceToInt] at * <;> omega))
theorem fdF_none {F : List SFd} {g : Int32} {nm : List Int32} (hF : F.length < 2 ^ 31) (h : hasN F g nm = false) : fdF F g nm = -1 := by
  unfold fdF
  rw [fnd_some hF]
  intro f hf
  exact decide_eq_false (hasN_iff.mp h f hf)
section
variable {b : Prop} {q n o : Nat} {T : Nat → Int32} {F : List SFd} {x : St} {Q : Qy}
theorem k_qPthL (hB : BsC x q n F o) {post : Int32 → St → Prop} {a : Nat} (ha : a ≤ n) : ∀ d k g bl i y, n + 1 ≤ k + d → i ≤ k → (i = 0 ∧ bl = false ∨ 0 < i ∧ bl = decide (g = -1)) → gOk F.length g → GdC b q T n F o x y k Q → fI y o 19 = nI a →
    ((qPth T n F d k g bl).1 = -1 → ¬ (qPth T n F d k g bl).2.2 = -1 → ∀ z, GdC b q T n F o x z (qPth T n F d k g bl).2.1 Q → fI z o 19 = nI a → post (qPth T n F d k g bl).2.2 z) →
    ((qPth T n F d k g bl).1 = -1 → (qPth T n F d k g bl).2.2 = -1 → ∀ z, FfC b q T n o x z (nI a) → fI z o 19 = nI a → post (-1) z) →
    (¬ (qPth T n F d k g bl).1 = -1 → ∀ z, FfC b q T n o x z (qPth T n F d k g bl).1 → fI z o 19 = nI a → post (-1) z) → wl_Qry_readPath_37 post (d + 1) o g 1 (nI i) y := by
  have t2 := hB.1
  intro d
  induction d with
  | zero =>
    intro k g bl i y hd hi hb hg h
    have := h.2.1.2.2.2
    omega
  | succ d ih =>
    intro k g bl i y hd hi hb hg h h19
    obtain ⟨-, hL, hw, hR, t5, t6, t7, t8⟩ := hB.fq h.1
    have ho : o ≠ 10 := by rcases t7 with e | e <;> omega
    have hs := h.2.1
    have hT := hs.1
    have hk := hs.2.2.2
    have hwl := @wln_le T n k hk
    have hF := hw.1
    unfold qPth
    intro p1 p2 p0
    show j_Qry_readPath_37 post (wl_Qry_readPath_37 post (d + 1)) o g 1 (nI i) y
    unfold j_Qry_readPath_37
    have e1 : fI y 10 1 = nI n := hT.2.1
    have e2 : fI y 10 2 = nI k := hs.2.1
    refine ⟨10, t5, br_f (by rw [e1]; (first | omega | (simp (disch := omega) only [Int32.le_iff_toInt_le, Int32.lt_iff_toInt_lt, z_eq, z_in, nI_toInt, z_cl, z_m1, z_sg, z_255, Int32.reduceToInt] <;> omega) | (simp only [Int32.le_iff_toInt_le, Int32.lt_iff_toInt_lt, z_eq, z_in, z_add, z_sub, z_mul, z_neg, z_nI, z_cl, z_sg, z_255, z_lit, Int32.reduceToInt] <;> omega))) (br_f (by decide) ⟨10, t5, 10, t5, ?_⟩)⟩
    rw [e2]
    refine c_byteAt hT (by omega) (c_isLetter ?_)
    have key : ltr (if k < n then T k else -1) ↔ 0 < wln T n k := by
      rw [wln_pos]
      by_cases c : k < n
      · rw [if_pos c]; exact ⟨fun z => ⟨c, z⟩, fun z => z.2⟩
      · rw [if_neg c]; exact ⟨fun z => absurd z (by decide), fun z => absurd z.1 c⟩
    have ne : ¬ nI k = -1 := nI_nm1 (by omega)
    by_cases c : 0 < wln T n k
    · rw [if_pos (key.mpr c)]
      have sk := skip_ltr c
      refine bn_f (by decide) ⟨10, t5, d_takeAnyWord hs (fun _ y2 f2 s2 w4 w5 => ?_) (fun z => by rw [sk] at z; omega)⟩
      rw [sk] at s2 w4 w5
      have g2 : GdC b q T n F o x y2 (k + wln T n k) Q := h.mv t7 f2.t s2 (by omega)
      have v19 : fI y2 o 19 = nI a := (f2.t.1 o 19 ho).trans h19
      obtain ⟨-, hL2, -, hR2, u5, u6, -, -⟩ := hB.fq g2.1
      refine k_own u5 s2.1 w4 w5 hk ?_
      by_cases co : ownB T n k = true
      · rw [if_pos co]
        rw [if_pos (Or.inr co)] at p0
        refine br_f (by decide) ⟨10, u5, 10, u5, ?_⟩
        rw [w4]
        refine c_refuse ?_
        rw [if_pos s2.2.2.1]
        exact p0 ne _ (g2.er FrT.i s2.ill) ((FrT.i.1 o 19 ho).trans v19)
      · rw [if_neg co]
        have cc : ¬ (wln T n k = 0 ∨ ownB T n k = true) := fun z => z.elim (fun z => by omega) co
        rw [if_neg cc] at p1 p2 p0
        refine br_t rfl ?_
        -- behind the word
        have m173 : ∀ f l4, f = (if bl = true then -1 else fdF F g (rowL T k (wln T n k))) → j_Qry_readPath_173 post (wl_Qry_readPath_37 post (d + 1)) o g 1 (nI i) l4 f y2 := by
          intro f l4 ef
          have fok : gOk F.length f := by
            rw [ef]
            split
            · exact Or.inl rfl
            · exact fdF_is
          have eb : (bl || decide (fdF F g (rowL T k (wln T n k)) = -1)) = decide (f = -1) := by
            rw [ef]
            cases bl
            · rfl
            · rfl
          rw [← ef, eb] at p1 p2 p0
          unfold j_Qry_readPath_173
          refine ⟨10, u5, 10, u5, ?_⟩
          rw [s2.2.1]
          refine c_byteAt s2.1 (by omega) ?_
          unfold j_Qry_readPath_198 j_Qry_readPath_216
          by_cases c3 : k + wln T n k < n ∧ T (k + wln T n k) = 46
          · rw [if_pos c3] at p1 p2 p0
            rw [if_pos c3.1]
            refine bn_t c3.2 ⟨10, u5, br_f (by decide) ?_⟩
            rw [s2.2.1, nI_1, nI_1]
            refine nm_e ?_
            exact ih _ f _ (i + 1) _ (by omega) (by omega) (Or.inr ⟨by omega, rfl⟩) fok (g2.mv t7 FrT.i (s2.go (by omega)) (by omega)) ((FrT.i.1 o 19 ho).trans v19) p1 p2 p0
          · rw [if_neg c3] at p1 p2 p0
            refine bn_f (fun z => c3 ?_) ⟨10, u5, br_t rfl ?_⟩
            · by_cases c4 : k + wln T n k < n
              · rw [if_pos c4] at z; exact ⟨c4, z⟩
              · rw [if_neg c4] at z; exact absurd z (by decide)
            rw [s2.2.1, show nI (k + wln T n k) + 0 = nI (k + wln T n k) from by show nI (k + wln T n k) + nI 0 = _; rw [nI_add, Nat.add_zero], setI_self s2.2.1]
            refine nm_e ?_
            show j_Qry_readPath_37 post _ o f 0 _ y2
            unfold j_Qry_readPath_37
            have m226 : j_Qry_readPath_226 post o f 0 (nI i + 1) y2 := by
              unfold j_Qry_readPath_226 j_Qry_readPath_242
              by_cases c5 : f = -1
              · refine bn_t c5 ⟨10, u5, ?_⟩
                rw [v19]
                refine c_refuse ?_
                rw [if_pos s2.2.2.1]
                have := p2 rfl c5 _ (g2.er (k' := k + wln T n k) (e := nI a) FrT.i s2.ill) ((FrT.i.1 o 19 ho).trans v19)
                rw [c5]
                exact this
              · exact bn_f c5 (p1 rfl c5 y2 g2 v19)
            exact ⟨10, u5, ⟨fun _ => m226, fun _ => br_t rfl m226⟩⟩
        have m132 : bl = false → j_Qry_readPath_132 post (wl_Qry_readPath_37 post (d + 1)) o g 1 (nI i) y2 := by
          intro eb
          unfold j_Qry_readPath_132 j_Qry_readPath_133
          refine br_t rfl ⟨70, u6, 10, u5, q, s2.1.1, 10, u5, 10, u5, ?_⟩
          rw [w4, w5]
          have bt : BtC y2 q T k (wln T n k) := by
            obtain ⟨-, -, -, x4, x5, x6⟩ := s2.1
            exact ⟨by omega, x5, fun j hj => x6 (k + j) (by omega)⟩
          refine c_find (Or.inr (Or.inr rfl)) hL2 hR2 hw hg bt (fun z => m173 (-1) _ ?_) (fun f hf z1 z2 => m173 (nI f) _ ?_)
          · rw [eb, if_neg (by decide)]; exact (fdF_none (by omega) z).symm
          · rw [eb, if_neg (by decide)]; exact (fdF_of hw hf z1 z2).symm
        rcases hb with ⟨i0, eb⟩ | ⟨i0, eb⟩
        · subst i0
          exact br_t (by decide) (m132 eb)
        · refine br_f (by (first | omega | (simp (disch := omega) only [Int32.le_iff_toInt_le, Int32.lt_iff_toInt_lt, z_eq, z_in, nI_toInt, z_cl, z_m1, z_sg, z_255, Int32.reduceToInt] <;> omega) | (simp only [Int32.le_iff_toInt_le, Int32.lt_iff_toInt_lt, z_eq, z_in, z_add, z_sub, z_mul, z_neg, z_nI, z_cl, z_sg, z_255, z_lit, Int32.reduceToInt] <;> omega))) ?_
          by_cases c5 : g = -1
          · refine bn_t c5 ?_
            unfold j_Qry_readPath_133
            refine br_f (by decide) (m173 (-1) _ ?_)
            rw [eb, decide_eq_true c5, if_pos rfl]
          · exact bn_f c5 (m132 (by rw [eb]; exact decide_eq_false c5))
    · rw [if_neg (fun z => c (key.mp z))]
      rw [if_pos (Or.inl (by omega))] at p0
      refine bn_t rfl ⟨10, t5, 10, t5, ?_⟩
      rw [e2]
      refine c_refuse ?_
      rw [if_pos hs.2.2.1]
      exact p0 ne _ (h.er FrT.i hs.ill) ((FrT.i.1 o 19 ho).trans h19)
end
