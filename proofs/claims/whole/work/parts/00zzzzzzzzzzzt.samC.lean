/-! rows of one group: sameness and hashes, class -/
section
variable (F : List SFd) (G : List Nat) (CK : List (List PgW))
def cellF (r f : Nat) : Option PV := celR F G CK r (ncol (F.take f))
/-- what a row is grouped by -/
def keyR (B : List Nat) (r : Nat) : List (Option PV) := B.map (fun f => (cellF F G CK r f).map (kv (tOf F (nI f))))
def hsS (r : Nat) (h : Int32) (f : Nat) : Int32 := match cellF F G CK r f with
  | none => h * 31
  | some p => h * 31 + (1 + hsV (tOf F (nI f)) p)
def hsR (B : List Nat) (r : Nat) : Int32 := (B.foldl (hsS F G CK r) 0) ^^^ (((B.foldl (hsS F G CK r) 0) : Int32).toUInt32 >>> ((10 : Int32).toUInt32 &&& Int32.toUInt32 31)).toInt32
def hB (B : List Nat) (r : Nat) : Nat := uI (hsR F G CK B r &&& 1023)
end
section
variable {x y z : St} {F : List SFd} {G : List Nat} {K : List ChT} {CK : List (List PgW)} {b dE f r o qo s t g j c ix : Nat} {Q : Qy} {A : List GrT}
theorem hB_lt {B : List Nat} : hB F G CK B r < 1024 := by
  unfold hB uI
  rw [Int32.toBitVec_and, BitVec.toNat_and]
  exact Nat.and_lt_two_pow _ (by decide : (1023 : Int32).toBitVec.toNat < 2 ^ 10)
theorem hsS_key {a d f : Nat} (e : (cellF F G CK a f).map (kv (tOf F (nI f))) = (cellF F G CK d f).map (kv (tOf F (nI f)))) (h : Int32) : hsS F G CK a h f = hsS F G CK d h f := by
  unfold hsS
  cases ha : cellF F G CK a f with
  | none =>
    cases hd : cellF F G CK d f with
    | none => rfl
    | some q => rw [ha, hd] at e; exact nomatch e
  | some p =>
    cases hd : cellF F G CK d f with
    | none => rw [ha, hd] at e; exact nomatch e
    | some q =>
      rw [ha, hd] at e
      injection e with e
      show h * 31 + (1 + hsV _ p) = h * 31 + (1 + hsV _ q)
      rw [hsV_kv e]
theorem fold_key {a d : Nat} : ∀ {B : List Nat} {h : Int32}, keyR F G CK B a = keyR F G CK B d → B.foldl (hsS F G CK a) h = B.foldl (hsS F G CK d) h
  | [], _, _ => rfl
  | f :: B, h, e => by
    have e : (cellF F G CK a f).map (kv (tOf F (nI f))) :: keyR F G CK B a = (cellF F G CK d f).map (kv (tOf F (nI f))) :: keyR F G CK B d := e
    injection e with e1 e2
    show B.foldl _ (hsS F G CK a h f) = B.foldl _ (hsS F G CK d h f)
    rw [hsS_key e1]
    exact fold_key e2
theorem hB_key {B : List Nat} {a d : Nat} (e : keyR F G CK B a = keyR F G CK B d) : hB F G CK B a = hB F G CK B d := by
  unfold hB hsR
  rw [fold_key e]
theorem sm_key (hw : WfS F) (ok : OkO F G CK) (hl : CK.length = ncol F * G.length) {a d : Nat} (ha : a < smN G) (hd : d < smN G) : ∀ {B : List Nat}, (∀ f, f ∈ B → colF F f) → (smB F G CK B a d = true ↔ keyR F G CK B a = keyR F G CK B d)
  | [], _ => ⟨fun _ => rfl, fun _ => rfl⟩
  | f :: B, hB => by
    have ih := sm_key hw ok hl ha hd (B := B) (fun f hf => hB f (List.mem_cons_of_mem _ hf))
    have hf := hB f List.mem_cons_self
    have e : smB F G CK (f :: B) a d = (smO (tOf F (nI f)) (cellF F G CK a f) (cellF F G CK d f) && smB F G CK B a d) := rfl
    have k : ∀ r, keyR F G CK (f :: B) r = (cellF F G CK r f).map (kv (tOf F (nI f))) :: keyR F G CK B r := fun _ => rfl
    rw [e, k, k, Bool.and_eq_true, ih]
    have h1 : smO (tOf F (nI f)) (cellF F G CK a f) (cellF F G CK d f) = true ↔ (cellF F G CK a f).map (kv (tOf F (nI f))) = (cellF F G CK d f).map (kv (tOf F (nI f))) := by
      cases h1 : cellF F G CK a f with
      | none =>
        cases h2 : cellF F G CK d f with
        | none => exact ⟨fun _ => rfl, fun _ => rfl⟩
        | some q => exact ⟨fun z => (nomatch z), fun z => (nomatch z)⟩
      | some p =>
        cases h2 : cellF F G CK d f with
        | none => exact ⟨fun z => (nomatch z), fun z => (nomatch z)⟩
        | some q =>
          have o1 := (cel_ok hw ok hl hf ha h1).v
          have o2 := (cel_ok hw ok hl hf hd h2).v
          show decide (cmpV (tOf F (nI f)) p q = 0) = true ↔ some (kv _ p) = some (kv _ q)
          rw [decide_eq_true_iff, cmpV_0 o1 o2]
          exact ⟨fun z => by rw [z], fun z => by injection z⟩
    rw [h1]
    exact ⟨fun z => by rw [z.1, z.2], fun z => by injection z with z1 z2; exact ⟨z1, z2⟩⟩
theorem k_by (B : AnC x o qo F G K CK b dE Q) {k : Nat} (hk : k < Q.2.1.length) : colF F (Q.2.1.getD k 0) ∧ vp_in (nI k) (fN x (stC qo 6)) ∧ rA x (stC qo 6) (nI k) = nI (Q.2.1.getD k 0) := by
  have c6 := (stq B.2.2.1).2.2.2.1
  have n4 := (B.2.2.1.len B.1.1).2.2.2.1
  obtain ⟨-, l8, e⟩ := B.2.2.2.2.2.1.2.1
  rw [c6, n4, rA_nI (by omega)]
  exact ⟨B.2.2.2.2.2.2.1.2.2.1 _ (mem_gD hk), vp_in_nI (by omega) (by decide), e k hk⟩
theorem k_sameG {post : Int32 → St → Prop} {a d : Nat} (B : AnC x o qo F G K CK b dE Q) (ha : a < smN G) (hd : d < smN G) (p : post (if smB F G CK Q.2.1 a d = true then 1 else 0) x) : wp_Ans_sameGroup post o (nI a) (nI d) x := by
  have R := B.1
  have hw := R.2.2.1.2.1
  have hb := R.bb
  have h14 := B.2.2.2.1
  have h15 := B.2.2.2.2.1
  have e5 := B.2.2.2.2.2.1.2.1.1
  have l8 := B.2.2.2.2.2.1.2.1.2.1
  have l85 : fN x 85 = 11001 := R.1 85 (by decide)
  unfold wp_Ans_sameGroup
  refine lp_Ans_sameGroup_2 (fun b0 b1 b2 b3 y => y = x ∧ o = b0 ∧ nI a = b1 ∧ nI d = b2 ∧ ∃ k, k ≤ Q.2.1.length ∧ nI k = b3 ∧ smB F G CK (Q.2.1.take k) a d = true) (fun _ _ _ b3 _ => Q.2.1.length - b3.toNatClampNeg) ?_ _ _ _ _ _ ⟨rfl, rfl, rfl, rfl, 0, Nat.zero_le _, rfl, rfl⟩
  rintro R2 b0 b1 b2 b3 y ⟨rfl, rfl, rfl, rfl, k, hk, rfl, sm⟩ ih
  unfold j_Ans_sameGroup_2
  refine ⟨qo, h15, ?_⟩
  rw [e5]
  by_cases ck : k = Q.2.1.length
  · subst ck
    rw [List.take_length] at sm
    rw [if_pos sm] at p
    exact br_t (by (first | omega | (simp (disch := omega) only [Int32.le_iff_toInt_le, Int32.lt_iff_toInt_lt, z_eq, z_in, nI_toInt, z_cl, z_m1, z_sg, z_255, Int32.reduceToInt] <;> omega) | (simp only [Int32.le_iff_toInt_le, Int32.lt_iff_toInt_lt, z_eq, z_in, z_add, z_sub, z_mul, z_neg, z_nI, z_cl, z_sg, z_255, z_lit, Int32.reduceToInt] <;> omega))) p
  · have kB : k < Q.2.1.length := by omega
    obtain ⟨hf, v6, r6⟩ := k_by B kB
    obtain ⟨v78, e78, v72, e72⟩ := col78 R hf
    obtain ⟨ty1, t4, tE⟩ := tOf_n hw hf
    have tk : smB F G CK (Q.2.1.take (k + 1)) a d = smO (tOf F (nI (Q.2.1.getD k 0))) (celR F G CK a (ncol (F.take (Q.2.1.getD k 0)))) (celR F G CK d (ncol (F.take (Q.2.1.getD k 0)))) := by
      unfold smB at sm ⊢
      rw [tk_sn (d := 0) kB, List.all_append, sm, Bool.true_and]
      show (_ && true) = _
      rw [Bool.and_true]
    have mk := mem_gD (d := 0) kB
    generalize Q.2.1.getD k 0 = f at *
    have nx : smB F G CK (Q.2.1.take (k + 1)) a d = true → ∀ l4 l5 l6 l7 l8, j_Ans_sameGroup_149 post R2 o (nI a) (nI d) (nI k) l4 l5 l6 l7 l8 y := by
      intro e l4 l5 l6 l7 l8
      unfold j_Ans_sameGroup_149
      rw [nI_1]
      refine ih _ _ _ _ _ ⟨rfl, rfl, rfl, rfl, k + 1, kB, rfl, e⟩ ?_
      rw [nI_clamp (by omega), nI_clamp (by omega)]
      omega
    have no : smO (tOf F (nI f)) (celR F G CK a (ncol (F.take f))) (celR F G CK d (ncol (F.take f))) = false → ∀ l4 l5 l6 l7 l8, j_Ans_sameGroup_147 post o (nI a) (nI d) (nI k) l4 l5 l6 l7 l8 y := by
      intro e l4 l5 l6 l7 l8
      unfold j_Ans_sameGroup_147
      have : ¬ smB F G CK Q.2.1 a d = true := by
        intro z
        unfold smB at z
        rw [List.all_eq_true] at z
        have := z f mk
        rw [e] at this
        exact nomatch this
      rw [if_neg this] at p
      exact p
    refine br_f (by (first | omega | (simp (disch := omega) only [Int32.le_iff_toInt_le, Int32.lt_iff_toInt_lt, z_eq, z_in, nI_toInt, z_cl, z_m1, z_sg, z_255, Int32.reduceToInt] <;> omega) | (simp only [Int32.le_iff_toInt_le, Int32.lt_iff_toInt_lt, z_eq, z_in, z_add, z_sub, z_mul, z_neg, z_nI, z_cl, z_sg, z_255, z_lit, Int32.reduceToInt] <;> omega))) ⟨97, h14, qo, h15, v6, ?_⟩
    rw [r6]
    refine ⟨v78, nm_r (e' := nI (ncol (F.take f))) e78 ⟨97, h14, qo, h15, v6, ?_⟩⟩
    rw [r6]
    refine ⟨v72, nm_r (e' := nI (tOf F (nI f))) e72 ⟨97, h14, k_cell R hf ha (fun e he => ⟨97, h14, k_cell R hf hd (fun e' he' => ⟨97, h14, k_hasQ R hf he (fun q hq hv => ⟨97, h14, k_hasQ R hf he' (fun q' hq' hv' => ?_) (fun hq' => ?_)⟩) (fun hq => ⟨97, h14, k_hasQ R hf he' (fun q' hq' hv' => ?_) (fun hq' => ?_)⟩)⟩)⟩)⟩⟩
    · rw [hq, hq'] at tk no
      refine bn_t rfl (br_f (by decide) ⟨97, h14, 97, h14, ?_, 97, h14, ?_, ?_⟩)
      · show vp_in _ (fN y 85)
        rw [l85]
        exact vp_in_nI (by have := he.1; omega) (by decide)
      · show vp_in _ (fN y 85)
        rw [l85]
        exact vp_in_nI (by have := he'.1; omega) (by decide)
      · have e9 : rL y (stC 97 9) (nI e) = fL y 85 e := rL_nI (by have := he.1; omega)
        have d9 : rL y (stC 97 9) (nI e') = fL y 85 e' := rL_nI (by have := he'.1; omega)
        rw [e9, d9]
        rw [← ty1] at hv hv'
        refine k_cmp R.1 hb t4 hv hv' ?_
        by_cases z : cmpV (tOf F (nI f)) q q' = 0
        · exact br_t z (nx (by rw [tk]; exact decide_eq_true z) _ _ _ _ _)
        · exact br_f z (no (decide_eq_false z) _ _ _ _ _)
    · rw [hq, hq'] at no
      exact bn_f (by decide) (no rfl _ _ _ _ _)
    · rw [hq, hq'] at no
      exact bn_f (by decide) (no rfl _ _ _ _ _)
    · rw [hq, hq'] at tk
      exact bn_t rfl (br_t rfl (nx tk _ _ _ _ _))
theorem k_hashR {post : Int32 → St → Prop} (B : AnC x o qo F G K CK b dE Q) (hr : r < smN G) (p : post (hsR F G CK Q.2.1 r) x) : wp_Ans_hashOfRow post o (nI r) x := by
  have R := B.1
  have hw := R.2.2.1.2.1
  have hb := R.bb
  have h14 := B.2.2.2.1
  have h15 := B.2.2.2.2.1
  have e5 := B.2.2.2.2.2.1.2.1.1
  have l8 := B.2.2.2.2.2.1.2.1.2.1
  have l85 : fN x 85 = 11001 := R.1 85 (by decide)
  unfold wp_Ans_hashOfRow
  refine lp_Ans_hashOfRow_4 (fun b0 b1 b2 b3 y => y = x ∧ o = b0 ∧ nI r = b1 ∧ ∃ k, k ≤ Q.2.1.length ∧ nI k = b3 ∧ (Q.2.1.take k).foldl (hsS F G CK r) 0 = b2) (fun _ _ _ b3 _ => Q.2.1.length - b3.toNatClampNeg) ?_ _ _ _ _ _ ⟨rfl, rfl, rfl, 0, Nat.zero_le _, rfl, rfl⟩
  rintro R2 b0 b1 b2 b3 y ⟨rfl, rfl, rfl, k, hk, rfl, rfl⟩ ih
  unfold j_Ans_hashOfRow_4
  refine ⟨qo, h15, ?_⟩
  rw [e5]
  by_cases ck : k = Q.2.1.length
  · subst ck
    rw [List.take_length]
    exact br_t (by (first | omega | (simp (disch := omega) only [Int32.le_iff_toInt_le, Int32.lt_iff_toInt_lt, z_eq, z_in, nI_toInt, z_cl, z_m1, z_sg, z_255, Int32.reduceToInt] <;> omega) | (simp only [Int32.le_iff_toInt_le, Int32.lt_iff_toInt_lt, z_eq, z_in, z_add, z_sub, z_mul, z_neg, z_nI, z_cl, z_sg, z_255, z_lit, Int32.reduceToInt] <;> omega))) p
  · have kB : k < Q.2.1.length := by omega
    obtain ⟨hf, v6, r6⟩ := k_by B kB
    obtain ⟨v78, e78, v72, e72⟩ := col78 R hf
    obtain ⟨ty1, t4, tE⟩ := tOf_n hw hf
    have tk : (Q.2.1.take (k + 1)).foldl (hsS F G CK r) 0 = hsS F G CK r ((Q.2.1.take k).foldl (hsS F G CK r) 0) (Q.2.1.getD k 0) := by
      rw [tk_sn (d := 0) kB, List.foldl_append]
      rfl
    generalize Q.2.1.getD k 0 = f at *
    generalize (Q.2.1.take k).foldl (hsS F G CK r) 0 = h at *
    have nx : ∀ w, w = hsS F G CK r h f → ∀ l4 l5, j_Ans_hashOfRow_113 post R2 o (nI r) w (nI k) l4 l5 y := by
      intro w e l4 l5
      unfold j_Ans_hashOfRow_113
      rw [nI_1]
      refine ih _ _ _ _ _ ⟨rfl, rfl, rfl, k + 1, kB, rfl, by rw [tk, e]⟩ ?_
      rw [nI_clamp (by omega), nI_clamp (by omega)]
      omega
    refine br_f (by (first | omega | (simp (disch := omega) only [Int32.le_iff_toInt_le, Int32.lt_iff_toInt_lt, z_eq, z_in, nI_toInt, z_cl, z_m1, z_sg, z_255, Int32.reduceToInt] <;> omega) | (simp only [Int32.le_iff_toInt_le, Int32.lt_iff_toInt_lt, z_eq, z_in, z_add, z_sub, z_mul, z_neg, z_nI, z_cl, z_sg, z_255, z_lit, Int32.reduceToInt] <;> omega))) ⟨97, h14, qo, h15, v6, ?_⟩
    rw [r6]
    refine ⟨v78, nm_r (e' := nI (ncol (F.take f))) e78 ⟨97, h14, k_cell R hf hr (fun e he => nm_e ⟨97, h14, k_hasQ R hf he (fun q hq hv => br_f (by decide) ⟨97, h14, qo, h15, v6, ?_⟩) (fun hq => br_t rfl (nx _ ?_ _ _))⟩)⟩⟩
    · rw [r6]
      refine ⟨v72, 97, h14, 97, h14, ?_, ?_⟩
      · show vp_in _ (fN y 85)
        rw [l85]
        exact vp_in_nI (by have := he.1; omega) (by decide)
      · have e9 : rL y (stC 97 9) (nI e) = fL y 85 e := rL_nI (by have := he.1; omega)
        have d9 : rA y (stC (stC 97 5) 3) (nI f) = nI (tOf F (nI f)) := e72
        rw [e9, d9]
        rw [← ty1] at hv
        refine c_hashOf (r := 82) t4 (hv.c R.1 hb) (nm_e (nx _ ?_ _ _))
        unfold hsS cellF
        rw [hq]
    · unfold hsS cellF
      rw [hq]
end
