/-! what is skipped is counted, class -/
section
variable {x y z : St} {F : List SFd} {G : List Nat} {K : List ChT} {CK : List (List PgW)} {b dE f r o qo s t g j c : Nat} {Q : Qy}
theorem TeC.tl {first : Nat} {C : List SEn} {W : List PV} (h : TeC x F b t c first C) (ht : t < 6000) (hC : C.length ≤ 10000) (ok : ∀ e, e ∈ C → okE F e ∧ e.1 = c) (hD : DiC x b dE t (tyC F c) W (vlE (mdC F c) C = [])) (hE : dE ≤ 10000) : TlC x b (tyC F c) t (tlE F c C W) := by
  obtain ⟨h1, h2, h3, h4⟩ := h
  refine ⟨ht, h2, h3, hC, Nat.sub_le _ _, fun z => ?_⟩
  have z : C.length - (vlE (mdC F c) C).length < C.length := z
  have vn : vlE (mdC F c) C ≠ [] := by
    intro e
    rw [e] at z
    exact Nat.lt_irrefl _ z
  obtain ⟨lo, hi, r1, r2, r3, r4⟩ := h4 vn
  have okV := vlE_ok ok
  rw [mn_un okV r2] at r1
  rw [mx_un okV r4] at r3
  refine ⟨r1, r3, ?_⟩
  rcases hD with hD | ⟨d, d1, d2, d3, d4, d5⟩
  · exact Or.inl hD
  · exact Or.inr ⟨fun e => vn (d5 e), d, d1, by show d + W.length ≤ 10000; omega, d4, d3⟩
/-- a chunk of an open file, class -/
theorem AnC.ck (A : AnC x o qo F G K CK b dE Q) (hg : g < G.length) (hc : c < ncol F) : ncol F * g + c < CK.length ∧ fA x 88 (ncol F * g + c) = nI (tlN (CK.take (ncol F * g + c))) ∧ CkC x F b dE (tlN (CK.take (ncol F * g + c))) c (enA (CK.take (ncol F * g + c))).length (CK.getD (ncol F * g + c) []) ∧ tlN (CK.take (ncol F * g + c)) + 1 + (CK.getD (ncol F * g + c) []).length < 6000 ∧ (enA (CK.take (ncol F * g + c))).length + (ckG F CK g c).length ≤ 10000 := by
  obtain ⟨R, -⟩ := A
  obtain ⟨lw, -⟩ := R.2.1.at R.hl hg hc
  obtain ⟨a1, a2, -⟩ := R.2.2.2.2.1 _ lw
  rw [Nat.mul_add_mod, Nat.mod_eq_of_lt hc] at a2
  refine ⟨lw, a1, a2, ?_, ?_⟩
  · have m1 := tlN_mono (CK := CK) CK.length (ncol F * g + c + 1) (by omega) (Nat.le_refl _)
    rw [tlN_take lw, List.take_length] at m1
    have := R.2.2.1.2.2.2.2.2.2.2.2.2.2.2.1
    omega
  · have := congrArg List.length (enA_split lw)
    rw [List.length_append, List.length_append] at this
    have := R.2.2.2.1.2.1
    show _ + (ckC (CK.getD (ncol F * g + c) [])).length ≤ _
    omega
theorem AnC.dd (A : AnC x o qo F G K CK b dE Q) : dE ≤ 10000 := by
  obtain ⟨⟨-, -, -, ⟨⟨-, e1, -, -, -, -, -, -, e2, -⟩, -⟩⟩, -⟩ := A
  omega
theorem AnC.tlK (A : AnC x o qo F G K CK b dE Q) (hg : g < G.length) (hc : c < ncol F) : TlC x b (tyC F c) (tlN (CK.take (ncol F * g + c))) (tlK F CK g c) := by
  obtain ⟨lw, a1, ⟨a2, a3, -⟩, a4, a5⟩ := A.ck hg hc
  obtain ⟨-, k1, -⟩ := A.1.2.1.at A.1.hl hg hc
  exact TeC.tl (dE := dE) a2 (by omega) (by show (ckG F CK g c).length ≤ _; omega) k1 (Or.inl ⟨a3, rfl⟩) A.dd
theorem AnC.tlP (A : AnC x o qo F G K CK b dE Q) (hg : g < G.length) (hc : c < ncol F) (hj : j < (ckG F CK g c).length) : TlC x b (tyC F c) (tlN (CK.take (ncol F * g + c)) + 1 + pgI (CK.getD (ncol F * g + c) []) j) (tlP F CK g j c) := by
  obtain ⟨lw, a1, ⟨-, -, a2⟩, a4, a5⟩ := A.ck hg hc
  obtain ⟨-, k1, -⟩ := A.1.2.1.at A.1.hl hg hc
  have hj : j < (ckC (CK.getD (ncol F * g + c) [])).length := hj
  obtain ⟨i1, -⟩ := pgI_ok hj
  obtain ⟨b1, b2⟩ := a2 _ i1
  refine TeC.tl (dE := dE) b1 (by omega) ?_ (fun e he => k1 e (pgA_sub hj e he)) b2 A.dd
  have : (pgA (CK.getD (ncol F * g + c) []) j).1.length ≤ (ckC (CK.getD (ncol F * g + c) [])).length := by
    obtain ⟨-, i2, -, i4⟩ := pgI_ok hj
    unfold pgE at i4
    have e : CK.getD (ncol F * g + c) [] = CK.getD (ncol F * g + c) [] := rfl
    rw [tk_sn (d := ([], [])) i1] at i4
    have : ckC ((CK.getD (ncol F * g + c) []).take (pgI (CK.getD (ncol F * g + c) []) j) ++ [(CK.getD (ncol F * g + c) []).getD (pgI (CK.getD (ncol F * g + c) []) j) ([], [])]) = ckC ((CK.getD (ncol F * g + c) []).take (pgI (CK.getD (ncol F * g + c) []) j)) ++ ((CK.getD (ncol F * g + c) []).getD (pgI (CK.getD (ncol F * g + c) []) j) ([], [])).1 := by
      unfold ckC
      rw [List.map_append, List.flatten_append]
      show _ ++ (_ ++ []) = _
      rw [List.append_nil]
    rw [this, List.length_append] at i4
    unfold pgA
    omega
  have h3 : (ckC (CK.getD (ncol F * g + c) [])).length ≤ 10000 := by
    have : (ckG F CK g c).length = (ckC (CK.getD (ncol F * g + c) [])).length := rfl
    omega
  show (pgA (CK.getD (ncol F * g + c) []) j).1.length ≤ 10000
  omega
/-- tellers of pages, and which columns are asked -/
def TePg (y : St) (o : Nat) (F : List SFd) (CK : List (List PgW)) (Q : Qy) (g j : Nat) : Prop := ∀ c, c < ncol F → askB F Q.2.2.1 c = true → fA y (o + 7) c = nI (tlN (CK.take (ncol F * g + c)) + 1 + pgI (CK.getD (ncol F * g + c) []) j)
def AskR (y : St) (o : Nat) (F : List SFd) (Q : Qy) : Prop := ∀ c, c < ncol F → fA y (o + 8) c = if askB F Q.2.2.1 c = true then 1 else 0
theorem k_pageEnd {post : Int32 → St → Prop} (A : AnC x o qo F G K CK b dE Q) (hg : g < G.length) (hj : j < G.getD g 0) (hc : c < ncol F) (ha : askB F Q.2.2.1 c = true) (ht : fA x (o + 7) c = nI (tlN (CK.take (ncol F * g + c)) + 1 + pgI (CK.getD (ncol F * g + c) []) j)) (p : post (nI (pgE (CK.getD (ncol F * g + c) []) j)) x) : wp_Ans_pageEnd post o (nI g) (nI c) x := by
  have R := A.1
  have hw := R.2.2.1.2.1
  have hC := hw.2.1
  have h14 := A.2.2.2.1
  obtain ⟨-, -, -, -, -, -, o12, -⟩ := sta A.2.1
  have o7 := (A.2.1.len R.1).2.2.2.2.2.2.1
  obtain ⟨-, lw, l1, l2, l3⟩ := ask_pg hw A.2.2.2.2.2.2.1 R.2.1 R.hl hg hj ha
  obtain ⟨-, a1, ⟨⟨a2, -⟩, -, a3⟩, a4, a5⟩ := A.ck hg hc
  obtain ⟨i1, i2, i3, i4⟩ := pgI_ok (show j < (ckC (CK.getD (ncol F * g + c) [])).length by omega)
  obtain ⟨⟨b1, b2, -⟩, -⟩ := a3 _ i1
  have e1 : fI x (stC 97 5) 1 = nI (ncol F) := R.2.2.1.1.2.1
  have G5 := R.2.2.1.2.2.2.2.2.2.2.2.1
  have g64 : ncol F * g + c < 100000 := by
    have : ncol F * g ≤ 64 * g := Nat.mul_le_mul_right _ hC
    omega
  have w6 : ncol F * g + c < 6000 := by
    have t2 := R.2.2.1.2.2.2.2.2.2.2.2.2.2.2
    have := t2.1
    have := t2.2.1
    omega
  have ee : pgE (CK.getD (ncol F * g + c) []) j = (ckC ((CK.getD (ncol F * g + c) []).take (pgI (CK.getD (ncol F * g + c) []) j))).length + ((CK.getD (ncol F * g + c) []).getD (pgI (CK.getD (ncol F * g + c) []) j) ([], [])).1.length := by
    unfold pgE
    rw [tk_sn (d := ([], [])) i1]
    have : ckC ((CK.getD (ncol F * g + c) []).take (pgI (CK.getD (ncol F * g + c) []) j) ++ [(CK.getD (ncol F * g + c) []).getD (pgI (CK.getD (ncol F * g + c) []) j) ([], [])]) = ckC ((CK.getD (ncol F * g + c) []).take (pgI (CK.getD (ncol F * g + c) []) j)) ++ ((CK.getD (ncol F * g + c) []).getD (pgI (CK.getD (ncol F * g + c) []) j) ([], [])).1 := by
      unfold ckC
      rw [List.map_append, List.flatten_append]
      show _ ++ (_ ++ []) = _
      rw [List.append_nil]
    rw [this, List.length_append]
  rw [ee] at p
  have ckl : (ckG F CK g c).length = (ckC (CK.getD (ncol F * g + c) [])).length := rfl
  generalize hk : pgI (CK.getD (ncol F * g + c) []) j = k at *
  generalize htk : tlN (CK.take (ncol F * g + c)) = tk at *
  unfold wp_Ans_pageEnd
  refine ⟨97, h14, 97, h14, ?_⟩
  have ix : (nI g * fI x (stC 97 5) 1) + nI c = nI (ncol F * g + c) := by rw [e1, nI_mul, nI_add, Nat.mul_comm]
  rw [ix, o12, o7]
  have r1 : rA x (stC 97 12) (nI (ncol F * g + c)) = nI tk := by
    have : rA x 88 (nI (ncol F * g + c)) = fA x 88 (ncol F * g + c) := rA_nI (by omega)
    exact this.trans a1
  have r2 : rA x (o + 7) (nI c) = nI (tk + 1 + k) := by rw [rA_nI (by omega)]; exact ht
  have r3 : rA x (stC 97 13) (nI (tk + 1 + k)) = nI ((enA (CK.take (ncol F * g + c))).length + (ckC ((CK.getD (ncol F * g + c) []).take k)).length) := by
    have : rA x 89 (nI (tk + 1 + k)) = fA x 89 (tk + 1 + k) := rA_nI (by omega)
    exact this.trans b1
  have r4 : rA x (stC 97 14) (nI (tk + 1 + k)) = nI ((CK.getD (ncol F * g + c) []).getD k ([], [])).1.length := by
    have : rA x 90 (nI (tk + 1 + k)) = fA x 90 (tk + 1 + k) := rA_nI (by omega)
    exact this.trans b2
  have r5 : rA x (stC 97 13) (nI tk) = nI (enA (CK.take (ncol F * g + c))).length := by
    have : rA x 89 (nI tk) = fA x 89 tk := rA_nI (by omega)
    exact this.trans a2
  have l88 : fN x 88 = 6000 := R.1 88 (by decide)
  have l89 : fN x 89 = 6000 := R.1 89 (by decide)
  have l90 : fN x 90 = 6000 := R.1 90 (by decide)
  refine ⟨by show vp_in _ (fN x 88); rw [l88]; exact vp_in_nI w6 (by decide), nm_e ⟨vp_in_nI (by omega) (by decide), nm_e ?_⟩⟩
  rw [r2, r1]
  refine ⟨97, h14, by show vp_in _ (fN x 89); rw [l89]; exact vp_in_nI (by omega) (by decide), 97, h14, by show vp_in _ (fN x 90); rw [l90]; exact vp_in_nI (by omega) (by decide), 97, h14, by show vp_in _ (fN x 89); rw [l89]; exact vp_in_nI (by omega) (by decide), ?_⟩
  rw [r3, r4, r5, nI_add, nI_sub (by omega), show (enA (CK.take (ncol F * g + c))).length + (ckC ((CK.getD (ncol F * g + c) []).take k)).length + ((CK.getD (ncol F * g + c) []).getD k ([], [])).1.length - (enA (CK.take (ncol F * g + c))).length = (ckC ((CK.getD (ncol F * g + c) []).take k)).length + ((CK.getD (ncol F * g + c) []).getD k ([], [])).1.length by omega]
  exact p
theorem k_condC {post : Int32 → St → Prop} {τ : Nat → Tl} (A : AnC x o qo F G K CK b dE Q) (hne : Q.2.2.1 ≠ []) (hτ : ∀ f, AsC F Q f → ∃ t, fA x (o + 7) (ncol (F.take f)) = nI t ∧ TlC x b (tyC F (ncol (F.take f))) t (τ (ncol (F.take f))))
    (p1 : ∀ y, FgS o x y → canQ F Q τ = true → ∀ r, ¬ (r &&& 2) = 0 → post r y) (p0 : ∀ y, FgS o x y → ¬ canQ F Q τ = true → ∀ r, (r &&& 2) = 0 → post r y) : wp_Ans_truthsOf post o (-1) x := by
  have hw := A.1.2.2.1.2.1
  refine k_cond A hne (tv := canS F Q.2.2.2 τ) (fun t => canS_lt) (fun i hi ht y P f h => bn_t rfl ?_) (fun y f => ?_)
  · refine k_can (A.fa f.fa) hi ht (fun f0 hf0 => ?_) h
    obtain ⟨t, t1, t2⟩ := hτ f0 hf0
    rw [← (tOf_n hw hf0.1).1] at t2
    have e : fA y (o + 7) = fA x (o + 7) := f.2.2.2.1 _ (fun z => by omega)
    have ho : 128 ≤ o := by rcases A.2.1 with h | h <;> omega
    have ea : ∀ a, a < 128 → fA y a = fA x a := fun a ha => f.2.2.2.1 a (fun z => by omega)
    have el : ∀ a, fL y a = fL x a := fun a => f.2.2.2.2.1 a (fun z => z)
    refine ⟨t, by rw [e]; exact t1, ?_⟩
    obtain ⟨u1, u2, u3, u4, u5, u6⟩ := t2
    refine ⟨u1, by rw [ea 90 (by decide)]; exact u2, by rw [ea 91 (by decide)]; exact u3, u4, u5, fun z => ?_⟩
    obtain ⟨v1, v2, v3⟩ := u6 z
    rw [el, el, ea 94 (by decide)]
    refine ⟨v1.same (ea 82 (by decide)), v2.same (ea 82 (by decide)), ?_⟩
    rcases v3 with v3 | ⟨v3, d, w1, w2, w3, w4⟩
    · exact Or.inl v3
    · exact Or.inr ⟨v3, d, w1, w2, w3, w4.up (el 95) (fun i _ => by rw [ea 82 (by decide)]) (Nat.le_refl _)⟩
  · have c8 : cnd (canS F Q.2.2.2 τ) Q.2.2.1 < 8 := cnd_lt (fun t => canS_lt)
    have a0 : ∀ i : Fin 8, ((nI i.val &&& 2) = 0) ↔ ¬ tB3 i.val = true := by decide
    by_cases q : canQ F Q τ = true
    · exact p1 y f q _ (fun z => (a0 ⟨_, c8⟩).mp z q)
    · exact p0 y f q _ ((a0 ⟨_, c8⟩).mpr q)
end
