/-! rows are looked at, model -/
abbrev FrLk (x y : St) : Prop := Fg (fun o k => o = 0 ∧ (k = 160 ∨ k = 165 ∨ k = 166)) no2 no2 (fun a => 96 ≤ a ∧ a ≤ 103) no1 x y
/-- a row for which the condition is true -/
def hit (F : List SFd) (G : List Nat) (CK : List (List PgW)) (Q : Qy) (r : Nat) : Bool := decide (cnd (tst F Q.2.2.2 (celR F G CK r)) Q.2.2.1 = 2)
def FdM (x : St) (L : List Nat) : Prop := fI x 0 160 = nI L.length ∧ ∀ i, i < L.length → fA x 103 i = nI (L.getD i 0)
section
variable {x y : St} {F : List SFd} {G : List Nat} {CK : List (List PgW)} {Pl : List PV} {s : Nat} {Q : Qy}
theorem FrLk.of (f : Fg96 x y) : FrLk x y := f.mono (fun _ _ z => z.elim) (fun _ _ z => z) (fun _ _ z => z) (fun a z => by have : a = 96 := z; omega) (fun _ z => z)
theorem RdM.lk (H : RdM x F G CK Pl) (f : FrLk x y) : RdM y F G CK Pl := by
  obtain ⟨f1, f2, f3, f4, f5, f6⟩ := f
  have ra : ∀ a, a < 96 → fA y a = fA x a := fun a c => f4 a (fun z => by omega)
  have ri : ∀ k, k < 160 → fI y 0 k = fI x 0 k := fun k c => f1 0 k (fun z => by omega)
  have rl : ∀ a, fL y a = fL x a := fun a => f5 a (fun z => z)
  have rn : ∀ a, fN y a = fN x a := fun a => congrFun f6 a
  obtain ⟨h1, h2, h3, h4, h5, h6, h7, h8, h9, h10⟩ := H
  refine ⟨fun a => (rn a).trans (h1 a), ?_, ?_, h4, h5, h6, ?_, h8, ?_, ?_⟩
  · unfold RepM at *
    rw [ra 9 (by decide), ra 10 (by decide), ra 3 (by decide), ra 4 (by decide), ra 5 (by decide), ra 7 (by decide), ra 8 (by decide), ra 6 (by decide), ra 11 (by decide)]
    exact h2
  · rw [ra 53 (by decide)]; exact h3
  · rw [ra 65 (by decide), ra 61 (by decide)]; exact h7
  · unfold PoM at *
    rw [ri 93 (by decide), ri 94 (by decide), rl 54, ra 55 (by decide), ra 56 (by decide), ra 57 (by decide)]
    exact h9
  · intro i hi
    have := h10 i hi
    unfold EnO at *
    rw [ra 58 (by decide), ra 59 (by decide), ra 60 (by decide)]
    exact this
theorem KqM.lk (h : KqM x s Q) (f : FrLk x y) : KqM y s Q := by
  have ra : ∀ a, a < 96 → fA y a = fA x a := fun a c => f.2.2.2.1 a (fun z => by omega)
  refine ⟨SqM.cg h.1 (fun a _ z => ra a (by omega)) (f.2.2.2.2.1 93 (fun z => z)), fun i hi => ?_, h.2.2⟩
  rw [ra 92 (by decide)]
  exact h.2.1 i hi
theorem tst_lt {L : List QLt} {v : Nat → Option PV} {t : QSt} : tst F L v t < 8 := by
  unfold tst
  split
  · split <;> decide
  · split
    · split <;> decide
    · split
      · decide
      · split
        · split <;> decide
        · split
          · split <;> decide
          · split
            · decide
            · split <;> decide
theorem cnd_lt {tv : QSt → Nat} (h8 : ∀ t, tv t < 8) {E : List QSt} : cnd tv E < 8 := by
  have key : ∀ E st, (∀ a, a ∈ st → a < 8) → ∀ a, a ∈ evl tv E st → a < 8 := by
    intro E
    induction E with
    | nil => intro st h; exact h
    | cons t R ih =>
      intro st h
      unfold evl
      split
      · match st, h with
        | [], h => exact ih [] h
        | a :: st, h => exact ih _ (fun b hb => by rcases List.mem_cons.mp hb with z | z; rw [z]; exact sNot_lt a; exact h b (List.mem_cons_of_mem _ z))
      · split
        · match st, h with
          | [], h => exact ih [] h
          | [a], h => exact ih [a] h
          | a :: b :: st, h =>
            refine ih _ (fun c hc => ?_)
            rcases List.mem_cons.mp hc with z | z
            · rw [z]
              split
              · exact sAnd_lt _ _
              · exact sOr_lt _ _
            · exact h c (List.mem_cons_of_mem _ (List.mem_cons_of_mem _ z))
        · exact ih _ (fun c hc => by rcases List.mem_cons.mp hc with z | z; rw [z]; exact h8 t; exact h c z)
  have := key E [] (fun a ha => absurd ha List.not_mem_nil)
  unfold cnd
  generalize evl tv E [] = w at *
  match w, this with
  | [], _ => decide
  | a :: _, h => exact h a (List.mem_cons_self ..)
theorem s_lookAt {post : St → Prop} {a b : Nat} {L0 : List Nat} (H : RdM x F G CK Pl) (hw : WfS F) (ok : OkO F G CK) (hl : CK.length = ncol F * G.length) (hs : s < 3) (h117 : fI x 0 117 = nI s) (hQ : KqM x s Q) (hW : QyW F Q) (hne : Q.2.2.1 ≠ []) (hab : a ≤ b) (hb : b ≤ smN G) (hF0 : FdM x L0) (hlen : L0.length + (b - a) ≤ 2000)
    (p : ∀ y, FrLk x y → fI y 0 165 = fI x 0 165 → fI y 0 166 = fI x 0 166 → FdM y (L0 ++ ((List.range (b - a)).map (fun i => a + i)).filter (hit F G CK Q)) → (∀ k, 97 ≤ k → k ≤ 102 → fA y k = fA x k) → post y) : wp_Mod_lookAt post (nI a) (nI b) x := by
  have h2000 := H.2.2.2.2.1
  have hg : hgt Q.2.2.1 0 = some 1 := hW.2.2.2.2.1.resolve_left hne
  unfold wp_Mod_lookAt
  refine lp_Mod_lookAt_2 (fun b1 b2 b3 y => nI a = b1 ∧ nI b = b2 ∧ ∃ k, k ≤ b - a ∧ nI (a + k) = b3 ∧ FrLk x y ∧ fI y 0 165 = fI x 0 165 ∧ fI y 0 166 = fI x 0 166 ∧ (∀ k, 97 ≤ k → k ≤ 102 → fA y k = fA x k) ∧ FdM y (L0 ++ ((List.range k).map (fun i => a + i)).filter (hit F G CK Q))) (fun _ _ b3 _ => b - b3.toNatClampNeg) ?_ _ _ _ _ ⟨rfl, rfl, 0, Nat.zero_le _, rfl, Fg.refl x, rfl, rfl, fun _ _ _ => rfl, by rw [List.range_zero]; show FdM x (L0 ++ []); rw [List.append_nil]; exact hF0⟩
  rintro R b1 b2 b3 y ⟨rfl, rfl, k, hk, rfl, f, e165, e166, eT, hfd⟩ ih
  unfold j_Mod_lookAt_2
  by_cases c : a + k < b
  · refine br_f (by (first | omega | (simp (disch := omega) only [Int32.le_iff_toInt_le, Int32.lt_iff_toInt_lt, z_eq, z_in, nI_toInt, z_cl, z_m1, z_sg, z_255, Int32.reduceToInt] <;> omega) | (simp only [Int32.le_iff_toInt_le, Int32.lt_iff_toInt_lt, z_eq, z_in, z_add, z_sub, z_mul, z_neg, z_nI, z_cl, z_sg, z_255, z_lit, Int32.reduceToInt] <;> omega))) ?_
    have Hy := H.lk f
    have Qy := hQ.lk f
    have y117 : fI y 0 117 = nI s := (f.1 0 117 (fun z => by omega)).trans h117
    have hr : a + k < smN G := by omega
    have es : ((List.range (k + 1)).map (fun i => a + i)).filter (hit F G CK Q) = ((List.range k).map (fun i => a + i)).filter (hit F G CK Q) ++ (if hit F G CK Q (a + k) = true then [a + k] else []) := by
      rw [List.range_succ, List.map_append, List.filter_append]
      congr 1
      show List.filter (hit F G CK Q) [a + k] = _
      rw [List.filter_cons]
      rfl
    have nx : ∀ z, FrLk x z → fI z 0 165 = fI x 0 165 → fI z 0 166 = fI x 0 166 → (∀ k, 97 ≤ k → k ≤ 102 → fA z k = fA x k) → FdM z (L0 ++ (((List.range k).map (fun i => a + i)).filter (hit F G CK Q) ++ (if hit F G CK Q (a + k) = true then [a + k] else []))) → j_Mod_lookAt_39 post R (nI a) (nI b) (nI (a + k)) z := by
      intro z z1 z2 z3 z4 z5
      unfold j_Mod_lookAt_39
      rw [nI_1]
      refine ih _ _ _ _ ⟨rfl, rfl, k + 1, by omega, rfl, z1, z2, z3, z4, by rw [es]; exact z5⟩ ?_
      rw [nI_clamp (by omega), nI_clamp (by omega)]
      omega
    refine s_cond (tv := tst F Q.2.2.2 (celR F G CK (a + k))) Hy.1 hs y117 Qy.1 hne hg (fun t ht => (stW_f (hW.2.2.2.1 t ht)).2.2) (fun t => tst_lt) (fun i hi n5 z P fz pz => ?_) (fun z fz => ?_)
    · refine ⟨fun _ => ?_, fun e => absurd e (nI_nm1 (by omega))⟩
      exact s_truthOf (Hy.lk (FrLk.of fz)) hw ok hl hs (Qy.lk (FrLk.of fz)) hW hi hr (fun e => n5 (by rw [e]; decide)) (fun e => n5 (by rw [e]; decide)) (fun e => n5 (by rw [e]; decide)) pz
    · have c8 : cnd (tst F Q.2.2.2 (celR F G CK (a + k))) Q.2.2.1 < 8 := cnd_lt (fun t => tst_lt)
      have fxz := f.trans (FrLk.of fz)
      have zI : ∀ k, fI z 0 k = fI y 0 k := fun k => fz.1 0 k (fun q => q)
      have zA : ∀ a, a ≠ 96 → fA z a = fA y a := fun a q => fz.2.2.2.1 a q
      obtain ⟨d1, d2⟩ := hfd
      by_cases ch : cnd (tst F Q.2.2.2 (celR F G CK (a + k))) Q.2.2.1 = 2
      · have hh : hit F G CK Q (a + k) = true := decide_eq_true ch
        have flen : (((List.range k).map (fun i => a + i)).filter (hit F G CK Q)).length ≤ k := by
          have := List.length_filter_le (hit F G CK Q) ((List.range k).map (fun i => a + i))
          rw [List.length_map, List.length_range] at this
          exact this
        rw [if_pos hh, ← List.append_assoc] at nx
        generalize hM : L0 ++ ((List.range k).map (fun i => a + i)).filter (hit F G CK Q) = M at *
        have hMl : M.length < 2000 := by
          rw [← hM, List.length_append]
          omega
        refine br_t (by rw [ch]; rfl) ?_
        have cl : (nI M.length).toNatClampNeg = M.length := nI_clamp (by omega)
        rw [zI, d1, show fN z 103 = 2000 from (congrFun fz.2.2.2.2.2 103).trans (Hy.1 103)]
        refine ⟨vp_in_nI hMl (by decide), nm_e (nm_r (e' := setI (setA z 103 (nI M.length) (nI (a + k))) 0 160 (nI (M.length + 1))) (by show setI _ 0 160 (fI z 0 160 + 1) = _; rw [zI, d1, nI_1]) (nx _ (fxz.trans ((Fg.a (by decide)).trans (Fg.i (by decide)))) ?_ ?_ ?_ ⟨?_, fun i hi => ?_⟩))⟩
        · rw [gI_ne (by decide)]; exact (zI 165).trans e165
        · rw [gI_ne (by decide)]; exact (zI 166).trans e166
        · intro q q1 q2
          show fA (setA z 103 _ _) q = _
          rw [gA_ne (by omega), zA q (by omega)]
          exact eT q q1 q2
        · rw [gI_at, List.length_append]; rfl
        · show upd (fA z 103) (nI M.length).toNatClampNeg (nI (a + k)) i = _
          rw [cl]
          rcases gD_snoc (d := (0 : Nat)) hi with ⟨h1, h2⟩ | ⟨h1, h2⟩
          · rw [h2, upd_ne (by omega), zA 103 (by decide)]
            exact d2 i h1
          · rw [h2, h1, upd_at]
      · have hh : ¬ hit F G CK Q (a + k) = true := fun q => ch (of_decide_eq_true q)
        rw [if_neg hh, List.append_nil] at nx
        refine br_f (fun q => ch ((nI_eq (b := 2) (by omega) (by decide)).mp q)) (nx z fxz ((zI 165).trans e165) ((zI 166).trans e166) (fun q q1 q2 => (zA q (by omega)).trans (eT q q1 q2)) ⟨(zI 160).trans d1, fun i hi => ?_⟩)
        rw [zA 103 (by decide)]
        exact d2 i hi
  · have ek : k = b - a := by omega
    subst ek
    exact br_t (by (first | omega | (simp (disch := omega) only [Int32.le_iff_toInt_le, Int32.lt_iff_toInt_lt, z_eq, z_in, nI_toInt, z_cl, z_m1, z_sg, z_255, Int32.reduceToInt] <;> omega) | (simp only [Int32.le_iff_toInt_le, Int32.lt_iff_toInt_lt, z_eq, z_in, z_add, z_sub, z_mul, z_neg, z_nI, z_cl, z_sg, z_255, z_lit, Int32.reduceToInt] <;> omega))) (p y f e165 e166 hfd eT)
end
