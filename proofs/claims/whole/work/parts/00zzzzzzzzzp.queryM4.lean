/-! query(), model: what it comes to -/
/-- the other queries stay -/
def KpQ (s : Nat) (x z : St) : Prop := ∀ t Q', t ≠ s → t < 3 → (ltB Q'.2.2.2).length ≤ 2000 → KqM x t Q' → KqM z t Q'
section
variable {T : Nat → Int32} {n : Nat} {F : List SFd} {x : St}
theorem s_query {post : Int32 → St → Prop} {o hq an : Bool} {kp la : Nat} (hL : LM x) (h : InM x T n) (h82 : fI x 0 82 = if o = true then 1 else 0) (hO : o = true → WfS F ∧ RepM x 1 F)
    (h117 : hq = true → fI x 0 117 = nI kp) (h119 : an = true → fI x 0 119 = nI la) (hkp : kp < 3) (hla : la < 3) (h120 : fI x 0 120 = if hq = true then 1 else 0) (h121 : fI x 0 121 = if an = true then 1 else 0)
    (pN : o = false → ∀ z, FrQy x z → (∀ k, k = 79 ∨ 80 ≤ k → fA z k = fA x k) → fL z 93 = fL x 93 → fI z 0 0 = 0 → fI z 0 4 = 0 → fI z 0 117 = fI x 0 117 → fI z 0 120 = fI x 0 120 → post (-2) z)
    (pL : o = true → 2000 < n → ∀ z, FrQy x z → (∀ k, k = 79 ∨ 80 ≤ k → fA z k = fA x k) → fL z 93 = fL x 93 → fI z 0 0 = 0 → fI z 0 4 = 0 → fI z 0 117 = fI x 0 117 → fI z 0 120 = fI x 0 120 → post 2000 z)
    (pE : o = true → n ≤ 2000 → ¬ (qry T n F).1 = -1 → ∀ s z, s < 3 → (hq = true → s ≠ kp) → (an = true → s ≠ la) → FrQy x z → KpQ s x z → fI z 0 0 = 0 → fI z 0 4 = 0 → fI z 0 117 = fI x 0 117 → fI z 0 120 = fI x 0 120 → post (qry T n F).1 z)
    (pO : o = true → n ≤ 2000 → (qry T n F).1 = -1 → ∀ s z, s < 3 → (hq = true → s ≠ kp) → (an = true → s ≠ la) → FrQy x z → KpQ s x z → fI z 0 0 = 0 → fI z 0 4 = 0 → KqM z s (qry T n F).2.2 → fI z 0 117 = nI s → fI z 0 120 = 1 → post (-1) z) : wp_Mod_query post x := by
  obtain ⟨h1, h2, h3⟩ := h
  unfold wp_Mod_query wp_Mod_begins
  refine nm_e (nm_e (nm_e (nm_e (nm_e ?_))))
  rw [show fI (setI x 0 0 0) 0 4 = nI n from h1]
  generalize hX : setI (setI (setI (setI (setI x 0 0 0) 0 15 (nI n)) 0 4 0) 0 16 0) 0 17 (-1) = X
  have fX : FrQy x X := by rw [← hX]; exact (((Fg.i (by decide)).trans (Fg.i (by decide))).trans (Fg.i (by decide))).trans ((Fg.i (by decide)).trans (Fg.i (by decide)))
  have X2 : X.2 = x.2 := by rw [← hX]; rfl
  have XI : ∀ k, k ≠ 0 → k ≠ 15 → k ≠ 4 → k ≠ 16 → k ≠ 17 → fI X 0 k = fI x 0 k := by
    intro k a b c d e
    rw [← hX, gI_ne e, gI_ne d, gI_ne c, gI_ne b, gI_ne a]
  have X0 : fI X 0 0 = 0 := by rw [← hX]; rfl
  have X4 : fI X 0 4 = 0 := by rw [← hX]; rfl
  have X15 : fI X 0 15 = nI n := by rw [← hX]; rfl
  have X16 : fI X 0 16 = nI 0 := by rw [← hX]; rfl
  have X17 : fI X 0 17 = -1 := by rw [← hX]; rfl
  have XA : ∀ a, fA X a = fA x a := fun a => by show X.2.2.2.1 a = _; rw [X2]
  have XL : ∀ a, fL X a = fL x a := fun a => by show X.2.2.2.2.1 a = _; rw [X2]
  have XN : ∀ a, fN X a = fN x a := fun a => by show X.2.2.2.2.2 a = _; rw [X2]
  clear hX
  rw [XI 82 (by decide) (by decide) (by decide) (by decide) (by decide), h82]
  cases o with
  | false =>
    exact bn_t rfl (pN rfl X fX (fun k _ => XA k) (XL 93) X0 X4 (XI 117 (by decide) (by decide) (by decide) (by decide) (by decide)) (XI 120 (by decide) (by decide) (by decide) (by decide) (by decide)))
  | true =>
    refine bn_f (by decide) ?_
    rw [X15]
    by_cases hn : n ≤ 2000
    · refine br_t (by (first | omega | (simp (disch := omega) only [Int32.le_iff_toInt_le, Int32.lt_iff_toInt_lt, z_eq, z_in, nI_toInt, z_cl, z_m1, z_sg, z_255, Int32.reduceToInt] <;> omega) | (simp only [Int32.le_iff_toInt_le, Int32.lt_iff_toInt_lt, z_eq, z_in, z_add, z_sub, z_mul, z_neg, z_nI, z_cl, z_sg, z_255, z_lit, Int32.reduceToInt] <;> omega))) (nm_e ⟨3 + 1, ?_⟩)
      obtain ⟨hw, hR⟩ := hO rfl
      have x120 : fI X 0 120 = if hq = true then 1 else 0 := (XI 120 (by decide) (by decide) (by decide) (by decide) (by decide)).trans h120
      have x121 : fI X 0 121 = if an = true then 1 else 0 := (XI 121 (by decide) (by decide) (by decide) (by decide) (by decide)).trans h121
      have x117 : hq = true → fI X 0 117 = nI kp := fun q => (XI 117 (by decide) (by decide) (by decide) (by decide) (by decide)).trans (h117 q)
      have x119 : an = true → fI X 0 119 = nI la := fun q => (XI 119 (by decide) (by decide) (by decide) (by decide) (by decide)).trans (h119 q)
      -- a slot is free
      have key : ∀ m s, s + m = 3 → (∀ t, t < s → (hq = true ∧ t = kp) ∨ (an = true ∧ t = la)) → wl_Mod_query_38 post (m + 1) (setI X 0 118 (nI s)) := by
        intro m
        induction m with
        | zero =>
          intro s hs ht
          have s3 : s = 3 := by omega
          subst s3
          have t0 := ht 0 (by decide)
          have t1 := ht 1 (by decide)
          have t2 := ht 2 (by decide)
          omega
        | succ m ih =>
          intro s hs ht
          show j_Mod_query_38 post (wl_Mod_query_38 post (m + 1)) (setI X 0 118 (nI s))
          have y118 : fI (setI X 0 118 (nI s)) 0 118 = nI s := gI_at
          have y : ∀ k, k ≠ 118 → fI (setI X 0 118 (nI s)) 0 k = fI X 0 k := fun k hk => gI_ne hk
          have m74 : (hq = true ∧ s = kp) ∨ (an = true ∧ s = la) → j_Mod_query_74 post (wl_Mod_query_38 post (m + 1)) (setI X 0 118 (nI s)) := by
            intro c
            unfold j_Mod_query_74
            refine nm_r (e' := setI X 0 118 (nI (s + 1))) (by rw [y118, setI_setI, nI_1]) (ih (s + 1) (by omega) (fun t q => ?_))
            by_cases d : t < s
            · exact ht t d
            · have : t = s := by omega
              rw [this]; exact c
          have m87 : ¬ ((hq = true ∧ s = kp) ∨ (an = true ∧ s = la)) → j_Mod_query_87 post (setI X 0 118 (nI s)) := by
            intro c
            have s3 : s < 3 := by omega
            have sk : hq = true → s ≠ kp := fun a b => c (Or.inl ⟨a, b⟩)
            have sa : an = true → s ≠ la := fun a b => c (Or.inr ⟨a, b⟩)
            generalize hY : setI X 0 118 (nI s) = Y at *
            have fY : FrQy x Y := by rw [← hY]; exact fX.trans (Fg.i (by decide))
            have Y2 : Y.2 = x.2 := by rw [← hY]; exact X2
            have YA : ∀ a, fA Y a = fA x a := fun a => by show Y.2.2.2.1 a = _; rw [Y2]
            have YL : ∀ a, fL Y a = fL x a := fun a => by show Y.2.2.2.2.1 a = _; rw [Y2]
            have YN : ∀ a, fN Y a = fN x a := fun a => by show Y.2.2.2.2.2 a = _; rw [Y2]
            have hLY : LM Y := fun a => (YN a).trans (hL a)
            have kY : ∀ t Q', KqM x t Q' → KqM Y t Q' := by
              intro t Q' q
              refine ⟨SqM.cg q.1 (fun a _ _ => YA a) (YL 93), fun i hi => by rw [YA]; exact q.2.1 i hi, q.2.2⟩
            have bY : BsM Y T n F s := by
              refine ⟨⟨(y 15 (by decide)).trans X15, by omega, ?_, fun i hi => ?_⟩, hn, hLY, hw, ?_, y118, s3⟩
              · rw [YN]; exact hL 2
              · rw [YA]; exact h3 i hi
              · unfold RepM at *
                rw [YA, YA, YA, YA, YA, YA, YA, YA, YA]
                exact hR
            have Y0 : fI Y 0 0 = 0 := (y 0 (by decide)).trans X0
            have Y4 : fI Y 0 4 = 0 := (y 4 (by decide)).trans X4
            have Y16 : fI Y 0 16 = nI 0 := (y 16 (by decide)).trans X16
            have Y17 : fI Y 0 17 = -1 := (y 17 (by decide)).trans X17
            have Y117 : fI Y 0 117 = fI x 0 117 := (y 117 (by decide)).trans (XI 117 (by decide) (by decide) (by decide) (by decide) (by decide))
            have Y120 : fI Y 0 120 = fI x 0 120 := (y 120 (by decide)).trans (XI 120 (by decide) (by decide) (by decide) (by decide) (by decide))
            have l79 : fN Y 79 = 12 := hLY 79
            unfold j_Mod_query_87
            refine lp_Mod_query_89 (fun b1 z => ∃ i, i ≤ 4 ∧ nI i = b1 ∧ FqM False s Y z ∧ fI z 0 16 = nI 0 ∧ fI z 0 17 = -1 ∧ ∀ j, j < i → fA z 79 (4 * s + j) = 0) (fun b1 _ => 4 - b1.toNatClampNeg) ?_ _ _ ⟨0, by decide, rfl, FqM.refl _ _ _, Y16, Y17, fun j hj => absurd hj (Nat.not_lt_zero _)⟩
            rintro R b1 z ⟨i, hi, rfl, f, z16, z17, g⟩ ih2
            obtain ⟨-, -, u3, -, -, u6, -⟩ := bY.fq f
            unfold j_Mod_query_89
            by_cases d : i < 4
            · refine br_f (by (first | omega | (simp (disch := omega) only [Int32.le_iff_toInt_le, Int32.lt_iff_toInt_lt, z_eq, z_in, nI_toInt, z_cl, z_m1, z_sg, z_255, Int32.reduceToInt] <;> omega) | (simp only [Int32.le_iff_toInt_le, Int32.lt_iff_toInt_lt, z_eq, z_in, z_add, z_sub, z_mul, z_neg, z_nI, z_cl, z_sg, z_255, z_lit, Int32.reduceToInt] <;> omega))) ?_
              rw [u6, show 4 * nI s + nI i = nI (4 * s + i) from by rw [q4, nI_add], show fN z 79 = 12 from u3 79]
              refine ⟨vp_in_nI (by omega) (by decide), nm_e ?_⟩
              rw [nI_1]
              have cl : (nI (4 * s + i)).toNatClampNeg = 4 * s + i := nI_clamp (by omega)
              refine ih2 _ _ ⟨i + 1, d, rfl, f.trans (FqM.a (by omega) (Or.inr (Or.inr ⟨by decide, by decide, by show 4 * s ≤ _; omega, by show _ < 4 * s + 4; omega⟩))), z16, z17, fun j hj => ?_⟩ ?_
              · show upd (fA z 79) (nI (4 * s + i)).toNatClampNeg 0 (4 * s + j) = 0
                rw [cl]
                by_cases d2 : j = i
                · rw [d2, upd_at]
                · rw [upd_ne (by omega)]
                  exact g j (by omega)
              · rw [nI_clamp (by omega), nI_clamp (by omega)]
                omega
            · have e4 : i = 4 := by omega
              subst e4
              refine br_t (by decide) (nm_e ?_)
              have f2 : FqM False s Y (setI z 0 25 0) := f.trans (FqM.i (Or.inr (Or.inr (Or.inl rfl))))
              have G : GdM True n s Y (setI z 0 25 0) 0 ([], [], [], []) := by
                refine ⟨f2.up False.elim, z17, z16, Nat.zero_le _, ⟨⟨?_, by decide, fun i hi => absurd hi (Nat.not_lt_zero _)⟩, ⟨?_, by decide, fun i hi => absurd hi (Nat.not_lt_zero _)⟩, ⟨?_, by decide, fun i hi => absurd hi (Nat.not_lt_zero _)⟩, ⟨?_, by decide, fun i hi => absurd hi (Nat.not_lt_zero _)⟩⟩, rfl, fun i hi => absurd hi (Nat.not_lt_zero _), Nat.le_refl _⟩
                · exact g 0 (by decide)
                · exact g 1 (by decide)
                · exact g 2 (by decide)
                · exact g 3 (by decide)
              refine s_qNeed bY gw_se (RqM.good G) (fun u hu => s_q137 bY hu (fun c2 v hv => ?_) (fun c2 v hv v0 v4 => ?_))
              · refine pE rfl hn c2 s v s3 sk sa (fY.trans hv.1.fr) (fun t Q' q1 q2 q3 q4 => (kY t Q' q4).fq hv.1 (fun q => q1 q.symm)) ?_ ?_ ?_ ?_
                · exact (hv.1.1 0 0 (fun q => by unfold qK at q; omega)).trans Y0
                · exact (hv.1.1 0 4 (fun q => by unfold qK at q; omega)).trans Y4
                · exact (hv.1.1 0 117 (fun q => by unfold qK at q; omega)).trans Y117
                · exact (hv.1.1 0 120 (fun q => by unfold qK at q; omega)).trans Y120
              · exact pO rfl hn c2 s v s3 sk sa (fY.trans hv.1) (fun t Q' q1 q2 q3 q4 => hv.2.2.2.2 t Q' q1 (kY t Q' q4) q2 q3) (v0.trans Y0) (v4.trans Y4) hv.2.1 hv.2.2.1 hv.2.2.2.1
          have m56 : ¬ (hq = true ∧ s = kp) → j_Mod_query_56 post (wl_Mod_query_38 post (m + 1)) (setI X 0 118 (nI s)) := by
            intro c
            unfold j_Mod_query_56
            rw [y 121 (by decide), x121, y118, y 119 (by decide)]
            cases an with
            | false => exact br_t rfl (m87 (fun q => q.elim c (fun q => absurd q.1 (by decide))))
            | true =>
              rw [x119 rfl]
              refine br_f (by decide) ?_
              by_cases d : s = la
              · exact bn_t (by rw [d]) (m74 (Or.inr ⟨rfl, d⟩))
              · exact bn_f (fun q => d ((nI_eq (by omega) (by omega)).mp q)) (m87 (fun q => q.elim c (fun q => d q.2)))
          unfold j_Mod_query_38
          rw [y 120 (by decide), x120, y118, y 117 (by decide)]
          cases hq with
          | false => exact br_t rfl (m56 (fun q => absurd q.1 (by decide)))
          | true =>
            rw [x117 rfl]
            refine br_f (by decide) ?_
            by_cases d : s = kp
            · exact br_t (by rw [d]) (m74 (Or.inl ⟨rfl, d⟩))
            · exact br_f (fun q => d ((nI_eq (by omega) (by omega)).mp q)) (m56 (fun q => d q.2))
      exact key 3 0 rfl (fun t q => absurd q (Nat.not_lt_zero _))
    · refine br_f (by (first | omega | (simp (disch := omega) only [Int32.le_iff_toInt_le, Int32.lt_iff_toInt_lt, z_eq, z_in, nI_toInt, z_cl, z_m1, z_sg, z_255, Int32.reduceToInt] <;> omega) | (simp only [Int32.le_iff_toInt_le, Int32.lt_iff_toInt_lt, z_eq, z_in, z_add, z_sub, z_mul, z_neg, z_nI, z_cl, z_sg, z_255, z_lit, Int32.reduceToInt] <;> omega))) (pL rfl (by omega) X fX (fun k _ => XA k) (XL 93) X0 X4 (XI 117 (by decide) (by decide) (by decide) (by decide) (by decide)) (XI 120 (by decide) (by decide) (by decide) (by decide) (by decide)))
end
