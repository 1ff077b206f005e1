/-! the model: the footer -/
def footB (F : List SFd) (RS : List (List SEn)) (BL PG : Nat → Nat) (g : Nat) : List Nat := varB F.length ++ (fdsB F F.length ++ (varB RS.length ++ (varB ((RS.length + g - 1) / g) ++ gpF F RS BL PG g RS.length 0 0)))
theorem nI_dv {a b : Nat} (ha : a < 2 ^ 31) (hb : b < 2 ^ 31) (h0 : 0 < b) : nI a / nI b = nI (a / b) := by
  apply Int32.toInt_inj.mp
  have hd : a / b ≤ a := Nat.div_le_self _ _
  have e1 : (nI a).toInt = (a : Int) := nI_toInt (by omega)
  have e2 : (nI b).toInt = (b : Int) := nI_toInt (by omega)
  have e3 : (nI (a / b)).toInt = ((a / b : Nat) : Int) := nI_toInt (by omega)
  have t : (a : Int).tdiv b = ((a / b : Nat) : Int) := by
    rw [Int.tdiv_eq_ediv_of_nonneg (by omega)]
    rfl
  generalize a / b = q at *
  rw [Int32.toInt_div, e1, e2, e3, t]
  have h1 : -((2 : Int) ^ 32 / 2) ≤ (q : Int) := by omega
  exact Int.bmod_eq_of_le (by omega) (by omega)
theorem s_putFooter {post : St → Prop} {x : St} {F : List SFd} {RS : List (List SEn)} {BL PG : Nat → Nat} {g : Nat} (hL : LM x) (hw : WfS F) (hN : ∀ f, f < F.length → okT (fNm F f)) (hR : RepM x 0 F) (h : RcM x RS) (ho : OkC F RS) (hg1 : 1 ≤ g) (hg : g ≤ 2000) {NN : Nat} (hNN : NN ≤ 13400) (hwh : ∀ k, k * g < RS.length → (k + 1) * ncol F ≤ NN) (hk : ∀ k, k * g < RS.length → k < 500) (h50 : ∀ i, i < NN → fA x 50 i = nI (BL i) ∧ BL i < 2 ^ 30 ∧ fA x 51 i = nI (PG i) ∧ PG i < 2 ^ 30)
    (p : ∀ y, FrSh x y → Sh y (footB F RS BL PG g) → (footB F RS BL PG g).length ≤ 2 ^ 25 → post y) : wp_Mod_putFooter post (nI g) x := by
  have h4 := h.2.2.2.1
  have hF := hw.1
  have e9 : fN x 9 = 3 := hL 9
  unfold wp_Mod_putFooter
  refine nm_e ⟨by rw [show (0 : Int32) = nI 0 from rfl]; exact vp_in_nI (by show _ < fN x 9; omega) (by show fN x 9 < _; omega), ?_⟩
  have f0 : FrSh x (setI x 0 64 0) := Fg.i ⟨rfl, rfl⟩
  rw [show rA (setI x 0 64 0) 9 0 = nI F.length from by rw [show (0 : Int32) = nI 0 from rfl, rA_nI (by decide)]; exact hR.1, nI_l (by omega)]
  refine s_varint (Sh.nil hL) (by decide) (fun y1 f1 s1 => ?_)
  rw [List.nil_append, uL_lN (by omega)] at s1
  have g1 : FrSh x y1 := Fg.trans f0 f1
  have v1 := varB_len F.length
  refine s_footFields (g1.lm hL) hw hN (g1.rep hR) s1 (by omega) (fun y2 f2 s2 => ?_)
  have g2 : FrSh x y2 := Fg.trans g1 f2
  have fl : ∀ k, k ≤ F.length → (fdsB F k).length ≤ 40 * k := by
    intro k
    induction k with
    | zero => intro _; exact Nat.le_refl _
    | succ k ih =>
      intro hkk
      have q := ih (by omega)
      have q2 := fdB_len (F := F) (f := k) (hw.2.2.2.1 k (by omega)).2.2.2.2
      show (fdsB F k ++ fdB F k).length ≤ _
      rw [List.length_append]
      omega
  have fl1 := fl F.length (Nat.le_refl _)
  have e34 : ∀ y, FrSh x y → fI y 0 34 = nI RS.length := fun y hy => (hy.1 0 34 (by decide)).trans h.2.2.1
  rw [e34 y2 g2, nI_l (by omega)]
  refine s_varint s2 (by rw [List.length_append]; omega) (fun y3 f3 s3 => ?_)
  rw [uL_lN (by omega)] at s3
  have g3 : FrSh x y3 := Fg.trans g2 f3
  have v3 := varB_len RS.length
  have hd : (RS.length + g - 1) / g ≤ RS.length + g - 1 := Nat.div_le_self _ _
  refine ⟨fun z => by have := nI_inj (b := 0) (by omega) (by decide) z; omega, ?_⟩
  rw [e34 y3 g3, nI_add, show nI (RS.length + g) - 1 = nI (RS.length + g - 1) from by rw [show (1 : Int32) = nI 1 from rfl, nI_sub (by omega)], nI_dv (by omega) (by omega) (by omega), nI_l (by omega)]
  refine s_varint s3 (by rw [List.length_append, List.length_append]; omega) (fun y4 f4 s4 => ?_)
  rw [uL_lN (by omega)] at s4
  have g4 : FrSh x y4 := Fg.trans g3 f4
  have v4 := varB_len ((RS.length + g - 1) / g)
  refine s_footGroups (BL := BL) (PG := PG) (g4.lm hL) hw (g4.rep hR) (g4.rc h) ho hg1 hg hNN hwh hk (fun i hi => ?_) s4 (by rw [List.length_append, List.length_append, List.length_append]; omega) (fun y5 f5 s5 l5 => p y5 (Fg.trans g4 f5) ?_ ?_)
  · have q := h50 i hi
    refine ⟨?_, q.2.1, ?_, q.2.2.2⟩
    · show y4.2.2.2.1 50 i = _
      rw [g4.2.2.2.1 50 (by decide)]; exact q.1
    · show y4.2.2.2.1 51 i = _
      rw [g4.2.2.2.1 51 (by decide)]; exact q.2.2.1
  · unfold footB
    simp only [List.append_assoc] at s5 ⊢
    exact s5
  · unfold footB
    simp only [List.length_append]
    omega
