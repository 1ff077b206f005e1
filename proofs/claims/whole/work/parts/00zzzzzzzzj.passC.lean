/-! a field is passed by, class -/
section
variable {x y : St} {F : List SFd} {W : Nat → Bool} {V : Nat → Int64} {b : Nat} {e : Nat → Nat} {S : Nat → List SEn} {g : Int32} {D d f : Nat}
theorem cB_all : cB F F.length = ncol F := by unfold cB; rw [List.take_length]
theorem k_passBy {post : St → Prop} (hw : WfS F) (hK : SkS x) (hL : LC x) (hR : RepC x 70 F) (hf : f < F.length) (p : ∀ y, SkS y → (∀ κ, Caps x κ → Caps y κ) → (∀ B, Snk x 147 B → Snk y 147 B) → FAs x y → (∀ c, c < ncol F → fA y 150 c = if dsc F f (lfC F c) then fA x 150 c + 1 else fA x 150 c) → post y) : wp_Asm_passBy post 146 (nI f) x := by
  have h128 := hw.1
  have h64 := hw.2.1
  have l77 : fN x 77 = 128 := hL 77 (by decide)
  have l78 : fN x 78 = 128 := hL 78 (by decide)
  have l150 : fN x 150 = 64 := hL 150 (by decide)
  have nsk : ¬ skRow 150 := st150.2.1
  have pb := pB_le (F := F) hf
  have e77 : rA x 77 (nI f) = nI (pB F f) := by rw [rA_nI (by omega)]; exact (hR.2.2.2.1 f hf).2.2.2.2.2.2.1
  have e78 : ∀ k, k < F.length → rA x 78 (nI k) = nI (cB F k) := fun k hk => by rw [rA_nI (by omega)]; exact (hR.2.2.2.1 k hk).2.2.2.2.2.2.2.1
  have cb1 := cB_le F (pB F f)
  have cb2 := cB_le F f
  have cb3 := cB_mono (F := F) (Nat.le_of_lt (pB_gt hw hf))
  have inn : ∀ c, c < ncol F → (dsc F f (lfC F c) ↔ cB F f ≤ c ∧ c < cB F (pB F f)) := fun c hc => by
    have i1 := cB_iff (a := f) hc
    have i2 := cB_iff (a := pB F f) hc
    rw [dsc_iff hw hf (lfC_ok hc).1]
    omega
  have loop : ∃ n, wl_Asm_passBy_36 post n 146 (nI f) (nI (cB F (pB F f))) (nI (cB F f)) x := by
    refine lp_Asm_passBy_36 (fun a0 a1 a2 a3 y => 146 = a0 ∧ nI f = a1 ∧ nI (cB F (pB F f)) = a2 ∧ SkS y ∧ (∀ κ, Caps x κ → Caps y κ) ∧ (∀ B, Snk x 147 B → Snk y 147 B) ∧ FAs x y ∧ ∃ k, nI k = a3 ∧ cB F f ≤ k ∧ k ≤ cB F (pB F f) ∧ ∀ c, c < ncol F → fA y 150 c = if cB F f ≤ c ∧ c < k then fA x 150 c + 1 else fA x 150 c) (fun _ _ _ a3 _ => cB F (pB F f) - a3.toNatClampNeg) ?_ _ _ _ _ _ ⟨rfl, rfl, rfl, hK, fun _ h => h, fun _ h => h, FX.refl x, cB F f, rfl, Nat.le_refl _, cb3, fun c _ => by rw [if_neg (by omega)]⟩
    rintro R a0 a1 a2 a3 y ⟨rfl, rfl, rfl, y1, y2, y3, y4, k, rfl, k1, k2, y5⟩ ih
    have l : fN y 150 = 64 := (y4.2.2.2.2.2.1 150 (by decide)).trans l150
    unfold j_Asm_passBy_36
    rw [show stC 146 2 = 150 from rfl, l]
    by_cases ck : k < cB F (pB F f)
    · refine br_f (by (first | omega | (simp (disch := omega) only [Int32.le_iff_toInt_le, Int32.lt_iff_toInt_lt, z_eq, z_in, nI_toInt, z_cl, z_m1, z_sg, z_255, Int32.reduceToInt] <;> omega) | (simp only [Int32.le_iff_toInt_le, Int32.lt_iff_toInt_lt, z_eq, z_in, z_add, z_sub, z_mul, z_neg, z_nI, z_cl, z_sg, z_255, z_lit, Int32.reduceToInt] <;> omega))) ⟨vp_in_nI (by omega) (by decide), vp_in_nI (by omega) (by decide), nm_e ?_⟩
      rw [nI_1]
      refine ih _ _ _ _ _ ⟨rfl, rfl, rfl, setA_sk y1 nsk, fun κ h => y2 κ h, fun B h => setA_snk y1 sn147 nsk (y3 B h), y4.trans FAs.a, k + 1, rfl, by omega, ck, fun c hc => ?_⟩ (by rw [nI_clamp (by omega), nI_clamp (by omega)]; omega)
      by_cases ec : c = k
      · rw [ec, gA_on (by omega), rA_nI (by omega), y5 k (by omega), if_neg (by omega), if_pos (by omega)]
      · rw [gA_off (by omega) ec, y5 c hc]
        by_cases w : cB F f ≤ c ∧ c < k
        · rw [if_pos w, if_pos (by omega)]
        · rw [if_neg w, if_neg (by omega)]
    · have ek : k = cB F (pB F f) := by omega
      subst ek
      refine br_t (by (first | omega | (simp (disch := omega) only [Int32.le_iff_toInt_le, Int32.lt_iff_toInt_lt, z_eq, z_in, nI_toInt, z_cl, z_m1, z_sg, z_255, Int32.reduceToInt] <;> omega) | (simp only [Int32.le_iff_toInt_le, Int32.lt_iff_toInt_lt, z_eq, z_in, z_add, z_sub, z_mul, z_neg, z_nI, z_cl, z_sg, z_255, z_lit, Int32.reduceToInt] <;> omega))) (p y y1 y2 y3 y4 (fun c hc => ?_))
      rw [y5 c hc]
      by_cases w : cB F f ≤ c ∧ c < cB F (pB F f)
      · rw [if_pos w, if_pos ((inn c hc).mpr w)]
      · rw [if_neg w, if_neg (fun z => w ((inn c hc).mp z))]
  unfold wp_Asm_passBy
  rw [show stC 146 1 = 97 from rfl, show stC 97 5 = 70 from rfl, show stC 70 8 = 77 from rfl, show stC 70 9 = 78 from rfl, l77, e77]
  refine ⟨vp_in_nI (by omega) (by decide), ?_⟩
  unfold wp_Sch_columnsBefore
  rw [show stC 70 9 = 78 from rfl, hR.1, hR.2.1]
  have fin : vp_in (nI f) (fN x 78) ∧ ∀ v5 : Int32, v5 = rA x 78 (nI f) → ∃ n, wl_Asm_passBy_36 post n 146 (nI f) (nI (cB F (pB F f))) v5 x := ⟨by rw [l78]; exact vp_in_nI (by omega) (by decide), nm_r (e78 f hf) loop⟩
  by_cases c : F.length ≤ pB F f
  · have ep : pB F f = F.length := by omega
    rw [ep, cB_all] at fin
    exact br_t (by (first | omega | (simp (disch := omega) only [Int32.le_iff_toInt_le, Int32.lt_iff_toInt_lt, z_eq, z_in, nI_toInt, z_cl, z_m1, z_sg, z_255, Int32.reduceToInt] <;> omega) | (simp only [Int32.le_iff_toInt_le, Int32.lt_iff_toInt_lt, z_eq, z_in, z_add, z_sub, z_mul, z_neg, z_nI, z_cl, z_sg, z_255, z_lit, Int32.reduceToInt] <;> omega))) fin
  · refine br_f (by (first | omega | (simp (disch := omega) only [Int32.le_iff_toInt_le, Int32.lt_iff_toInt_lt, z_eq, z_in, nI_toInt, z_cl, z_m1, z_sg, z_255, Int32.reduceToInt] <;> omega) | (simp only [Int32.le_iff_toInt_le, Int32.lt_iff_toInt_lt, z_eq, z_in, z_add, z_sub, z_mul, z_neg, z_nI, z_cl, z_sg, z_255, z_lit, Int32.reduceToInt] <;> omega))) ⟨by rw [l78]; exact vp_in_nI (by omega) (by decide), ?_⟩
    rw [e78 _ (by omega)]
    exact fin
/-- the cursors where a field comes -/
def CuFC (y : St) (F : List SFd) (W : Nat → Bool) (e : Nat → Nat) (S : Nat → List SEn) (g : Int32) (f : Nat) : Prop := (∀ c, c < ncol F → W c = true → inG F g (lfC F c) → (∀ h, h < f → fPa F h = g → ¬ dsc F h (lfC F c)) → fA y 150 c = nI (e c - (S c).length)) ∧ (∀ c, c < ncol F → W c = true → (∃ h, h < f ∧ fPa F h = g ∧ dsc F h (lfC F c)) → fA y 150 c = nI (e c - (rst (rgF F g) (S c)).length))
theorem CuFC.skip (h : CuFC y F W e S g f) (hs : fPa F f = g → gdL F W f = []) : CuFC y F W e S g (f + 1) := by
  obtain ⟨h1, h2⟩ := h
  refine ⟨fun c hc wc hi hn => h1 c hc wc hi (fun h hh => hn h (by omega)), fun c hc wc ⟨h, k1, k2, k3⟩ => h2 c hc wc ⟨h, ?_, k2, k3⟩⟩
  rcases Nat.lt_or_ge h f with z | z
  · exact z
  · have ez : h = f := by omega
    subst ez
    have mem : c ∈ gdL F W h := List.mem_filter.mpr ⟨List.mem_range.mpr hc, by rw [Bool.and_eq_true]; exact ⟨wc, decide_eq_true k3⟩⟩
    rw [hs k2] at mem
    exact absurd mem (by simp)
theorem CuFC.step {z : St} (hw : WfS F) (hf : f < F.length) (hg : fPa F f = g) (h : CuFC y F W e S g f) (k1 : CuC z F W e (fun c => rst (rgF F g) (S c)) (nI f)) (k2 : ElC y z F W (nI f)) : CuFC z F W e S g (f + 1) := by
  have h128 := hw.1
  obtain ⟨h1, h2⟩ := h
  refine ⟨fun c hc wc hi hn => ?_, fun c hc wc ⟨h, a1, a2, a3⟩ => ?_⟩
  · rw [k2 c hc wc (fun z => hn f (Nat.lt_succ_self _) hg ((inG_f hf h128).mp z))]
    exact h1 c hc wc hi (fun h hh => hn h (by omega))
  · by_cases ez : h = f
    · exact k1 c hc wc ((inG_f hf h128).mpr (by rw [← ez]; exact a3))
    · rw [k2 c hc wc (fun z => ez (kid_one hw hf (by omega) (lfC_ok hc).1 hg a2 ((inG_f hf h128).mp z) a3))]
      exact h2 c hc wc ⟨h, by omega, a2, a3⟩
theorem CuFC.at (hw : WfS F) (hf : f < F.length) (hg : fPa F f = g) (h : CuFC y F W e S g f) : CuC y F W e S (nI f) := fun c hc wc hi => by
  have dc := (inG_f hf hw.1).mp hi
  exact h.1 c hc wc (by rw [← hg]; exact inG_up hw hf (lfC_ok hc).1 dc) (fun h hh e2 d2 => by
    have := kid_one hw hf (by omega) (lfC_ok hc).1 hg e2 dc d2
    omega)
theorem CuFC.k (hK : SkS x) (h : CuFC x F W e S g f) (k : FK 147 x y) : CuFC y F W e S g f := by
  have e := (fk_row sn147 st150 hK k).1
  unfold CuFC
  rw [e]
  exact h
/-- of a field's change what the group around it keeps -/
theorem ElC.up (hw : WfS F) (hf : f < F.length) (hg : fPa F f = g) (h : ElC x y F W (nI f)) : ElC x y F W g := fun c hc wc hn => h c hc wc (fun z => hn (by rw [← hg]; exact inG_up hw hf (lfC_ok hc).1 ((inG_f hf hw.1).mp z)))
theorem AppA.firstQ {κ : Nat → Nat} {B C : List Nat} {P1 P2 : St → Prop} {R1 R2 : St → St → Prop} {W1 W2 : (St → Prop) → Nat → Nat → St → Prop} (Q : St → St → Prop) (h : AppA κ B C P1 R1 W1) (e1 : ∀ x u, SkS x → P2 x → Q x u → SkS u ∧ (Caps x κ → Caps u κ) ∧ (Snk x 147 B → Snk u 147 B) ∧ P1 u ∧ ∀ y, R1 u y → R2 x y) (e2 : ∀ post kb nb x, SkS x → P2 x → (∀ u, Q x u → W1 post kb nb u) → W2 post kb nb x) : AppA κ B C P2 R2 W2 := by
  obtain ⟨κ1, m1, f1⟩ := h
  refine ⟨κ1, m1, fun x post kb nb hK hC h hp hk hn p => e2 _ _ _ _ hK hp (fun u hu => ?_)⟩
  obtain ⟨u1, u2, u3, u4, u5⟩ := e1 x u hK hp hu
  exact f1 u post kb nb u1 (u2 hC) (u3 h) u4 hk hn (fun y y1 y2 y3 => p y y1 y2 (u5 y y3))
/-- fields that are none of the group's -/
theorem tlF_skip {tG : Int32 → (Nat → List SEn) → List Nat} {d : Nat} {sm : Bool} : ∀ k f, (∀ h, f ≤ h → h < f + k → fPa F h ≠ g) → tlF tG vlB F W g S (k + d) f sm = tlF tG vlB F W g S d (f + k) sm := by
  intro k
  induction k with
  | zero => intro f _; rw [Nat.zero_add, Nat.add_zero]
  | succ k ih =>
    intro f h
    rw [show k + 1 + d = k + d + 1 by omega]
    show (if fPa F f ≠ g ∨ _ then tlF tG vlB F W g S (k + d) (f + 1) sm else _) = _
    rw [if_pos (Or.inl (h f (Nat.le_refl _) (by omega))), ih (f + 1) (fun h' a b => h h' (by omega) (by omega)), show f + 1 + k = f + (k + 1) by omega]
end
