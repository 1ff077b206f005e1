/-! a record is written: what comes out -/
def inG (F : List SFd) (g : Int32) (a : Nat) : Prop := g = -1 ∨ ∃ f, f < F.length ∧ g = nI f ∧ dsc F f a
def PP (F : List SFd) (W : Nat → Bool) (S : Nat → List SEn) (g : Int32) : Prop := ∀ a, a < F.length → fTy F a = 4 → inG F g a → ∀ c1 c2, c1 < ncol F → c2 < ncol F → W c1 = true → W c2 = true → dsc F a (lfC F c1) → dsc F a (lfC F c2) → fl2 (rF F a) (dG F (nI a)) (S c1) = fl2 (rF F a) (dG F (nI a)) (S c2)
def JG (F : List SFd) (W : Nat → Bool) (S : Nat → List SEn) (g : Int32) : Prop := (∀ c, c < ncol F → W c = true → inG F g (lfC F c) → S c ≠ [] ∧ hdR' (S c) ≤ rgF F g ∧ dG F g ≤ hdD (S c)) ∧ PP F W S g
def GdS (F : List SFd) (W : Nat → Bool) (S : Nat → List SEn) : Prop := ∀ c, c < ncol F → W c = true → OrdL F (lfC F c) (S c) ∧ ∀ e, e ∈ S c → okE F e ∧ e.1 = c
section
variable {F : List SFd} {W : Nat → Bool} {S : Nat → List SEn} {g : Int32}
theorem inG_f {f a : Nat} (hf : f < F.length) (h128 : F.length ≤ 128) : inG F (nI f) a ↔ dsc F f a := by
  constructor
  · rintro (z | ⟨h, h1, h2, h3⟩)
    · exact absurd z (nI_nm1 (by omega))
    · have := nI_inj (by omega) (by omega) h2
      rw [this]; exact h3
  · exact fun h => Or.inr ⟨f, hf, rfl, h⟩
theorem inG_up {f a : Nat} (hw : WfS F) (hf : f < F.length) (ha : a < F.length) (h : dsc F f a) : inG F (fPa F f) a := by
  rcases hw.2.2.1.2 f hf with e | ⟨v, v1, v2⟩
  · exact Or.inl e
  · exact Or.inr ⟨v, by omega, v2, dsc_trans hw (dsc_in hw hf v1 v2 (dsc_self hw (by omega))) a ha h⟩
theorem rg_f {f : Nat} (hw : WfS F) (hf : f < F.length) : rF F f = wRep (fKd F) f + rgF F (fPa F f) := upS_at (w := wRep (fKd F)) hw.2.2.1 hf
theorem leaf_col {f c : Nat} (hw : WfS F) (hf : f < F.length) (ht : fTy F f ≠ 4) (hc : c < ncol F) (d : dsc F f (lfC F c)) : lfC F c = f ∧ c = cB F f := by
  obtain ⟨l1, l2, l3⟩ := lfC_ok hc
  have e : lfC F c = f := by
    by_cases e : lfC F c = f
    · exact e
    · obtain ⟨w, w1, w2, w3⟩ := chd_of hw _ l1 d e
      exact absurd (hw.2.2.2.2.1 w f w1 w2 w3).1 ht
  exact ⟨e, by rw [← e, l3]⟩
/-- the heads of two columns under a field that are in step -/
theorem JG.two {f c0 c : Nat} (hw : WfS F) (J : JG F W S g) (hf : f < F.length) (hg : fPa F f = g) (h0 : c0 < ncol F) (w0 : W c0 = true) (d0 : dsc F f (lfC F c0)) (hc : c < ncol F) (wc : W c = true) (dc : dsc F f (lfC F c)) : min (hdD (S c0)) (dG F (nI f)) = min (hdD (S c)) (dG F (nI f)) := by
  by_cases ht : fTy F f = 4
  · have l1 := (lfC_ok h0).1
    have l2 := (lfC_ok hc).1
    have e := rg_f hw hf
    obtain ⟨a1, a2, -⟩ := J.1 c0 h0 w0 (by rw [← hg]; exact inG_up hw hf l1 d0)
    obtain ⟨b1, b2, -⟩ := J.1 c hc wc (by rw [← hg]; exact inG_up hw hf l2 dc)
    have p := J.2 f hf ht (by rw [← hg]; exact inG_up hw hf hf (dsc_self hw hf)) c0 c h0 hc w0 wc d0 dc
    rw [← hg] at a2 b2
    exact (fl2_hd p a1 b1 (by omega) (by omega)).2
  · rw [(leaf_col hw hf ht h0 d0).2, (leaf_col hw hf ht hc dc).2]
theorem JG.kid {f c0 : Nat} (hw : WfS F) (J : JG F W S g) (hf : f < F.length) (hg : fPa F f = g) (h0 : c0 < ncol F) (w0 : W c0 = true) (d0 : dsc F f (lfC F c0)) (hp : dG F (nI f) ≤ hdD (S c0)) : JG F W S (nI f) := by
  have h128 := hw.1
  refine ⟨fun c hc wc dc => ?_, fun a ha ht hi => J.2 a ha ht ?_⟩
  · have dc := (inG_f hf h128).mp dc
    have e := rg_f hw hf
    obtain ⟨b1, b2, -⟩ := J.1 c hc wc (by rw [← hg]; exact inG_up hw hf (lfC_ok hc).1 dc)
    have m := J.two hw hf hg h0 w0 d0 hc wc dc
    rw [← hg] at b2
    refine ⟨b1, ?_, by omega⟩
    show hdR' (S c) ≤ rF F f
    omega
  · have hi := (inG_f hf h128).mp hi
    rw [← hg]
    exact inG_up hw hf ha hi
theorem JG.gone {f c0 : Nat} (hw : WfS F) (J : JG F W S g) (D : GdS F W S) (hf : f < F.length) (hg : fPa F f = g) (h0 : c0 < ncol F) (w0 : W c0 = true) (d0 : dsc F f (lfC F c0)) (hp : hdD (S c0) < dG F (nI f)) {c : Nat} (hc : c < ncol F) (wc : W c = true) (dc : dsc F f (lfC F c)) : rst (rgF F g) (S c) = (S c).drop 1 := by
  obtain ⟨b1, -, -⟩ := J.1 c hc wc (by rw [← hg]; exact inG_up hw hf (lfC_ok hc).1 dc)
  have m := J.two hw hf hg h0 w0 d0 hc wc dc
  obtain ⟨o1, o2⟩ := D c hc wc
  refine rst_at (Nat.le_refl _) (List.length_pos_iff.mpr b1) (fun i i1 i2 => by omega) (fun h1 => Nat.not_lt.mp (fun z => ?_))
  have mem : (S c).getD 1 en0 ∈ S c := by rw [en_at h1]; exact List.getElem_mem h1
  obtain ⟨⟨-, r2, -⟩, r4⟩ := o2 _ mem
  rw [r4] at r2
  have od := (o1 1 (Nat.le_refl _) h1 (by omega)).2
  rw [← hg] at z
  have := tpR_in hw (lfC_ok hc).1 hf dc z r2
  have od : dG F (nI (tpR F (lfC F c) ((S c).getD 1 en0).2.1)) ≤ hdD (S c) := od
  omega
theorem leaf_one {c : Nat} (D : GdS F W S) (hc : c < ncol F) (wc : W c = true) (hn : S c ≠ []) : rst (mrC F c) (S c) = (S c).drop 1 := by
  obtain ⟨-, o2⟩ := D c hc wc
  refine rst_at (Nat.le_refl _) (List.length_pos_iff.mpr hn) (fun i i1 i2 => by omega) (fun h1 => ?_)
  have mem : (S c).getD 1 en0 ∈ S c := by rw [en_at h1]; exact List.getElem_mem h1
  obtain ⟨⟨-, r2, -⟩, r4⟩ := o2 _ mem
  rw [r4] at r2
  exact r2
theorem GdS.rest (D : GdS F W S) (r : Nat) : GdS F W (fun c => rst r (S c)) := fun c hc wc => by
  obtain ⟨o1, o2⟩ := D c hc wc
  refine ⟨o1.rst, fun e he => o2 e ?_⟩
  by_cases z : S c = []
  · have he : e ∈ rst r (S c) := he
    rw [z] at he; exact absurd he (by simp [rst])
  · obtain ⟨k, -, -, k3, -⟩ := rst_is r z
    have he : e ∈ rst r (S c) := he
    rw [k3] at he
    exact List.mem_of_mem_drop he
/-- behind one value of a field that repeats -/
theorem JG.nx {f c0 : Nat} (hw : WfS F) (J : JG F W S (nI f)) (D : GdS F W S) (hf : f < F.length) (hk : fKd F f = 2) (h0 : c0 < ncol F) (w0 : W c0 = true) (d0 : dsc F f (lfC F c0)) :
    (rst (rF F f) (S c0) ≠ [] ∧ hdR' (rst (rF F f) (S c0)) = rF F f → JG F W (fun c => rst (rF F f) (S c)) (nI f) ∧ ∀ c, c < ncol F → W c = true → dsc F f (lfC F c) → rst (rgF F (fPa F f)) (S c) = rst (rgF F (fPa F f)) (rst (rF F f) (S c))) ∧
    (¬ (rst (rF F f) (S c0) ≠ [] ∧ hdR' (rst (rF F f) (S c0)) = rF F f) → ∀ c, c < ncol F → W c = true → dsc F f (lfC F c) → rst (rgF F (fPa F f)) (S c) = rst (rF F f) (S c)) := by
  have h128 := hw.1
  have e := rg_f hw hf
  have w1 : wRep (fKd F) f = 1 := if_pos hk
  have hn : ∀ c, c < ncol F → W c = true → dsc F f (lfC F c) → S c ≠ [] ∧ hdR' (S c) ≤ rF F f := fun c hc wc dc => by
    obtain ⟨a, b, -⟩ := J.1 c hc wc ((inG_f hf h128).mpr dc)
    exact ⟨a, b⟩
  -- the rests of two columns begin alike
  have two : ∀ c, c < ncol F → W c = true → dsc F f (lfC F c) → (rst (rF F f) (S c0) = [] ↔ rst (rF F f) (S c) = []) ∧ (rst (rF F f) (S c0) ≠ [] → hdR' (rst (rF F f) (S c0)) = hdR' (rst (rF F f) (S c))) := fun c hc wc dc => by
    by_cases ht : fTy F f = 4
    · have p := J.2 f hf ht ((inG_f hf h128).mpr (dsc_self hw hf)) c0 c h0 hc w0 wc d0 dc
      have p2 : fl2 (rF F f) (dG F (nI f)) (rst (rF F f) (S c0)) = fl2 (rF F f) (dG F (nI f)) (rst (rF F f) (S c)) := by
        rw [fl2_rst (Nat.le_refl _) (fun _ => (hn c0 h0 w0 d0).2), fl2_rst (Nat.le_refl _) (fun _ => (hn c hc wc dc).2), p]
      refine ⟨⟨fun z => fl2_nil p2 (fun y => rst_hd y) z, fun z => fl2_nil p2.symm (fun y => rst_hd y) z⟩, fun z => ?_⟩
      have z2 : rst (rF F f) (S c) ≠ [] := fun y => z (fl2_nil p2.symm (fun y => rst_hd y) y)
      exact (fl2_hd p2 z z2 (rst_hd z) (rst_hd z2)).1
    · rw [(leaf_col hw hf ht h0 d0).2, (leaf_col hw hf ht hc dc).2]
      exact ⟨Iff.rfl, fun _ => rfl⟩
  refine ⟨fun ⟨n0, r0⟩ => ⟨⟨fun c hc wc dc => ?_, fun a ha ht hi c1 c2 l1 l2 v1 v2 y1 y2 => ?_⟩, fun c hc wc dc => ?_⟩, fun no c hc wc dc => ?_⟩
  · have dc := (inG_f hf h128).mp dc
    obtain ⟨t1, t2⟩ := two c hc wc dc
    have nc : rst (rF F f) (S c) ≠ [] := fun z => n0 (t1.mpr z)
    refine ⟨nc, rst_hd nc, ?_⟩
    obtain ⟨k, k1, k2, k3, k4, k5⟩ := rst_is (rF F f) (hn c hc wc dc).1
    have hr : hdR' (rst (rF F f) (S c)) = rF F f := by rw [← t2 n0, r0]
    have lt : k < (S c).length := by
      rcases Nat.lt_or_ge k (S c).length with z | z
      · exact z
      · rw [k3, List.drop_eq_nil_of_le z] at nc; exact absurd rfl nc
    have er : ((S c).getD k en0).2.1 = rF F f := by
      have := hr
      unfold hdR' at this
      rw [k3, getD_dr, Nat.add_zero] at this
      exact this
    obtain ⟨o1, -⟩ := D c hc wc
    have od := (o1 k k1 lt (by rw [er]; omega)).1
    rw [er, tpR_rep hw (lfC_ok hc).1 hf dc hk] at od
    show dG F (nI f) ≤ hdD (rst (rF F f) (S c))
    unfold hdD
    rw [k3, getD_dr, Nat.add_zero]
    exact od
  · have hi := (inG_f hf h128).mp hi
    have m := rF_mono hw a ha hi
    have p := J.2 a ha ht ((inG_f hf h128).mpr hi) c1 c2 l1 l2 v1 v2 y1 y2
    have y1' := dsc_trans hw hi _ (lfC_ok l1).1 y1
    have y2' := dsc_trans hw hi _ (lfC_ok l2).1 y2
    have b1 := (hn c1 l1 v1 y1').2
    have b2 := (hn c2 l2 v2 y2').2
    show fl2 (rF F a) (dG F (nI a)) (rst (rF F f) (S c1)) = fl2 (rF F a) (dG F (nI a)) (rst (rF F f) (S c2))
    rw [fl2_rst m (fun _ => by omega), fl2_rst m (fun _ => by omega), p]
  · obtain ⟨t1, t2⟩ := two c hc wc dc
    have nc : rst (rF F f) (S c) ≠ [] := fun z => n0 (t1.mpr z)
    have hr : hdR' (rst (rF F f) (S c)) = rF F f := by rw [← t2 n0, r0]
    obtain ⟨k, k1, k2, k3, k4, k5⟩ := rst_is (rF F f) (hn c hc wc dc).1
    obtain ⟨j, j1, j2, j3, j4, j5⟩ := rst_is (rgF F (fPa F f)) nc
    rw [k3] at j2 j3 j4 j5 hr ⊢
    rw [List.length_drop] at j2 j5
    have er : ((S c).getD k en0).2.1 = rF F f := by
      unfold hdR' at hr
      rw [getD_dr, Nat.add_zero] at hr
      exact hr
    rw [j3, List.drop_drop]
    refine rst_at (by omega) (by omega) (fun i i1 i2 => ?_) (fun h => ?_)
    · rcases Nat.lt_trichotomy i k with z | z | z
      · have := k4 i i1 z; omega
      · rw [z, er]; omega
      · have := j4 (i - k) (by omega) (by omega)
        rw [getD_dr, show k + (i - k) = i by omega] at this
        exact this
    · have := j5 (by omega)
      rw [getD_dr] at this
      exact this
  · obtain ⟨t1, t2⟩ := two c hc wc dc
    obtain ⟨k, k1, k2, k3, k4, k5⟩ := rst_is (rF F f) (hn c hc wc dc).1
    rw [k3]
    refine rst_at k1 k2 (fun i i1 i2 => by have := k4 i i1 i2; omega) (fun h => ?_)
    have nc : rst (rF F f) (S c) ≠ [] := fun z => by
      rw [k3] at z
      have := congrArg List.length z
      rw [List.length_drop] at this
      have : (S c).length - k = 0 := this
      omega
    have n0 : rst (rF F f) (S c0) ≠ [] := fun z => nc (t1.mp z)
    have ne : hdR' (rst (rF F f) (S c)) ≠ rF F f := fun z => no ⟨n0, by rw [t2 n0]; exact z⟩
    have := k5 h
    unfold hdR' at ne
    rw [k3, getD_dr, Nat.add_zero] at ne
    omega
end
/-! the text of a record -/
def gdL (F : List SFd) (W : Nat → Bool) (f : Nat) : List Nat := (List.range (ncol F)).filter (fun c => W c && decide (dsc F f (lfC F c)))
def gdc (F : List SFd) (W : Nat → Bool) (f : Nat) : Nat := (gdL F W f).headD 0
theorem gdc_ok {F : List SFd} {W : Nat → Bool} {f : Nat} (h : gdL F W f ≠ []) : gdc F W f < ncol F ∧ W (gdc F W f) = true ∧ dsc F f (lfC F (gdc F W f)) := by
  have m : gdc F W f ∈ gdL F W f := by
    unfold gdc
    cases hl : gdL F W f with
    | nil => exact absurd hl h
    | cons a l => exact List.mem_cons_self ..
  unfold gdL at m
  obtain ⟨m1, m2⟩ := List.mem_filter.mp m
  rw [Bool.and_eq_true] at m2
  exact ⟨List.mem_range.mp m1, m2.1, of_decide_eq_true m2.2⟩
/-- one value of a field; all of them; the fields of a group -/
def tlO (tG : Int32 → (Nat → List SEn) → List Nat) (vB : Nat → PV → List Nat) (F : List SFd) (f c : Nat) (S : Nat → List SEn) : List Nat := if fTy F f = 4 then tG (nI f) S else vB (tyC F c) ((S c).getD 0 en0).2.2.2
def tlR (tG : Int32 → (Nat → List SEn) → List Nat) (vB : Nat → PV → List Nat) (F : List SFd) (f c : Nat) : Nat → (Nat → List SEn) → List Nat
  | 0, S => tlO tG vB F f c S
  | d + 1, S => tlO tG vB F f c S ++ (if rst (rF F f) (S c) ≠ [] ∧ hdR' (rst (rF F f) (S c)) = rF F f then 44 :: tlR tG vB F f c d (fun c => rst (rF F f) (S c)) else [])
def tlF (tG : Int32 → (Nat → List SEn) → List Nat) (vB : Nat → PV → List Nat) (F : List SFd) (W : Nat → Bool) (g : Int32) (S : Nat → List SEn) : Nat → Nat → Bool → List Nat
  | 0, _, _ => []
  | d + 1, f, sm => if fPa F f ≠ g ∨ gdL F W f = [] ∨ hdD (S (gdc F W f)) < dG F (nI f) then tlF tG vB F W g S d (f + 1) sm else (if sm then [44] else []) ++ tB (fNm F f) ++ [58] ++ (if fKd F f = 2 then 91 :: (tlR tG vB F f (gdc F W f) (S (gdc F W f)).length S ++ [93]) else tlO tG vB F f (gdc F W f) S) ++ tlF tG vB F W g S d (f + 1) true
def tlG (vB : Nat → PV → List Nat) (F : List SFd) (W : Nat → Bool) : Nat → Int32 → (Nat → List SEn) → List Nat
  | 0, _, _ => []
  | D + 1, g, S => 123 :: (tlF (tlG vB F W D) vB F W g S F.length 0 false ++ [125])
