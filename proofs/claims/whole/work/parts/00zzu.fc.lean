/-! the codings of the class: frame, bools as RUNS, texts against texts -/
abbrev FC (s : Nat) (x y : St) : Prop := FX (fun o k => o = s ∧ (k = 1 ∨ k = 2 ∨ k = 5 ∨ k = 6)) no2 no2 (fun a => a = 65 ∨ a = 69 ∨ a = stC s 4) (fun a => a = 66 ∨ a = 67) (fun o => o = s) x y
theorem FK.c {s : Nat} {x y : St} (hs : SnkId s) (h : FK s x y) : FC s x y := h.mono (fun t e => by rw [e]; exact hs) (fun _ _ => id) (fun _ _ z => z) (fun _ _ z => z) (fun _ _ z => z) (fun _ z => z.elim) (fun _ z => z.elim) (fun _ z => z)
theorem FKw.c {s : Nat} {x y : St} (hs : SnkId s) (h : FKw s x y) : FC s x y := h.mono (fun t e => by rw [e]; exact hs) (fun _ _ => id) (fun _ _ z => z) (fun _ _ z => z) (fun _ _ z => z) (fun _ z => Or.inr (Or.inr z)) (fun _ z => z.elim) (fun _ z => z)
theorem FC.trans {s : Nat} {x y z : St} (hs : SnkId s) (h : FC s x y) (k : FC s y z) : FC s x z := FX.trans (fun _ _ => id) id (fun t e => by rw [e]; exact hs) h k
theorem FC.l {s : Nat} {x : St} {r : Nat} {i : Int32} {v : Int64} (h : r = 66 ∨ r = 67) : FC s x (setL x r i v) := by
  refine ⟨fun _ _ _ => rfl, fun _ _ _ => rfl, fun _ _ _ _ => rfl, fun _ _ _ _ => ⟨rfl, rfl⟩, fun a c => ?_, fun _ _ => rfl, fun t r a b => Or.inl ⟨t, a, b⟩⟩
  show (if a = r then _ else _) = _
  rw [if_neg (fun z => c (by rw [z]; exact h))]
theorem FC.a {s : Nat} {x : St} {r : Nat} {i v : Int32} (h : r = 65 ∨ r = 69) : FC s x (setA x r i v) := by
  refine ⟨fun _ _ _ => rfl, fun _ _ _ => rfl, fun _ _ _ _ => rfl, fun a _ c _ => ⟨?_, rfl⟩, fun _ _ => rfl, fun _ _ => rfl, fun t r a b => Or.inl ⟨t, a, b⟩⟩
  show (if a = r then _ else _) = _
  rw [if_neg (fun z => c (by rw [z]; omega))]
theorem not_sk {r : Nat} (h : 61 ≤ r) (h2 : r < 149) : ¬ skRow r := by unfold skRow; omega
def AppC (κ : Nat → Nat) (s : Nat) (B C : List Nat) (Pre : St → Prop) (W : (St → Prop) → Nat → Nat → St → Prop) : Prop := ∃ κ', Kle κ κ' ∧ ∀ x post kb nb, SkS x → Caps x κ → Snk x s B → Pre x → KP κ ≤ kb + KP κ' → NP κ ≤ nb + NP κ' → (∀ y, SkS y → Caps y κ' → FC s x y → Snk y s (B ++ C) → post y) → W post kb nb x
theorem App.c {κ : Nat → Nat} {s : Nat} {B C : List Nat} {Pre : St → Prop} {W : (St → Prop) → Nat → Nat → St → Prop} (hs : SnkId s) (h : App κ s B C Pre W) : AppC κ s B C Pre W := by
  obtain ⟨κ1, m1, f1⟩ := h
  exact ⟨κ1, m1, fun x post kb nb hK hC h hp hk hn p => f1 x post kb nb hK hC h hp hk hn (fun y y1 y2 y3 => p y y1 y2 (y3.c hs))⟩
theorem AppW.c {κ : Nat → Nat} {s : Nat} {B C : List Nat} {Pre : St → Prop} {W : (St → Prop) → Nat → Nat → St → Prop} (hs : SnkId s) (h : AppW κ s B C Pre W) : AppC κ s B C Pre W := by
  obtain ⟨κ1, m1, f1⟩ := h
  exact ⟨κ1, m1, fun x post kb nb hK hC h hp hk hn p => f1 x post kb nb hK hC h hp hk hn (fun y y1 y2 y3 => p y y1 y2 (FKw.c hs y3))⟩
/-- the page that is being written -/
def PgC (x : St) (s ty : Nat) (V : Nat → Int64) (P : List PV) : Prop := LC x ∧ PrP x s 64 ty V P ∧ fI x 45 12 = nI P.length ∧ P.length ≤ 1000
theorem fc42 {s : Nat} {x y : St} (hs : SnkId s) (hK : SkS x) (f : FC s x y) : fA y 42 = fA x 42 ∧ fN y 42 = fN x 42 := by
  refine f.2.2.2.1 42 (Or.inl (by decide)) ?_ (fun t e => by rw [e]; exact stRow_ne hs hK st42)
  rintro (z | z | z)
  · exact absurd z (by decide)
  · exact absurd z (by decide)
  · exact st42.2.2 s hs z
theorem RfC.c {s ty : Nat} {v : Int64} {p : PV} {x y : St} (hs : SnkId s) (hK : SkS x) (f : FC s x y) (z : RfC x 42 ty v p) : RfC y 42 ty v p := by
  have e := fc42 hs hK f
  unfold RfC
  rw [e.1, e.2]
  exact z
theorem PrP.c {s rr ty : Nat} {V : Nat → Int64} {P : List PV} {x y : St} (hs : SnkId s) (h : rr < 152) (h6 : rr ≠ 66 ∧ rr ≠ 67) (hK : SkS x) (f : FC s x y) (z : PrP x s rr ty V P) : PrP y s rr ty V P := by
  obtain ⟨z1, z2, z3, z4⟩ := z
  have h45 := (snk45 hs).1
  refine ⟨(f.2.2.1 45 4 id (fun c => h45 c.1.symm)).trans z1, (f.2.2.1 45 6 id (fun c => h45 c.1.symm)).trans z2, ?_, fun k hk => RfC.c hs hK f (z4 k hk)⟩
  unfold RwL
  rw [show fN y rr = fN x rr from f.2.2.2.2.2.1 rr h, show fL y rr = fL x rr from f.2.2.2.2.1 rr (by omega)]
  exact z3
theorem LC.c {s : Nat} {x y : St} (h : LC x) (f : FC s x y) : LC y := fun r hr => (f.2.2.2.2.2.1 r hr).trans (h r hr)
theorem PgC.c {s ty : Nat} {V : Nat → Int64} {P : List PV} {x y : St} (hs : SnkId s) (hK : SkS x) (f : FC s x y) (z : PgC x s ty V P) : PgC y s ty V P := by
  obtain ⟨z1, z2, z3, z4⟩ := z
  have h45 := (snk45 hs).1
  exact ⟨z1.c f, z2.c hs (by decide) (by decide) hK f, (f.1 45 12 (fun c => h45 c.1.symm)).trans z3, z4⟩
theorem setL_all {x : St} {κ : Nat → Nat} {s r : Nat} {i : Int32} {v : Int64} {B : List Nat} (hK : SkS x) (hC : Caps x κ) (h : Snk x s B) : SkS (setL x r i v) ∧ Caps (setL x r i v) κ ∧ Snk (setL x r i v) s B := ⟨hK, hC, h⟩
theorem setA_all {x : St} {κ : Nat → Nat} {s r : Nat} {i v : Int32} {B : List Nat} (hs : SnkId s) (hr : ¬ skRow r) (hK : SkS x) (hC : Caps x κ) (h : Snk x s B) : SkS (setA x r i v) ∧ Caps (setA x r i v) κ ∧ Snk (setA x r i v) s B := ⟨setA_sk hK hr, hC, setA_snk hK hs hr h⟩
theorem st65 : stRow 65 := st_of (by decide) (by decide) (by decide +kernel)
theorem st69 : stRow 69 := st_of (by decide) (by decide) (by decide +kernel)
theorem st68 : stRow 68 := st_of (by decide) (by decide) (by decide +kernel)
theorem sk_4 {s : Nat} (hs : SnkId s) {x : St} (h : LC x) : fN x (stC s 4) = 4 := by
  have := wRow s hs
  rw [h _ this.1, this.2.2]
/-- bools as RUNS -/
theorem k_boolRuns {κ : Nat → Nat} {s : Nat} {V : Nat → Int64} {P : List PV} {B : List Nat} (hs : SnkId s) (hκ : ∀ t, SnkId t → κ t ≤ roomOf t) : AppC κ s B (runB (fun k => (P.getD k (0, [])).1.toInt32) P.length 1) (fun x => PgC x s 0 V P) (fun post kb nb x => wp_Wrt_putBoolRuns post 45 kb nb x) := by
  by_cases hP : ¬ P.length ≤ 1000
  · exact ⟨κ, Kle.refl hκ, fun x post kb nb _ _ _ h => absurd h.2.2.2 hP⟩
  have hP := Classical.not_not.mp hP
  obtain ⟨κ1, m1, f1⟩ := k_runs (κ := κ) (s := s) (r := 65) (n := P.length) (w := 1) (R := fun k => (P.getD k (0, [])).1.toInt32) (B := B) hs st65 (by omega) (by decide) hκ
  refine ⟨κ1, m1, fun x post kb nb hK hC h hp hk hn p => ?_⟩
  show wp_Wrt_putBoolRuns post 45 kb nb x
  unfold wp_Wrt_putBoolRuns
  refine lp_Wrt_putBoolRuns_2 (fun l0 l1 l2 l3 y => 45 = l0 ∧ kb = l2 ∧ nb = l3 ∧ ∃ k, nI k = l1 ∧ k ≤ P.length ∧ SkS y ∧ Caps y κ ∧ FC s x y ∧ Snk y s B ∧ ∀ i, i < k → fA y 65 i = (P.getD i (0, [])).1.toInt32) (fun _ l1 _ _ _ => P.length - l1.toNatClampNeg) ?_ _ _ _ _ _ ⟨rfl, rfl, rfl, 0, rfl, by omega, hK, hC, FX.refl x, h, fun i hi => by omega⟩
  rintro Q l0 l1 l2 l3 y ⟨rfl, rfl, rfl, k, rfl, k1, y1, y2, y3, y4, y5⟩ ih
  obtain ⟨g1, g2, g3, -⟩ := PgC.c hs hK y3 hp
  unfold j_Wrt_putBoolRuns_2
  rw [g3]
  by_cases c : k < P.length
  · have e64 : fN y (stC 45 10) = 1000 := (g1 64 (by decide)).trans (by decide +kernel)
    have e65 : fN y (stC 45 15) = 1000 := (g1 65 (by decide)).trans (by decide +kernel)
    refine br_f (by (first | omega | (simp (disch := omega) only [Int32.le_iff_toInt_le, Int32.lt_iff_toInt_lt, z_eq, z_in, nI_toInt, z_cl, z_m1, z_sg, z_255, Int32.reduceToInt] <;> omega) | (simp only [Int32.le_iff_toInt_le, Int32.lt_iff_toInt_lt, z_eq, z_in, z_add, z_sub, z_mul, z_neg, z_nI, z_cl, z_sg, z_255, z_lit, Int32.reduceToInt] <;> omega))) ⟨vp_in_nI (by omega) (by omega), vp_in_nI (by omega) (by omega), nm_e ?_⟩
    have ev : rL y (stC 45 10) (nI k) = (P.getD k (0, [])).1 := by
      rw [rL_nI (by omega)]
      exact (g2.2.2.1.2.2 k c).trans ((g2.2.2.2 k c).1 (by decide))
    rw [ev, nI_1]
    obtain ⟨o1, o2, o3⟩ := setA_all (r := 65) (i := nI k) (v := (P.getD k (0, [])).1.toInt32) hs (not_sk (by decide) (by decide)) y1 y2 y4
    refine ih _ _ _ _ _ ⟨rfl, rfl, rfl, k + 1, rfl, by omega, o1, o2, FC.trans hs y3 (FC.a (Or.inl rfl)), o3, fun i hi => ?_⟩ (by rw [nI_clamp (by omega), nI_clamp (by omega)]; omega)
    show fA (setA y 65 (nI k) _) 65 i = _
    rw [gA_at, nI_clamp (by omega)]
    by_cases z : i = k
    · rw [z, upd_at]
    · rw [upd_ne z]; exact y5 i (by omega)
  · refine br_t (by (first | omega | (simp (disch := omega) only [Int32.le_iff_toInt_le, Int32.lt_iff_toInt_lt, z_eq, z_in, nI_toInt, z_cl, z_m1, z_sg, z_255, Int32.reduceToInt] <;> omega) | (simp only [Int32.le_iff_toInt_le, Int32.lt_iff_toInt_lt, z_eq, z_in, z_add, z_sub, z_mul, z_neg, z_nI, z_cl, z_sg, z_255, z_lit, Int32.reduceToInt] <;> omega))) ⟨s, g2.1, ?_⟩
    have ek : k = P.length := by omega
    subst ek
    refine ⟨kb, nb, 0, 0, by omega, by omega, f1 y post kb nb y1 y2 y4 ⟨?_, ?_, y5⟩ hk hn (fun z z1 z2 z3 z4 => p z z1 z2 (FC.trans hs y3 (z3.c hs)) z4)⟩
    · rw [g1 65 (by decide)]; exact hP
    · rw [g1 65 (by decide)]; decide +kernel
