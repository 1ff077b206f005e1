/-! bools of the class: eight to a byte, and RUNS -/
theorem wl_plain7 (post : St → Prop) (f : Nat) : wl_Wrt_putPlain_7 post (f + 1) = j_Wrt_putPlain_7 post (wl_Wrt_putPlain_7 post f) := rfl
theorem wl_plain20 (post : St → Prop) (rec7 : Nat → Int32 → Nat → Int32 → Int32 → Nat → Nat → St → Prop) (f : Nat) : wl_Wrt_putPlain_20 post rec7 (f + 1) = j_Wrt_putPlain_20 post rec7 (wl_Wrt_putPlain_20 post rec7 f) := rfl
theorem c_eight {post : St → Prop} {rec7 : Nat → Int32 → Nat → Int32 → Int32 → Nat → Nat → St → Prop} {rr n a kb nb : Nat} {V : Nat → Int64} {x : St} (hn : n ≤ 2000) (ha : a < n) (h : okB V n) (hR : RwL x rr V n) (p : ∀ l6, j_Wrt_putPlain_58 post rec7 45 0 rr (nI n) (nI a) (nI (boF V n a 8)) l6 kb nb x) : ∀ d i f, i + d = 8 → d < f → wl_Wrt_putPlain_20 post rec7 f 45 0 rr (nI n) (nI a) (nI (boF V n a i)) (nI (a + i)) kb nb x := by
  intro d
  induction d with
  | zero =>
    intro i f hi hf
    obtain ⟨g, rfl⟩ : ∃ g, f = g + 1 := ⟨f - 1, by omega⟩
    rw [wl_plain20]
    unfold j_Wrt_putPlain_20
    rw [show i = 8 by omega]
    refine br_t ?_ (p _)
    rw [show (8 : Int32) = nI 8 from rfl, nI_add]
    exact Int32.le_refl _
  | succ d ih =>
    intro i f hi hf
    obtain ⟨g, rfl⟩ : ∃ g, f = g + 1 := ⟨f - 1, by omega⟩
    obtain ⟨r1, r2, r3⟩ := hR
    rw [wl_plain20]
    unfold j_Wrt_putPlain_20
    refine br_f ?_ ?_
    · rw [show (8 : Int32) = nI 8 from rfl, nI_add]
      (first | omega | (simp (disch := omega) only [Int32.le_iff_toInt_le, Int32.lt_iff_toInt_lt, z_eq, z_in, nI_toInt, z_cl, z_m1, z_sg, z_255, Int32.reduceToInt] <;> omega) | (simp only [Int32.le_iff_toInt_le, Int32.lt_iff_toInt_lt, z_eq, z_in, z_add, z_sub, z_mul, z_neg, z_nI, z_cl, z_sg, z_255, z_lit, Int32.reduceToInt] <;> omega))
    · by_cases c : a + i < n
      · refine br_f (by (first | omega | (simp (disch := omega) only [Int32.le_iff_toInt_le, Int32.lt_iff_toInt_lt, z_eq, z_in, nI_toInt, z_cl, z_m1, z_sg, z_255, Int32.reduceToInt] <;> omega) | (simp only [Int32.le_iff_toInt_le, Int32.lt_iff_toInt_lt, z_eq, z_in, z_add, z_sub, z_mul, z_neg, z_nI, z_cl, z_sg, z_255, z_lit, Int32.reduceToInt] <;> omega))) ⟨vp_in_nI (by omega) r2, nm_r (e' := nI (boF V n a (i + 1))) ?_ ?_⟩
        · rw [rL_nI (by omega), r3 _ c, nI_sub (by omega), Nat.add_sub_cancel_left, boF_or h (by omega) c]
        · rw [nI_1]
          exact ih (i + 1) g (by omega) (by omega)
      · refine br_t (by (first | omega | (simp (disch := omega) only [Int32.le_iff_toInt_le, Int32.lt_iff_toInt_lt, z_eq, z_in, nI_toInt, z_cl, z_m1, z_sg, z_255, Int32.reduceToInt] <;> omega) | (simp only [Int32.le_iff_toInt_le, Int32.lt_iff_toInt_lt, z_eq, z_in, z_add, z_sub, z_mul, z_neg, z_nI, z_cl, z_sg, z_255, z_lit, Int32.reduceToInt] <;> omega))) ?_
        have := boF_out (V := V) (n := n) (a := a) (i := i) (by omega) (8 - i)
        rw [show i + (8 - i) = 8 by omega] at this
        rw [← this]
        exact p _
theorem k_boolL {s rr : Nat} {V : Nat → Int64} {P : List PV} (hs : SnkId s) (hr : rr < 152) (hP : P.length ≤ 2000) (hV : okB V P.length) : ∀ d a f κ B, P.length ≤ a + 8 * d → a ≤ P.length + 8 → d < f → (∀ t, SnkId t → κ t ≤ roomOf t) → App κ s B (boB V P.length d a) (fun x => PrP x s rr 0 V P) (fun post kb nb x => wl_Wrt_putPlain_7 post f 45 0 rr (nI P.length) (nI a) kb nb x) := by
  have st := PrP.k (ty := 0) (V := V) (P := P) hs hr
  intro d
  induction d with
  | zero =>
    intro a f κ B hk hk2 hf hκ
    obtain ⟨g, rfl⟩ : ∃ g, f = g + 1 := ⟨f - 1, by omega⟩
    refine (App.nil hκ).cg (fun post kb nb x _ _ _ z => ?_)
    rw [wl_plain7]
    unfold j_Wrt_putPlain_7
    exact br_t (by (first | omega | (simp (disch := omega) only [Int32.le_iff_toInt_le, Int32.lt_iff_toInt_lt, z_eq, z_in, nI_toInt, z_cl, z_m1, z_sg, z_255, Int32.reduceToInt] <;> omega) | (simp only [Int32.le_iff_toInt_le, Int32.lt_iff_toInt_lt, z_eq, z_in, z_add, z_sub, z_mul, z_neg, z_nI, z_cl, z_sg, z_255, z_lit, Int32.reduceToInt] <;> omega))) z
  | succ d ih =>
    intro a f κ B hk hk2 hf hκ
    obtain ⟨g, rfl⟩ : ∃ g, f = g + 1 := ⟨f - 1, by omega⟩
    by_cases c : P.length ≤ a
    · rw [show boB V P.length (d + 1) a = [] by show (if _ then _ else _) = _; rw [if_pos c]]
      refine (App.nil hκ).cg (fun post kb nb x _ _ _ z => ?_)
      rw [wl_plain7]
      unfold j_Wrt_putPlain_7
      exact br_t (by (first | omega | (simp (disch := omega) only [Int32.le_iff_toInt_le, Int32.lt_iff_toInt_lt, z_eq, z_in, nI_toInt, z_cl, z_m1, z_sg, z_255, Int32.reduceToInt] <;> omega) | (simp only [Int32.le_iff_toInt_le, Int32.lt_iff_toInt_lt, z_eq, z_in, z_add, z_sub, z_mul, z_neg, z_nI, z_cl, z_sg, z_255, z_lit, Int32.reduceToInt] <;> omega))) z
    · rw [show boB V P.length (d + 1) a = [boF V P.length a 8] ++ boB V P.length d (a + 8) by show (if _ then _ else _) = _; rw [if_neg c]; rfl]
      have hb : boF V P.length a 8 < 256 := boF_lt hV 8
      refine (App.seq hs st (k_put (b := boF V P.length a 8) (w := nI (boF V P.length a 8)) hs hκ hb rfl) (fun κ1 h1 => ih (a + 8) g κ1 _ (by omega) (by omega) (by omega) h1)).cg (fun post kb nb x _ _ hx z => ?_)
      rw [wl_plain7]
      unfold j_Wrt_putPlain_7
      refine br_f (by (first | omega | (simp (disch := omega) only [Int32.le_iff_toInt_le, Int32.lt_iff_toInt_lt, z_eq, z_in, nI_toInt, z_cl, z_m1, z_sg, z_255, Int32.reduceToInt] <;> omega) | (simp only [Int32.le_iff_toInt_le, Int32.lt_iff_toInt_lt, z_eq, z_in, z_add, z_sub, z_mul, z_neg, z_nI, z_cl, z_sg, z_255, z_lit, Int32.reduceToInt] <;> omega))) ⟨9, ?_⟩
      refine c_eight hP (by omega) hV hx.2.2.1 (fun l6 => ?_) 8 0 9 rfl (by decide)
      unfold j_Wrt_putPlain_58
      refine ⟨s, hx.1, ?_⟩
      rw [show (8 : Int32) = nI 8 from rfl, nI_add]
      exact z
/-- PLAIN of all types -/
def plainB (ty : Nat) (P : List PV) : List Nat := if ty = 0 then boB (fun k => (P.getD k (0, [])).1) P.length P.length 0 else plF ty P
theorem boF_cg {V U : Nat → Int64} {n a : Nat} (h : ∀ i, i < n → V i = U i) : ∀ i, boF V n a i = boF U n a i := by
  intro i
  induction i with
  | zero => rfl
  | succ i ih =>
    show (if a + i < n then boF V n a i + uL (V (a + i)) * 2 ^ i else boF V n a i) = (if a + i < n then boF U n a i + uL (U (a + i)) * 2 ^ i else boF U n a i)
    rw [ih]
    split
    · rename_i c; rw [h _ c]
    · rfl
theorem boB_cg {V U : Nat → Int64} {n : Nat} (h : ∀ i, i < n → V i = U i) : ∀ d a, boB V n d a = boB U n d a := by
  intro d
  induction d with
  | zero => intro a; rfl
  | succ d ih =>
    intro a
    show (if n ≤ a then [] else boF V n a 8 :: boB V n d (a + 8)) = (if n ≤ a then [] else boF U n a 8 :: boB U n d (a + 8))
    rw [boF_cg h, ih]
def okP (ty : Nat) (P : List PV) : Prop := P.length ≤ 2000 ∧ ∀ k, k < P.length → (ty = 0 → (P.getD k (0, [])).1 = 0 ∨ (P.getD k (0, [])).1 = 1) ∧ (ty = 3 → okT (P.getD k (0, [])).2)
theorem k_plain {κ : Nat → Nat} {s rr ty : Nat} {V : Nat → Int64} {P : List PV} {B : List Nat} (hs : SnkId s) (hr : rr < 152) (hty : ty < 4) (hP : okP ty P) (hκ : ∀ t, SnkId t → κ t ≤ roomOf t) : App κ s B (plainB ty P) (fun x => PrP x s rr ty V P) (fun post kb nb x => wp_Wrt_putPlain post 45 (nI ty) rr (nI P.length) kb nb x) := by
  by_cases c : ty = 0
  · subst c
    refine App.ex (Z := ∀ k, k < P.length → V k = (P.getD k (0, [])).1) hκ (fun x hx k hk => (hx.2.2.2 k hk).1 (by decide)) (fun e => ?_)
    have hV : okB V P.length := fun i hi => by rw [e i hi]; exact (hP.2 i hi).1 rfl
    have e2 : plainB 0 P = boB V P.length P.length 0 := by
      unfold plainB
      rw [if_pos rfl]
      exact boB_cg (fun i hi => (e i hi).symm) _ _
    rw [e2]
    refine (k_boolL hs hr hP.1 hV P.length 0 (P.length + 1) κ B (by omega) (by omega) (by omega) hκ).cg (fun post kb nb x _ _ hx z => ?_)
    unfold wp_Wrt_putPlain
    exact bn_t rfl ⟨P.length + 1, z⟩
  · have e2 : plainB ty P = plF ty (P.drop 0) := by unfold plainB; rw [if_neg c]; rfl
    rw [e2]
    refine (k_plainL hs hr hty c hP.1 P.length 0 (P.length + 1) κ B (by omega) (by omega) hκ).cg (fun post kb nb x _ _ hx z => ?_)
    unfold wp_Wrt_putPlain
    exact bn_f (by (first | omega | (simp (disch := omega) only [Int32.le_iff_toInt_le, Int32.lt_iff_toInt_lt, z_eq, z_in, nI_toInt, z_cl, z_m1, z_sg, z_255, Int32.reduceToInt] <;> omega) | (simp only [Int32.le_iff_toInt_le, Int32.lt_iff_toInt_lt, z_eq, z_in, z_add, z_sub, z_mul, z_neg, z_nI, z_cl, z_sg, z_255, z_lit, Int32.reduceToInt] <;> omega))) ⟨P.length + 1, z⟩
