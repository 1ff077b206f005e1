/-! values of a page in the class: what a long stands for; PLAIN -/
abbrev PV : Type := Int64 × List Int32
def tB (t : List Int32) : List Nat := t.map uI
def okT (t : List Int32) : Prop := t.length ≤ 255 ∧ ∀ j, j < t.length → 0 ≤ t.getD j 0 ∧ t.getD j 0 ≤ 255
/-- a long stands for a number, or for bytes of a row -/
def RfC (x : St) (r ty : Nat) (v : Int64) (p : PV) : Prop := (ty ≠ 3 → v = p.1) ∧ (ty = 3 → okT p.2 ∧ fN x r < 2 ^ 30 ∧ ∃ a, v = lN (256 * a + p.2.length) ∧ a + p.2.length ≤ fN x r ∧ ∀ j, j < p.2.length → fA x r (a + j) = (p.2.getD j 0).toInt8.toInt32)
def txB (t : List Int32) : List Nat := varB t.length ++ tB t
def oneB (ty : Nat) (p : PV) : List Nat := if ty = 3 then txB p.2 else fixB (uL p.1) (if ty = 1 then 4 else 8)
def toldB (ty : Nat) (p : PV) : List Nat := if ty = 3 then txB p.2 else if ty = 0 then [uL p.1 % 256] else varB (uL (zg p.1))
def plF (ty : Nat) : List PV → List Nat
  | [] => []
  | p :: P => oneB ty p ++ plF ty P
theorem tB_len (t : List Int32) : (tB t).length = t.length := List.length_map _
theorem tB_get {t : List Int32} {i : Nat} (h : i < t.length) : (tB t).getD i 0 = uI (t.getD i 0) := by
  unfold tB
  rw [List.getD_eq_getElem?_getD, List.getElem?_map, List.getD_eq_getElem?_getD, List.getElem?_eq_getElem h]
  rfl
theorem uI_by {b : Int32} (h : 0 ≤ b ∧ b ≤ 255) : uI b < 256 := by
  obtain ⟨n, hn, rfl⟩ := wb_of32 b
  rw [uI_nI hn]
  have h1 := h.1
  have h2 := h.2
  rw [Int32.le_iff_toInt_le] at h1 h2
  unfold nI at h1 h2
  rw [Int32.toInt_ofNat'] at h1 h2
  simp [Int.bmod_def] at h1 h2
  omega
theorem tB_by {t : List Int32} (h : okT t) : ∀ b, b ∈ tB t → b < 256 := fun b hb => by
  obtain ⟨i, hi, rfl⟩ := List.getElem_of_mem hb
  rw [tB_len] at hi
  have := tB_get hi
  rw [List.getD_eq_getElem?_getD, List.getElem?_eq_getElem (by rw [tB_len]; exact hi)] at this
  rw [show (tB t)[i] = uI (t.getD i 0) from this]
  exact uI_by (h.2 i hi)
theorem tB_sg {t : List Int32} {i : Nat} (h : i < t.length) : (nI ((tB t).getD i 0)).toInt8.toInt32 = (t.getD i 0).toInt8.toInt32 := by rw [tB_get h, nI_uI]
theorem ref_sz {a m : Nat} (hm : m ≤ 255) (ha : a < 2 ^ 31) : (((lN (256 * a + m)) &&& 255) : Int64).toInt32 = nI m := by
  rw [show (255 : Int64) = lN (2 ^ 8 - 1) from rfl, wb_mask (k := 8) (by omega) (by decide), lN_i]
  congr 1
  omega
theorem ref_pl {a m : Nat} (hm : m ≤ 255) (ha : a < 2 ^ 31) : (((lN (256 * a + m)) >>> ((8 : Int32).toInt64 &&& 63)) : Int64).toInt32 = nI a := by
  have e : (lN (256 * a + m)) >>> ((8 : Int32).toInt64 &&& 63) = lN a := by
    apply Int64.toBitVec_inj.mp
    rw [Int64.toBitVec_shiftRight]
    show (lN (256 * a + m)).toBitVec.sshiftRight (((8 : Int32).toInt64 &&& 63).toBitVec.smod 64).toNat = _
    rw [show (((8 : Int32).toInt64 &&& 63).toBitVec.smod 64).toNat = 8 by decide]
    have hz : (lN (256 * a + m)).toBitVec.toNat = 256 * a + m := wb_tn (by omega)
    have hms : (lN (256 * a + m)).toBitVec.msb = false := by rw [BitVec.msb_eq_false_iff_two_mul_lt, hz]; omega
    apply BitVec.eq_of_toNat_eq
    rw [BitVec.sshiftRight_eq_of_msb_false hms, BitVec.toNat_ushiftRight, hz, Nat.shiftRight_eq_div_pow, show (lN a).toBitVec.toNat = a from wb_tn (by omega)]
    omega
  rw [e, lN_i]
theorem RfC.k {r s ty : Nat} {v : Int64} {p : PV} (h : stRow r) (hs : SnkId s) : ∀ x y, SkS x → FK s x y → RfC x r ty v p → RfC y r ty v p := fun x y hK f z => by
  have e := h.keep hs hK f
  unfold RfC
  rw [e.1, e.2]
  exact z
theorem stRow_ne {x : St} {s r : Nat} (hs : SnkId s) (hK : SkS x) (h : stRow r) : fR x s 0 ≠ some r := by
  obtain ⟨-, q, a1, a2, -⟩ := hK s hs
  intro z
  rw [z] at a1
  rw [← Option.some.inj a1] at a2
  exact h.2.1 a2
theorem App.pre {κ : Nat → Nat} {s : Nat} {B C : List Nat} {Pre Pre2 : St → Prop} {W : (St → Prop) → Nat → Nat → St → Prop} (h : App κ s B C Pre W) (e : ∀ x, SkS x → Pre2 x → Pre x) : App κ s B C Pre2 W := by
  obtain ⟨κ1, m1, f1⟩ := h
  exact ⟨κ1, m1, fun x post kb nb hK hC h hp hk hn p => f1 x post kb nb hK hC h (e x hK hp) hk hn p⟩
theorem App.ex {κ : Nat → Nat} {s : Nat} {B C : List Nat} {Pre : St → Prop} {W : (St → Prop) → Nat → Nat → St → Prop} (hκ : ∀ t, SnkId t → κ t ≤ roomOf t) {Z : Prop} (hZ : ∀ x, Pre x → Z) (h : Z → App κ s B C Pre W) : App κ s B C Pre W := by
  refine App.of hκ (fun x _ _ _ hp => h (hZ x hp))
theorem k_putText {κ : Nat → Nat} {s r : Nat} {v : Int64} {p : PV} {B : List Nat} (hs : SnkId s) (hr : stRow r) (hκ : ∀ t, SnkId t → κ t ≤ roomOf t) : App κ s B (txB p.2) (fun x => RfC x r 3 v p) (fun post kb nb x => wp_Snk_putText post s r v kb nb x) := by
  refine App.ex (Z := p.2.length ≤ 255 ∧ ∃ a, a < 2 ^ 30 ∧ v = lN (256 * a + p.2.length)) hκ (fun x hx => ?_) ?_
  · obtain ⟨h1, h2, a, h3, h4, h5⟩ := hx.2 rfl
    exact ⟨h1.1, a, by omega, h3⟩
  · rintro ⟨hl, a, ha, rfl⟩
    have st := RfC.k (ty := 3) (v := lN (256 * a + p.2.length)) (p := p) hr hs
    have e1 := ref_sz hl (show a < 2 ^ 31 by omega)
    have e2 := ref_pl hl (show a < 2 ^ 31 by omega)
    have h2 : ∀ κ1, (∀ t, SnkId t → κ1 t ≤ roomOf t) → App κ1 s (B ++ varB (uL (nI p.2.length).toInt64)) (tB p.2) (fun x => RfC x r 3 (lN (256 * a + p.2.length)) p) (fun post kb nb x => ∃ k12 n13 k14 n15 : Nat, k12 + k14 = kb ∧ n13 + n15 = nb ∧ wp_Snk_putAll (fun (x16 : St) => post x16) s r (nI a) (nI p.2.length) k12 n13 x) := fun κ1 h1 => by
      have q := (k_putAll (κ := κ1) (B := B ++ varB (uL (nI p.2.length).toInt64)) (C := tB p.2) (r := r) (a := a) hs h1 (by rw [tB_len]; omega) ha).one
      rw [tB_len] at q
      refine q.pre (fun x hK hx => ⟨?_, Or.inl hr.1, stRow_ne hs hK hr⟩)
      obtain ⟨g1, g2, a', g3, g4, g5⟩ := hx.2 rfl
      have ea : a' = a := by
        have := congrArg uL g3
        rw [uL_lN (by omega), uL_lN (by omega)] at this
        omega
      subst ea
      exact ⟨by rw [tB_len]; exact g4, by omega, tB_by g1, fun i hi => by rw [tB_len] at hi; rw [g5 i hi, tB_sg hi]⟩
    have q := App.seq hs st (k_varint (v := (nI p.2.length).toInt64) hs st hκ) h2
    rw [nI_l (by omega), uL_lN (by omega)] at q
    refine q.cg (fun post kb nb x _ _ _ z => ?_)
    unfold wp_Snk_putText wp_V_sizeOf wp_V_placeOf
    simp only [e1, e2]
    rw [nI_l (by omega)]
    exact z
theorem k_putTold {κ : Nat → Nat} {s r ty : Nat} {v : Int64} {p : PV} {B : List Nat} (hs : SnkId s) (hr : stRow r) (hty : ty < 4) (hκ : ∀ t, SnkId t → κ t ≤ roomOf t) : App κ s B (toldB ty p) (fun x => RfC x r ty v p) (fun post kb nb x => wp_Snk_putTold post s (nI ty) r v kb nb x) := by
  have st := RfC.k (ty := ty) (v := v) (p := p) hr hs
  by_cases c3 : ty = 3
  · subst c3
    refine (k_putText hs hr hκ).one.cg (fun post kb nb x _ _ _ z => ?_)
    unfold wp_Snk_putTold
    exact bn_t rfl z
  · refine App.ex (Z := v = p.1) hκ (fun x hx => hx.1 c3) ?_
    rintro rfl
    have e3 : ¬ (nI ty = 3) := by (first | omega | (simp (disch := omega) only [Int32.le_iff_toInt_le, Int32.lt_iff_toInt_lt, z_eq, z_in, nI_toInt, z_cl, z_m1, z_sg, z_255, Int32.reduceToInt] <;> omega) | (simp only [Int32.le_iff_toInt_le, Int32.lt_iff_toInt_lt, z_eq, z_in, z_add, z_sub, z_mul, z_neg, z_nI, z_cl, z_sg, z_255, z_lit, Int32.reduceToInt] <;> omega))
    by_cases c0 : ty = 0
    · subst c0
      have q := (k_put (κ := κ) (s := s) (B := B) (b := uL p.1 % 256) (w := p.1.toInt32) (Pre := fun x => RfC x r 0 p.1 p) hs hκ (Nat.mod_lt _ (by decide)) (by
        have := lN_i (uL p.1)
        rw [lN_uL] at this
        rw [this, nI_sg])).one
      have e : toldB 0 p = [uL p.1 % 256] := rfl
      rw [e]
      refine q.cg (fun post kb nb x _ _ _ z => ?_)
      unfold wp_Snk_putTold
      exact bn_f e3 (bn_t rfl z)
    · have q := (k_varint (κ := κ) (B := B) (v := zg p.1) hs st hκ).one
      have e : toldB ty p = varB (uL (zg p.1)) := by unfold toldB; rw [if_neg c3, if_neg c0]
      rw [e]
      refine q.cg (fun post kb nb x _ _ _ z => ?_)
      unfold wp_Snk_putTold
      exact bn_f e3 (bn_f (by (first | omega | (simp (disch := omega) only [Int32.le_iff_toInt_le, Int32.lt_iff_toInt_lt, z_eq, z_in, nI_toInt, z_cl, z_m1, z_sg, z_255, Int32.reduceToInt] <;> omega) | (simp only [Int32.le_iff_toInt_le, Int32.lt_iff_toInt_lt, z_eq, z_in, z_add, z_sub, z_mul, z_neg, z_nI, z_cl, z_sg, z_255, z_lit, Int32.reduceToInt] <;> omega))) (c_zigzag z))
/-- values of a row of longs -/
def RfR (x : St) (rr r ty : Nat) (V : Nat → Int64) (P : List PV) : Prop := RwL x rr V P.length ∧ ∀ k, k < P.length → RfC x r ty (V k) (P.getD k (0, []))
def pv0 : PV := (0, [])
theorem drop_get {P : List PV} {k : Nat} (h : k < P.length) : P.drop k = P.getD k (0, []) :: P.drop (k + 1) := by
  rw [List.drop_eq_getElem_cons h, List.getD_eq_getElem?_getD, List.getElem?_eq_getElem h]
  rfl
theorem wl_plain_s (post : St → Prop) (f : Nat) : wl_Wrt_putPlain_77 post (f + 1) = j_Wrt_putPlain_77 post (wl_Wrt_putPlain_77 post f) := rfl
/-- what the Writer's page rests on stays while a sink grows -/
def PrP (x : St) (s rr ty : Nat) (V : Nat → Int64) (P : List PV) : Prop := fR x 45 4 = some s ∧ fR x 45 6 = some 36 ∧ RfR x rr 42 ty V P
theorem st_of {r : Nat} (h : r < 152) (h1 : ¬ (r = 3 ∨ r = 6 ∨ r = 9 ∨ r = 48 ∨ r = 51 ∨ r = 54 ∨ r = 57 ∨ r = 60 ∨ r = 149)) (h2 : r ≠ stC 1 4 ∧ r ≠ stC 4 4 ∧ r ≠ stC 7 4 ∧ r ≠ stC 46 4 ∧ r ≠ stC 49 4 ∧ r ≠ stC 52 4 ∧ r ≠ stC 55 4 ∧ r ≠ stC 58 4 ∧ r ≠ stC 147 4) : stRow r := by
  refine ⟨h, by unfold skRow; omega, ?_⟩
  obtain ⟨a1, a2, a3, a4, a5, a6, a7, a8, a9⟩ := h2
  intro s hs
  rcases hs with rfl | rfl | rfl | rfl | rfl | rfl | rfl | rfl | rfl <;> assumption
theorem st42 : stRow 42 := st_of (by decide) (by decide) (by decide +kernel)
theorem snk45 {s : Nat} (hs : SnkId s) : s ≠ 45 ∧ s ≠ 36 := by
  have : s = 1 ∨ s = 4 ∨ s = 7 ∨ s = 46 ∨ s = 49 ∨ s = 52 ∨ s = 55 ∨ s = 58 ∨ s = 147 := hs
  omega
theorem PrP.k {s rr ty : Nat} {V : Nat → Int64} {P : List PV} (hs : SnkId s) (h : rr < 152) : ∀ x y, SkS x → FK s x y → PrP x s rr ty V P → PrP y s rr ty V P := fun x y hK f z => by
  obtain ⟨z1, z2, z3, z4⟩ := z
  have h45 := (snk45 hs).1
  exact ⟨(f.2.2.1 45 4 id (fun c => h45 c.1.symm)).trans z1, (f.2.2.1 45 6 id (fun c => h45 c.1.symm)).trans z2, RwL.k h x y hK f z3, fun k hk => RfC.k st42 hs x y hK f (z4 k hk)⟩
/-- PLAIN, but for bools -/
theorem k_plainL {s rr ty : Nat} {V : Nat → Int64} {P : List PV} (hs : SnkId s) (hr : rr < 152) (hty : ty < 4) (h0 : ty ≠ 0) (hP : P.length ≤ 2000) : ∀ d k f κ B, k + d = P.length → d < f → (∀ t, SnkId t → κ t ≤ roomOf t) → App κ s B (plF ty (P.drop k)) (fun x => PrP x s rr ty V P) (fun post kb nb x => wl_Wrt_putPlain_77 post f 45 (nI ty) rr (nI P.length) (nI k) kb nb x) := by
  have st := PrP.k (ty := ty) (V := V) (P := P) hs hr
  intro d
  induction d with
  | zero =>
    intro k f κ B hk hf hκ
    obtain ⟨g, rfl⟩ : ∃ g, f = g + 1 := ⟨f - 1, by omega⟩
    rw [show P.drop k = [] from List.drop_eq_nil_of_le (by omega)]
    refine (App.nil hκ).cg (fun post kb nb x _ _ _ z => ?_)
    rw [wl_plain_s]
    unfold j_Wrt_putPlain_77
    exact br_t (by (first | omega | (simp (disch := omega) only [Int32.le_iff_toInt_le, Int32.lt_iff_toInt_lt, z_eq, z_in, nI_toInt, z_cl, z_m1, z_sg, z_255, Int32.reduceToInt] <;> omega) | (simp only [Int32.le_iff_toInt_le, Int32.lt_iff_toInt_lt, z_eq, z_in, z_add, z_sub, z_mul, z_neg, z_nI, z_cl, z_sg, z_255, z_lit, Int32.reduceToInt] <;> omega))) z
  | succ d ih =>
    intro k f κ B hk hf hκ
    obtain ⟨g, rfl⟩ : ∃ g, f = g + 1 := ⟨f - 1, by omega⟩
    have hkl : k < P.length := by omega
    rw [drop_get hkl]
    have nx : ∀ κ1, (∀ t, SnkId t → κ1 t ≤ roomOf t) → App κ1 s (B ++ oneB ty (P.getD k (0, []))) (plF ty (P.drop (k + 1))) (fun x => PrP x s rr ty V P) (fun post kb nb x => wl_Wrt_putPlain_77 post g 45 (nI ty) rr (nI P.length) (nI (k + 1)) kb nb x) := fun κ1 h1 => ih (k + 1) g κ1 _ (by omega) (by omega) h1
    by_cases c3 : ty = 3
    · subst c3
      have q1 : App κ s B (oneB 3 (P.getD k (0, []))) (fun x => PrP x s rr 3 V P) (fun post kb nb x => wp_Snk_putText post s 42 (V k) kb nb x) := (k_putText (v := V k) hs st42 hκ).pre (fun x _ hx => hx.2.2.2 k hkl)
      refine (App.seq hs st q1 nx).cg (fun post kb nb x _ _ hx z => ?_)
      rw [wl_plain_s]
      unfold j_Wrt_putPlain_77 j_Wrt_putPlain_131
      obtain ⟨x1, x2, ⟨a1, a2, a3⟩, x4⟩ := hx
      refine br_f (by (first | omega | (simp (disch := omega) only [Int32.le_iff_toInt_le, Int32.lt_iff_toInt_lt, z_eq, z_in, nI_toInt, z_cl, z_m1, z_sg, z_255, Int32.reduceToInt] <;> omega) | (simp only [Int32.le_iff_toInt_le, Int32.lt_iff_toInt_lt, z_eq, z_in, z_add, z_sub, z_mul, z_neg, z_nI, z_cl, z_sg, z_255, z_lit, Int32.reduceToInt] <;> omega))) (bn_t rfl ⟨s, x1, 36, x2, vp_in_nI (by omega) a2, ?_⟩)
      rw [rL_nI (by omega), a3 k hkl, nI_1]
      exact z
    · have q1 : App κ s B (oneB ty (P.getD k (0, []))) (fun x => PrP x s rr ty V P) (fun post kb nb x => wp_Snk_putFixed post s (V k) (nI (if ty = 1 then 4 else 8)) kb nb x) := by
        refine App.ex (Z := V k = (P.getD k (0, [])).1) hκ (fun x hx => (hx.2.2.2 k hkl).1 c3) (fun e => ?_)
        have e1 : oneB ty (P.getD k (0, [])) = fixB (uL (V k)) (if ty = 1 then 4 else 8) := by unfold oneB; rw [if_neg c3, e]
        rw [e1]
        exact k_fixed hs st hκ (by split <;> decide)
      refine (App.seq hs st q1 nx).cg (fun post kb nb x _ _ hx z => ?_)
      rw [wl_plain_s]
      unfold j_Wrt_putPlain_77 j_Wrt_putPlain_128 j_Wrt_putPlain_131
      obtain ⟨x1, x2, ⟨a1, a2, a3⟩, x4⟩ := hx
      refine br_f (by (first | omega | (simp (disch := omega) only [Int32.le_iff_toInt_le, Int32.lt_iff_toInt_lt, z_eq, z_in, nI_toInt, z_cl, z_m1, z_sg, z_255, Int32.reduceToInt] <;> omega) | (simp only [Int32.le_iff_toInt_le, Int32.lt_iff_toInt_lt, z_eq, z_in, z_add, z_sub, z_mul, z_neg, z_nI, z_cl, z_sg, z_255, z_lit, Int32.reduceToInt] <;> omega))) (bn_f (by (first | omega | (simp (disch := omega) only [Int32.le_iff_toInt_le, Int32.lt_iff_toInt_lt, z_eq, z_in, nI_toInt, z_cl, z_m1, z_sg, z_255, Int32.reduceToInt] <;> omega) | (simp only [Int32.le_iff_toInt_le, Int32.lt_iff_toInt_lt, z_eq, z_in, z_add, z_sub, z_mul, z_neg, z_nI, z_cl, z_sg, z_255, z_lit, Int32.reduceToInt] <;> omega))) ⟨s, x1, vp_in_nI (by omega) a2, ?_⟩)
      rw [rL_nI (by omega), a3 k hkl, nI_1]
      by_cases c1 : ty = 1
      · subst c1
        exact bn_t rfl z
      · rw [if_neg c1] at z
        exact bn_f (by (first | omega | (simp (disch := omega) only [Int32.le_iff_toInt_le, Int32.lt_iff_toInt_lt, z_eq, z_in, nI_toInt, z_cl, z_m1, z_sg, z_255, Int32.reduceToInt] <;> omega) | (simp only [Int32.le_iff_toInt_le, Int32.lt_iff_toInt_lt, z_eq, z_in, z_add, z_sub, z_mul, z_neg, z_nI, z_cl, z_sg, z_255, z_lit, Int32.reduceToInt] <;> omega))) z
/-! bools: eight to a byte -/
def boF (V : Nat → Int64) (n a : Nat) : Nat → Nat
  | 0 => 0
  | i + 1 => if a + i < n then boF V n a i + uL (V (a + i)) * 2 ^ i else boF V n a i
def boB (V : Nat → Int64) (n : Nat) : Nat → Nat → List Nat
  | 0, _ => []
  | d + 1, a => if n ≤ a then [] else boF V n a 8 :: boB V n d (a + 8)
def okB (V : Nat → Int64) (n : Nat) : Prop := ∀ i, i < n → V i = 0 ∨ V i = 1
theorem boF_lt {V : Nat → Int64} {n a : Nat} (h : okB V n) : ∀ i, boF V n a i < 2 ^ i := by
  intro i
  induction i with
  | zero => exact (by decide : 0 < 2 ^ 0)
  | succ i ih =>
    show (if a + i < n then boF V n a i + uL (V (a + i)) * 2 ^ i else boF V n a i) < 2 ^ (i + 1)
    rw [Nat.pow_succ]
    split
    · rename_i c
      rcases h (a + i) c with z | z
      · rw [z, show uL 0 = 0 from rfl]; omega
      · rw [z, show uL 1 = 1 from rfl]; omega
    · omega
theorem or_bit : ∀ i, i < 8 → ∀ m, m < 128 → m < 2 ^ i → nI m ||| ((1 : Int32) <<< (nI i &&& 31)) = nI (m + 2 ^ i) := by decide +kernel
theorem or_bit0 (i : Nat) (m : Int32) (hi : i < 8) : m ||| ((0 : Int32) <<< (nI i &&& 31)) = m := by
  have : ∀ i, i < 8 → ((0 : Int32) <<< (nI i &&& 31)) = 0 := by decide +kernel
  rw [this i hi, Int32.or_zero]
theorem boF_or {V : Nat → Int64} {n a i : Nat} (h : okB V n) (hi : i < 8) (c : a + i < n) : nI (boF V n a i) ||| ((V (a + i)).toInt32 <<< (nI i &&& 31)) = nI (boF V n a (i + 1)) := by
  have e : boF V n a (i + 1) = boF V n a i + uL (V (a + i)) * 2 ^ i := by show (if a + i < n then _ else _) = _; rw [if_pos c]
  rw [e]
  rcases h (a + i) c with z | z
  · rw [z, show ((0 : Int64).toInt32) = 0 from rfl, or_bit0 _ _ hi, show uL 0 = 0 from rfl, Nat.zero_mul, Nat.add_zero]
  · have hb := boF_lt (a := a) h i
    have := Nat.pow_le_pow_right (show 0 < 2 by decide) (show i ≤ 7 by omega)
    rw [z, show ((1 : Int64).toInt32) = 1 from rfl, or_bit i hi _ (by omega) hb, show uL 1 = 1 from rfl, Nat.one_mul]
theorem boF_out {V : Nat → Int64} {n a i : Nat} (c : n ≤ a + i) : ∀ j, boF V n a (i + j) = boF V n a i := by
  intro j
  induction j with
  | zero => rfl
  | succ j ih =>
    show (if a + (i + j) < n then _ else boF V n a (i + j)) = _
    rw [if_neg (by omega), ih]
