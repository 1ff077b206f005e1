/-! numbers as bytes -/
def varF : Nat → Nat → List Nat
  | 0, _ => []
  | d + 1, v => if v < 128 then [v] else (v % 128 + 128) :: varF d (v / 128)
def varB (v : Nat) : List Nat := varF 10 v
def fixF (v : Nat) : Nat → Nat → List Nat
  | 0, _ => []
  | d + 1, k => (v / 2 ^ (8 * k) % 256) :: fixF v d (k + 1)
def fixB (v n : Nat) : List Nat := fixF v n 0
def uL (v : Int64) : Nat := v.toBitVec.toNat
theorem uL_lt (v : Int64) : uL v < 2 ^ 64 := v.toBitVec.isLt
theorem uL_lN {n : Nat} (h : n < 2 ^ 64) : uL (lN n) = n := wb_tn h
theorem lN_uL (v : Int64) : lN (uL v) = v := wb_inj (by unfold uL; rw [wb_tb]; simp)
theorem nI_255 (m : Nat) : nI m &&& 255 = nI (m % 256) := by (first | omega | (simp (disch := omega) only [Int32.le_iff_toInt_le, Int32.lt_iff_toInt_lt, z_eq, z_in, nI_toInt, z_cl, z_m1, z_sg, z_255, Int32.reduceToInt] <;> omega) | (simp only [Int32.le_iff_toInt_le, Int32.lt_iff_toInt_lt, z_eq, z_in, z_add, z_sub, z_mul, z_neg, z_nI, z_cl, z_sg, z_255, z_lit, Int32.reduceToInt] <;> omega))
theorem nI_sg (m : Nat) : (nI m).toInt8.toInt32 = (nI (m % 256)).toInt8.toInt32 := by (first | omega | (simp (disch := omega) only [Int32.le_iff_toInt_le, Int32.lt_iff_toInt_lt, z_eq, z_in, nI_toInt, z_cl, z_m1, z_sg, z_255, Int32.reduceToInt] <;> omega) | (simp only [Int32.le_iff_toInt_le, Int32.lt_iff_toInt_lt, z_eq, z_in, z_add, z_sub, z_mul, z_neg, z_nI, z_cl, z_sg, z_255, z_lit, Int32.reduceToInt] <;> omega))
theorem varF_by : ∀ d v b, b ∈ varF d v → b < 256 := by
  intro d
  induction d with
  | zero => intro v b h; exact absurd h (by show ¬ b ∈ []; simp)
  | succ d ih =>
    intro v b h
    simp only [varF] at h
    split at h
    · rw [List.mem_singleton] at h; omega
    · rcases List.mem_cons.mp h with z | z
      · omega
      · exact ih _ _ z
theorem varF_len : ∀ d v, (varF d v).length ≤ d := by
  intro d
  induction d with
  | zero => intro v; exact Nat.le_refl _
  | succ d ih =>
    intro v
    simp only [varF]
    split
    · rw [List.length_singleton]; omega
    · rw [List.length_cons]; have := ih (v / 128); omega
theorem varF_pos {d v : Nat} : 0 < (varF (d + 1) v).length := by
  simp only [varF]
  split
  · rw [List.length_singleton]; omega
  · rw [List.length_cons]; omega
theorem varB_len (v : Nat) : (varB v).length ≤ 10 := varF_len _ _
theorem varB_by {v b : Nat} (h : b ∈ varB v) : b < 256 := varF_by _ _ _ h
theorem fixF_by {v : Nat} : ∀ d k b, b ∈ fixF v d k → b < 256 := by
  intro d
  induction d with
  | zero => intro k b h; exact absurd h (by show ¬ b ∈ []; simp)
  | succ d ih =>
    intro k b h
    rcases List.mem_cons.mp h with z | z
    · rw [z]; exact Nat.mod_lt _ (by decide)
    · exact ih _ _ z
theorem fixF_len {v : Nat} : ∀ d k, (fixF v d k).length = d := by
  intro d
  induction d with
  | zero => intro k; rfl
  | succ d ih => intro k; show (fixF v d (k + 1)).length + 1 = _; rw [ih]
theorem sh7 {v : Nat} (h : v < 2 ^ 64) : ((lN v).toUInt64 >>> ((7 : Int32).toInt64.toUInt64 &&& Int64.toUInt64 63)).toInt64 = lN (v / 128) := wb_shr (k := 7) h (by decide)
theorem an7 {v : Nat} (h : v < 2 ^ 64) : lN v &&& 127 = lN (v % 128) := wb_mask (k := 7) h (by decide)
theorem lN0 {v : Nat} (h : v < 2 ^ 64) : lN v = 0 ↔ v = 0 := by
  constructor
  · intro z
    have := uL_lN h
    rw [z] at this
    exact this.symm
  · intro z; rw [z]; rfl
/-! the class: appending -/
theorem App.seq {κ : Nat → Nat} {s : Nat} {B C D : List Nat} {Pre : St → Prop} {W1 W2 : (St → Prop) → Nat → Nat → St → Prop} (hs : SnkId s) (st : ∀ x y, SkS x → FK s x y → Pre x → Pre y) (h1 : App κ s B C Pre W1) (h2 : ∀ κ1, (∀ t, SnkId t → κ1 t ≤ roomOf t) → App κ1 s (B ++ C) D Pre W2) :
    App κ s B (C ++ D) Pre (fun post kb nb x => ∃ k1 n1 k2 n2 : Nat, k1 + k2 = kb ∧ n1 + n2 = nb ∧ W1 (fun y => W2 post k2 n2 y) k1 n1 x) := by
  obtain ⟨κ1, m1, f1⟩ := h1
  obtain ⟨κ2, m2, f2⟩ := h2 κ1 (fun t ht => (m1 t ht).2)
  refine ⟨κ2, m1.trans m2, fun x post kb nb hK hC h hp hk hn p => ?_⟩
  refine bseq m1 m2 hk hn (fun k1 n1 k2 n2 b1 b2 b3 b4 => f1 x _ k1 n1 hK hC h hp b1 b2 (fun y y1 y2 y3 y4 => f2 y post k2 n2 y1 y2 y4 (st x y hK y3 hp) b3 b4 (fun z z1 z2 z3 z4 => p z z1 z2 (FK.trans hs y3 z3) ?_)))
  rw [← List.append_assoc]
  exact z4
theorem App.one {κ : Nat → Nat} {s : Nat} {B C : List Nat} {Pre : St → Prop} {W1 : (St → Prop) → Nat → Nat → St → Prop} (h1 : App κ s B C Pre W1) :
    App κ s B C Pre (fun post kb nb x => ∃ k1 n1 k2 n2 : Nat, k1 + k2 = kb ∧ n1 + n2 = nb ∧ W1 (fun y => post y) k1 n1 x) := by
  obtain ⟨κ1, m1, f1⟩ := h1
  exact ⟨κ1, m1, fun x post kb nb hK hC h hp hk hn p => ⟨kb, nb, 0, 0, by omega, by omega, f1 x _ kb nb hK hC h hp hk hn p⟩⟩
theorem App.nil {κ : Nat → Nat} {s : Nat} {B : List Nat} {Pre : St → Prop} (hκ : ∀ t, SnkId t → κ t ≤ roomOf t) : App κ s B [] Pre (fun post _ _ x => post x) :=
  ⟨κ, Kle.refl hκ, fun x post kb nb hK hC h _ _ _ p => p x hK hC (FX.refl x) (by rw [List.append_nil]; exact h)⟩
theorem App.cg {κ : Nat → Nat} {s : Nat} {B C : List Nat} {Pre : St → Prop} {W1 W2 : (St → Prop) → Nat → Nat → St → Prop} (h : App κ s B C Pre W1) (e : ∀ post kb nb x, SkS x → Snk x s B → Pre x → W1 post kb nb x → W2 post kb nb x) : App κ s B C Pre W2 := by
  obtain ⟨κ1, m1, f1⟩ := h
  exact ⟨κ1, m1, fun x post kb nb hK hC h hp hk hn p => e _ _ _ _ hK h hp (f1 x post kb nb hK hC h hp hk hn p)⟩
theorem k_varintL {s : Nat} {l1 : Int64} {Pre : St → Prop} (hs : SnkId s) (st : ∀ x y, SkS x → FK s x y → Pre x → Pre y) : ∀ d k v κ B, k + d = 10 → 1 ≤ d → v < 128 ^ d → v < 2 ^ 64 → (∀ t, SnkId t → κ t ≤ roomOf t) → App κ s B (varF d v) Pre (fun post kb nb x => wl_Snk_putVarint_5 post d s l1 (lN v) (nI k) kb nb x) := by
  intro d
  induction d with
  | zero => intro k v κ B _ h; omega
  | succ d ih =>
    intro k v κ B hk _ hv hv2 hκ
    have fin : ∀ (b : Nat), b < 256 → ∀ (y : St) (q : Nat), SkS y → HL y s B → fR y s 0 = some q → B.length + 1 ≤ fN y q → ∀ (K : St → Prop), (∀ z, SkS z → (∀ κ, Caps y κ → Caps z κ) → FrK s y z → HL z s (B ++ [b]) → K z) → ∀ w : Int32, w.toInt8.toInt32 = (nI b).toInt8.toInt32 → (vp_in (fI y s 1) (fN y q) ∧ ∀ x1 : St, x1 = setA y q (fI y s 1) (vp_nar .byte w.toInt8.toInt32) → (∀ x2 : St, x2 = setI x1 s 1 ((fI x1 s 1) + 1) → K x2)) := by
      intro b hb y q y1 y2 y3 y4 K hK w hw
      have e1 := y2.2.1
      have hq2 : fN y q < 2 ^ 31 := by
        obtain ⟨-, q', a1, -, -, a4, -⟩ := y1 s hs
        rw [y3] at a1
        rw [← Option.some.inj a1] at a4
        have := (room_bd s).2
        omega
      obtain ⟨o1, o2, o3⟩ := HL.put (w := vp_nar .byte w.toInt8.toInt32) y1 hs y2 y3 y4 hb (by
        show w.toInt8.toInt32.toInt8.toInt32 = _
        rw [hw]
        (first | omega | (simp (disch := omega) only [Int32.le_iff_toInt_le, Int32.lt_iff_toInt_lt, z_eq, z_in, nI_toInt, z_cl, z_m1, z_sg, z_255, Int32.reduceToInt] <;> omega) | (simp only [Int32.le_iff_toInt_le, Int32.lt_iff_toInt_lt, z_eq, z_in, z_add, z_sub, z_mul, z_neg, z_nI, z_cl, z_sg, z_255, z_lit, Int32.reduceToInt] <;> omega)))
      rw [e1]
      exact ⟨vp_in_nI (by omega) hq2, nm_e (nm_r (e' := setI (setA y q (nI B.length) (vp_nar .byte w.toInt8.toInt32)) s 1 (nI (B.length + 1))) (by rw [show fI (setA y q (nI B.length) (vp_nar .byte w.toInt8.toInt32)) s 1 = fI y s 1 from rfl, e1, nI_1]) (hK _ o1 (fun κ h => h) o2 o3))⟩
    have hk10 : ¬ (10 : Int32) ≤ nI k := by (first | omega | (simp (disch := omega) only [Int32.le_iff_toInt_le, Int32.lt_iff_toInt_lt, z_eq, z_in, nI_toInt, z_cl, z_m1, z_sg, z_255, Int32.reduceToInt] <;> omega) | (simp only [Int32.le_iff_toInt_le, Int32.lt_iff_toInt_lt, z_eq, z_in, z_add, z_sub, z_mul, z_neg, z_nI, z_cl, z_sg, z_255, z_lit, Int32.reduceToInt] <;> omega))
    have e7 : ∀ w : Int32, ((lN (v % 128) ||| w.toInt64).toInt32).toInt8.toInt32 = ((lN (v % 128) ||| w.toInt64).toInt32).toInt8.toInt32 := fun _ => rfl
    refine App.of hκ (fun x0 K0 c0 s0 p0 => ?_)
    by_cases c : B.length + 1 ≤ roomOf s
    · by_cases cv : v < 128
      · have ev : varF (d + 1) v = [v] := by simp only [varF]; rw [if_pos cv]
        rw [ev]
        refine ⟨roomK κ s B 1, roomK_le hs K0 c0 s0.sn, fun x post kb nb hK hC h hp hk' hn p => ?_⟩
        show j_Snk_putVarint_5 post _ s l1 (lN v) (nI k) kb nb x
        unfold j_Snk_putVarint_5
        refine br_f hk10 ⟨kb, nb, 0, 0, by omega, by omega, ?_⟩
        refine k_hasRoom (m := 1) hs hK hC h.sn (by decide) hk' hn (fun _ y q y1 y2 y3 y4 y5 y6 => br_f (by decide) ?_) (fun c' => by omega)
        rw [sh7 hv2, Nat.div_eq_of_lt cv]
        refine bn_t ((lg_cmp_eq _ _).mpr rfl) ?_
        unfold j_Snk_putVarint_34 j_Snk_putVarint_61
        refine ⟨q, y5, br_f (by decide) (fin v (by omega) y q y1 y4 y5 y6 _ (fun z z1 z2 z3 z4 => br_f (by decide) (p z z1 (z2 _ y2) (FK.trans hs y3.x z3.x) ⟨?_, ?_, Or.inl ⟨?_, z4⟩⟩)) _ ?_)⟩
        · exact (frK5 z3 (by decide)).trans ((frK5 y3 (by decide)).trans h.1)
        · exact (frK5 z3 (by decide)).trans ((frK5 y3 (by decide)).trans h.2.1)
        · rw [List.length_append]; exact c
        · rw [an7 hv2, Nat.mod_eq_of_lt cv, show (0 : Int32).toInt64 = 0 from rfl, Int64.or_zero, lN_i]
      · have ev : varF (d + 1) v = [v % 128 + 128] ++ varF d (v / 128) := by simp only [varF]; rw [if_neg cv]; rfl
        have hd : 1 ≤ d := by
          rcases Nat.eq_zero_or_pos d with z | z
          · rw [z] at hv; omega
          · exact z
        rw [ev]
        obtain ⟨κ2, m2, f2⟩ := ih (k + 1) (v / 128) (roomK κ s B 1) (B ++ [v % 128 + 128]) (by omega) hd (by rw [Nat.pow_succ] at hv; exact Nat.div_lt_of_lt_mul (by rw [Nat.mul_comm]; exact hv)) (by omega) (fun t ht => (roomK_le hs K0 c0 s0.sn t ht).2)
        refine ⟨κ2, (roomK_le hs K0 c0 s0.sn).trans m2, fun x post kb nb hK hC h hp hk' hn p => ?_⟩
        show j_Snk_putVarint_5 post _ s l1 (lN v) (nI k) kb nb x
        unfold j_Snk_putVarint_5
        refine br_f hk10 (bseq (roomK_le hs K0 c0 s0.sn) m2 hk' hn (fun k1 n1 k2 n2 b1 b2 b3 b4 => ?_))
        refine k_hasRoom (m := 1) hs hK hC h.sn (by decide) b1 b2 (fun _ y q y1 y2 y3 y4 y5 y6 => br_f (by decide) ?_) (fun c' => by omega)
        rw [sh7 hv2]
        refine bn_f (fun z => ?_) ?_
        · have z := (lN0 (by omega)).mp ((lg_cmp_eq _ _).mp z)
          omega
        unfold j_Snk_putVarint_34 j_Snk_putVarint_61
        refine ⟨q, y5, br_t rfl (fin (v % 128 + 128) (by omega) y q y1 y4 y5 y6 _ (fun z z1 z2 z3 z4 => br_t rfl (nm_r (e' := lN (v / 128)) (sh7 hv2) ?_)) _ ?_)⟩
        · rw [nI_1]
          have fz := FK.trans hs y3.x z3.x
          refine f2 z post k2 n2 z1 (z2 _ y2) ⟨?_, ?_, Or.inl ⟨?_, z4⟩⟩ (st x z hK fz hp) b3 b4 (fun w w1 w2 w3 w4 => p w w1 w2 (FK.trans hs fz w3) (by rw [← List.append_assoc]; exact w4))
          · exact (frK5 z3 (by decide)).trans ((frK5 y3 (by decide)).trans h.1)
          · exact (frK5 z3 (by decide)).trans ((frK5 y3 (by decide)).trans h.2.1)
          · rw [List.length_append]; exact c
        · rw [an7 hv2, show (128 : Int32).toInt64 = lN (1 * 128) from rfl, g_or' (k := 7) (by decide) (Nat.mod_lt _ (by decide)) (by omega), lN_i]
    · refine ⟨roomK κ s B 1, roomK_le hs K0 c0 s0.sn, fun x post kb nb hK hC h hp hk' hn p => ?_⟩
      show j_Snk_putVarint_5 post _ s l1 (lN v) (nI k) kb nb x
      unfold j_Snk_putVarint_5
      refine br_f hk10 ⟨kb, nb, 0, 0, by omega, by omega, ?_⟩
      refine k_hasRoom (m := 1) hs hK hC h.sn (by decide) hk' hn (fun c' => by omega) (fun _ y y1 y2 y3 y4 y5 => br_t rfl (p y y1 y2 y3.x ⟨(frK5 y3 (by decide)).trans h.1, (frK5 y3 (by decide)).trans h.2.1, Or.inr ⟨?_, y4, y5⟩⟩))
      rw [List.length_append]
      have := @varF_pos d v
      omega
theorem k_varint {κ : Nat → Nat} {s : Nat} {B : List Nat} {v : Int64} {Pre : St → Prop} (hs : SnkId s) (st : ∀ x y, SkS x → FK s x y → Pre x → Pre y) (hκ : ∀ t, SnkId t → κ t ≤ roomOf t) : App κ s B (varB (uL v)) Pre (fun post kb nb x => wp_Snk_putVarint post s v kb nb x) := by
  have h := k_varintL (l1 := v) hs st 10 0 (uL v) κ B rfl (by decide) (Nat.lt_of_lt_of_le (uL_lt v) (by decide)) (uL_lt v) hκ
  rw [lN_uL] at h
  exact h.cg (fun post kb nb x _ _ _ z => ⟨10, z⟩)
theorem k_fixL {s n : Nat} {v : Nat} {Pre : St → Prop} (hs : SnkId s) (st : ∀ x y, SkS x → FK s x y → Pre x → Pre y) (hn : n ≤ 8) (hv : v < 2 ^ 64) : ∀ d k κ B, k + d = n → (∀ t, SnkId t → κ t ≤ roomOf t) → App κ s B (fixF v d k) Pre (fun post kb nb x => wl_Snk_putFixed_3 post (d + 1) s (lN v) (nI n) (nI k) kb nb x) := by
  intro d
  induction d with
  | zero =>
    intro k κ B hk hκ
    refine (App.nil hκ).cg (fun post kb nb x _ _ _ z => ?_)
    show j_Snk_putFixed_3 post _ s _ _ _ kb nb x
    unfold j_Snk_putFixed_3
    exact br_t (by (first | omega | (simp (disch := omega) only [Int32.le_iff_toInt_le, Int32.lt_iff_toInt_lt, z_eq, z_in, nI_toInt, z_cl, z_m1, z_sg, z_255, Int32.reduceToInt] <;> omega) | (simp only [Int32.le_iff_toInt_le, Int32.lt_iff_toInt_lt, z_eq, z_in, z_add, z_sub, z_mul, z_neg, z_nI, z_cl, z_sg, z_255, z_lit, Int32.reduceToInt] <;> omega))) z
  | succ d ih =>
    intro k κ B hk hκ
    have e8 : (8 : Int32) * nI k = nI (8 * k) := nI_mul 8 k
    have eb : (((lN v).toUInt64 >>> (((8 * nI k) : Int32).toInt64.toUInt64 &&& Int64.toUInt64 63)).toInt64 : Int64).toInt32 = nI (v / 2 ^ (8 * k)) := by rw [e8, wb_shr hv (by omega), lN_i]
    refine (App.seq hs st (k_put (b := v / 2 ^ (8 * k) % 256) (w := (((lN v).toUInt64 >>> (((8 * nI k) : Int32).toInt64.toUInt64 &&& Int64.toUInt64 63)).toInt64 : Int64).toInt32) hs hκ (Nat.mod_lt _ (by decide)) (by rw [eb, nI_sg])) (fun κ1 h1 => ih (k + 1) κ1 _ (by omega) h1)).cg (fun post kb nb x _ _ _ z => ?_)
    show j_Snk_putFixed_3 post _ s _ _ _ kb nb x
    unfold j_Snk_putFixed_3
    rw [nI_1]
    exact br_f (by (first | omega | (simp (disch := omega) only [Int32.le_iff_toInt_le, Int32.lt_iff_toInt_lt, z_eq, z_in, nI_toInt, z_cl, z_m1, z_sg, z_255, Int32.reduceToInt] <;> omega) | (simp only [Int32.le_iff_toInt_le, Int32.lt_iff_toInt_lt, z_eq, z_in, z_add, z_sub, z_mul, z_neg, z_nI, z_cl, z_sg, z_255, z_lit, Int32.reduceToInt] <;> omega))) z
theorem k_fixed {κ : Nat → Nat} {s n : Nat} {B : List Nat} {v : Int64} {Pre : St → Prop} (hs : SnkId s) (st : ∀ x y, SkS x → FK s x y → Pre x → Pre y) (hκ : ∀ t, SnkId t → κ t ≤ roomOf t) (hn : n ≤ 8) : App κ s B (fixB (uL v) n) Pre (fun post kb nb x => wp_Snk_putFixed post s v (nI n) kb nb x) := by
  have h := k_fixL (v := uL v) hs st hn (uL_lt v) n 0 κ B (by omega) hκ
  rw [lN_uL] at h
  exact h.cg (fun post kb nb x _ _ _ z => ⟨n + 1, z⟩)
/-! the model: the sheet -/
def Sh (x : St) (B : List Nat) : Prop := fI x 0 64 = nI B.length ∧ fN x 39 = 60000 ∧ (∀ b, b ∈ B → b < 256) ∧ ∀ i, i < B.length → i < 60000 → fA x 39 i = nI (B.getD i 0)
abbrev FrSh (x y : St) : Prop := Fg (fun o k => o = 0 ∧ k = 64) no2 no2 (fun a => a = 39) no1 x y
theorem getD_app1 {B C : List Nat} {i : Nat} (h : i < B.length) : (B ++ C).getD i 0 = B.getD i 0 := by
  rw [List.getD_eq_getElem?_getD, List.getD_eq_getElem?_getD, List.getElem?_append_left h]
theorem getD_app2 {B C : List Nat} {i : Nat} (h : B.length ≤ i) : (B ++ C).getD i 0 = C.getD (i - B.length) 0 := by
  rw [List.getD_eq_getElem?_getD, List.getD_eq_getElem?_getD, List.getElem?_append_right h]
theorem s_put {post : St → Prop} {x : St} {B : List Nat} {b : Nat} {w : Int32} (h : Sh x B) (hB : B.length < 2 ^ 30) (hb : b < 256) (hw : w &&& 255 = nI b) (p : ∀ y, FrSh x y → Sh y (B ++ [b]) → post y) : wp_Mod_put post w x := by
  obtain ⟨h1, h2, h3, h4⟩ := h
  have hl : (B ++ [b]).length = B.length + 1 := by rw [List.length_append]; rfl
  have hm : ∀ z, z ∈ B ++ [b] → z < 256 := fun z hz => by
    rcases List.mem_append.mp hz with w | w
    · exact h3 z w
    · rw [List.mem_singleton] at w; omega
  unfold wp_Mod_put j_Mod_put_26
  rw [h1, h2]
  by_cases c : B.length < 60000
  · refine br_f (by (first | omega | (simp (disch := omega) only [Int32.le_iff_toInt_le, Int32.lt_iff_toInt_lt, z_eq, z_in, nI_toInt, z_cl, z_m1, z_sg, z_255, Int32.reduceToInt] <;> omega) | (simp only [Int32.le_iff_toInt_le, Int32.lt_iff_toInt_lt, z_eq, z_in, z_add, z_sub, z_mul, z_neg, z_nI, z_cl, z_sg, z_255, z_lit, Int32.reduceToInt] <;> omega))) ⟨vp_in_nI c (by decide), nm_e (nm_r (e' := setI (setA x 39 (nI B.length) (w &&& 255)) 0 64 (nI (B.length + 1))) (by rw [show fI (setA x 39 (nI B.length) (w &&& 255)) 0 64 = fI x 0 64 from rfl, h1, nI_1]) (p _ (Fg.trans (Fg.a rfl) (Fg.i ⟨rfl, rfl⟩)) ⟨by rw [gI_at, hl], h2, hm, fun i hi hi2 => ?_⟩))⟩
    show fA (setA x 39 (nI B.length) (w &&& 255)) 39 i = _
    rw [gA_at, nI_clamp (by omega)]
    by_cases e : i = B.length
    · rw [e, upd_at, hw, getD_app2 (Nat.le_refl _), Nat.sub_self]; rfl
    · rw [upd_ne e, getD_app1 (by omega)]; exact h4 i (by omega) hi2
  · refine br_t (by (first | omega | (simp (disch := omega) only [Int32.le_iff_toInt_le, Int32.lt_iff_toInt_lt, z_eq, z_in, nI_toInt, z_cl, z_m1, z_sg, z_255, Int32.reduceToInt] <;> omega) | (simp only [Int32.le_iff_toInt_le, Int32.lt_iff_toInt_lt, z_eq, z_in, z_add, z_sub, z_mul, z_neg, z_nI, z_cl, z_sg, z_255, z_lit, Int32.reduceToInt] <;> omega))) (nm_r (e' := setI x 0 64 (nI (B.length + 1))) (by rw [nI_1]) (p _ (Fg.i ⟨rfl, rfl⟩) ⟨by rw [gI_at, hl], h2, hm, fun i hi hi2 => ?_⟩))
    show fA x 39 i = _
    rw [getD_app1 (by omega)]; exact h4 i (by omega) hi2
theorem lN_neg {v : Nat} (h : v < 2 ^ 64) : lN v < 0 ↔ 2 ^ 63 ≤ v := by
  rw [Int64.lt_iff_toInt_lt]
  show (lN v).toBitVec.toInt < 0 ↔ _
  rw [BitVec.toInt_eq_toNat_cond, wb_tn h]
  split <;> omega
theorem lN_le127 {v : Nat} (h : v < 2 ^ 64) (h2 : ¬ 2 ^ 63 ≤ v) : lN v ≤ 127 ↔ v ≤ 127 := pk_lLE (b := 127) (by omega) (by decide)
theorem s_varintL {post : St → Prop} {l1 : Int64} : ∀ d v B (x : St), v < 128 ^ d → 1 ≤ d → v < 2 ^ 64 → Sh x B → (∀ y, FrSh x y → Sh y (B ++ varF d v) → post y) → B.length + d < 2 ^ 29 + 100 → wl_Mod_putVarint_2 post d l1 (lN v) x := by
  intro d
  induction d with
  | zero => intro v B x _ h; omega
  | succ d ih =>
    intro v B x hv _ hv2 h p hB2
    show j_Mod_putVarint_2 post _ l1 (lN v) x
    unfold j_Mod_putVarint_2
    by_cases c : v < 128
    · have ev : varF (d + 1) v = [v] := by simp only [varF]; rw [if_pos c]
      rw [ev] at p
      refine br_f (fun z => by have := (lN_neg hv2).mp ((lg_cmp_lt _ _).mp z); omega) (br_t ((lg_cmp_le _ _).mpr ((lN_le127 hv2 (by omega)).mpr (by omega))) (s_put h (by omega) (by omega) ?_ p))
      rw [lN_i, nI_255, Nat.mod_eq_of_lt (by omega)]
    · have ev : varF (d + 1) v = [v % 128 + 128] ++ varF d (v / 128) := by simp only [varF]; rw [if_neg c]; rfl
      rw [ev] at p
      have hd : 1 ≤ d := by
        rcases Nat.eq_zero_or_pos d with z | z
        · rw [z] at hv; omega
        · exact z
      have go : j_Mod_putVarint_16 post (wl_Mod_putVarint_2 post d) l1 (lN v) x := by
        unfold j_Mod_putVarint_16
        refine s_put (b := v % 128 + 128) h (by omega) (by omega) ?_ (fun y y1 y2 => nm_r (e' := lN (v / 128)) (sh7 hv2) (ih _ _ y (by rw [Nat.pow_succ] at hv; exact Nat.div_lt_of_lt_mul (by rw [Nat.mul_comm]; exact hv)) hd (by omega) y2 (fun z z1 z2 => p z (y1.trans z1) (by rw [← List.append_assoc]; exact z2)) ?_))
        · rw [an7 hv2, lN_i, show (128 : Int32) = nI 128 from rfl, nI_add, nI_255, Nat.mod_eq_of_lt (by omega)]
        · rw [List.length_append]; show B.length + 1 + d < _; omega
      by_cases c2 : 2 ^ 63 ≤ v
      · exact br_t ((lg_cmp_lt _ _).mpr ((lN_neg hv2).mpr c2)) go
      · exact br_f (fun z => c2 ((lN_neg hv2).mp ((lg_cmp_lt _ _).mp z))) (br_f (fun z => by have := (lN_le127 hv2 c2).mp ((lg_cmp_le _ _).mp z); omega) go)
theorem s_varint {post : St → Prop} {x : St} {B : List Nat} {v : Int64} (h : Sh x B) (hB : B.length ≤ 2 ^ 29) (p : ∀ y, FrSh x y → Sh y (B ++ varB (uL v)) → post y) : wp_Mod_putVarint post v x := by
  have l := s_varintL (post := post) (l1 := v) 10 (uL v) B x (Nat.lt_of_lt_of_le (uL_lt v) (by decide)) (by decide) (uL_lt v) h p (by omega)
  rw [lN_uL] at l
  exact ⟨10, l⟩
theorem s_fixL {post : St → Prop} {n v : Nat} (hn : n ≤ 8) (hv : v < 2 ^ 64) : ∀ d k B (x : St), k + d = n → Sh x B → B.length + d < 2 ^ 29 + 100 → (∀ y, FrSh x y → Sh y (B ++ fixF v d k) → post y) → wl_Mod_putFixed_3 post (d + 1) (lN v) (nI n) (nI k) x := by
  intro d
  induction d with
  | zero =>
    intro k B x hk h hB p
    show j_Mod_putFixed_3 post _ _ _ _ x
    unfold j_Mod_putFixed_3
    exact br_t (by (first | omega | (simp (disch := omega) only [Int32.le_iff_toInt_le, Int32.lt_iff_toInt_lt, z_eq, z_in, nI_toInt, z_cl, z_m1, z_sg, z_255, Int32.reduceToInt] <;> omega) | (simp only [Int32.le_iff_toInt_le, Int32.lt_iff_toInt_lt, z_eq, z_in, z_add, z_sub, z_mul, z_neg, z_nI, z_cl, z_sg, z_255, z_lit, Int32.reduceToInt] <;> omega))) (p x (Fg.refl x) (by show Sh x (B ++ []); rw [List.append_nil]; exact h))
  | succ d ih =>
    intro k B x hk h hB p
    have e8 : (8 : Int32) * nI k = nI (8 * k) := nI_mul 8 k
    show j_Mod_putFixed_3 post _ _ _ _ x
    unfold j_Mod_putFixed_3
    refine br_f (by (first | omega | (simp (disch := omega) only [Int32.le_iff_toInt_le, Int32.lt_iff_toInt_lt, z_eq, z_in, nI_toInt, z_cl, z_m1, z_sg, z_255, Int32.reduceToInt] <;> omega) | (simp only [Int32.le_iff_toInt_le, Int32.lt_iff_toInt_lt, z_eq, z_in, z_add, z_sub, z_mul, z_neg, z_nI, z_cl, z_sg, z_255, z_lit, Int32.reduceToInt] <;> omega))) (s_put (b := v / 2 ^ (8 * k) % 256) h (by omega) (Nat.mod_lt _ (by decide)) ?_ (fun y y1 y2 => ?_))
    · rw [e8, wb_shr hv (by omega), lN_i, nI_255]
    · rw [nI_1]
      exact ih (k + 1) _ y (by omega) y2 (by rw [List.length_append]; show B.length + 1 + d < _; omega) (fun z z1 z2 => p z (y1.trans z1) (by rw [List.append_assoc] at z2; exact z2))
theorem s_fixed {post : St → Prop} {x : St} {B : List Nat} {v : Int64} {n : Nat} (hn : n ≤ 8) (h : Sh x B) (hB : B.length ≤ 2 ^ 29) (p : ∀ y, FrSh x y → Sh y (B ++ fixB (uL v) n) → post y) : wp_Mod_putFixed post v (nI n) x := by
  have l := s_fixL (post := post) (v := uL v) hn (uL_lt v) n 0 B x (by omega) h (by omega) p
  rw [lN_uL] at l
  exact ⟨n + 1, l⟩
