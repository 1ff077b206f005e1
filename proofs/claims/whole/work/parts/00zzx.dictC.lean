/-! the DICTIONARY of the class: slots by hashes -/
def kk (ty : Nat) (P : List PV) (g : Nat) : PV := kv ty (pvd P g)
def dI (ty : Nat) (P : List PV) : Nat → List Nat
  | 0 => []
  | k + 1 => if kk ty P k ∈ (dI ty P k).map (kk ty P) then dI ty P k else dI ty P k ++ [k]
def ixF (a : PV) : List PV → Nat
  | [] => 0
  | b :: l => if b = a then 0 else ixF a l + 1
theorem ixF_is {a : PV} : ∀ {l : List PV} {d : Nat}, d < l.length → l.getD d (0, []) = a → (∀ e, e < d → l.getD e (0, []) ≠ a) → ixF a l = d := by
  intro l
  induction l with
  | nil => intro d h; exact absurd h (Nat.not_lt_zero _)
  | cons b l ih =>
    intro d h1 h2 h3
    show (if b = a then 0 else ixF a l + 1) = d
    cases d with
    | zero => exact if_pos h2
    | succ d =>
      have h0 : b ≠ a := h3 0 (by omega)
      rw [if_neg h0, ih (by rw [List.length_cons] at h1; omega) h2 (fun e he => h3 (e + 1) (by omega))]
def hsF : List Int32 → Int32 → Int32
  | [], h => h
  | b :: t, h => hsF t (h * 31 + b.toInt8.toInt32)
def hs1 (h : Int32) : Int32 := (h * (-1640531535)) ^^^ (((h * (-1640531535)) : Int32).toUInt32 >>> ((15 : Int32).toUInt32 &&& Int32.toUInt32 31)).toInt32
def hsV (ty : Nat) (p : PV) : Int32 := hs1 (if ty = 3 then hsF p.2 7 else ((p.1 ^^^ ((p.1 : Int64).toUInt64 >>> ((32 : Int32).toInt64.toUInt64 &&& Int64.toUInt64 63)).toInt64) : Int64).toInt32)
theorem hsV_kv {ty : Nat} {p q : PV} (h : kv ty p = kv ty q) : hsV ty p = hsV ty q := by
  unfold kv at h
  unfold hsV
  by_cases c : ty = 3
  · rw [if_pos c, if_pos c] at h
    rw [if_pos c, if_pos c, (Prod.mk.inj h).2]
  · rw [if_neg c, if_neg c] at h
    rw [if_neg c, if_neg c, (Prod.mk.inj h).1]
theorem drop_g {t : List Int32} {k : Nat} (h : k < t.length) : t.drop k = t.getD k 0 :: t.drop (k + 1) := by
  rw [List.drop_eq_getElem_cons h, List.getD_eq_getElem?_getD, List.getElem?_eq_getElem h]
  rfl
theorem c_hashOf {post : Int32 → St → Prop} {x : St} {r ty : Nat} {v : Int64} {p : PV} (hty : ty < 4) (hv : RfC x r ty v p) (k : post (hsV ty p) x) : wp_V_hashOf post (nI ty) r v x := by
  unfold wp_V_hashOf
  by_cases c3 : ty = 3
  · subst c3
    refine bn_t rfl ?_
    obtain ⟨g1, g2, a, rfl, g4, g5⟩ := hv.2 rfl
    have l1 := g1.1
    rw [ref_pl l1 (show a < 2 ^ 31 by omega), ref_sz l1 (show a < 2 ^ 31 by omega)]
    refine nm_e ?_
    rw [nI_add]
    refine nm_e ?_
    refine lp_V_hashOf_31 (fun _ b1 _ b3 _ b5 b6 y => r = b1 ∧ nI (a + p.2.length) = b5 ∧ x = y ∧ ∃ i, nI (a + i) = b6 ∧ i ≤ p.2.length ∧ hsF (p.2.drop i) b3 = hsF p.2 7) (fun _ _ _ _ _ _ b6 _ => a + p.2.length - b6.toNatClampNeg) ?_ _ _ _ _ _ _ _ _ ⟨rfl, rfl, rfl, 0, rfl, by omega, rfl⟩
    rintro Q b0 b1 b2 b3 b4 b5 b6 y ⟨rfl, rfl, rfl, i, rfl, i1, i2⟩ ih
    unfold j_V_hashOf_31
    by_cases c : i < p.2.length
    · refine br_f (by (first | omega | (simp (disch := omega) only [Int32.le_iff_toInt_le, Int32.lt_iff_toInt_lt, z_eq, z_in, nI_toInt, z_cl, z_m1, z_sg, z_255, Int32.reduceToInt] <;> omega) | (simp only [Int32.le_iff_toInt_le, Int32.lt_iff_toInt_lt, z_eq, z_in, z_add, z_sub, z_mul, z_neg, z_nI, z_cl, z_sg, z_255, z_lit, Int32.reduceToInt] <;> omega))) ⟨vp_in_nI (by omega) (by omega), nm_e ?_⟩
      rw [rA_nI (by omega), g5 i c, nI_1]
      refine ih _ _ _ _ _ _ _ _ ⟨rfl, rfl, rfl, i + 1, rfl, by omega, ?_⟩ (by rw [nI_clamp (by omega), nI_clamp (by omega)]; omega)
      rw [← i2, drop_g c]
      rfl
    · refine br_t (by (first | omega | (simp (disch := omega) only [Int32.le_iff_toInt_le, Int32.lt_iff_toInt_lt, z_eq, z_in, nI_toInt, z_cl, z_m1, z_sg, z_255, Int32.reduceToInt] <;> omega) | (simp only [Int32.le_iff_toInt_le, Int32.lt_iff_toInt_lt, z_eq, z_in, z_add, z_sub, z_mul, z_neg, z_nI, z_cl, z_sg, z_255, z_lit, Int32.reduceToInt] <;> omega))) ?_
      rw [show p.2.drop i = [] from List.drop_eq_nil_of_le (by omega)] at i2
      have i2 : b3 = hsF p.2 7 := i2
      unfold j_V_hashOf_68
      rw [i2]
      exact nm_e k
  · refine bn_f (by (first | omega | (simp (disch := omega) only [Int32.le_iff_toInt_le, Int32.lt_iff_toInt_lt, z_eq, z_in, nI_toInt, z_cl, z_m1, z_sg, z_255, Int32.reduceToInt] <;> omega) | (simp only [Int32.le_iff_toInt_le, Int32.lt_iff_toInt_lt, z_eq, z_in, z_add, z_sub, z_mul, z_neg, z_nI, z_cl, z_sg, z_255, z_lit, Int32.reduceToInt] <;> omega))) ?_
    rw [hv.1 c3]
    refine nm_e ?_
    unfold j_V_hashOf_68
    refine nm_e ?_
    unfold hsV at k
    rw [if_neg c3] at k
    exact k
def hh (ty : Nat) (p : PV) : Nat := uI (hsV ty p &&& 2047)
theorem hh_lt (ty : Nat) (p : PV) : hh ty p < 2048 := by
  unfold hh uI
  rw [Int32.toBitVec_and, BitVec.toNat_and]
  exact Nat.and_lt_two_pow _ (by decide : (2047 : Int32).toBitVec.toNat < 2 ^ 11)
theorem nx_slot : ∀ u, u < 2048 → (nI u + 1) &&& 2047 = nI ((u + 1) % 2048) := by decide +kernel
theorem php : ∀ m n (f : Nat → Nat), (∀ u, u < m → ∃ d, d < n ∧ f d = u) → m ≤ n := by
  intro m
  induction m with
  | zero => intro n f _; exact Nat.zero_le _
  | succ m ih =>
    intro n f h
    obtain ⟨d0, h1, h2⟩ := h m (by omega)
    have := ih (n - 1) (fun d => if d = d0 then f (n - 1) else f d) (fun u hu => by
      obtain ⟨d, e1, e2⟩ := h u (by omega)
      have hd : d ≠ d0 := fun z => by rw [z, h2] at e2; omega
      by_cases c : d = n - 1
      · refine ⟨d0, by omega, ?_⟩
        show (if d0 = d0 then f (n - 1) else f d0) = u
        rw [if_pos rfl, ← c, e2]
      · refine ⟨d, by omega, ?_⟩
        show (if d = d0 then f (n - 1) else f d) = u
        rw [if_neg hd, e2])
    omega
/-- the slots hold the values of G -/
def HT (y : St) (ty : Nat) (V : Nat → Int64) (P : List PV) (G : List Nat) : Prop := (∀ d, d < G.length → G.getD d 0 < P.length ∧ fL y 67 d = V (G.getD d 0)) ∧ (∀ d, d < G.length → ∃ u, u < 2048 ∧ fA y 69 d = nI u ∧ fA y 68 u = nI (d + 1) ∧ ∃ j, u = (hh ty (pvd P (G.getD d 0)) + j) % 2048 ∧ ∀ i, i < j → fA y 68 ((hh ty (pvd P (G.getD d 0)) + i) % 2048) ≠ 0) ∧ (∀ u, u < 2048 → fA y 68 u = 0 ∨ ∃ d, d < G.length ∧ fA y 68 u = nI (d + 1) ∧ fA y 69 d = nI u) ∧ (∀ d e, d < G.length → e < G.length → kk ty P (G.getD d 0) = kk ty P (G.getD e 0) → d = e) ∧ G.length ≤ 1000
theorem c_slotOf {post : Int32 → St → Prop} {y : St} {s ty : Nat} {V : Nat → Int64} {P : List PV} {G : List Nat} {v : Int64} {k : Nat} (hty : ty < 4) (hP : okP ty P) (hg : PgC y s ty V P) (h : HT y ty V P G) (hk : k < P.length) (hv : RfC y 42 ty v (pvd P k))
    (p1 : ∀ d u, d < G.length → u < 2048 → kk ty P (G.getD d 0) = kk ty P k → fA y 68 u = nI (d + 1) → post (nI u) y)
    (p2 : ∀ u j, u < 2048 → (∀ d, d < G.length → kk ty P (G.getD d 0) ≠ kk ty P k) → fA y 68 u = 0 → u = (hh ty (pvd P k) + j) % 2048 → (∀ i, i < j → fA y 68 ((hh ty (pvd P k) + i) % 2048) ≠ 0) → post (nI u) y) : wp_Wrt_slotOf post 45 (nI ty) v y := by
  obtain ⟨h1, h2, h3, h4, h5⟩ := h
  obtain ⟨g1, g2, g3, g4⟩ := hg
  have e68 : fN y (stC 45 18) = 2048 := (g1 68 (by decide)).trans (by decide +kernel)
  have e67 : fN y (stC 45 17) = 1000 := (g1 67 (by decide)).trans (by decide +kernel)
  have okv : ∀ g, g < P.length → okVv ty (pvd P g) := fun g hg c => (hP.2 g hg).2 c
  unfold wp_Wrt_slotOf
  refine ⟨36, g2.2.1, ?_⟩
  refine c_hashOf hty hv (nm_r (e' := nI (hh ty (pvd P k))) (by unfold hh; rw [nI_uI]) ?_)
  have hlt := hh_lt ty (pvd P k)
  refine lp_Wrt_slotOf_25 (fun a0 a1 a2 a3 a4 a5 z => 45 = a0 ∧ nI ty = a1 ∧ v = a2 ∧ 42 = a3 ∧ y = z ∧ ∃ j, nI j = a5 ∧ j ≤ 2048 ∧ nI ((hh ty (pvd P k) + j) % 2048) = a4 ∧ ∀ i, i < j → ∃ d, d < G.length ∧ fA y 68 ((hh ty (pvd P k) + i) % 2048) = nI (d + 1) ∧ kk ty P (G.getD d 0) ≠ kk ty P k) (fun _ _ _ _ _ a5 _ => 2048 - a5.toNatClampNeg) ?_ _ _ _ _ _ _ _ ⟨rfl, rfl, rfl, rfl, rfl, 0, rfl, by omega, by rw [Nat.add_zero, Nat.mod_eq_of_lt hlt], fun i hi => absurd hi (Nat.not_lt_zero _)⟩
  rintro Q a0 a1 a2 a3 a4 a5 z ⟨rfl, rfl, rfl, rfl, rfl, j, rfl, j1, rfl, j2⟩ ih
  have d1 : ∀ d, d < G.length → nI (d + 1) ≠ 0 := fun d hd z => by
    have := congrArg uI z
    rw [uI_nI (by omega), show uI 0 = 0 from rfl] at this
    omega
  have hu : (hh ty (pvd P k) + j) % 2048 < 2048 := Nat.mod_lt _ (by decide)
  have hj : j < 2048 := by
    by_cases c : j < 2048
    · exact c
    · have := php 2048 G.length (fun d => (fA y 69 d).toNatClampNeg) (fun u hu => by
        have hi : (u + 2048 - hh ty (pvd P k)) % 2048 < 2048 := Nat.mod_lt _ (by decide)
        obtain ⟨d, w1, w2, w3⟩ := j2 ((u + 2048 - hh ty (pvd P k)) % 2048) (by omega)
        rw [show (hh ty (pvd P k) + (u + 2048 - hh ty (pvd P k)) % 2048) % 2048 = u by omega] at w2
        rcases h3 u hu with w | ⟨e, w4, w5, w6⟩
        · rw [w] at w2; exact absurd w2.symm (d1 d w1)
        · refine ⟨e, w4, ?_⟩
          show (fA y 69 e).toNatClampNeg = u
          rw [w6, nI_clamp (by omega)])
      omega
  unfold j_Wrt_slotOf_25
  refine br_f (by (first | omega | (simp (disch := omega) only [Int32.le_iff_toInt_le, Int32.lt_iff_toInt_lt, z_eq, z_in, nI_toInt, z_cl, z_m1, z_sg, z_255, Int32.reduceToInt] <;> omega) | (simp only [Int32.le_iff_toInt_le, Int32.lt_iff_toInt_lt, z_eq, z_in, z_add, z_sub, z_mul, z_neg, z_nI, z_cl, z_sg, z_255, z_lit, Int32.reduceToInt] <;> omega))) ⟨vp_in_nI (by omega) (by omega), ?_⟩
  have er : rA y (stC 45 18) (nI ((hh ty (pvd P k) + j) % 2048)) = fA y 68 ((hh ty (pvd P k) + j) % 2048) := rA_nI (by omega)
  rw [er]
  rcases h3 _ hu with w | ⟨d, w1, w2, w3⟩
  · refine br_t w ?_
    unfold j_Wrt_slotOf_88
    refine p2 _ j hu (fun d hd e => ?_) w rfl (fun i hi => ?_)
    · obtain ⟨u, q1, q2, q3, jd, q4, q5⟩ := h2 d hd
      have eh : hh ty (pvd P (G.getD d 0)) = hh ty (pvd P k) := by unfold hh; rw [hsV_kv (show kv ty (pvd P (G.getD d 0)) = kv ty (pvd P k) from e)]
      rw [eh] at q4 q5
      rcases Nat.lt_trichotomy jd j with z | z | z
      · obtain ⟨d', r1, r2, r3⟩ := j2 jd z
        rw [← q4, q3] at r2
        have : d = d' := by
          have := congrArg uI r2
          rw [uI_nI (by omega), uI_nI (by omega)] at this
          omega
        subst this
        exact r3 e
      · subst z
        rw [← q4, q3] at w
        exact d1 d hd w
      · exact q5 j z w
    · obtain ⟨d', r1, r2, r3⟩ := j2 i hi
      rw [r2]
      exact d1 d' r1
  · refine br_f (by rw [w2]; exact d1 d w1) ⟨vp_in_nI (by omega) (by omega), ?_⟩
    rw [w2, show nI (d + 1) - 1 = nI d from by rw [show (1 : Int32) = nI 1 from rfl, nI_sub (by omega)]; rfl]
    refine ⟨vp_in_nI (by omega) (by omega), ?_⟩
    have el : rL y (stC 45 17) (nI d) = V (G.getD d 0) := by rw [rL_nI (by omega)]; exact (h1 d w1).2
    rw [el]
    refine c_compare hty (g2.2.2.2 _ (h1 d w1).1) hv ?_
    by_cases e : kk ty P (G.getD d 0) = kk ty P k
    · exact bn_t ((cmpV_0 (okv _ (h1 d w1).1) (okv k hk)).mpr e) (p1 d _ w1 hu e w2)
    · refine bn_f (fun z => e ((cmpV_0 (okv _ (h1 d w1).1) (okv k hk)).mp z)) (nm_r (nx_slot _ hu) ?_)
      rw [nI_1]
      refine ih _ _ _ _ _ _ _ ⟨rfl, rfl, rfl, rfl, rfl, j + 1, rfl, by omega, ?_, fun i hi => ?_⟩ (by rw [nI_clamp (by omega), nI_clamp (by omega)]; omega)
      · congr 1; omega
      · by_cases z : i = j
        · rw [z]; exact ⟨d, w1, w2, e⟩
        · exact j2 i (by omega)
