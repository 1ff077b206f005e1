/-! a Source that reads; RUNS, class -/
def Sr (o : Nat) (x : St) (T : Nat → Nat) (n p st : Nat) : Prop := FiC x T n ∧ fI x o 3 = 0 ∧ fI x o 1 = nI p ∧ fI x o 2 = nI st ∧ p ≤ st ∧ st ≤ n
abbrev FrSL (o r : Nat) (x y : St) : Prop := Fg (fun a k => a = o ∧ (k = 1 ∨ k = 3)) no2 no2 no1 (fun a => a = r) x y
theorem lN_sub1 {a : Nat} (h : 1 ≤ a) : lN a - 1 = lN (a - 1) := by
  obtain ⟨b, rfl⟩ : ∃ b, a = b + 1 := ⟨a - 1, by omega⟩
  rw [← lN_1, Int64.add_sub_cancel, Nat.add_sub_cancel]
theorem getD_rep {α : Type} {v d : α} {i m : Nat} (h : i < m) : (List.replicate m v).getD i d = v := by
  rw [List.getD_eq_getElem?_getD, List.getElem?_replicate, if_pos h]
  rfl
section
variable {x : St} {T : Nat → Nat} {n st p o : Nat}
theorem FrSr.sl {r : Nat} {y : St} (f : FrSr o x y) : FrSL o r x y := f.mono (fun _ _ z => z) (fun _ _ z => z) (fun _ _ z => z) (fun _ z => z) (fun _ z => z.elim)
theorem Sr.f (S : Sr o x T n p st) : FiC x T n := S.1
theorem Sr.t (S : Sr o x T n p st) : ∀ i, T i < 256 := S.1.2.2.1
theorem Sr.h0 (S : Sr o x T n p st) : fI x o 3 = 0 := S.2.1
theorem Sr.hp (S : Sr o x T n p st) : fI x o 1 = nI p := S.2.2.1
theorem Sr.hs (S : Sr o x T n p st) : fI x o 2 = nI st := S.2.2.2.1
theorem Sr.le (S : Sr o x T n p st) : p ≤ st ∧ st ≤ n ∧ n ≤ 40000 := ⟨S.2.2.2.2.1, S.2.2.2.2.2, S.1.2.1⟩
theorem Sr.mv {y : St} {q : Nat} {I J R : Nat → Nat → Prop} {A L : Nat → Prop} (S : Sr o x T n p st) (f : Fg I J R A L x y) (hA : ¬ A 82) (hI : ¬ I o 2) (e1 : fI y o 1 = nI q) (e3 : fI y o 3 = 0) (hq : q ≤ st) : Sr o y T n q st := ⟨f.fic hA S.1, e3, e1, (f.1 o 2 hI).trans S.hs, hq, S.2.2.2.2.2⟩
theorem Sr.cg {y : St} {I J R : Nat → Nat → Prop} {A L : Nat → Prop} (S : Sr o x T n p st) (f : Fg I J R A L x y) (hA : ¬ A 82) (h1 : ¬ I o 1) (h2 : ¬ I o 2) (h3 : ¬ I o 3) : Sr o y T n p st := S.mv f hA h2 ((f.1 o 1 h1).trans S.hp) ((f.1 o 3 h3).trans S.h0) S.le.1
theorem FrSr.mv {y : St} {q : Nat} (f : FrSr o x y) (S : Sr o x T n p st) (e1 : fI y o 1 = nI q) (e3 : fI y o 3 = 0) (hq : q ≤ st) : Sr o y T n q st := S.mv f id (fun z => absurd z.2 (by decide)) e1 e3 hq
theorem r_vrd {post : Int64 → St → Prop} (ho : SrO o) (S : Sr o x T n p st) (pe : ∀ e y, vrd T st p = .error e → FrSr o x y → FlC o y e → post 0 y) (pk : ∀ v q y, vrd T st p = .ok (v, q) → FrSr o x y → Sr o y T n q st → v < 2 ^ 64 → p < q → post (lN v) y) : wp_Src_readVarint post o x :=
  k_vrd ho S.1 S.h0 S.hp S.hs S.le.1 S.le.2.1 pe (fun v q y e f e1 e3 => by
    obtain ⟨v1, v2, v3⟩ := vrd_ok S.t e
    exact pk v q y e f (f.mv S e1 e3 v3) v1 v2)
theorem r_fxd {post : Int64 → St → Prop} {m : Nat} (ho : SrO o) (S : Sr o x T n p st) (hm : m ≤ 8) (pe : ∀ e y, fxd T m st p = .error e → FrSr o x y → FlC o y e → post 0 y) (pk : ∀ y, fxd T m st p = .ok (fxV T p m, p + m) → FrSr o x y → Sr o y T n (p + m) st → post (lN (fxV T p m)) y) : wp_Src_readFixed post o (nI m) x :=
  k_fxd ho S.1 S.h0 S.hp S.hs S.le.1 S.le.2.1 hm pe (fun v q y e f e1 e3 => by
    have e' := e
    unfold fxd at e'
    by_cases c : st < p + m
    · rw [if_pos c] at e'; cases e'
    · rw [if_neg c] at e'
      cases e'
      exact pk y e f (f.mv S e1 e3 (by omega)))
theorem r_byte {post : Int32 → St → Prop} (ho : SrO o) (S : Sr o x T n p st) (pe : ∀ e y, fxd T 1 st p = .error e → FrSr o x y → FlC o y e → post 0 y) (pk : ∀ y, fxd T 1 st p = .ok (T p, p + 1) → FrSr o x y → Sr o y T n (p + 1) st → p < st → post (nI (T p)) y) : wp_Src_readByte post o x :=
  k_byte ho S.1 S.h0 S.hp S.hs S.le.1 S.le.2.1 pe (fun q y e f e1 e3 c => by
    have e' := e
    unfold fxd at e'
    rw [if_neg (by omega), fx1] at e'
    simp only [Except.ok.injEq, Prod.mk.injEq] at e'
    obtain ⟨-, rfl⟩ := e'
    exact pk y e f (f.mv S e1 e3 (by omega)) c)
theorem r_has {post : Int32 → St → Prop} {m : Nat} (hm : m < 2 ^ 64) (S : Sr o x T n p st) (pe : ∀ y, st < p + m → FrSr o x y → FlC o y 1 → post 0 y) (pk : p + m ≤ st → post 1 x) : wp_Src_has post o (lN m) x :=
  k_has hm S.h0 S.hp S.hs S.le.1 (by have := S.le; omega) (fun c => pe _ c (Fg.i ⟨rfl, by decide⟩) ⟨gI_at, by decide, by decide⟩) pk
theorem r_ck0 {post : St → Prop} (e : Nat) (S : Sr o x T n p st) (h1 : 0 < e) (h2 : e < 100) (q : ∀ y, FrSr o x y → FlC o y e → post y) : wp_Src_check post o 0 (nI e) x := k_ck0 S.h0 (q _ (Fg.i ⟨rfl, by decide⟩) ⟨gI_at, h1, h2⟩)
theorem r_end {post : St → Prop} (S : Sr o x T n p st) (pe : ∀ y, p < st → FrSr o x y → FlC o y 6 → post y) (pk : p = st → post x) : wp_Src_checkEnd post o x :=
  k_end S.h0 S.hp S.hs S.le.1 (by have := S.le; omega) (fun c => pe _ c (Fg.i ⟨rfl, by decide⟩) ⟨gI_at, by decide, by decide⟩) pk
theorem k_same0 {post : Int32 → St → Prop} {r : Nat} {k w : Int32} {c : Int64} (h0 : ¬ fI x o 3 = 0) (q : post k x) : wp_Src_readSame post o r k c w x := by
  unfold wp_Src_readSame j_Src_readSame_30
  exact k_fxd0 h0 ⟨fun _ => k_ckf h0 ⟨fun z => absurd z h0, fun _ => q⟩, fun _ => k_ckf h0 ⟨fun z => absurd z h0, fun _ => q⟩⟩
theorem k_grps80 {post : Int32 → St → Prop} {r : Nat} {k s w : Int32} {c : Int64} (h0 : ¬ fI x o 3 = 0) (q : post k x) : wp_Src_readGroups post o r k c s w x := by
  unfold wp_Src_readGroups j_Src_readGroups_19
  exact ⟨fun _ => q, fun z => absurd z h0⟩
theorem k_same {post : Int32 → St → Prop} {r k w many : Nat} (ho : SrO o) (S : Sr o x T n p st) (hw : w ≤ 32) (hk : k + many ≤ fN x r) (hr : fN x r ≤ 2 ^ 20)
    (pe : ∀ e y, (st < p + (w + 7) / 8 ∧ e = 1 ∨ ¬ st < p + (w + 7) / 8 ∧ 2 ^ w ≤ fxV T p ((w + 7) / 8) ∧ e = 5) → FrSr o x y → FlC o y e → post (nI k) y)
    (pk : ¬ st < p + (w + 7) / 8 → ¬ 2 ^ w ≤ fxV T p ((w + 7) / 8) → ∀ y, FrSL o r x y → Sr o y T n (p + (w + 7) / 8) st → (∀ i, fL y r i = if k ≤ i ∧ i < k + many then lN (fxV T p ((w + 7) / 8)) else fL x r i) → post (nI (k + many)) y) : wp_Src_readSame post o r (nI k) (lN many) (nI w) x := by
  unfold wp_Src_readSame
  rw [show (nI w + 7) / 8 = nI ((w + 7) / 8) from by rw [show (7 : Int32) = nI 7 from rfl, nI_add, show (8 : Int32) = nI 8 from rfl, nI_dv (by omega) (by decide) (by decide)]]
  refine r_fxd ho S (by omega) (fun e y y1 y2 y3 => ?_) (fun y y1 y2 y3 => ?_)
  · have c : st < p + (w + 7) / 8 ∧ e = 1 := by
      unfold fxd at y1
      by_cases c : st < p + (w + 7) / 8
      · rw [if_pos c] at y1; cases y1; exact ⟨c, rfl⟩
      · rw [if_neg c] at y1; cases y1
    unfold j_Src_readSame_30
    exact ⟨fun _ => k_ckf y3.ne ⟨fun z => absurd z y3.ne, fun _ => pe e y (Or.inl c) y2 y3⟩, fun _ => k_ckf y3.ne ⟨fun z => absurd z y3.ne, fun _ => pe e y (Or.inl c) y2 y3⟩⟩
  · have c : ¬ st < p + (w + 7) / 8 := by have := y3.le; omega
    have lt := fxV_lt (p := p) S.t ((w + 7) / 8)
    have lt8 : 256 ^ ((w + 7) / 8) ≤ 256 ^ 8 := Nat.pow_le_pow_right (by decide) (by omega)
    have e8 : 256 ^ 8 = 2 ^ 64 := by decide
    rw [wb_shr (by omega) (by omega : w < 64), lg_cmp_eq, show (0 : Int64) = lN 0 from rfl]
    have pw : 0 < 2 ^ w := Nat.pow_pos (by decide)
    have iff0 : lN (fxV T p ((w + 7) / 8) / 2 ^ w) = lN 0 ↔ ¬ 2 ^ w ≤ fxV T p ((w + 7) / 8) := by
      have l64 : fxV T p ((w + 7) / 8) / 2 ^ w < 2 ^ 64 := Nat.lt_of_le_of_lt (Nat.div_le_self _ _) (by omega)
      rw [show lN 0 = (0 : Int64) from rfl, lN0 l64]
      constructor
      · intro z z2
        have := Nat.div_pos z2 pw
        omega
      · intro z
        exact Nat.div_eq_of_lt (by omega)
    unfold j_Src_readSame_30
    by_cases cv : 2 ^ w ≤ fxV T p ((w + 7) / 8)
    · refine bn_f (fun z => iff0.mp z cv) (r_ck0 5 y3 (by decide) (by decide) (fun z z1 z2 => ?_))
      exact ⟨fun z' => absurd z' z2.ne, fun _ => pe 5 z (Or.inr ⟨c, cv, rfl⟩) (Fg.trans y2 z1) z2⟩
    · refine bn_t (iff0.mpr cv) (k_ck1 ⟨fun _ => ?_, fun z => absurd y3.h0 z⟩)
      rw [lN_i, nI_add]
      refine nm_e ?_
      have ny : fN y r = fN x r := by show y.2.2.2.2.2 r = _; rw [y2.2.2.2.2.2]
      refine lp_Src_readSame_52 (fun a0 a1 a2 a3 a4 a5 a6 a7 z => o = a0 ∧ r = a1 ∧ lN (fxV T p ((w + 7) / 8)) = a5 ∧ nI (k + many) = a6 ∧ ∃ j, nI (k + j) = a7 ∧ j ≤ many ∧ FrSL o r x z ∧ Sr o z T n (p + (w + 7) / 8) st ∧ ∀ i, fL z r i = if k ≤ i ∧ i < k + j then lN (fxV T p ((w + 7) / 8)) else fL x r i) (fun _ _ _ _ _ _ _ a7 _ => k + many - a7.toNatClampNeg) ?_ _ _ _ _ _ _ _ _ _ ⟨rfl, rfl, rfl, rfl, 0, rfl, Nat.zero_le _, FrSr.sl y2, y3, fun i => by rw [if_neg (by omega)]; show y.2.2.2.2.1 r i = _; rw [y2.2.2.2.2.1 r id]⟩
      rintro Q a0 a1 a2 a3 a4 a5 a6 a7 z ⟨rfl, rfl, rfl, rfl, j, rfl, j1, z1, z2, z3⟩ ih
      have nz : fN z r = fN x r := by show z.2.2.2.2.2 r = _; rw [z1.2.2.2.2.2]
      unfold j_Src_readSame_52
      by_cases cj : j < many
      · refine br_f (by (first | omega | (simp (disch := omega) only [Int32.le_iff_toInt_le, Int32.lt_iff_toInt_lt, z_eq, z_in, nI_toInt, z_cl, z_m1, z_sg, z_255, Int32.reduceToInt] <;> omega) | (simp only [Int32.le_iff_toInt_le, Int32.lt_iff_toInt_lt, z_eq, z_in, z_add, z_sub, z_mul, z_neg, z_nI, z_cl, z_sg, z_255, z_lit, Int32.reduceToInt] <;> omega))) ⟨vp_in_nI (by omega) (by omega), nm_e ?_⟩
        rw [nI_1]
        refine ih _ _ _ _ _ _ _ _ _ ⟨rfl, rfl, rfl, rfl, j + 1, rfl, cj, Fg.trans z1 (Fg.l rfl), z2.cg (Fg.l (L := fun a => a = r) (I := no2) (J := no2) (R := no2) (A := no1) rfl) id id id id, fun i => ?_⟩ (by rw [nI_clamp (by omega), nI_clamp (by omega)]; omega)
        rw [gL_at, nI_clamp (by omega)]
        by_cases e : i = k + j
        · rw [e, updL_at, if_pos (by omega)]
        · rw [updL_ne e, z3 i]
          by_cases e2 : k ≤ i ∧ i < k + j
          · rw [if_pos e2, if_pos (by omega)]
          · rw [if_neg e2, if_neg (by omega)]
      · have e : j = many := by omega
        subst e
        exact br_t (by (first | omega | (simp (disch := omega) only [Int32.le_iff_toInt_le, Int32.lt_iff_toInt_lt, z_eq, z_in, nI_toInt, z_cl, z_m1, z_sg, z_255, Int32.reduceToInt] <;> omega) | (simp only [Int32.le_iff_toInt_le, Int32.lt_iff_toInt_lt, z_eq, z_in, z_add, z_sub, z_mul, z_neg, z_nI, z_cl, z_sg, z_255, z_lit, Int32.reduceToInt] <;> omega))) (pk c cv z z1 z2 z3)
end
