/-! the class chooses a coding -/
def bC (ty : Nat) (P : List PV) : Nat → Nat
  | 0 => 0
  | c + 1 => if (valB ty (c + 1) P).length < (valB ty (bC ty P c) P).length then c + 1 else bC ty P c
theorem bC_le {ty : Nat} {P : List PV} : ∀ c, bC ty P c ≤ c := by
  intro c
  induction c with
  | zero => exact Nat.le_refl _
  | succ c ih =>
    simp only [bC]
    split
    · exact Nat.le_refl _
    · exact Nat.le_succ_of_le ih
def BR (ty c : Nat) (post : Nat → Nat → St → Prop) (kb nb : Nat) (x16 : St) : Prop := ((¬ nI c = 0 → ((¬ nI ty = 0 → ((¬ nI c = nI (nCod ty - 1) → ((¬ nI ty = 3 → (∃ q21 : Nat, fR x16 45 4 = some q21 ∧ (∃ k22 n23 k24 n25 : Nat, k22 + k24 = kb ∧ n23 + n25 = nb ∧ wp_Snk_putCode (fun (x26 : St) => post k24 n25 x26) q21 (stC 45 10) (fI x16 45 12) k22 n23 x16))) ∧ (nI ty = 3 → ((¬ nI c = 2 → (∃ k9 n10 k11 n12 : Nat, k9 + k11 = kb ∧ n10 + n12 = nb ∧ wp_Wrt_putTexts (fun (x13 : St) => post k11 n12 x13) 45 0 k9 n10 x16)) ∧ (nI c = 2 → (∃ k9 n10 k11 n12 : Nat, k9 + k11 = kb ∧ n10 + n12 = nb ∧ wp_Wrt_putTexts (fun (x13 : St) => post k11 n12 x13) 45 1 k9 n10 x16)))))) ∧ (nI c = nI (nCod ty - 1) → (∃ k28 n29 k30 n31 : Nat, k28 + k30 = kb ∧ n29 + n31 = nb ∧ wp_Wrt_putDictionary (fun (x32 : St) => post k30 n31 x32) 45 (nI ty) k28 n29 x16)))) ∧ (nI ty = 0 → (∃ k33 n34 k35 n36 : Nat, k33 + k35 = kb ∧ n34 + n36 = nb ∧ wp_Wrt_putBoolRuns (fun (x37 : St) => post k35 n36 x37) 45 k33 n34 x16)))) ∧ (nI c = 0 → (∃ k38 n39 k40 n41 : Nat, k38 + k40 = kb ∧ n39 + n41 = nb ∧ wp_Wrt_putPlain (fun (x42 : St) => post k40 n41 x42) 45 (nI ty) (stC 45 10) (fI x16 45 12) k38 n39 x16)))
theorem AppC.k {κ : Nat → Nat} {s : Nat} {B C : List Nat} {Pre : St → Prop} {W : (St → Prop) → Nat → Nat → St → Prop} (h : AppC κ s B C Pre W) : ∃ κ', Kle κ κ' ∧ ∀ κ2, Kle κ' κ2 → ∀ (x : St) (post : Nat → Nat → St → Prop) kb nb, SkS x → Caps x κ → Snk x s B → Pre x → KP κ ≤ kb + KP κ2 → NP κ ≤ nb + NP κ2 → (∀ y k n, SkS y → Caps y κ' → FC s x y → Snk y s (B ++ C) → KP κ' ≤ k + KP κ2 → NP κ' ≤ n + NP κ2 → post k n y) → ∃ k1 n1 k2 n2 : Nat, k1 + k2 = kb ∧ n1 + n2 = nb ∧ W (fun y => post k2 n2 y) k1 n1 x := by
  obtain ⟨κ1, m1, f1⟩ := h
  exact ⟨κ1, m1, fun κ2 m2 x post kb nb hK hC h hp hk hn p => bseq m1 m2 hk hn (fun k1 n1 k2 n2 b1 b2 b3 b4 => f1 x _ k1 n1 hK hC h hp b1 b2 (fun y y1 y2 y3 y4 => p y k2 n2 y1 y2 y3 y4 b3 b4))⟩
def Sz (x : St) : Prop := ∀ i, i < 2048 → fA x 68 i = 0
theorem Sz.c {s : Nat} {x y : St} (hs : SnkId s) (hK : SkS x) (h : Sz x) (f : FC s x y) : Sz y := fun i hi => by
  have e := f.2.2.2.1 68 (Or.inl (by decide)) (fun z => by
    rcases z with z | z | z
    · exact absurd z (by decide)
    · exact absurd z (by decide)
    · exact st68.2.2 s hs z) (fun t e => by rw [e]; exact stRow_ne hs hK st68)
  show y.2.2.2.1 68 i = 0
  rw [e.1]
  exact h i hi
theorem nI_inj {a b : Nat} (ha : a < 2 ^ 32) (hb : b < 2 ^ 32) (h : nI a = nI b) : a = b := by
  have := congrArg uI h
  rw [uI_nI ha, uI_nI hb] at this
  exact this
/-- one coding -/
theorem k_val {κ : Nat → Nat} {s ty c : Nat} {V : Nat → Int64} {P : List PV} (hs : SnkId s) (hty : ty < 4) (hc : c < nCod ty) (hP : okP ty P) (hP1 : P.length ≤ 1000) (hκ : ∀ t, SnkId t → κ t ≤ roomOf t) :
    ∃ κ', Kle κ κ' ∧ ∀ κ2, Kle κ' κ2 → ∀ (x : St) (post : Nat → Nat → St → Prop) kb nb, SkS x → Caps x κ → Snk x s [] → (PgC x s ty V P ∧ Sz x) → KP κ ≤ kb + KP κ2 → NP κ ≤ nb + NP κ2 → (∀ y k n, SkS y → Caps y κ' → FC s x y → Snk y s (valB ty c P) → KP κ' ≤ k + KP κ2 → NP κ' ≤ n + NP κ2 → post k n y) → BR ty c post kb nb x := by
  have hc4 : c < 4 := by unfold nCod at hc; split at hc; omega; split at hc <;> omega
  have mk : ∀ {W : (St → Prop) → Nat → Nat → St → Prop}, AppC κ s [] (valB ty c P) (fun x => PgC x s ty V P ∧ Sz x) W → (∀ x post kb nb, (PgC x s ty V P ∧ Sz x) → (∃ k1 n1 k2 n2 : Nat, k1 + k2 = kb ∧ n1 + n2 = nb ∧ W (fun y => post k2 n2 y) k1 n1 x) → BR ty c post kb nb x) → ∃ κ', Kle κ κ' ∧ ∀ κ2, Kle κ' κ2 → ∀ (x : St) (post : Nat → Nat → St → Prop) kb nb, SkS x → Caps x κ → Snk x s [] → (PgC x s ty V P ∧ Sz x) → KP κ ≤ kb + KP κ2 → NP κ ≤ nb + NP κ2 → (∀ y k n, SkS y → Caps y κ' → FC s x y → Snk y s (valB ty c P) → KP κ' ≤ k + KP κ2 → NP κ' ≤ n + NP κ2 → post k n y) → BR ty c post kb nb x := by
    intro W h1 h2
    obtain ⟨κ', m1, f1⟩ := h1.k
    exact ⟨κ', m1, fun κ2 m2 x post kb nb hK hC h hp hk hn p => h2 x post kb nb hp (f1 κ2 m2 x post kb nb hK hC h hp hk hn p)⟩
  have pre : ∀ {C : List Nat} {Pre : St → Prop} {W : (St → Prop) → Nat → Nat → St → Prop}, AppC κ s [] C Pre W → (∀ x, PgC x s ty V P ∧ Sz x → Pre x) → AppC κ s [] C (fun x => PgC x s ty V P ∧ Sz x) W := fun h e => by
    obtain ⟨κ1, m1, f1⟩ := h
    exact ⟨κ1, m1, fun x post kb nb hK hC h hp hk hn p => f1 x post kb nb hK hC h (e x hp) hk hn p⟩
  by_cases d0 : c = 0
  · subst d0
    have ev : valB ty 0 P = plainB ty P := by unfold valB; rw [if_pos rfl]
    rw [ev] at mk ⊢
    refine mk (pre ((k_plain (κ := κ) (B := []) (V := V) (rr := 64) hs (by decide) hty hP hκ).c hs) (fun x hx => hx.1.2.1)) (fun x post kb nb hx z => ?_)
    unfold BR
    refine bn_t rfl ?_
    rw [hx.1.2.2.1]
    exact z
  · have n0 : ¬ nI c = 0 := fun z => d0 (nI_inj (b := 0) (by omega) (by decide) z)
    by_cases c0 : ty = 0
    · subst c0
      have hc2 : c < 2 := hc
      have ev : valB 0 c P = runB (fun k => (P.getD k (0, [])).1.toInt32) P.length 1 := by unfold valB; rw [if_neg d0, if_pos rfl]
      rw [ev] at mk ⊢
      refine mk (pre (k_boolRuns (κ := κ) (B := []) (V := V) hs hκ) (fun x hx => hx.1)) (fun x post kb nb hx z => ?_)
      unfold BR
      exact bn_f n0 (bn_t rfl z)
    · have t0 : ¬ nI ty = 0 := fun z => c0 (nI_inj (b := 0) (by omega) (by decide) z)
      by_cases cl : c = nCod ty - 1
      · have ev : valB ty c P = dictB ty P := by
          unfold nCod at cl
          unfold valB
          rw [if_neg d0, if_neg c0]
          by_cases c3 : ty = 3
          · rw [if_neg c0, if_pos c3] at cl
            rw [if_pos c3, if_neg (by omega), if_neg (by omega)]
          · rw [if_neg c0, if_neg c3] at cl
            rw [if_neg c3, if_neg (by omega)]
        rw [ev] at mk ⊢
        refine mk (k_dict (κ := κ) (B := []) (V := V) hs hty hP hP1 hκ) (fun x post kb nb hx z => ?_)
        unfold BR
        exact bn_f n0 (bn_f t0 (bn_t (by rw [cl]) z))
      · have nl : ¬ nI c = nI (nCod ty - 1) := fun z => cl (nI_inj (by omega) (by unfold nCod; split; decide; split <;> decide) z)
        by_cases c3 : ty = 3
        · subst c3
          have hc3 : c < 4 := hc
          have cl : ¬ c = 3 := cl
          by_cases d2 : c = 2
          · subst d2
            have ev : valB 3 2 P = frontB P := rfl
            rw [ev] at mk ⊢
            refine mk (pre (k_front (κ := κ) (V := V) hs hP1 hκ) (fun x hx => hx.1)) (fun x post kb nb hx z => ?_)
            unfold BR
            exact bn_f n0 (bn_f t0 (bn_f nl (bn_t rfl (bn_t rfl z))))
          · have d1 : c = 1 := by omega
            subst d1
            have ev : valB 3 1 P = lensB P := rfl
            rw [ev] at mk ⊢
            refine mk (pre (k_lens (κ := κ) (B := []) (V := V) hs hP1 hκ) (fun x hx => hx.1)) (fun x post kb nb hx z => ?_)
            unfold BR
            exact bn_f n0 (bn_f t0 (bn_f nl (bn_t rfl (bn_f (by decide) z))))
        · have hn : nCod ty = 3 := by unfold nCod; rw [if_neg c0, if_neg c3]
          have d1 : c = 1 := by omega
          subst d1
          have ev : valB ty 1 P = codeB (fun k => (pvd P k).1) P.length := by unfold valB; rw [if_neg (by decide), if_neg c0, if_neg c3, if_pos rfl]
          rw [ev] at mk ⊢
          refine mk (pre ((k_code (κ := κ) (s := s) (r := 64) (V := fun k => (pvd P k).1) (n := P.length) (B := []) hs (by decide) (by omega) hκ).c hs) (fun x hx => ⟨⟨hx.1.2.1.2.2.1.1, hx.1.2.1.2.2.1.2.1, fun i hi => ?_⟩, sk_4 hs hx.1.1⟩)) (fun x post kb nb hx z => ?_)
          · exact (hx.1.2.1.2.2.1.2.2 i hi).trans ((hx.1.2.1.2.2.2 i hi).1 c3)
          · unfold BR
            refine bn_f n0 (bn_f t0 (bn_f nl (bn_f (fun z => c3 (nI_inj (b := 3) (by omega) (by decide) z)) ⟨s, hx.1.2.1.1, ?_⟩)))
            rw [hx.1.2.2.1]
            exact z
/-- what choosing may change -/
abbrev FB (x y : St) : Prop := FX (fun o k => (o = 55 ∨ o = 58) ∧ (k = 1 ∨ k = 2 ∨ k = 5 ∨ k = 6)) no2 (fun o k => o = 45 ∧ (k = 3 ∨ k = 4)) (fun a => a = 65 ∨ a = 69 ∨ a = stC 55 4 ∨ a = stC 58 4) (fun a => a = 66 ∨ a = 67) (fun o => o = 55 ∨ o = 58) x y
theorem fb1 : ∀ t, SnkId t → ¬ (t = 45 ∧ (0 = 3 ∨ 0 = 4)) := fun t ht z => (snk45 ht).1 z.1
theorem fb2 : ∀ s, (s = 55 ∨ s = 58) → SnkId s := fun s hs => by unfold SnkId; omega
theorem FB.trans {x y z : St} (h : FB x y) (k : FB y z) : FB x z := FX.trans fb1 (by decide) fb2 h k
theorem FC.b {s : Nat} {x y : St} (hs : s = 55 ∨ s = 58) (h : FC s x y) : FB x y := h.mono fb2 (fun _ _ => id) (fun o k z => ⟨by rw [z.1]; exact hs, z.2⟩) (fun _ _ z => z) (fun _ _ z => z.elim) (fun a z => by rcases z with z | z | z; exact Or.inl z; exact Or.inr (Or.inl z); rcases hs with rfl | rfl; exact Or.inr (Or.inr (Or.inl z)); exact Or.inr (Or.inr (Or.inr z))) (fun _ z => z) (fun a z => by rw [z]; exact hs)
theorem FB.r {x : St} {k : Nat} {v : Option Nat} (h : k = 3 ∨ k = 4) : FB x (setR x 45 k v) := by
  refine ⟨fun _ _ _ => rfl, fun _ _ _ => rfl, fun o j c d => ?_, fun _ _ _ _ => ⟨rfl, rfl⟩, fun _ _ => rfl, fun _ _ => rfl, fun t r a b => Or.inl ⟨t, a, ?_⟩⟩
  · show (if o = 45 ∧ j = k then v else x.2.2.1 o j) = _
    rw [if_neg (fun z => c ⟨z.1, by rw [z.2]; exact h⟩)]
  · have : fR (setR x 45 k v) t 0 = fR x t 0 := by
      show (if t = 45 ∧ 0 = k then v else x.2.2.1 t 0) = _
      rw [if_neg (fun z => by omega)]
    rw [← this]
    exact b
theorem FB.f {x : St} {s : Nat} (hs : s = 55 ∨ s = 58) {k : Nat} {v : Int32} (h : k = 1 ∨ k = 2 ∨ k = 5 ∨ k = 6) : FB x (setI x s k v) := by
  refine ⟨fun o j c => ?_, fun _ _ _ => rfl, fun _ _ _ _ => rfl, fun _ _ _ _ => ⟨rfl, rfl⟩, fun _ _ => rfl, fun _ _ => rfl, fun t r a b => Or.inl ⟨t, a, b⟩⟩
  show (if o = s ∧ j = k then v else x.1 o j) = _
  rw [if_neg (fun z => c ⟨by rw [z.1]; exact hs, by rw [z.2]; exact h⟩)]
theorem setR_sk {x : St} {k : Nat} {v : Option Nat} (h : SkS x) : SkS (setR x 45 k v) := by
  intro t ht
  obtain ⟨a0, q, a1, a2, a3, a4, a5, a6⟩ := h t ht
  have e : ∀ t, SnkId t → fR (setR x 45 k v) t 0 = fR x t 0 := fun t ht => by
    show (if t = 45 ∧ 0 = k then v else x.2.2.1 t 0) = _
    rw [if_neg (fun z => (snk45 ht).1 z.1)]
  exact ⟨a0, q, (e t ht).trans a1, a2, a3, a4, a5, fun u hu z => a6 u hu ((e u hu).symm.trans z)⟩
theorem setR_fR {x : St} {k t : Nat} {v : Option Nat} (ht : SnkId t) : fR (setR x 45 k v) t 0 = fR x t 0 := by
  show (if t = 45 ∧ 0 = k then v else x.2.2.1 t 0) = _
  rw [if_neg (fun z => (snk45 ht).1 z.1)]
theorem setR_caps {x : St} {κ : Nat → Nat} {k : Nat} {v : Option Nat} (h : Caps x κ) : Caps (setR x 45 k v) κ := h.fr (fun s hs => setR_fR hs) (fun _ => rfl)
theorem setR_snk {x : St} {k t : Nat} {v : Option Nat} {B : List Nat} (ht : SnkId t) (h : Snk x t B) : Snk (setR x 45 k v) t B := by
  have e := setR_fR (x := x) (k := k) (v := v) ht
  refine ⟨h.1, h.2.1, ?_⟩
  rcases h.2.2 with ⟨h1, h2, h3, h4, q, h5, h6⟩ | ⟨h1, h2, c, q, h3, h4, h5⟩
  · exact Or.inl ⟨h1, h2, h3, h4, q, e.trans h5, h6⟩
  · exact Or.inr ⟨h1, h2, c, q, h3, e.trans h4, h5⟩
theorem gR_at {x : St} {o k : Nat} {v : Option Nat} : fR (setR x o k v) o k = v := by show (if o = o ∧ k = k then v else _) = _; rw [if_pos ⟨rfl, rfl⟩]
theorem gR_ne {x : St} {o k p j : Nat} {v : Option Nat} (h : ¬ (p = o ∧ j = k)) : fR (setR x o k v) p j = fR x p j := by show (if p = o ∧ j = k then v else _) = _; rw [if_neg h]
/-- a sink forgets -/
theorem forget_ok {x : St} {κ : Nat → Nat} {s : Nat} (hs : SnkId s) (hK : SkS x) (hC : Caps x κ) (h5 : fI x s 5 = 0) (h6 : fI x s 6 = 0) : SkS (setI (setI x s 1 0) s 2 0) ∧ Caps (setI (setI x s 1 0) s 2 0) κ ∧ Snk (setI (setI x s 1 0) s 2 0) s [] := by
  refine ⟨setI_skS (setI_skS hK (by decide)) (by decide), hC, ?_, ?_, Or.inl ⟨Nat.zero_le _, fun b hb => absurd hb (by simp), ?_, gI_at, ?_⟩⟩
  · rw [gI_ne (by decide), gI_ne (by decide)]; exact h5
  · rw [gI_ne (by decide), gI_ne (by decide)]; exact h6
  · rw [gI_ne (by decide), gI_at]; rfl
  · obtain ⟨-, q, a1, -⟩ := hK s hs
    exact ⟨q, a1, Nat.zero_le _, fun i hi => absurd hi (Nat.not_lt_zero _)⟩
theorem FC.f {x : St} {s : Nat} {k : Nat} {v : Int32} (h : k = 1 ∨ k = 2 ∨ k = 5 ∨ k = 6) : FC s x (setI x s k v) := by
  refine ⟨fun o j c => ?_, fun _ _ _ => rfl, fun _ _ _ _ => rfl, fun _ _ _ _ => ⟨rfl, rfl⟩, fun _ _ => rfl, fun _ _ => rfl, fun t r a b => Or.inl ⟨t, a, b⟩⟩
  show (if o = s ∧ j = k then v else x.1 o j) = _
  rw [if_neg (fun z => c ⟨z.1, by rw [z.2]; exact h⟩)]
theorem Snk.c {x y : St} {s t : Nat} {B : List Nat} (hs : SnkId s) (ht : SnkId t) (hne : t ≠ s) (hK : SkS x) (f : FC s x y) (h : Snk x t B) : Snk y t B := by
  refine h.fr hK ht f (fun k _ z => hne z.1) id hne (fun q hq z => ?_) (fun u hu => by rw [hu]; exact hs)
  rcases z with z | z | z
  · rw [z] at hq; exact not_sk (by decide) (by decide) hq
  · rw [z] at hq; exact not_sk (by decide) (by decide) hq
  · rw [z] at hq; exact (wRow s hs).2.1 hq
theorem wl_ch (post : Int32 → St → Prop) (f : Nat) : wl_Wrt_chooseCoding_24 post (f + 1) = j_Wrt_chooseCoding_24 post (wl_Wrt_chooseCoding_24 post f) := rfl
theorem PgC.f {x : St} {s t ty : Nat} {V : Nat → Int64} {P : List PV} {k : Nat} {v : Int32} (ht : SnkId t) (h : PgC x s ty V P) : PgC (setI x t k v) s ty V P := by
  obtain ⟨z1, z2, z3, z4⟩ := h
  refine ⟨z1, z2, ?_, z4⟩
  show (if 45 = t ∧ 12 = k then v else x.1 45 12) = _
  rw [if_neg (fun z => (snk45 ht).1 z.1.symm)]
  exact z3
theorem PgC.sw {x : St} {s t ty : Nat} {V : Nat → Int64} {P : List PV} {v : Option Nat} (h : PgC x s ty V P) : PgC (setR (setR x 45 3 v) 45 4 (some t)) t ty V P := by
  obtain ⟨z1, ⟨z5, z6, z7, z8⟩, z3, z4⟩ := h
  refine ⟨z1, ⟨gR_at, ?_, z7, z8⟩, z3, z4⟩
  rw [gR_ne (by decide), gR_ne (by decide)]
  exact z6
