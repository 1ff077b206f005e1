/-! a page of the class is written -/
/-- bytes of any row -/
theorem k_putAllU {κ : Nat → Nat} {s : Nat} {B C : List Nat} (hs : SnkId s) (hC : C.length < 2 ^ 30) (hκ : ∀ t, SnkId t → κ t ≤ roomOf t) : ∃ κ', Kle κ κ' ∧ ∀ κ2, Kle κ' κ2 → ∀ (x : St) (post : Nat → Nat → St → Prop) kb nb r, SkS x → Caps x κ → Snk x s B → SrC x r 0 C → lv x r → fR x s 0 ≠ some r → KP κ ≤ kb + KP κ2 → NP κ ≤ nb + NP κ2 → (∀ y k n, SkS y → Caps y κ' → FK s x y → Snk y s (B ++ C) → KP κ' ≤ k + KP κ2 → NP κ' ≤ n + NP κ2 → post k n y) → ∃ k1 n1 k2 n2 : Nat, k1 + k2 = kb ∧ n1 + n2 = nb ∧ wp_Snk_putAll (fun y => post k2 n2 y) s r 0 (nI C.length) k1 n1 x := by
  by_cases ex : ¬ ∃ x, SkS x ∧ Caps x κ ∧ Snk x s B
  · exact ⟨κ, Kle.refl hκ, fun κ2 m2 x post kb nb r h1 h2 h3 => absurd ⟨x, h1, h2, h3⟩ ex⟩
  obtain ⟨x0, k0, c0, s0⟩ := Classical.not_not.mp ex
  have m1 : Kle κ (roomK κ s B C.length) := roomK_le hs k0 c0 s0.sn
  refine ⟨roomK κ s B C.length, m1, fun κ2 m2 x post kb nb r hK hCp h p1 p5 p6 hk hn p => bseq m1 m2 hk hn (fun k1 n1 k2 n2 b1 b2 b3 b4 => ?_)⟩
  obtain ⟨p1, p2, p3, p4⟩ := p1
  have p := fun y y1 y2 y3 y4 => p y k2 n2 y1 y2 y3 y4 b3 b4
  have hl : (B ++ C).length = B.length + C.length := List.length_append
  unfold wp_Snk_putAll
  refine ⟨k1, n1, 0, 0, by omega, by omega, ?_⟩
  refine k_hasRoom (m := C.length) hs hK hCp h.sn hC b1 b2 (fun c y q y1 y2 y3 y4 y5 y6 => br_f (by decide) ⟨q, y5, ?_⟩) (fun c y y1 y2 y3 y4 y5 => br_t rfl (p y y1 y2 y3.x ⟨(frK5 y3 (by decide)).trans h.1, (frK5 y3 (by decide)).trans h.2.1, Or.inr ⟨by rw [hl]; omega, y4, y5⟩⟩))
  have er := y3.2.2.2.1 r p5.live p6
  have cq := cap31 y1 hs y5
  have e1 := y4.2.1
  have nl : ∀ n : Nat, n < 2 ^ 31 → ¬ (nI n : Int32) < 0 := fun n hn => nI_pos hn
  rw [e1, show (0 : Int32) = nI 0 from rfl, nI_clamp (by omega), nI_clamp (by omega), nI_clamp (by omega)]
  have fr : ∀ i, i < C.length → fA y r (0 + i) = (nI (C.getD i 0)).toInt8.toInt32 := fun i hi => by
    rw [show fA y r = fA x r from er.1]; exact p4 i hi
  refine ⟨⟨nl 0 (by omega), nl _ (by omega), nl _ (by omega), by rw [show fN y r = fN x r from er.2]; exact p1, y6, fun i hi => by rw [fr i hi]; exact pk_fb _⟩, nm_e ?_⟩
  have hF : sb_Fit (va_cpy (fA y r) (fA y q) 0 B.length C.length) := fun j => by
    by_cases z : B.length ≤ j ∧ j < B.length + C.length
    · rw [pk_cpy_in z.1 z.2, fr _ (by omega)]; exact pk_fb _
    · rw [pk_cpy_out (by omega)]; exact cq.2 j
  have hb' : ∀ b, b ∈ B ++ C → b < 256 := fun b hb => by
    rcases List.mem_append.mp hb with z | z
    · exact y4.1 b z
    · exact p3 b z
  have hD : ∀ i, i < (B ++ C).length → va_cpy (fA y r) (fA y q) 0 B.length C.length i = (nI ((B ++ C).getD i 0)).toInt8.toInt32 := fun i hi => by
    rw [hl] at hi
    by_cases z : i < B.length
    · rw [pk_cpy_out (Or.inl z), getD_app1 z]; exact y4.row y5 i z
    · rw [pk_cpy_in (by omega) (by omega), getD_app2 (by omega), fr _ (by omega)]
  obtain ⟨o1, o2, o3⟩ := HL.set (D := B ++ C) (f := va_cpy (fA y r) (fA y q) 0 B.length C.length) y1 hs y4 y5 (by rw [hl]; exact y6) hF hb' hD
  rw [hl] at o1 o2 o3
  refine nm_r (e' := setI (setW y q (va_cpy (fA y r) (fA y q) 0 B.length C.length)) s 1 (nI (B.length + C.length))) (by rw [show fI (setW y q (va_cpy (fA y r) (fA y q) 0 B.length C.length)) s 1 = fI y s 1 from rfl, e1, nI_add]) (p _ o1 y2 (FK.trans hs y3.x o2.x) ⟨?_, ?_, Or.inl ⟨by rw [hl]; exact c, o3⟩⟩)
  · exact (frK5 o2 (by decide)).trans ((frK5 y3 (by decide)).trans h.1)
  · exact (frK5 o2 (by decide)).trans ((frK5 y3 (by decide)).trans h.2.1)
/-- the bytes of one sink for another -/
theorem Snk.src {x : St} {t s : Nat} {C : List Nat} (hK : SkS x) (ht : SnkId t) (hs : SnkId s) (hne : t ≠ s) (h : Snk x t C) (hC : C.length ≤ roomOf t) : ∃ q, fR x t 0 = some q ∧ SrC x q 0 C ∧ lv x q ∧ fR x s 0 ≠ some q ∧ fI x t 1 = nI C.length := by
  rcases h.2.2 with ⟨-, hh⟩ | ⟨z, -⟩
  · obtain ⟨h1, h2, h3, q, h4, h5, h6⟩ := id hh
    have cq := cap31 hK ht h4
    refine ⟨q, h4, ⟨by omega, cq.1, h1, fun i hi => by rw [Nat.zero_add]; exact hh.row h4 i hi⟩, Or.inr (Or.inl ⟨t, ht, h4⟩), fun z => ?_, h2⟩
    obtain ⟨-, q', a1, -, -, -, -, a6⟩ := hK t ht
    rw [h4] at a1
    rw [Option.some.inj a1] at z
    exact hne (a6 s hs z).symm
  · exact absurd z (by omega)
/-- a page: what may change -/
abbrev FPg (s : Nat) (x y : St) : Prop := FX (fun o k => (o = s ∨ o = 52) ∧ (k = 1 ∨ k = 2 ∨ k = 5 ∨ k = 6)) (fun o k => o = 45 ∧ (k = 13 ∨ k = 14)) no2 no1 no1 (fun o => o = s ∨ o = 52) x y
theorem id52 : SnkId 52 := by unfold SnkId; decide
theorem fpS {s : Nat} (hs : SnkId s) : ∀ t, (t = s ∨ t = 52) → SnkId t := fun t z => by
  rcases z with z | z
  · rw [z]; exact hs
  · rw [z]; exact id52
theorem FPg.trans {s : Nat} {x y z : St} (hs : SnkId s) (h : FPg s x y) (k : FPg s y z) : FPg s x z := FX.trans (fun _ _ => id) id (fpS hs) h k
theorem FK.p1 {s : Nat} {x y : St} (hs : SnkId s) (h : FK s x y) : FPg s x y := h.mono (fpS hs) (fun _ _ => id) (fun _ _ z => ⟨Or.inl z.1, z.2⟩) (fun _ _ z => z.elim) (fun _ _ z => z) (fun _ z => z) (fun _ z => z) (fun _ z => Or.inl z)
theorem FK.p2 {s : Nat} {x y : St} (hs : SnkId s) (h : FK 52 x y) : FPg s x y := h.mono (fpS hs) (fun _ _ => id) (fun _ _ z => ⟨Or.inr z.1, z.2⟩) (fun _ _ z => z.elim) (fun _ _ z => z) (fun _ z => z) (fun _ z => z) (fun _ z => Or.inr z)
theorem FBd.p {s : Nat} {x y : St} (hs : SnkId s) (h : FBd x y) : FPg s x y := h.mono (fpS hs) (fun _ _ => id) (fun _ _ z => z.elim) (fun _ _ z => z) (fun _ _ z => z) (fun _ z => z) (fun _ z => z) (fun _ z => z.elim)
theorem stRow.p {r s : Nat} {x y : St} (h : stRow r) (hs : SnkId s) (hK : SkS x) (f : FPg s x y) : fA y r = fA x r ∧ fN y r = fN x r :=
  f.2.2.2.1 r (Or.inl h.1) id (fun t ht => stRow_ne (fpS hs t ht) hK h)
theorem PgC.p {s t ty : Nat} {V : Nat → Int64} {P : List PV} {x y : St} (hs : SnkId s) (hK : SkS x) (f : FPg s x y) (z : PgC x t ty V P) : PgC y t ty V P := by
  obtain ⟨z1, ⟨z5, z6, z7, z8⟩, z3, z4⟩ := z
  have h45 : ¬ (45 = s ∨ 45 = 52) := fun z => by
    rcases z with z | z
    · exact (snk45 hs).1 z.symm
    · omega
  refine ⟨fun r hr => (f.2.2.2.2.2.1 r hr).trans (z1 r hr), ⟨(f.2.2.1 45 4 id (fun c => h45 c.1)).trans z5, (f.2.2.1 45 6 id (fun c => h45 c.1)).trans z6, ?_, fun k hk => ?_⟩, (f.1 45 12 (fun c => h45 c.1)).trans z3, z4⟩
  · unfold RwL
    rw [show fN y 64 = fN x 64 from f.2.2.2.2.2.1 64 (by decide), show fL y 64 = fL x 64 from f.2.2.2.2.1 64 id]
    exact z7
  · have e := st42.p hs hK f
    have := z8 k hk
    unfold RfC at this ⊢
    rw [e.1, e.2]
    exact this
theorem Snk.p {x y : St} {s t : Nat} {B : List Nat} (hs : SnkId s) (ht : SnkId t) (h1 : t ≠ s) (h2 : t ≠ 52) (hK : SkS x) (f : FPg s x y) (h : Snk x t B) : Snk y t B :=
  h.fr hK ht f (fun k _ z => by rcases z.1 with w | w; exact h1 w; exact h2 w) id (fun z => by rcases z with w | w; exact h1 w; exact h2 w) (fun _ _ => id) (fpS hs)
theorem Snk.k {x y : St} {s t : Nat} {B : List Nat} (hs : SnkId s) (ht : SnkId t) (h1 : t ≠ s) (hK : SkS x) (f : FK s x y) (h : Snk x t B) : Snk y t B :=
  h.fr hK ht f (fun k _ z => h1 z.1) id h1 (fun _ _ => id) (fun u hu => by rw [hu]; exact hs)
/-- levels, sinks and the column of a page -/
def PsC (x : St) (s b sc c f ty mr md : Nat) (Rp Df : Nat → Int32) (E : Nat) : Prop := fR x 45 0 = some s ∧ fR x 45 3 = some b ∧ fR x 45 5 = some sc ∧ c < 64 ∧ f < 128 ∧ stRow (stC sc 10) ∧ stRow (stC sc 3) ∧ stRow (stC sc 5) ∧ stRow (stC sc 6) ∧ fN x (stC sc 10) = 64 ∧ fN x (stC sc 3) = 128 ∧ fN x (stC sc 5) = 128 ∧ fN x (stC sc 6) = 128 ∧ fA x (stC sc 10) c = nI f ∧ fA x (stC sc 3) f = nI ty ∧ fA x (stC sc 5) f = nI mr ∧ fA x (stC sc 6) f = nI md ∧ RwI x 62 Rp E ∧ RwI x 63 Df E ∧ fI x 45 11 = nI E
theorem st62 : stRow 62 := st_of (by decide) (by decide) (by decide +kernel)
theorem st63 : stRow 63 := st_of (by decide) (by decide) (by decide +kernel)
theorem PsC.p {x y : St} {s b sc c f ty mr md E : Nat} {Rp Df : Nat → Int32} (hs : SnkId s) (hK : SkS x) (g : FPg s x y) (h : PsC x s b sc c f ty mr md Rp Df E) : PsC y s b sc c f ty mr md Rp Df E := by
  obtain ⟨h1, h2, h3, h4, h5, h6, h7, h8, h9, h10, h11, h12, h13, h14, h15, h16, h17, h18, h19, h20⟩ := h
  have h45 : ¬ (45 = s ∨ 45 = 52) := fun z => by
    rcases z with z | z
    · exact (snk45 hs).1 z.symm
    · omega
  have a := h6.p hs hK g
  have b' := h7.p hs hK g
  have c' := h8.p hs hK g
  have d := h9.p hs hK g
  have e := st62.p hs hK g
  have e' := st63.p hs hK g
  refine ⟨(g.2.2.1 45 0 id (fun c => h45 c.1)).trans h1, (g.2.2.1 45 3 id (fun c => h45 c.1)).trans h2, (g.2.2.1 45 5 id (fun c => h45 c.1)).trans h3, h4, h5, h6, h7, h8, h9, a.2.trans h10, b'.2.trans h11, c'.2.trans h12, d.2.trans h13, by rw [a.1]; exact h14, by rw [b'.1]; exact h15, by rw [c'.1]; exact h16, by rw [d.1]; exact h17, ?_, ?_, (g.1 45 11 (fun c => h45 c.1)).trans h20⟩
  · unfold RwI; rw [e.1, e.2]; exact h18
  · unfold RwI; rw [e'.1, e'.2]; exact h19
/-- the bounds come into the file -/
theorem k_bnd {κ : Nat → Nat} {s t ty : Nat} {V : Nat → Int64} {P : List PV} {B : List Nat} (hs : SnkId s) (hty : ty < 4) (hκ : ∀ t, SnkId t → κ t ≤ roomOf t) : ∃ κ', Kle κ κ' ∧ ∀ κ2, Kle κ' κ2 → ∀ (x : St) (post : Nat → Nat → St → Prop) kb nb, SkS x → Caps x κ → Snk x s B → PgC x t ty V P → fR x 45 0 = some s → KP κ ≤ kb + KP κ2 → NP κ ≤ nb + NP κ2 → (∀ y k n, SkS y → Caps y κ' → FPg s x y → (∀ u, SnkId u → u ≠ s → ∀ D, Snk x u D → Snk y u D) → Snk y s (B ++ bndB ty P) → (P.length ≠ 0 → fJ y 45 13 = V (mnF ty P (P.length - 1)) ∧ fJ y 45 14 = V (mxF ty P (P.length - 1))) → KP κ' ≤ k + KP κ2 → NP κ' ≤ n + NP κ2 → post k n y) → (((fI x 45 12) ≤ 0 → post kb nb x) ∧ (¬ (fI x 45 12) ≤ 0 → wp_Wrt_findBounds (fun (x67 : St) => (∃ q68 : Nat, fR x67 45 0 = some q68 ∧ (∃ q69 : Nat, fR x67 45 6 = some q69 ∧ (∃ k70 n71 k72 n73 : Nat, k70 + k72 = kb ∧ n71 + n73 = nb ∧ wp_Snk_putTold (fun (x74 : St) => (∃ q75 : Nat, fR x74 45 0 = some q75 ∧ (∃ q76 : Nat, fR x74 45 6 = some q76 ∧ (∃ k77 n78 k79 n80 : Nat, k77 + k79 = k72 ∧ n78 + n80 = n73 ∧ wp_Snk_putTold (fun (x81 : St) => post k79 n80 x81) q75 (nI ty) (stC q76 12) (fJ x74 45 14) k77 n78 x74)))) q68 (nI ty) (stC q69 12) (fJ x67 45 13) k70 n71 x67)))) 45 (nI ty) x)) := by
  by_cases cP : P.length = 0
  · refine ⟨κ, Kle.refl hκ, fun κ2 m2 x post kb nb hK hC h hp h0 hk hn p => ?_⟩
    rw [hp.2.2.1]
    refine br_t (by rw [cP]; decide) (p x kb nb hK hC (FX.refl x) (fun _ _ _ _ z => z) ?_ (fun z => absurd cP z) hk hn)
    unfold bndB
    rw [if_pos cP, List.append_nil]
    exact h
  · have m1 := mnF_le (ty := ty) (P := P) (P.length - 1)
    have m2 := mxF_le (ty := ty) (P := P) (P.length - 1)
    obtain ⟨κ1, w1, f1⟩ := (k_putTold (κ := κ) (s := s) (r := 42) (ty := ty) (v := V (mnF ty P (P.length - 1))) (p := pvd P (mnF ty P (P.length - 1))) (B := B) hs st42 hty hκ).k
    obtain ⟨κ3, w2, f2⟩ := (k_putTold (κ := κ1) (s := s) (r := 42) (ty := ty) (v := V (mxF ty P (P.length - 1))) (p := pvd P (mxF ty P (P.length - 1))) (B := B ++ toldB ty (pvd P (mnF ty P (P.length - 1)))) hs st42 hty (fun t ht => (w1 t ht).2)).k
    refine ⟨κ3, w1.trans w2, fun κ2 w3 x post kb nb hK hC h hp h0 hk hn p => ?_⟩
    have hl := hp.2.2.2
    rw [hp.2.2.1]
    refine br_f (by (first | omega | (simp (disch := omega) only [Int32.le_iff_toInt_le, Int32.lt_iff_toInt_lt, z_eq, z_in, nI_toInt, z_cl, z_m1, z_sg, z_255, Int32.reduceToInt] <;> omega) | (simp only [Int32.le_iff_toInt_le, Int32.lt_iff_toInt_lt, z_eq, z_in, z_add, z_sub, z_mul, z_neg, z_nI, z_cl, z_sg, z_255, z_lit, Int32.reduceToInt] <;> omega))) (c_bounds hty hp cP (fun y y1 y2 y3 y4 y5 => ?_))
    have fy := y1.p hs
    have hKy : SkS y := by
      have e1 : ∀ o k, fI y o k = fI x o k := fun o k => by show y.1 o k = _; rw [y3.1]
      have e2 : ∀ o k, fR y o k = fR x o k := fun o k => by show y.2.2.1 o k = _; rw [y3.2]
      have e3 : ∀ o, fA y o = fA x o := fun o => by show y.2.2.2.1 o = _; rw [y3.2]
      have e4 : ∀ o, fN y o = fN x o := fun o => by show y.2.2.2.2.2 o = _; rw [y3.2]
      unfold SkS
      simp only [e1, e2, e3, e4]
      exact hK
    have hCy : Caps y κ := hC.fr (fun t _ => by show y.2.2.1 t 0 = _; rw [y3.2]) (fun q => by show y.2.2.2.2.2 q = _; rw [y3.2])
    have sn : ∀ u, SnkId u → ∀ D, Snk x u D → Snk y u D := fun u hu D hD => hD.fr hK hu y1 (fun _ _ => id) id id (fun _ _ => id) (fun _ z => z.elim)
    have r1 : fR y 45 0 = some s := by show y.2.2.1 45 0 = _; rw [y3.2]; exact h0
    refine ⟨s, r1, 36, y2.2.1.2.1, ?_⟩
    rw [y4]
    refine f1 κ2 (w2.trans w3) y _ kb nb hKy hCy (sn s hs B h) (y2.2.1.2.2.2 _ (by omega)) hk hn (fun z k n z1 z2 z3 z4 b1 b2 => ?_)
    have hz := PgC.p hs hKy (z3.p1 hs) y2
    have r2 : fR z 45 0 = some s := (z3.2.2.1 45 0 id (fun c => (snk45 hs).1 c.1.symm)).trans r1
    have j1 : fJ z 45 13 = V (mnF ty P (P.length - 1)) := (z3.2.1 45 13 id).trans y4
    have j2 : fJ z 45 14 = V (mxF ty P (P.length - 1)) := (z3.2.1 45 14 id).trans y5
    refine ⟨s, r2, 36, hz.2.1.2.1, ?_⟩
    rw [j2]
    refine f2 κ2 w3 z _ k n z1 z2 z4 (hz.2.1.2.2.2 _ (by omega)) b1 b2 (fun v k' n' v1 v2 v3 v4 d1 d2 => p v k' n' v1 v2 (FPg.trans hs fy (FPg.trans hs (z3.p1 hs) (v3.p1 hs))) (fun u hu hne D hD => Snk.k hs hu hne z1 v3 (Snk.k hs hu hne hKy z3 (sn u hu D hD))) ?_ (fun _ => ⟨(v3.2.1 45 13 id).trans j1, (v3.2.1 45 14 id).trans j2⟩) d1 d2)
    unfold bndB
    rw [if_neg cP, ← List.append_assoc]
    exact v4
