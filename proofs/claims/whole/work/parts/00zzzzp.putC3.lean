/-! putChunk of the class, whole -/
theorem k_putChunk {κ : Nat → Nat} {s t b sc c f ty mr md most : Nat} {E : List SEn} {VL : Nat → Int64} {Z B D : List Nat} {A Bq : List (List Nat)} (hs : SnkId s) (hsn : s ≠ 52 ∧ s ≠ 55 ∧ s ≠ 58 ∧ s ≠ 49) (htb : TB t b) (hty : ty < 4) (hmr : mr ≤ 17) (hmd : md ≤ 17) (hm : most ≤ 1000) (hA : A.length ≤ 2000) (hA0 : A.length ≠ 0) (hZ : ∀ i, i ∈ Z → okI ty E i) (hH : ∀ r, r ∈ A ++ Bq → HdI E r) (hS : ∀ i, i ∈ (A ++ Bq).flatten → i ∈ Z) (hT : ∀ r, r ∈ A → txI E r ≤ 20000) (hAl : A.flatten.length ≤ 10000) (hB : B.length ≤ roomOf s) (hκ : ∀ t, SnkId t → κ t ≤ roomOf t) :
    ∃ κ' t' b', Kle κ κ' ∧ TB t' b' ∧ ∀ (x : St) (post : Int32 → St → Prop) kb nb, SkS x → Caps x κ → CkI x s sc c f ty mr md E VL Z → TbI x t b → Chn (fA x 41) (fA x 61 c) (A ++ Bq).flatten → Snk x s B → Snk x 49 D → KP κ ≤ kb + KP κ' → NP κ ≤ nb + NP κ' →
      (∀ y, SkS y → Caps y κ' → FWc s x y → TbI y t' b' → fI y s 5 = 0 → fI y s 6 = 0 → fI y 49 5 = 0 → fI y 49 6 = 0 → (∀ C m, chX ty mr md most A.length (A.map (List.map (en E))) = some (C, m) → roomOf s < (B ++ C).length ∨ 40000 < (D ++ chBX ty md C.length m (A.flatten.map (en E))).length) → post 0 y) →
      (∀ y C m, chX ty mr md most A.length (A.map (List.map (en E))) = some (C, m) → (B ++ C).length ≤ roomOf s → (D ++ chBX ty md C.length m (A.flatten.map (en E))).length ≤ 40000 → SkS y → Caps y κ' → FWc s x y → CkI y s sc c f ty mr md E VL Z → TbI y t' b' → Chn (fA y 41) (fA y 61 c) Bq.flatten → (∀ u, u ≠ c → fA y 61 u = fA x 61 u) → Snk y s (B ++ C) → Snk y 49 (D ++ chBX ty md C.length m (A.flatten.map (en E))) → post 1 y) →
      wp_Wrt_putChunk post 45 (nI c) (nI A.length) (nI most) kb nb x := by
  have hHA : ∀ r, r ∈ A → HdI E r := fun r hr => hH r (List.mem_append_left _ hr)
  have hAZ : ∀ i, i ∈ A.flatten → i ∈ Z := fun i hi => hS i (by rw [List.flatten_append]; exact List.mem_append_left _ hi)
  have hBZ : ∀ i, i ∈ Bq.flatten → i ∈ Z := fun i hi => hS i (by rw [List.flatten_append]; exact List.mem_append_right _ hi)
  obtain ⟨κ1, t1, b1, l9, l11, m1, htb1, lo1, f1⟩ := k_chunkL (s := s) (sc := sc) (c := c) (f := f) (ty := ty) (mr := mr) (md := md) (most := most) (R := A.length) (E := E) (VL := VL) (Z := Z) (Bq := Bq) hs ⟨hsn.1, hsn.2.1, hsn.2.2.1⟩ hty hmr hmd hm hA hZ (fun r hr => hH r (List.mem_append_right _ hr)) hBZ A.length A [] κ t b B 0 0 0 0 (Nat.le_refl _) htb hκ (fun z => absurd rfl z) (fun i hi => absurd hi (by simp)) hHA hAZ hT (by omega) (by rw [List.length_nil]; omega) (Nat.le_refl _)
  have ent : ∀ (x : St) (post : Int32 → St → Prop) kb nb, CkI x s sc c f ty mr md E VL Z → Snk x s B → wl_Wrt_putChunk_49 post (A.length + 1) 45 (nI c) (nI A.length) (nI most) (nI ty) (nI B.length) 0 0 0 0 0 (nI A.length) 0 kb nb x → wp_Wrt_putChunk post 45 (nI c) (nI A.length) (nI most) kb nb x := fun x post kb nb hI hsB h => by
    obtain ⟨h1, h2, h3, ⟨s1, s2, s3, s4, s5, s6, s7, s8, s9, s10, s11, s12, s13, s14, s15⟩, -⟩ := hI
    unfold wp_Wrt_putChunk
    refine ⟨sc, s1, sc, s1, vp_in_nI (by omega) (by omega), ?_⟩
    rw [show rA x (stC sc 10) (nI c) = nI f from by rw [rA_nI (by omega)]; exact s13]
    refine ⟨vp_in_nI (by omega) (by omega), nm_r (e' := nI ty) (by rw [rA_nI (by omega)]; exact s14) ⟨s, h2, nm_r (e' := nI B.length) (hsB.ct hB) ⟨_, h⟩⟩⟩
  have bad : (∀ C m, chX ty mr md most A.length (A.map (List.map (en E))) = some (C, m) → roomOf s < (B ++ C).length) → ∃ κ' t' b', Kle κ κ' ∧ TB t' b' ∧ ∀ (x : St) (post : Int32 → St → Prop) kb nb, SkS x → Caps x κ → CkI x s sc c f ty mr md E VL Z → TbI x t b → Chn (fA x 41) (fA x 61 c) (A ++ Bq).flatten → Snk x s B → Snk x 49 D → KP κ ≤ kb + KP κ' → NP κ ≤ nb + NP κ' → (∀ y, SkS y → Caps y κ' → FWc s x y → TbI y t' b' → fI y s 5 = 0 → fI y s 6 = 0 → fI y 49 5 = 0 → fI y 49 6 = 0 → (∀ C m, chX ty mr md most A.length (A.map (List.map (en E))) = some (C, m) → roomOf s < (B ++ C).length ∨ 40000 < (D ++ chBX ty md C.length m (A.flatten.map (en E))).length) → post 0 y) → wp_Wrt_putChunk post 45 (nI c) (nI A.length) (nI most) kb nb x := fun hb => by
    refine ⟨κ1, t1, b1, m1, htb1, fun x post kb nb hK hC hI hTb hCh hsB hsD hk hn p0 => ent x post kb nb hI hsB ?_⟩
    refine f1 κ1 (Kle.refl (fun t ht => (m1 t ht).2)) x post (nI B.length) kb nb hK hC hI hTb hCh hsB hk hn (fun y y1 y2 y3 y4 y5 y6 y7 => ?_) (fun y k n C m l13 l14 y1 y2 y3 y4 y5 y6 y7 y8 y9 y10 y11 y12 => ?_)
    · have s9 := Snk.ck hs id49 (fun z => hsn.2.2.2 z.symm) (by decide) hK y3 hsD
      exact p0 y y1 y2 (y3.w hs) y4 y5 y6 s9.1 s9.2.1 (fun C m hz => Or.inl (y7 C m hz))
    · exfalso
      have := hb C m y1
      rcases y10 with z | z
      · omega
      · exact hA0 z
  cases e : chX ty mr md most A.length (A.map (List.map (en E))) with
  | none =>
    obtain ⟨κ', t', b', q1, q2, q3⟩ := bad (fun C m hz => absurd (e.symm.trans hz) (by simp))
    refine ⟨κ', t', b', q1, q2, fun x post kb nb hK hC hI hTb hCh hsB hsD hk hn p0 p1 => q3 x post kb nb hK hC hI hTb hCh hsB hsD hk hn (fun y y1 y2 y3 y4 y5 y6 y7 y8 y9 => p0 y y1 y2 y3 y4 y5 y6 y7 y8 (fun C m hz => absurd hz (by simp)))⟩
  | some w =>
    obtain ⟨C, m⟩ := w
    by_cases co : roomOf s < (B ++ C).length
    · obtain ⟨κ', t', b', q1, q2, q3⟩ := bad (fun C' m' hz => by rw [e] at hz; simp only [Option.some.injEq, Prod.mk.injEq] at hz; rw [← hz.1]; exact co)
      refine ⟨κ', t', b', q1, q2, fun x post kb nb hK hC hI hTb hCh hsB hsD hk hn p0 p1 => q3 x post kb nb hK hC hI hTb hCh hsB hsD hk hn (fun y y1 y2 y3 y4 y5 y6 y7 y8 y9 => p0 y y1 y2 y3 y4 y5 y6 y7 y8 (fun C' m' hz => y9 C' m' (e.trans hz)))⟩
    · have hlo := lo1 (C, m) e (Or.inl (by show (B ++ C).length ≤ _; omega))
      rw [List.nil_append] at hlo
      have rb := room_bd s
      have bcl : (B ++ C).length = B.length + C.length := List.length_append
      have cm : m ≤ A.length := by
        have key : ∀ d X C m, chX ty mr md most d X = some (C, m) → m ≤ d := by
          intro d
          induction d with
          | zero => intro X C m h; simp only [chX, Option.some.injEq, Prod.mk.injEq] at h; omega
          | succ d ih =>
            intro X C m h
            simp only [chX] at h
            split at h
            · simp only [Option.some.injEq, Prod.mk.injEq] at h; omega
            · split at h
              · exact absurd h (by simp)
              · cases e2 : chX ty mr md most d (X.drop (flX most true 0 0 X)) with
                | none => rw [e2] at h; exact absurd h (by simp)
                | some z =>
                  rw [e2] at h
                  simp only [Option.some.injEq, Prod.mk.injEq] at h
                  have := ih _ z.1 z.2 e2
                  omega
        exact key _ _ _ _ e
      obtain ⟨κ3, m3, f3⟩ := k_tail (κ := κ1) (ty := ty) (md := md) (n := C.length) (m := m) (E := E) (VL := VL) (L := A.flatten) (Z := Z) (D := D) (l9 := l9) (l11 := l11) hty hlo hZ hAZ hAl (by omega) (by omega) (fun t ht => (m1 t ht).2)
      refine ⟨κ3, t1, b1, m1.trans m3, htb1, fun x post kb nb hK hC hI hTb hCh hsB hsD hk hn p0 p1 => ent x post kb nb hI hsB ?_⟩
      refine f1 κ3 m3 x post (nI B.length) kb nb hK hC hI hTb hCh hsB hk hn (fun y y1 y2 y3 y4 y5 y6 y7 => ?_) (fun y k n C' m' l13 l14 y1 y2 y3 y4 y5 y6 y7 y8 y9 y10 y11 y12 => ?_)
      · exfalso
        have := y7 C m e
        omega
      · rw [e] at y1
        simp only [Option.some.injEq, Prod.mk.injEq] at y1
        obtain ⟨rfl, rfl⟩ := y1
        rw [List.nil_append, Nat.zero_add]
        have s9 := Snk.ck hs id49 (fun z => hsn.2.2.2 z.symm) (by decide) hK y4 hsD
        refine f3 y post s c B.length _ _ l13 l14 k n y2 y3 s9 y5.2.1 (by rw [← bcl]; exact y9.ct (by omega)) y5.2.2.1 y5.2.2.2.2.2.2.2.1 y5.2.2.2.2.2.2.2.2 y11 y12 (fun z z1 z2 z3 z4 => ?_)
        have zw := z3.w49 hs
        have z41 := (st41.keep id49 y2 z3).1
        have z61 := (st61.keep id49 y2 z3).1
        have zs := Snk.k id49 hs hsn.2.2.2 y2 z3 y9
        by_cases cd : 40000 < (D ++ chBX ty md C.length m (A.flatten.map (en E))).length
        · rw [if_pos cd]
          refine p0 z z1 z2 (FWc.trans hs (y4.w hs) zw) (y6.k49 htb1 y2 z3) zs.1 zs.2.1 z4.1 z4.2.1 (fun C' m' hz => Or.inr ?_)
          simp only [Option.some.injEq, Prod.mk.injEq] at hz
          rw [← hz.1, ← hz.2]
          exact cd
        · rw [if_neg cd]
          exact p1 z C m rfl (by omega) (by omega) z1 z2 (FWc.trans hs (y4.w hs) zw) (y5.w hs y2 zw) (y6.k49 htb1 y2 z3) (by rw [z41, z61]; exact y7) (fun u hu => by rw [z61]; exact y8 u hu) zs z4
