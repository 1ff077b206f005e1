/-! the class: bytes of a row behind others; how many they are in front -/
def SrC (x : St) (r a : Nat) (C : List Nat) : Prop := a + C.length ≤ fN x r ∧ fN x r < 2 ^ 31 ∧ (∀ b, b ∈ C → b < 256) ∧ ∀ i, i < C.length → fA x r (a + i) = (nI (C.getD i 0)).toInt8.toInt32
theorem setW_at {x : St} {o : Nat} {f : Nat → Int32} : fA (setW x o f) o = f := by show (if o = o then f else _) = f; rw [if_pos rfl]
theorem setW_ne {x : St} {o a : Nat} {f : Nat → Int32} (h : a ≠ o) : fA (setW x o f) a = fA x a := by show (if a = o then f else _) = _; rw [if_neg h]
/-- a sink's own row is set: what it holds -/
theorem HL.set {x : St} {s q : Nat} {B D : List Nat} {f : Nat → Int32} (hK : SkS x) (hs : SnkId s) (h : HL x s B) (hq : fR x s 0 = some q) (hc : D.length ≤ fN x q) (hF : sb_Fit f) (hb : ∀ b, b ∈ D → b < 256) (hD : ∀ i, i < D.length → f i = (nI (D.getD i 0)).toInt8.toInt32) :
    SkS (setI (setW x q f) s 1 (nI D.length)) ∧ FrK s x (setI (setW x q f) s 1 (nI D.length)) ∧ HL (setI (setW x q f) s 1 (nI D.length)) s D := by
  refine ⟨?_, ?_, hb, gI_at, ?_, q, hq, hc, fun i hi => ?_⟩
  · intro t ht
    obtain ⟨a0, q', a1, a2, a3, a4, a5, a6⟩ := hK t ht
    refine ⟨?_, q', a1, a2, a3, a4, ?_, a6⟩
    · show (if t = s ∧ 3 = 1 then _ else x.1 t 3) = _
      rw [if_neg (by omega)]; exact a0
    · show sb_Fit (fA (setW x q f) q')
      by_cases e : q' = q
      · rw [e, setW_at]; exact hF
      · rw [setW_ne e]; exact a5
  · refine ⟨fun o k e => ?_, rfl, fun _ _ _ => rfl, fun r _ e => ⟨?_, rfl⟩, rfl, fun _ _ => rfl, fun _ e => Or.inl e⟩
    · show (if o = s ∧ k = 1 then _ else x.1 o k) = _
      rw [if_neg (fun z => e ⟨z.1, Or.inl z.2⟩)]
    · show fA (setW x q f) r = _
      exact setW_ne (fun z => e (by rw [z]; exact hq))
  · rw [gI_ne (by decide)]; exact h.2.2.1
  · show fA (setW x q f) q i = _ ∧ _
    rw [setW_at, hD i hi]
    have := hb _ (getD_mem hi)
    unfold bT
    refine ⟨rfl, ?_, ?_⟩ <;> (first | omega | (simp (disch := omega) only [Int32.le_iff_toInt_le, Int32.lt_iff_toInt_lt, z_eq, z_in, nI_toInt, z_cl, z_m1, z_sg, z_255, Int32.reduceToInt] <;> omega) | (simp only [Int32.le_iff_toInt_le, Int32.lt_iff_toInt_lt, z_eq, z_in, z_add, z_sub, z_mul, z_neg, z_nI, z_cl, z_sg, z_255, z_lit, Int32.reduceToInt] <;> omega))
theorem cap31 {x : St} {s q : Nat} (hK : SkS x) (hs : SnkId s) (hq : fR x s 0 = some q) : fN x q < 2 ^ 31 ∧ sb_Fit (fA x q) := by
  obtain ⟨-, q', a1, -, -, a4, a5, -⟩ := hK s hs
  rw [hq] at a1
  rw [← Option.some.inj a1] at a4 a5
  have := (room_bd s).2
  exact ⟨by omega, a5⟩
theorem HL.row {x : St} {s q : Nat} {B : List Nat} (h : HL x s B) (hq : fR x s 0 = some q) : ∀ i, i < B.length → fA x q i = (nI (B.getD i 0)).toInt8.toInt32 := by
  obtain ⟨-, -, -, q', c1, -, c3⟩ := h
  rw [hq] at c1
  rw [← Option.some.inj c1] at c3
  exact fun i hi => (c3 i hi).1
theorem k_putAll {κ : Nat → Nat} {s r a : Nat} {B C : List Nat} (hs : SnkId s) (hκ : ∀ t, SnkId t → κ t ≤ roomOf t) (hC : C.length < 2 ^ 30) (ha : a < 2 ^ 30) : App κ s B C (fun x => SrC x r a C ∧ lv x r ∧ fR x s 0 ≠ some r) (fun post kb nb x => wp_Snk_putAll post s r (nI a) (nI C.length) kb nb x) := by
  refine App.of hκ (fun x0 k0 c0 s0 _ => ⟨roomK κ s B C.length, roomK_le hs k0 c0 s0.sn, fun x post kb nb hK hCp h hp hk hn p => ?_⟩)
  obtain ⟨⟨p1, p2, p3, p4⟩, p5, p6⟩ := hp
  have hl : (B ++ C).length = B.length + C.length := List.length_append
  show wp_Snk_putAll post s r (nI a) (nI C.length) kb nb x
  unfold wp_Snk_putAll
  refine ⟨kb, nb, 0, 0, by omega, by omega, ?_⟩
  refine k_hasRoom (m := C.length) hs hK hCp h.sn hC hk hn (fun c y q y1 y2 y3 y4 y5 y6 => br_f (by decide) ⟨q, y5, ?_⟩) (fun c y y1 y2 y3 y4 y5 => br_t rfl (p y y1 y2 y3.x ⟨(frK5 y3 (by decide)).trans h.1, (frK5 y3 (by decide)).trans h.2.1, Or.inr ⟨by rw [hl]; omega, y4, y5⟩⟩))
  have er := y3.2.2.2.1 r p5.live p6
  have cq := cap31 y1 hs y5
  have e1 := y4.2.1
  have nl : ∀ n : Nat, n < 2 ^ 31 → ¬ (nI n : Int32) < 0 := fun n hn => nI_pos hn
  rw [e1, nI_clamp (by omega), nI_clamp (by omega), nI_clamp (by omega)]
  have fr : ∀ i, i < C.length → fA y r (a + i) = (nI (C.getD i 0)).toInt8.toInt32 := fun i hi => by
    rw [show fA y r = fA x r from er.1]; exact p4 i hi
  refine ⟨⟨nl a (by omega), nl _ (by omega), nl _ (by omega), by rw [show fN y r = fN x r from er.2]; exact p1, y6, fun i hi => by rw [fr i hi]; exact pk_fb _⟩, nm_e ?_⟩
  have hF : sb_Fit (va_cpy (fA y r) (fA y q) a B.length C.length) := fun j => by
    by_cases z : B.length ≤ j ∧ j < B.length + C.length
    · rw [pk_cpy_in z.1 z.2, fr _ (by omega)]; exact pk_fb _
    · rw [pk_cpy_out (by omega)]; exact cq.2 j
  have hb' : ∀ b, b ∈ B ++ C → b < 256 := fun b hb => by
    rcases List.mem_append.mp hb with z | z
    · exact y4.1 b z
    · exact p3 b z
  have hD : ∀ i, i < (B ++ C).length → va_cpy (fA y r) (fA y q) a B.length C.length i = (nI ((B ++ C).getD i 0)).toInt8.toInt32 := fun i hi => by
    rw [hl] at hi
    by_cases z : i < B.length
    · rw [pk_cpy_out (Or.inl z), getD_app1 z]; exact y4.row y5 i z
    · rw [pk_cpy_in (by omega) (by omega), getD_app2 (by omega), fr _ (by omega)]
  obtain ⟨o1, o2, o3⟩ := HL.set (D := B ++ C) (f := va_cpy (fA y r) (fA y q) a B.length C.length) y1 hs y4 y5 (by rw [hl]; exact y6) hF hb' hD
  rw [hl] at o1 o2 o3
  refine nm_r (e' := setI (setW y q (va_cpy (fA y r) (fA y q) a B.length C.length)) s 1 (nI (B.length + C.length))) (by rw [show fI (setW y q (va_cpy (fA y r) (fA y q) a B.length C.length)) s 1 = fI y s 1 from rfl, e1, nI_add]) (p _ o1 y2 (FK.trans hs y3.x o2.x) ⟨?_, ?_, Or.inl ⟨by rw [hl]; exact c, o3⟩⟩)
  · exact (frK5 o2 (by decide)).trans ((frK5 y3 (by decide)).trans h.1)
  · exact (frK5 o2 (by decide)).trans ((frK5 y3 (by decide)).trans h.2.1)
/-- a VARINT within the room that there is -/
theorem v_in {s : Nat} {l1 : Int64} (hs : SnkId s) : ∀ d k v (x : St) (post : St → Prop) (q c kb nb : Nat), k + d = 10 → 1 ≤ d → v < 128 ^ d → v < 2 ^ 64 → SkS x → fI x s 2 = 0 → fI x s 1 = nI c → fR x s 0 = some q → c + (varF d v).length ≤ fN x q → fN x q ≤ roomOf s →
    (∀ y, SkS y → FrK s x y → fI y s 2 = 0 → fI y s 1 = nI (c + (varF d v).length) → fR y s 0 = some q → fN y q = fN x q → (∀ i, i < c ∨ c + (varF d v).length ≤ i → fA y q i = fA x q i) → (∀ i, i < (varF d v).length → fA y q (c + i) = (nI ((varF d v).getD i 0)).toInt8.toInt32) → (∀ t, SnkId t → fR y t 0 = fR x t 0) → (∀ r, fN y r = fN x r) → post y) → wl_Snk_putVarint_5 post d s l1 (lN v) (nI k) kb nb x := by
  intro d
  induction d with
  | zero => intro k v x post q c kb nb _ h; omega
  | succ d ih =>
    intro k v x post q c kb nb hk _ hv hv2 hK h2 h1 hq hc hcap p
    have hk10 : ¬ (10 : Int32) ≤ nI k := by (first | omega | (simp (disch := omega) only [Int32.le_iff_toInt_le, Int32.lt_iff_toInt_lt, z_eq, z_in, nI_toInt, z_cl, z_m1, z_sg, z_255, Int32.reduceToInt] <;> omega) | (simp only [Int32.le_iff_toInt_le, Int32.lt_iff_toInt_lt, z_eq, z_in, z_add, z_sub, z_mul, z_neg, z_nI, z_cl, z_sg, z_255, z_lit, Int32.reduceToInt] <;> omega))
    obtain ⟨a0, -⟩ := hK s hs
    have hR := (room_bd s).2
    have c1 := (cap31 hK hs hq).2
    have vl := @varF_pos d v
    show j_Snk_putVarint_5 post _ s l1 (lN v) (nI k) kb nb x
    unfold j_Snk_putVarint_5
    refine br_f hk10 ⟨kb, nb, 0, 0, by omega, by omega, ?_⟩
    refine c_hasRoom (m := 1) (room := roomOf s) h2 h1 a0 hq (by omega) hcap (by omega) hR (by omega) c1 (fun _ => br_f (by decide) ?_) (fun d => by omega) (fun d => by omega)
    -- one byte
    have step : ∀ (b : Nat) (w : Int32), b < 256 → w.toInt8.toInt32 = (nI b).toInt8.toInt32 → ∀ K : St → Prop, (∀ z, SkS z → FrK s x z → fI z s 2 = 0 → fI z s 1 = nI (c + 1) → fR z s 0 = some q → fN z q = fN x q → (∀ i, i ≠ c → fA z q i = fA x q i) → fA z q c = (nI b).toInt8.toInt32 → (∀ t, SnkId t → fR z t 0 = fR x t 0) → (∀ r, fN z r = fN x r) → K z) → (vp_in (fI x s 1) (fN x q) ∧ ∀ x1 : St, x1 = setA x q (fI x s 1) (vp_nar .byte w.toInt8.toInt32) → (∀ x2 : St, x2 = setI x1 s 1 ((fI x1 s 1) + 1) → K x2)) := by
      intro b w hb hw K hKK
      rw [h1]
      have e3 : vp_nar .byte w.toInt8.toInt32 = (nI b).toInt8.toInt32 := by
        show w.toInt8.toInt32.toInt8.toInt32 = _
        rw [hw]
        (first | omega | (simp (disch := omega) only [Int32.le_iff_toInt_le, Int32.lt_iff_toInt_lt, z_eq, z_in, nI_toInt, z_cl, z_m1, z_sg, z_255, Int32.reduceToInt] <;> omega) | (simp only [Int32.le_iff_toInt_le, Int32.lt_iff_toInt_lt, z_eq, z_in, z_add, z_sub, z_mul, z_neg, z_nI, z_cl, z_sg, z_255, z_lit, Int32.reduceToInt] <;> omega))
      rw [e3]
      refine ⟨vp_in_nI (by omega) (by omega), nm_e (nm_r (e' := setI (setA x q (nI c) (nI b).toInt8.toInt32) s 1 (nI (c + 1))) (by rw [show fI (setA x q (nI c) (nI b).toInt8.toInt32) s 1 = fI x s 1 from rfl, h1, nI_1]) (hKK _ ?_ ?_ ?_ gI_at hq rfl (fun i hi => ?_) ?_ (fun _ _ => rfl) (fun _ => rfl)))⟩
      · refine setI_skS ?_ (by decide)
        intro t ht
        obtain ⟨b0, q', b1, b2, b3, b4, b5, b6⟩ := hK t ht
        refine ⟨b0, q', b1, b2, b3, b4, ?_, b6⟩
        by_cases e : q' = q
        · rw [e, gA_at]; exact sb_fitU c1 (pk_fb _)
        · rw [gA_ne e]; exact b5
      · refine ⟨fun o j e => ?_, rfl, fun _ _ _ => rfl, fun r _ e => ⟨?_, rfl⟩, rfl, fun _ _ => rfl, fun _ e => Or.inl e⟩
        · show (if o = s ∧ j = 1 then _ else x.1 o j) = _
          rw [if_neg (fun z => e ⟨z.1, Or.inl z.2⟩)]
        · show fA (setA x q (nI c) _) r = _
          exact gA_ne (fun z => e (by rw [z]; exact hq))
      · rw [gI_ne (by decide)]; exact h2
      · show fA (setA x q (nI c) _) q i = _
        rw [gA_at, nI_clamp (by omega), upd_ne hi]
      · show fA (setA x q (nI c) _) q c = _
        rw [gA_at, nI_clamp (by omega), upd_at]
    rw [sh7 hv2]
    by_cases cv : v < 128
    · have ev : varF (d + 1) v = [v] := by simp only [varF]; rw [if_pos cv]
      rw [ev] at p hc
      rw [Nat.div_eq_of_lt cv]
      refine bn_t ((lg_cmp_eq _ _).mpr rfl) ?_
      unfold j_Snk_putVarint_34 j_Snk_putVarint_61
      refine ⟨q, hq, br_f (by decide) (step v _ (by omega) ?_ _ (fun z z1 z2 z3 z4 z5 z6 z7 z8 z9 z10 => br_f (by decide) (p z z1 z2 z3 z4 z5 z6 (fun i hi => z7 i (by simp at hi; omega)) (fun i hi => ?_) z9 z10)))⟩
      · rw [an7 hv2, Nat.mod_eq_of_lt cv, show (0 : Int32).toInt64 = 0 from rfl, Int64.or_zero, lN_i]
      · have : i = 0 := by simp at hi; omega
        subst this
        exact z8
    · have ev : varF (d + 1) v = [v % 128 + 128] ++ varF d (v / 128) := by simp only [varF]; rw [if_neg cv]; rfl
      have el : ([v % 128 + 128] ++ varF d (v / 128)).length = 1 + (varF d (v / 128)).length := by rw [List.length_append]; rfl
      have hd : 1 ≤ d := by
        rcases Nat.eq_zero_or_pos d with z | z
        · rw [z] at hv; omega
        · exact z
      rw [ev, el] at p hc
      refine bn_f (fun z => ?_) ?_
      · have z := (lN0 (by omega)).mp ((lg_cmp_eq _ _).mp z)
        omega
      unfold j_Snk_putVarint_34 j_Snk_putVarint_61
      refine ⟨q, hq, br_t rfl (step (v % 128 + 128) _ (by omega) ?_ _ (fun z z1 z2 z3 z4 z5 z6 z7 z8 z9 z10 => br_t rfl (nm_r (e' := lN (v / 128)) (sh7 hv2) ?_)))⟩
      · rw [an7 hv2, show (128 : Int32).toInt64 = lN (1 * 128) from rfl, g_or' (k := 7) (by decide) (Nat.mod_lt _ (by decide)) (by omega), lN_i]
      · rw [nI_1]
        refine ih (k + 1) (v / 128) z post q (c + 1) 0 0 (by omega) hd (by rw [Nat.pow_succ] at hv; exact Nat.div_lt_of_lt_mul (by rw [Nat.mul_comm]; exact hv)) (by omega) z1 z3 z4 z5 (by rw [z6]; omega) (by rw [z6]; exact hcap) (fun w w1 w2 w3 w4 w5 w6 w7 w8 w9 w10 => p w w1 (z2.trans w2) w3 (by rw [w4]; congr 1; omega) w5 (w6.trans z6) (fun i hi => ?_) (fun i hi => ?_) (fun t ht => (w9 t ht).trans (z9 t ht)) (fun r => (w10 r).trans (z10 r)))
        · rw [w7 i (by omega), z7 i (by omega)]
        · cases i with
          | zero => rw [Nat.add_zero, w7 c (by omega)]; exact z8
          | succ i => rw [show c + (i + 1) = c + 1 + i by omega]; exact w8 i (by omega)
theorem varF_lead {v : Nat} (h : v < 2 ^ 21) : (varB v).length = if v < 128 then 1 else if v < 16384 then 2 else 3 := by
  unfold varB
  by_cases c1 : v < 128
  · rw [if_pos c1]; simp only [varF]; rw [if_pos c1]; rfl
  · rw [if_neg c1]
    by_cases c2 : v < 16384
    · rw [if_pos c2]; simp only [varF]; rw [if_neg c1, if_pos (by omega)]; rfl
    · rw [if_neg c2]; simp only [varF]; rw [if_neg c1, if_neg (by omega), if_pos (by omega)]; rfl
theorem HL.mk' {x : St} {s q : Nat} {D : List Nat} (hb : ∀ b, b ∈ D → b < 256) (h1 : fI x s 1 = nI D.length) (h2 : fI x s 2 = 0) (hq : fR x s 0 = some q) (hc : D.length ≤ fN x q) (hD : ∀ i, i < D.length → fA x q i = (nI (D.getD i 0)).toInt8.toInt32) : HL x s D := by
  refine ⟨hb, h1, h2, q, hq, hc, fun i hi => ?_⟩
  rw [hD i hi]
  have := hb _ (getD_mem hi)
  unfold bT
  refine ⟨rfl, ?_, ?_⟩ <;> (first | omega | (simp (disch := omega) only [Int32.le_iff_toInt_le, Int32.lt_iff_toInt_lt, z_eq, z_in, nI_toInt, z_cl, z_m1, z_sg, z_255, Int32.reduceToInt] <;> omega) | (simp only [Int32.le_iff_toInt_le, Int32.lt_iff_toInt_lt, z_eq, z_in, z_add, z_sub, z_mul, z_neg, z_nI, z_cl, z_sg, z_255, z_lit, Int32.reduceToInt] <;> omega))
/-- how many bytes there are from a place on comes in front of them -/
theorem k_tell {κ : Nat → Nat} {s : Nat} {B C : List Nat} (hs : SnkId s) (hκ : ∀ t, SnkId t → κ t ≤ roomOf t) :
    ∃ κ', Kle κ κ' ∧ ∀ x post kb nb l1, SkS x → Caps x κ → Snk x s (B ++ C) → (B.length ≤ roomOf s → l1 = nI B.length) → KP κ ≤ kb + KP κ' → NP κ ≤ nb + NP κ' → (∀ y, SkS y → Caps y κ' → FK s x y → Snk y s (B ++ (varB C.length ++ C)) → post y) → wp_Snk_tellSizeFrom post s l1 kb nb x := by
  by_cases ex : ¬ ∃ x, SkS x ∧ Caps x κ ∧ Snk x s (B ++ C)
  · exact ⟨κ, Kle.refl hκ, fun x post kb nb l1 h1 h2 h3 => absurd ⟨x, h1, h2, h3⟩ ex⟩
  obtain ⟨x0, k0, c0, s0⟩ := Classical.not_not.mp ex
  have hR := (room_bd s).2
  have hl : (B ++ C).length = B.length + C.length := List.length_append
  have hl2 : (B ++ (varB C.length ++ C)).length = B.length + ((varB C.length).length + C.length) := by rw [List.length_append, List.length_append]
  by_cases cB : roomOf s < (B ++ C).length
  · refine ⟨κ, Kle.refl hκ, fun x post kb nb l1 hK hC h _ hk hn p => ?_⟩
    have eK : ∀ m, roomK κ s (B ++ C) m = κ := fun m => by unfold roomK; rw [if_neg (by omega)]
    have fin : ∀ v : Int32, ∀ m, m < 2 ^ 30 → j_Snk_tellSizeFrom_30 post s l1 v (nI m) kb nb x := fun v m hm => by
      unfold j_Snk_tellSizeFrom_30
      refine ⟨0, 0, kb, nb, by omega, by omega, ?_⟩
      refine k_hasRoom (m := m) hs hK hC h.sn hm (by rw [eK]; omega) (by rw [eK]; omega) (fun c => by omega) (fun c y y1 y2 y3 y4 y5 => bn_t rfl (p y y1 (by rw [eK] at y2; exact y2) y3.x ⟨(frK5 y3 (by decide)).trans h.1, (frK5 y3 (by decide)).trans h.2.1, Or.inr ⟨by omega, y4, y5⟩⟩))
    unfold wp_Snk_tellSizeFrom
    refine nm_e ⟨fun _ => ⟨fun _ => fin _ 3 (by decide), fun _ => fin _ 2 (by decide)⟩, fun _ => fin _ 1 (by decide)⟩
  have hB : B.length + C.length ≤ roomOf s := by omega
  have el := varF_lead (v := C.length) (by omega)
  refine ⟨roomK κ s (B ++ C) (varB C.length).length, roomK_le hs k0 c0 s0.sn, fun x post kb nb l1 hK hC h hl1 hk hn p => ?_⟩
  have hl1 := hl1 (by omega)
  subst hl1
  have hH : HL x s (B ++ C) := by
    rcases h.2.2 with z | z
    · exact z.2
    · exact absurd z.1 cB
  have e1 := hH.2.1
  rw [hl] at e1
  have fin : ∀ m, m = (varB C.length).length → j_Snk_tellSizeFrom_30 post s (nI B.length) (nI C.length) (nI m) kb nb x := fun m hm => by
    have hm2 : m ≤ 3 := by rw [hm, el]; split; decide; split <;> decide
    have hm1 : 1 ≤ m := by rw [hm, el]; split; decide; split <;> decide
    rw [← hm] at hl2 hk hn p
    unfold j_Snk_tellSizeFrom_30
    refine ⟨kb, nb, 0, 0, by omega, by omega, ?_⟩
    refine k_hasRoom (m := m) hs hK hC h.sn (by omega) hk hn (fun c y q y1 y2 y3 y4 y5 y6 => bn_f (by decide) ⟨q, y5, q, y5, ?_⟩) (fun c y y1 y2 y3 y4 y5 => bn_t rfl (p y y1 y2 y3.x ⟨(frK5 y3 (by decide)).trans h.1, (frK5 y3 (by decide)).trans h.2.1, Or.inr ⟨by omega, y4, y5⟩⟩))
    rw [hl] at c y6
    have cq := cap31 y1 hs y5
    have nl : ∀ n : Nat, n < 2 ^ 31 → ¬ (nI n : Int32) < 0 := fun n hn => nI_pos hn
    rw [nI_add, nI_clamp (by omega), nI_clamp (by omega), nI_clamp (by omega)]
    have rw0 := y4.row y5
    rw [hl] at rw0
    have fr : ∀ i, i < C.length → fA y q (B.length + i) = (nI (C.getD i 0)).toInt8.toInt32 := fun i hi => by
      rw [rw0 _ (by omega), getD_app2 (by omega), Nat.add_sub_cancel_left]
    refine ⟨⟨nl _ (by omega), nl _ (by omega), nl _ (by omega), by omega, by omega, fun i hi => by rw [fr i hi]; exact pk_fb _⟩, nm_e (nm_e ?_)⟩
    have hF : sb_Fit (va_cpy (fA y q) (fA y q) B.length (B.length + m) C.length) := fun j => by
      by_cases z : B.length + m ≤ j ∧ j < B.length + m + C.length
      · rw [pk_cpy_in z.1 z.2]; exact cq.2 _
      · rw [pk_cpy_out (by omega)]; exact cq.2 j
    have hbB : ∀ b, b ∈ B → b < 256 := fun b hb => y4.1 b (List.mem_append_left _ hb)
    have hbC : ∀ b, b ∈ C → b < 256 := fun b hb => y4.1 b (List.mem_append_right _ hb)
    obtain ⟨o1, o2, o3⟩ := HL.set (D := B) (f := va_cpy (fA y q) (fA y q) B.length (B.length + m) C.length) y1 hs y4 y5 (by omega) hF hbB (fun i hi => by
      rw [pk_cpy_out (Or.inl (by omega)), rw0 i (by omega), getD_app1 hi])
    obtain ⟨-, q', a1, -, -, a4, -, -⟩ := y1 s hs
    rw [y5] at a1
    rw [← Option.some.inj a1] at a4
    have eL : (nI C.length).toInt64 = lN C.length := nI_l (by omega)
    rw [eL]
    refine ⟨0, 0, 0, 0, by omega, by omega, 10, ?_⟩
    refine v_in (l1 := lN C.length) hs 10 0 C.length _ _ q B.length 0 0 rfl (by decide) (by omega) (by omega) o1 o3.2.2.1 o3.2.1 y5 (by show B.length + (varB C.length).length ≤ fN y q; omega) a4 ?_
    intro z z1 z2 z3 z4 z5 z6 z7 z8 z9 z10
    have ev : (varF 10 C.length) = varB C.length := rfl
    rw [ev] at z4 z7 z8
    rw [← hm] at z4 z7 z8
    have z6' : fN z q = fN y q := z6
    rw [nI_add, show B.length + m + C.length = (B ++ (varB C.length ++ C)).length by rw [hl2]; omega]
    refine nm_e (p _ (setI_skS z1 (by decide)) ?_ ?_ ⟨?_, ?_, Or.inl ⟨by omega, HL.mk' (q := q) ?_ gI_at (by rw [gI_ne (by decide)]; exact z3) z5 (by show _ ≤ fN z q; omega) (fun i hi => ?_)⟩⟩)
    · exact Caps.fr y2 (fun t ht => z9 t ht) z10
    · exact FK.trans hs y3.x (FK.trans hs o2.x (FK.trans hs z2.x (setI_frK (Or.inl rfl)).x))
    · rw [gI_ne (by decide)]; exact (frK5 z2 (by decide)).trans ((frK5 o2 (by decide)).trans ((frK5 y3 (by decide)).trans h.1))
    · rw [gI_ne (by decide)]; exact (frK5 z2 (by decide)).trans ((frK5 o2 (by decide)).trans ((frK5 y3 (by decide)).trans h.2.1))
    · intro b hb
      rcases List.mem_append.mp hb with w | w
      · exact hbB b w
      · rcases List.mem_append.mp w with w | w
        · exact varB_by w
        · exact hbC b w
    · show fA z q i = _
      by_cases i1 : i < B.length
      · rw [z7 i (Or.inl i1), getD_app1 i1]
        show fA (setW y q _) q i = _
        rw [setW_at, pk_cpy_out (Or.inl (by omega)), rw0 i (by omega), getD_app1 i1]
      · rw [getD_app2 (by omega)]
        by_cases i2 : i < B.length + m
        · rw [getD_app1 (by omega)]
          have := z8 (i - B.length) (by omega)
          rw [show B.length + (i - B.length) = i by omega] at this
          exact this
        · rw [getD_app2 (by omega), z7 i (Or.inr (by omega))]
          show fA (setW y q _) q i = _
          rw [setW_at, pk_cpy_in (by omega) (by omega), show B.length + (i - (B.length + m)) = B.length + (i - B.length - m) by omega, fr _ (by omega), hm]
  unfold wp_Snk_tellSizeFrom
  rw [e1, nI_sub (by omega), Nat.add_sub_cancel_left]
  by_cases d1 : C.length < 128
  · exact nm_e (br_f (by (first | omega | (simp (disch := omega) only [Int32.le_iff_toInt_le, Int32.lt_iff_toInt_lt, z_eq, z_in, nI_toInt, z_cl, z_m1, z_sg, z_255, Int32.reduceToInt] <;> omega) | (simp only [Int32.le_iff_toInt_le, Int32.lt_iff_toInt_lt, z_eq, z_in, z_add, z_sub, z_mul, z_neg, z_nI, z_cl, z_sg, z_255, z_lit, Int32.reduceToInt] <;> omega))) (fin 1 (by rw [el, if_pos d1])))
  · by_cases d2 : C.length < 16384
    · exact nm_e (br_t (by (first | omega | (simp (disch := omega) only [Int32.le_iff_toInt_le, Int32.lt_iff_toInt_lt, z_eq, z_in, nI_toInt, z_cl, z_m1, z_sg, z_255, Int32.reduceToInt] <;> omega) | (simp only [Int32.le_iff_toInt_le, Int32.lt_iff_toInt_lt, z_eq, z_in, z_add, z_sub, z_mul, z_neg, z_nI, z_cl, z_sg, z_255, z_lit, Int32.reduceToInt] <;> omega))) (br_f (by (first | omega | (simp (disch := omega) only [Int32.le_iff_toInt_le, Int32.lt_iff_toInt_lt, z_eq, z_in, nI_toInt, z_cl, z_m1, z_sg, z_255, Int32.reduceToInt] <;> omega) | (simp only [Int32.le_iff_toInt_le, Int32.lt_iff_toInt_lt, z_eq, z_in, z_add, z_sub, z_mul, z_neg, z_nI, z_cl, z_sg, z_255, z_lit, Int32.reduceToInt] <;> omega))) (fin 2 (by rw [el, if_neg d1, if_pos d2]))))
    · exact nm_e (br_t (by (first | omega | (simp (disch := omega) only [Int32.le_iff_toInt_le, Int32.lt_iff_toInt_lt, z_eq, z_in, nI_toInt, z_cl, z_m1, z_sg, z_255, Int32.reduceToInt] <;> omega) | (simp only [Int32.le_iff_toInt_le, Int32.lt_iff_toInt_lt, z_eq, z_in, z_add, z_sub, z_mul, z_neg, z_nI, z_cl, z_sg, z_255, z_lit, Int32.reduceToInt] <;> omega))) (br_t (by (first | omega | (simp (disch := omega) only [Int32.le_iff_toInt_le, Int32.lt_iff_toInt_lt, z_eq, z_in, nI_toInt, z_cl, z_m1, z_sg, z_255, Int32.reduceToInt] <;> omega) | (simp only [Int32.le_iff_toInt_le, Int32.lt_iff_toInt_lt, z_eq, z_in, z_add, z_sub, z_mul, z_neg, z_nI, z_cl, z_sg, z_255, z_lit, Int32.reduceToInt] <;> omega))) (fin 3 (by rw [el, if_neg d1, if_neg d2]))))
