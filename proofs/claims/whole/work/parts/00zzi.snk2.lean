/-! sinks: room, bytes, numbers -/
def Sn (x : St) (s : Nat) (B : List Nat) : Prop := (B.length ≤ roomOf s ∧ HL x s B) ∨ (roomOf s < B.length ∧ fI x s 2 = 1 ∧ ∃ c q, fI x s 1 = nI c ∧ fR x s 0 = some q ∧ c ≤ fN x q)
def roomK (κ : Nat → Nat) (s : Nat) (B : List Nat) (m : Nat) : Nat → Nat := if B.length + m ≤ roomOf s then kup κ s (grC (κ s) (roomOf s) B.length m) else κ
theorem setI_skS {x : St} {s k : Nat} {v : Int32} (hK : SkS x) (hk : k ≠ 3) : SkS (setI x s k v) := by
  intro t ht
  obtain ⟨a0, q, a1⟩ := hK t ht
  refine ⟨?_, q, a1⟩
  show (if t = s ∧ 3 = k then v else x.1 t 3) = _
  rw [if_neg (fun z => hk z.2.symm)]
  exact a0
theorem setI_frK {x : St} {s k : Nat} {v : Int32} (hk : k = 1 ∨ k = 2) : FrK s x (setI x s k v) := by
  refine ⟨fun o j e => ?_, rfl, fun _ _ _ => rfl, fun _ _ _ => ⟨rfl, rfl⟩, rfl, fun _ _ => rfl, fun _ e => Or.inl e⟩
  show (if o = s ∧ j = k then v else x.1 o j) = _
  rw [if_neg (fun z => e ⟨z.1, by rw [z.2]; exact hk⟩)]
theorem Caps.i {x : St} {κ : Nat → Nat} {o k : Nat} {v : Int32} (h : Caps x κ) : Caps (setI x o k v) κ := h
theorem Sn.cap {x : St} {κ : Nat → Nat} {s : Nat} {B : List Nat} (hs : SnkId s) (hK : SkS x) (hC : Caps x κ) (h : Sn x s B) (hB : B.length ≤ roomOf s) : HL x s B ∧ ∃ q, fR x s 0 = some q ∧ fN x q = κ s ∧ B.length ≤ κ s ∧ 512 ≤ κ s ∧ κ s ≤ roomOf s ∧ sb_Fit (fA x q) := by
  rcases h with h | h
  · refine ⟨h.2, ?_⟩
    obtain ⟨q, q1, q2⟩ := hC s hs
    obtain ⟨-, q', b1, -, b3, b4, b5, -⟩ := hK s hs
    obtain ⟨-, -, -, q2', c1, c2, -⟩ := h.2
    rw [q1] at b1 c1
    rw [← Option.some.inj b1] at b3 b4 b5
    rw [← Option.some.inj c1] at c2
    exact ⟨q, q1, q2, by omega, by omega, by omega, b5⟩
  · exact absurd h.1 (by omega)
theorem roomK_le {x : St} {κ : Nat → Nat} {s m : Nat} {B : List Nat} (hs : SnkId s) (hK : SkS x) (hC : Caps x κ) (h : Sn x s B) : Kle κ (roomK κ s B m) := by
  unfold roomK
  split
  · rename_i c
    obtain ⟨-, q, q1, q2, q3, q4, q5, -⟩ := h.cap hs hK hC (by omega)
    have g := gr_mono (m := m) q3 q5 (by omega) (by omega)
    exact kup_le (hC.room hK) g.2.2.2.2 g.2.2.2.1
  · exact Kle.refl (hC.room hK)
theorem k_hasRoom {post : Int32 → St → Prop} {x : St} {κ : Nat → Nat} {s m kb nb : Nat} {B : List Nat} (hs : SnkId s) (hK : SkS x) (hC : Caps x κ) (h : Sn x s B) (hm : m < 2 ^ 30)
    (hk : KP κ ≤ kb + KP (roomK κ s B m)) (hn : NP κ ≤ nb + NP (roomK κ s B m))
    (p1 : B.length + m ≤ roomOf s → ∀ y q, SkS y → Caps y (roomK κ s B m) → FrK s x y → HL y s B → fR y s 0 = some q → B.length + m ≤ fN y q → post 1 y)
    (p0 : roomOf s < B.length + m → ∀ y, SkS y → Caps y (roomK κ s B m) → FrK s x y → fI y s 2 = 1 → (∃ c q, fI y s 1 = nI c ∧ fR y s 0 = some q ∧ c ≤ fN y q) → post 0 y) : wp_Snk_hasRoom post s (nI m) kb nb x := by
  have hR := (room_bd s).2
  obtain ⟨a0, q, a1, -, a3, a4, a5, -⟩ := hK s hs
  by_cases c : B.length + m ≤ roomOf s
  · have eK : roomK κ s B m = kup κ s (grC (κ s) (roomOf s) B.length m) := by unfold roomK; rw [if_pos c]
    obtain ⟨hH, q', q1, q2, q3, q4, q5, q6⟩ := h.cap hs hK hC (by omega)
    rw [a1] at q1
    have q1 := Option.some.inj q1
    subst q1
    rw [eK] at hk hn p1
    obtain ⟨u1, u2⟩ := kup_P (κ := κ) (N := grC (κ s) (roomOf s) B.length m) hs
    have ek : kq κ s = kpot (κ s) (roomOf s) := rfl
    have en : nq κ s = npot (κ s) (roomOf s) := rfl
    refine c_hasRoom (m := m) (room := roomOf s) hH.2.2.1 hH.2.1 a0 a1 (by omega) (by omega) (by omega) hR (by omega) a5 (fun d => p1 c x q hK ?_ (FrK.refl s x) hH a1 (by omega)) (fun d b hb hl => ?_) (fun d => ?_)
    · have e : grC (κ s) (roomOf s) B.length m = κ s := by unfold grC; rw [if_pos (by omega)]
      rw [e]
      intro t ht
      by_cases z : t = s
      · subst z; rw [kup_at]; exact ⟨q, a1, q2⟩
      · rw [kup_ne z]; exact hC t ht
    · rw [q2] at d ⊢
      obtain ⟨g1, g2, g3, -, -⟩ := gr_pot q3 q5 (by omega) (show m ≤ roomOf s - B.length by omega) d
      obtain ⟨o1, o2, o3, o4, o5⟩ := grow_ok (N := grC (κ s) (roomOf s) B.length m) hK hs a1 hb hl (by omega) g2
      rw [q2] at o1 o2 o3 o4 o5
      refine p1 c _ b o1 (hC.k hK hs o2 o3 o4) o2 ⟨hH.1, hH.2.1, hH.2.2.1, b, o3, by rw [o4]; omega, fun i hi => ?_⟩ o3 (by rw [o4]; exact g3)
      obtain ⟨-, -, -, q2', c1, c2, c3⟩ := hH
      rw [a1] at c1
      have c1 := Option.some.inj c1
      subst c1
      rw [o5 i (by omega)]
      exact c3 i hi
    · rw [q2] at d ⊢
      obtain ⟨g1, g2, g3, g4, g5⟩ := gr_pot q3 q5 (by omega) (show m ≤ roomOf s - B.length by omega) d
      constructor
      · omega
      · omega
  · have eK : roomK κ s B m = κ := by unfold roomK; rw [if_neg c]
    rw [eK] at p0
    have fin : (∃ c q, fI x s 1 = nI c ∧ fR x s 0 = some q ∧ c ≤ fN x q) → j_Snk_hasRoom_20 post s (nI m) kb nb x := by
      rintro ⟨c', q', z1, z2, z3⟩
      unfold j_Snk_hasRoom_20
      exact nm_e (p0 (by omega) _ (setI_skS hK (by decide)) hC (setI_frK (Or.inr rfl)) gI_at ⟨c', q', by rw [gI_ne (by decide)]; exact z1, z2, z3⟩)
    unfold wp_Snk_hasRoom
    rcases h with ⟨h1, h2⟩ | ⟨h1, h2, h3⟩
    · obtain ⟨-, g1, g2, q', g3, g4, -⟩ := h2
      refine bn_t g2 (br_f ?_ (fin ⟨_, q', g1, g3, g4⟩))
      rw [a0, g1, nI_sub h1]
      have : roomOf s - B.length < m := by omega
      have : roomOf s - B.length < 2 ^ 30 := by omega
      (first | omega | (simp (disch := omega) only [Int32.le_iff_toInt_le, Int32.lt_iff_toInt_lt, z_eq, z_in, nI_toInt, z_cl, z_m1, z_sg, z_255, Int32.reduceToInt] <;> omega) | (simp only [Int32.le_iff_toInt_le, Int32.lt_iff_toInt_lt, z_eq, z_in, z_add, z_sub, z_mul, z_neg, z_nI, z_cl, z_sg, z_255, z_lit, Int32.reduceToInt] <;> omega))
    · exact bn_f (by rw [h2]; decide) (fin h3)
def App (κ : Nat → Nat) (s : Nat) (B C : List Nat) (Pre : St → Prop) (W : (St → Prop) → Nat → Nat → St → Prop) : Prop := ∃ κ', Kle κ κ' ∧ ∀ x post kb nb, SkS x → Caps x κ → Snk x s B → Pre x → KP κ ≤ kb + KP κ' → NP κ ≤ nb + NP κ' → (∀ y, SkS y → Caps y κ' → FK s x y → Snk y s (B ++ C) → post y) → W post kb nb x
theorem App.of {κ : Nat → Nat} {s : Nat} {B C : List Nat} {Pre : St → Prop} {W : (St → Prop) → Nat → Nat → St → Prop} (hκ : ∀ t, SnkId t → κ t ≤ roomOf t) (h : ∀ x, SkS x → Caps x κ → Snk x s B → Pre x → App κ s B C Pre W) : App κ s B C Pre W := by
  by_cases c : ∃ x, SkS x ∧ Caps x κ ∧ Snk x s B ∧ Pre x
  · obtain ⟨x, h1, h2, h3, h4⟩ := c
    exact h x h1 h2 h3 h4
  · exact ⟨κ, Kle.refl hκ, fun x post kb nb h1 h2 h3 h4 => absurd ⟨x, h1, h2, h3, h4⟩ c⟩
theorem Snk.sn {x : St} {s : Nat} {B : List Nat} (h : Snk x s B) : Sn x s B := h.2.2
theorem frK5 {s k : Nat} {x y : St} (h : FrK s x y) (hk : k ≠ 1 ∧ k ≠ 2) : fI y s k = fI x s k := h.1 s k (by omega)
/-- one byte behind those that are there -/
theorem HL.put {x : St} {s q b : Nat} {B : List Nat} {w : Int32} (hK : SkS x) (hs : SnkId s) (h : HL x s B) (hq : fR x s 0 = some q) (hc : B.length + 1 ≤ fN x q) (hb : b < 256) (hw : w = (nI b).toInt8.toInt32) :
    SkS (setI (setA x q (nI B.length) w) s 1 (nI (B.length + 1))) ∧ FrK s x (setI (setA x q (nI B.length) w) s 1 (nI (B.length + 1))) ∧ HL (setI (setA x q (nI B.length) w) s 1 (nI (B.length + 1))) s (B ++ [b]) := by
  subst hw
  have hv : (0 : Int32) ≤ nI b ∧ nI b ≤ 255 := by constructor <;> (first | omega | (simp (disch := omega) only [Int32.le_iff_toInt_le, Int32.lt_iff_toInt_lt, z_eq, z_in, nI_toInt, z_cl, z_m1, z_sg, z_255, Int32.reduceToInt] <;> omega) | (simp only [Int32.le_iff_toInt_le, Int32.lt_iff_toInt_lt, z_eq, z_in, z_add, z_sub, z_mul, z_neg, z_nI, z_cl, z_sg, z_255, z_lit, Int32.reduceToInt] <;> omega))
  obtain ⟨o1, o2, o3⟩ := put_ok hK hs hq h.2 (by omega) hv
  refine ⟨o1, o2, fun z hz => ?_, ?_⟩
  · rcases List.mem_append.mp hz with w | w
    · exact h.1 z w
    · rw [List.mem_singleton] at w; omega
  · have hl : (B ++ [b]).length = B.length + 1 := by rw [List.length_append]; rfl
    rw [hl]
    refine o3.cg (fun i hi => ?_)
    rw [bT_app]
    by_cases e : i = B.length
    · rw [if_pos e, if_neg (by omega), e, Nat.sub_self]; rfl
    · rw [if_neg e, if_pos (by omega)]
theorem Caps.fr {x y : St} {κ : Nat → Nat} (h : Caps x κ) (h3 : ∀ s, SnkId s → fR y s 0 = fR x s 0) (hn : ∀ q, fN y q = fN x q) : Caps y κ := fun s hs => by
  obtain ⟨q, q1, q2⟩ := h s hs
  exact ⟨q, (h3 s hs).trans q1, (hn q).trans q2⟩
theorem k_put {κ : Nat → Nat} {s b : Nat} {B : List Nat} {w : Int32} {Pre : St → Prop} (hs : SnkId s) (hκ : ∀ t, SnkId t → κ t ≤ roomOf t) (hb : b < 256) (hw : w.toInt8.toInt32 = (nI b).toInt8.toInt32) : App κ s B [b] Pre (fun post kb nb x => wp_Snk_put post s w kb nb x) := by
  refine App.of hκ (fun x0 k0 c0 s0 _ => ⟨roomK κ s B 1, roomK_le hs k0 c0 s0.sn, fun x post kb nb hK hC h _ hk hn p => ?_⟩)
  have hl : (B ++ [b]).length = B.length + 1 := by rw [List.length_append]; rfl
  unfold wp_Snk_put
  refine ⟨kb, nb, 0, 0, by omega, by omega, ?_⟩
  refine k_hasRoom (m := 1) hs hK hC h.sn (by decide) hk hn (fun c y q y1 y2 y3 y4 y5 y6 => br_f (by decide) ⟨q, y5, ?_⟩) (fun c y y1 y2 y3 y4 y5 => br_t rfl (p y y1 y2 y3.x ⟨(frK5 y3 (by decide)).trans h.1, (frK5 y3 (by decide)).trans h.2.1, Or.inr ⟨by rw [hl]; omega, y4, y5⟩⟩))
  have e1 := y4.2.1
  have hq2 : fN y q < 2 ^ 31 := by
    obtain ⟨-, q', a1, -, -, a4, -⟩ := y1 s hs
    rw [y5] at a1
    rw [← Option.some.inj a1] at a4
    have := (room_bd s).2
    omega
  obtain ⟨o1, o2, o3⟩ := HL.put (w := vp_nar .byte w.toInt8.toInt32) y1 hs y4 y5 y6 hb (by
    show w.toInt8.toInt32.toInt8.toInt32 = _
    rw [hw]
    (first | omega | (simp (disch := omega) only [Int32.le_iff_toInt_le, Int32.lt_iff_toInt_lt, z_eq, z_in, nI_toInt, z_cl, z_m1, z_sg, z_255, Int32.reduceToInt] <;> omega) | (simp only [Int32.le_iff_toInt_le, Int32.lt_iff_toInt_lt, z_eq, z_in, z_add, z_sub, z_mul, z_neg, z_nI, z_cl, z_sg, z_255, z_lit, Int32.reduceToInt] <;> omega)))
  rw [e1]
  refine ⟨vp_in_nI (by omega) hq2, nm_e (nm_r (e' := setI (setA y q (nI B.length) (vp_nar .byte w.toInt8.toInt32)) s 1 (nI (B.length + 1))) (by rw [show fI (setA y q (nI B.length) (vp_nar .byte w.toInt8.toInt32)) s 1 = fI y s 1 from rfl, e1, nI_1]) (p _ o1 y2 (FK.trans hs y3.x o2.x) ⟨?_, ?_, Or.inl ⟨by rw [hl]; exact c, o3⟩⟩))⟩
  · exact (frK5 o2 (by decide)).trans ((frK5 y3 (by decide)).trans h.1)
  · exact (frK5 o2 (by decide)).trans ((frK5 y3 (by decide)).trans h.2.1)
