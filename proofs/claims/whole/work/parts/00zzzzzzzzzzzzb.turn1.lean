/-! turns that only tell -/
section
variable {x x' y y' : St} {κ : Nat → Nat} {l1 l2 l3 : Int32}
theorem IoC.refl (x : St) : IoC x x := ⟨fun _ _ => rfl, rfl, fun _ _ => ⟨rfl, fun _ _ => rfl⟩, fun _ _ _ _ => ⟨rfl, rfl⟩⟩
theorem WrC.refl (x : St) : WrC x x := ⟨fun _ _ => rfl, rfl, fun _ _ _ _ => rfl⟩
theorem ScC'.refl (x : St) : ScC' x x := ⟨fun _ _ => rfl, fun _ _ _ => rfl, fun _ _ _ => rfl, rfl⟩
theorem OqC.refl (x : St) : OqC x x := ⟨fun _ _ _ => rfl, fun _ _ _ => rfl, fun _ _ => rfl, fun _ _ => rfl⟩
theorem FtC'.refl (x : St) : FtC' x x := ⟨rfl, rfl⟩
theorem OuC.refl (x : St) : OuC x x := ⟨rfl, fun _ _ => rfl, fun _ _ => ⟨rfl, rfl⟩⟩
/-- the model's frames, out of one -/
def MkM (I A L : Nat → Prop) (y y' : St) : Prop := Fg (fun o k => o = 0 ∧ I k) no2 no2 A L y y'
theorem IoM.f {I A L : Nat → Prop} (f : MkM I A L y y') (hI : ∀ k, k = 3 ∨ k = 4 ∨ k = 65 → ¬ I k) (hA : ∀ a, a = 1 ∨ a = 2 ∨ a = 41 → ¬ A a) : IoM y y' := ⟨fun k hk => f.1 0 k (fun z => hI k hk z.2), fun a ha => f.2.2.2.1 a (hA a ha)⟩
theorem ScM'.f {I A L : Nat → Prop} (f : MkM I A L y y') (hI : ∀ k, k = 14 ∨ k = 34 ∨ k = 35 ∨ k = 36 → ¬ I k) (hA : ∀ a, 3 ≤ a ∧ a ≤ 11 ∨ 18 ≤ a ∧ a ≤ 24 → ¬ A a) (hL : ¬ L 25) : ScM' y y' := ⟨fun k hk => f.1 0 k (fun z => hI k hk z.2), fun a i l1 l2 _ => by rw [show fA y' a = fA y a from f.2.2.2.1 a (hA a (Or.inl ⟨l1, l2⟩))], fun a l1 l2 => f.2.2.2.1 a (hA a (Or.inr ⟨l1, l2⟩)), f.2.2.2.2.1 25 hL⟩
theorem OqM.f {I A L : Nat → Prop} (hLM : LM y) (f : MkM I A L y y') (hI : ∀ k, 82 ≤ k ∧ k ≤ 94 ∧ k ≠ 83 ∧ k ≠ 88 ∨ k = 117 ∨ k = 119 ∨ k = 120 ∨ k = 121 ∨ k = 161 ∨ k = 163 ∨ k = 164 → ¬ I k) (hA : ∀ a, 3 ≤ a ∧ a ≤ 11 ∨ a = 53 ∨ 55 ≤ a ∧ a ≤ 74 ∨ 79 ≤ a ∧ a ≤ 92 ∨ 104 ≤ a → ¬ A a) (hL : ∀ a, a = 54 ∨ a = 93 ∨ a = 114 → ¬ L a) : OqM y y' := ⟨fun a => (congrFun f.2.2.2.2.2 a).trans (hLM a), fun k hk => f.1 0 k (fun z => hI k hk z.2), fun a i l1 l2 _ _ => by rw [show fA y' a = fA y a from f.2.2.2.1 a (hA a (Or.inl ⟨l1, l2⟩))], fun a ha => f.2.2.2.1 a (hA a (Or.inr ha)), fun a ha => f.2.2.2.2.1 a (hL a ha)⟩
theorem FtM'.f {I A L : Nat → Prop} (f : MkM I A L y y') (hI : ¬ I 83) (hA : ¬ A 52) : FtM' y y' := ⟨f.2.2.2.1 52 hA, f.1 0 83 (fun z => hI z.2)⟩
theorem OuM.f {I A L : Nat → Prop} (f : MkM I A L y y') (hI : ¬ I 113) (hA : ¬ A 75) : OuM y y' := ⟨f.1 0 113 (fun z => hI z.2), f.2.2.2.1 75 hA⟩
theorem BaM'.f {I A L : Nat → Prop} (f : MkM I A L y y') (h33 : ¬ A 33) (h34 : ¬ A 34) : BaM' y y' := ⟨fun a => congrFun f.2.2.2.2.2 a, by rw [show fA y' 33 = fA y 33 from f.2.2.2.1 33 h33], by rw [show fA y' 34 = fA y 34 from f.2.2.2.1 34 h34]⟩
theorem Inv.m0 (h : Inv κ x y) : Inv κ x (setI y 0 0 0) := by
  obtain ⟨b1, b2, b3, b4, b5, b6, b7, b8⟩ := h
  have f : MkM (fun k => k = 0) no1 no1 y (setI y 0 0 0) := Fg.i ⟨rfl, rfl⟩
  refine ⟨b1, b2.k (BaM'.f f (fun z => z) (fun z => z)), b3.k (IoC.refl x) (IoM.f f (fun k hk z => by omega) (fun _ _ z => z)), b4, b5.k (ScC'.refl x) (ScM'.f f (fun k hk z => by omega) (fun _ _ z => z) (fun z => z)), b6.k (OqC.refl x) (OqM.f b2.1 f (fun k hk z => by omega) (fun _ _ z => z) (fun _ _ z => z)), b7.k (FtC'.refl x) (FtM'.f f (by decide) (fun z => z)), b8.k (OuC.refl x) (OuM.f f (by decide) (fun z => z))⟩
theorem J_records (h : Inv κ x y) : wp_V_records (fun r x' => wp_Mod_records (fun r' y' => r = r' ∧ Inv κ x' y') y) 0 x := by
  have h0 := h.m0
  obtain ⟨b1, b2, b3, b4, ⟨sc, sp, F, E, RS, h5⟩, b6, b7, b8⟩ := h
  obtain ⟨-, -, -, -, -, -, a7, -, -, -, a11⟩ := h5
  exact k_records a7.1 (s_records a11.2.2.1 ⟨rfl, h0⟩)
theorem J_size (h : Inv κ x y) : wp_V_size (fun r x' => wp_Mod_size (fun r' y' => r = r' ∧ Inv κ x' y') y) 0 x := by
  have h0 := h.m0
  obtain ⟨b1, b2, ⟨t, i, f, w, c, n, m, U, T, B, h3⟩, b4, b5, b6, b7, b8⟩ := h
  obtain ⟨-, -, ⟨-, -, c3, -⟩, -, -, -, e3, -, -, -, -, g5, -⟩ := h3
  exact k_sizeV c3 e3.1 (s_size g5 ⟨rfl, h0⟩)
theorem J_byteOf (h : Inv κ x y) : wp_V_byteOf (fun r x' => wp_Mod_byteOf (fun r' y' => r = r' ∧ Inv κ x' y') l1 y) 0 l1 x := by
  have h0 := h.m0
  obtain ⟨b1, b2, ⟨t, i, f, w, c, n, m, U, T, B, h3⟩, b4, b5, b6, b7, b8⟩ := h
  obtain ⟨⟨-, -, tf, -⟩, -, ⟨-, -, c3, -⟩, -, -, -, ⟨e1, -, q, e2, e3, e4⟩, gB, gm, -, -, g5, g6⟩ := h3
  obtain ⟨-, -, q31⟩ := b1.row tf.s e2
  exact k_byteOf gm c3 e2 e1 e3 q31 gB (fun k hk => (e4 k hk).1) (s_byteOf b2.1 gm g5 g6 ⟨rfl, h0⟩)
theorem J_fault (h : Inv κ x y) : wp_V_fault (fun r x' => wp_Mod_fault (fun r' y' => r = r' ∧ Inv κ x' y') l1 y) 0 l1 x := by
  have h0 := h.m0
  obtain ⟨b1, b2, b3, b4, b5, b6, b7, b8⟩ := h
  refine k_fault b1.1 (s_fault b2.1 ⟨?_, h0⟩)
  rw [b7.1 0 (by decide), b7.1 1 (by decide), b7.1 2 (by decide)]
theorem J_opened (h : Inv κ x y) : wp_V_opened (fun r x' => wp_Mod_opened (fun r' y' => r = r' ∧ Inv κ x' y') l1 y) 0 l1 x := by
  have h0 := h.m0
  obtain ⟨b1, b2, b3, b4, b5, ⟨op, H, G, K, CK, b, dE, Pl, hq, Q, qo, qs, kp, on, P, a, c, la, h6, h7, h8⟩, b7, b8⟩ := h
  obtain ⟨o1, o2, o3, o4⟩ := h6
  exact k_opened o1 (fun ho => (o4 ho).1) (s_opened b2.1 o2 (fun ho => (o4 ho).2.2.1) ⟨rfl, h0⟩)
theorem J_output (h : Inv κ x y) : wp_V_output (fun r x' => wp_Mod_output (fun r' y' => r = r' ∧ Inv κ x' y') l1 y) 0 l1 x := by
  have h0 := h.m0
  obtain ⟨b1, b2, b3, b4, b5, b6, b7, ⟨O, o1, o2, o3⟩⟩ := h
  exact k_output b1.2.1 o1 o3 (s_output b2.1 o2 o3 ⟨rfl, h0⟩)
theorem AwP.id {op on : Bool} {H : List SFd} {G : List Nat} {CK : List (List PgW)} {b : Nat} {Pl : List PV} {P : Qy} {a c la : Nat} (h : AwP x y op H G CK b Pl on P a c la) : AId a ∧ AId c ∧ a ≠ c := by
  have := h.1
  unfold AId
  omega
theorem J_row (h : Inv κ x y) : wp_V_row (fun r x' => wp_Mod_row (fun r' y' => r = r' ∧ Inv κ x' y') l1 y) 0 l1 x := by
  have h0 := h.m0
  obtain ⟨b1, b2, b3, b4, b5, ⟨op, H, G, K, CK, b, dE, Pl, hq, Q, qo, qs, kp, on, P, a, c, la, h6, h7, h8⟩, b7, b8⟩ := h
  obtain ⟨i1, -⟩ := h8.id
  obtain ⟨-, a12, -, -, -, aC, aM⟩ := h8
  exact k_rowQ b1.1 i1 a12 h6.2.2.1 aC (s_rowQ b2.1 aM ⟨rfl, h0⟩)
theorem AnM.i16 {on : Bool} {H : List SFd} {G : List Nat} {CK : List (List PgW)} {Pl : List PV} {P : Qy} {la : Nat} (h : AnM y on la H G CK Pl P) : on = true → P.1.length ≤ 16 := fun ho => (h.2 ho).2.2.1.1.1.2.1
theorem OpP.rd {op : Bool} {H : List SFd} {G : List Nat} {K : List ChT} {CK : List (List PgW)} {b dE : Nat} {Pl : List PV} (h : OpP x y op H G K CK b dE Pl) (ho : op = true) : RdM y H G CK Pl ∧ WfS H ∧ OkO H G CK ∧ CK.length = ncol H * G.length := by
  obtain ⟨k1, k2, k3, k4, k5, k6, k7⟩ := h.2.2.2 ho
  exact ⟨k4.1, k1.2.1, k5, by rw [Nat.mul_comm]; exact k1.2.2.2.2.2.1⟩
theorem J_kind (h : Inv κ x y) : wp_V_kind (fun r x' => wp_Mod_kind (fun r' y' => r = r' ∧ Inv κ x' y') l1 l2 y) 0 l1 l2 x := by
  have h0 := h.m0
  obtain ⟨b1, b2, b3, b4, b5, ⟨op, H, G, K, CK, b, dE, Pl, hq, Q, qo, qs, kp, on, P, a, c, la, h6, h7, h8⟩, b7, b8⟩ := h
  obtain ⟨i1, -⟩ := h8.id
  obtain ⟨-, a12, -, -, aop, aC, aM⟩ := h8
  exact k_kindQ b1.1 i1 a12 aM.i16 aC (s_kindQ b2.1 aM (fun ho => h6.rd (aop ho).1) ⟨rfl, h0⟩)
theorem J_value (h : Inv κ x y) : wp_V_value (fun r x' => wp_Mod_value (fun r' y' => r = r' ∧ Inv κ x' y') l1 l2 y) 0 l1 l2 x := by
  have h0 := h.m0
  obtain ⟨b1, b2, b3, b4, b5, ⟨op, H, G, K, CK, b, dE, Pl, hq, Q, qo, qs, kp, on, P, a, c, la, h6, h7, h8⟩, b7, b8⟩ := h
  obtain ⟨i1, -⟩ := h8.id
  obtain ⟨-, a12, -, -, aop, aC, aM⟩ := h8
  exact k_valueQ b1.1 i1 a12 aM.i16 h6.2.2.1 (fun ho => (aop ho).2.2.1) aC (s_valueQ b2.1 aM (fun ho => h6.rd (aop ho).1) ⟨rfl, h0⟩)
theorem J_letter (h : Inv κ x y) : wp_V_letter (fun r x' => wp_Mod_letter (fun r' y' => r = r' ∧ Inv κ x' y') l1 l2 l3 y) 0 l1 l2 l3 x := by
  have h0 := h.m0
  obtain ⟨b1, b2, b3, b4, b5, ⟨op, H, G, K, CK, b, dE, Pl, hq, Q, qo, qs, kp, on, P, a, c, la, h6, h7, h8⟩, b7, b8⟩ := h
  obtain ⟨i1, -⟩ := h8.id
  obtain ⟨-, a12, -, -, aop, aC, aM⟩ := h8
  have aP := s_letter (v := l1) (w := l2) (u := l3) (post := fun r' y' => (match itA on H G CK P l1 l2 with | none => -1 | some r => leG H G CK r l3) = r' ∧ Inv κ x y') b2.1 aM (fun ho => h6.rd (aop ho).1) ⟨rfl, h0⟩
  cases on with
  | false => exact k_letterQ (on := false) (F := H) (G := G) (CK := CK) (Q := P) (b := 0) b1.1 i1 a12 (fun e => nomatch e) (by decide) (fun e => nomatch e) ⟨aC.1, fun e => nomatch e⟩ aP
  | true =>
    obtain ⟨k1, k2, -⟩ := h6.2.2.2 (aop rfl).1
    have hb : b ≤ 120255 := by
      obtain ⟨⟨-, -, -, -, e5, -, e7, -⟩, -⟩ := k2
      omega
    exact k_letterQ b1.1 i1 a12 aM.i16 hb (fun ho => (aop ho).2.2.1) aC aP
theorem J_skipped (h : Inv κ x y) : wp_V_skipped (fun r x' => wp_Mod_skipped (fun r' y' => r = r' ∧ Inv κ x' y') l1 y) 0 l1 x := by
  have h0 := h.m0
  obtain ⟨b1, b2, b3, b4, b5, ⟨op, H, G, K, CK, b, dE, Pl, hq, Q, qo, qs, kp, on, P, a, c, la, h6, h7, h8⟩, b7, b8⟩ := h
  obtain ⟨-, a12, -, -, aop, aC, aM⟩ := h8
  exact k_skippedQ a12 aC (s_skipped aM ⟨rfl, h0⟩)
end
