/-! turns that read the input -/
section
variable {x x' y y' : St} {κ : Nat → Nat} {l1 l2 l3 : Int32}
theorem sk_st {q : Nat} (h : skRow q) : ¬ (10 ≤ q ∧ q ≤ 46) ∧ ¬ (61 ≤ q ∧ q ≤ 147) ∧ q ≠ 68 ∧ q ≠ 150 ∧ q ≠ 151 := by unfold skRow at h; omega
theorem IoC.f {I J R : Nat → Nat → Prop} {A L : Nat → Prop} (hb : BaC κ x) (f : Fg I J R A L x x') (hR : ∀ k, k ≤ 2 → ¬ R 0 k) (h45 : ¬ R 45 0) (hS : ∀ s, Tin s → ¬ R s 0) (hI : ∀ s k, Tin s → k = 1 ∨ k = 2 ∨ k = 5 ∨ k = 6 → ¬ I s k) (hA : ∀ q, skRow q → ¬ A q) : IoC x x' := ⟨fun k hk => f_r f (hR k hk), f_r f h45, fun s hs => ⟨f_r f (hS s hs), fun k hk => f.ii (hI s k hs hk)⟩, fun s q hs hq => ⟨f.aa (hA q (hb.row hs.s hq).1), f.len q⟩⟩
theorem WrC.f {I J R : Nat → Nat → Prop} {A L : Nat → Prop} (f : Fg I J R A L x x') (hR : ∀ k, k = 3 ∨ k = 4 → ¬ R 45 k) (hA : ¬ A 68) (hI : ∀ o k, o = 49 ∨ o = 52 ∨ o = 55 ∨ o = 58 → k = 5 ∨ k = 6 → ¬ I o k) : WrC x x' := ⟨fun k hk => f_r f (hR k hk), f.aa hA, fun o k ho hk => f.ii (hI o k ho hk)⟩
theorem ScC'.f {I J R : Nat → Nat → Prop} {A L : Nat → Prop} (f : Fg I J R A L x x') (hR : ∀ k, k = 4 ∨ k = 5 → ¬ R 0 k) (hI : ∀ o k, o = 12 ∨ o = 24 ∨ o = 36 ∧ k ≤ 2 → ¬ I o k) (hA : ∀ a, 13 ≤ a → a ≤ 44 → ¬ A a) (hL : ¬ L 39) : ScC' x x' := ⟨fun k hk => f_r f (hR k hk), fun o k ho => f.ii (hI o k ho), fun a l1 l2 => f.aa (hA a l1 l2), f.ll hL⟩
theorem OqC.f {I J R : Nat → Nat → Prop} {A L : Nat → Prop} (f : Fg I J R A L x x') (hR : ∀ k, 10 ≤ k → k ≤ 13 → ¬ R 0 k) (hI : ∀ o k, o = 70 ∨ o = 96 ∨ o = 97 ∨ o = 106 ∨ o = 117 ∨ o = 128 ∨ o = 137 → ¬ I o k) (hA : ∀ a, 71 ≤ a ∧ a ≤ 95 ∨ 107 ≤ a ∧ a ≤ 145 → ¬ A a) (hL : ∀ a, 71 ≤ a ∧ a ≤ 95 ∨ 107 ≤ a ∧ a ≤ 145 → ¬ L a) : OqC x x' := ⟨fun k l1 l2 => f_r f (hR k l1 l2), fun o k ho => f.ii (hI o k ho), fun a ha => f.aa (hA a ha), fun a ha => f.ll (hL a ha)⟩
theorem FtC'.f {I J R : Nat → Nat → Prop} {A L : Nat → Prop} (f : Fg I J R A L x x') (hA : ¬ A 98) (hI : ¬ I 96 3) : FtC' x x' := ⟨f.aa hA, f.ii hI⟩
theorem OuC.f {I J R : Nat → Nat → Prop} {A L : Nat → Prop} (hb : BaC κ x) (f : Fg I J R A L x x') (hR : ¬ R 147 0) (hI : ∀ k, k = 1 ∨ k = 2 ∨ k = 5 ∨ k = 6 → ¬ I 147 k) (hA : ∀ q, skRow q → ¬ A q) : OuC x x' := ⟨f_r f hR, fun k hk => f.ii (hI k hk), fun q hq => ⟨f.aa (hA q (hb.row (s := 147) (by unfold SnkId; omega) hq).1), f.len q⟩⟩
/-- the input is used -/
def IoX (i : Nat) (x x' : St) : Prop := (∀ k, k ≤ 2 → fR x' 0 k = fR x 0 k) ∧ fR x' 45 0 = fR x 45 0 ∧ (∀ s, Tin s → fR x' s 0 = fR x s 0 ∧ ∀ k, k = 5 ∨ k = 6 ∨ s ≠ i ∧ (k = 1 ∨ k = 2) → fI x' s k = fI x s k) ∧ ∀ s q, Tin s → fR x s 0 = some q → fA x' q = fA x q ∧ fN x' q = fN x q
theorem IoX.f {i : Nat} {I J R : Nat → Nat → Prop} {A L : Nat → Prop} (hb : BaC κ x) (f : Fg I J R A L x x') (hR : ∀ k, k ≤ 2 → ¬ R 0 k) (h45 : ¬ R 45 0) (hS : ∀ s, Tin s → ¬ R s 0) (hI : ∀ s k, Tin s → k = 5 ∨ k = 6 ∨ s ≠ i ∧ (k = 1 ∨ k = 2) → ¬ I s k) (hA : ∀ q, skRow q → ¬ A q) : IoX i x x' := ⟨fun k hk => f_r f (hR k hk), f_r f h45, fun s hs => ⟨f_r f (hS s hs), fun k hk => f.ii (hI s k hs hk)⟩, fun s q hs hq => ⟨f.aa (hA q (hb.row hs.s hq).1), f.len q⟩⟩
def IoN (y y' : St) : Prop := (∀ k, k = 3 ∨ k = 65 → fI y' 0 k = fI y 0 k) ∧ fI y' 0 4 = 0 ∧ ∀ a, a = 1 ∨ a = 41 → fA y' a = fA y a
theorem IoP.use {t i f w c n m : Nat} {U T : Nat → Int32} {B : Nat → Nat} (h : IoP x y t i f w c n m U T B) (hC : IoX i x x') (h1 : fI x' i 1 = 0) (h2 : fI x' i 2 = 0) (hM : IoN y y') : IoP x' y' t i f w c 0 m U T B := by
  obtain ⟨⟨a1, a2, a3, a4⟩, b, ⟨c1, c2, c3, c4⟩, d, e1, e2, e3, g1, g2, g3, g4, g5, g6⟩ := h
  obtain ⟨p1, p2, p3, p4⟩ := hC
  obtain ⟨r1, r0, r2⟩ := hM
  have hk : ∀ {s c T}, Tin s → s ≠ i → HoldC x s T c → HoldC x' s T c := fun hs hn h => h.k (p3 _ hs).1 (fun k hk => (p3 _ hs).2 k (Or.inr (Or.inr ⟨hn, hk⟩))) (fun q hq => p4 _ q hs hq)
  refine ⟨⟨a1, a2, a3, a4⟩, b, ⟨(p1 0 (by decide)).trans c1, (p1 1 (by decide)).trans c2, (p1 2 (by decide)).trans c3, p2.trans c4⟩, fun s hs => ⟨((p3 s hs).2 5 (by omega)).trans (d s hs).1, ((p3 s hs).2 6 (by omega)).trans (d s hs).2⟩, hk a1 b.1 e1, ?_, hk a3 (fun z => b.2.2.2.1 z.symm) e3, g1, g2, ?_, ?_, (r1 65 (by decide)).trans g5, ?_⟩
  · obtain ⟨-, -, q, q1, -⟩ := e2
    exact ⟨h1, h2, q, (p3 i a2).1.trans q1, Nat.zero_le _, fun k hk => absurd hk (Nat.not_lt_zero _)⟩
  · obtain ⟨t1, t2, t3⟩ := g3
    exact ⟨(r1 3 (by decide)).trans t1, t2, by rw [r2 1 (by decide)]; exact t3⟩
  · exact ⟨r0, by decide, fun k hk => absurd hk (Nat.not_lt_zero _)⟩
  · rw [r2 41 (by decide)]
    exact g6
theorem RcM.nil (h34 : fI y 0 34 = 0) (h35 : fI y 0 35 = 0) (h36 : fI y 0 36 = 0) (h23 : fA y 23 0 = 0) : RcM y [] := ⟨⟨h35, h36, fun i hi => absurd hi (Nat.not_lt_zero _)⟩, ⟨by decide, by decide⟩, h34, by decide, fun i hi => by
  have : i = 0 := Nat.le_zero.mp hi
  rw [this]
  exact h23⟩
theorem J_clear (h : Inv κ x y) : wp_V_clear (fun x' => wp_Mod_clear (fun y' => Inv κ x' y') y) 0 x := by
  obtain ⟨b1, b2, b3, b4, ⟨sc, sp, F, E, RS, h5⟩, b6, b7, b8⟩ := h
  refine k_clear (F := F) b1.1 (fun x' fx rx => s_clear b2.1 (fun y' fy y0 y34 y35 y36 y23 => ?_))
  have fm : MkM (fun k => k = 0 ∨ k = 34 ∨ k = 35 ∨ k = 36) (fun a => a = 23) no1 y y' := fy
  have hsn : ∀ q, skRow q → ¬ (q = 41 ∨ q = 43 ∨ q = 44) := fun q hq => by have := sk_st hq; omega
  refine ⟨b1.fg fx (fun s hs z => by unfold SnkId at hs; omega) (fun s _ z => z) hsn, b2.k (BaM'.f fm (by decide) (by decide)), b3.k (IoC.f b1 fx (fun _ _ z => z) (fun z => z) (fun _ _ z => z) (fun s k hs hk z => by unfold Tin at hs; omega) hsn) (IoM.f fm (fun k hk z => by omega) (fun a ha z => by omega)), b4.k (WrC.f fx (fun _ _ z => z) (by decide) (fun o k ho hk z => by omega)), ?_, b6.k (OqC.f fx (fun _ _ _ z => z) (fun o k ho z => by omega) (fun a ha z => by omega) (fun _ _ z => z)) (OqM.f b2.1 fm (fun k hk z => by omega) (fun a ha z => by omega) (fun _ _ z => z)), b7.k (FtC'.f fx (by decide) (by decide)) (FtM'.f fm (by decide) (by decide)), b8.k (OuC.f b1 fx (fun z => z) (fun k hk z => by omega) hsn) (OuM.f fm (by decide) (by decide))⟩
  obtain ⟨a1, a2, a3, a4, a5, a6, a7, a8, a9, a10, a11⟩ := h5
  have e : ∀ k : Fin 13, k.val < 2 ∨ (13 ≤ stC sc k.val ∧ stC sc k.val ≤ 35) := by
    rcases a1 with ⟨rfl, -⟩ | ⟨rfl, -⟩ <;> decide
  refine ⟨sc, sp, F, [], [], a1, (f_r fx (fun z => z)).trans a2, (f_r fx (fun z => z)).trans a3, a4, (fx.ii (by omega)).trans a5, fun hF => (a6 hF).cg2 (fun k hk => fx.ii (by omega)) (fun k k1 k2 => ?_), rx, RecI.nil F, (fy.ii (by decide)).trans a9, fun hF => (a10 hF).z a4 (fun a i l1 l2 _ => by rw [fy.aa (by omega)]), RcM.nil y34 y35 y36 y23⟩
  rcases e ⟨k, by omega⟩ with q | q
  · exact absurd q (by show ¬ k < 2; omega)
  · exact fx.aa (by have := q; dsimp only at this; omega)
/-- frames of the model's schema() -/
theorem FrSc.oq (hLM : LM y) (f : FrSc y y') : OqM y y' := ⟨fun a => by show y'.2.2.2.2.2 a = _; rw [f.2.2.2.2]; exact hLM a, fun k hk => f.1 0 k (by omega), fun a i l1 l2 l3 l4 => f.2.1 a i (fun _ _ => ⟨l3, l4⟩) (by omega), fun a ha => funext (fun i => f.2.1 a i (by omega) (by omega)), fun a _ => by show y'.2.2.2.2.1 a = _; rw [f.2.2.2.2]⟩
theorem FrSc.ft (f : FrSc y y') : FtM' y y' := ⟨funext (fun i => f.2.1 52 i (by omega) (by omega)), f.1 0 83 (by omega)⟩
theorem FrSc.ou (f : FrSc y y') : OuM y y' := ⟨f.1 0 113 (by omega), funext (fun i => f.2.1 75 i (by omega) (by omega))⟩
theorem FrSc.ba (f : FrSc y y') : BaM' y y' := ⟨fun a => by show y'.2.2.2.2.2 a = _; rw [f.2.2.2.2], f.2.1 33 0 (by omega) (by omega), f.2.1 34 0 (by omega) (by omega)⟩
theorem FrSc.io (f : FrSc y y') (h4 : fI y' 0 4 = 0) : IoN y y' := ⟨fun k hk => f.1 0 k (by omega), h4, fun a ha => funext (fun i => f.2.1 a i (by omega) (by omega))⟩
theorem s1l (a : Nat) : s1lo a ≤ limS a := by
  unfold s1lo limS
  split
  · decide
  · split
    · decide
    · split <;> decide
theorem J_schema (h : Inv κ x y) : wp_V_schema (fun r x' => wp_Mod_schema (fun r' y' => r = r' ∧ Inv κ x' y') y) 0 x := by
  obtain ⟨b1, b2, ⟨t, i, f, w, c, n, m, U, T, B, h3⟩, b4, ⟨sc, sp, F, E, RS, h5⟩, b6, b7, b8⟩ := h
  have h3' := h3
  obtain ⟨⟨-, ti, -, -⟩, -, ⟨-, c2, -, -⟩, -, -, ⟨d1, d2, q, d3, d4, d5⟩, -, -, -, -, gI, -, -⟩ := h3
  have h5' := h5
  obtain ⟨a1, a2, a3, a4, a5, a6, a7, a8, a9, a10, a11⟩ := h5
  obtain ⟨qr, -, q31⟩ := b1.row ti.s d3
  have hsp : sp = 12 ∨ sp = 24 := by omega
  have rws : ∀ a, rwS sp a → 13 ≤ a ∧ a ≤ 35 ∧ (∀ k, 2 ≤ k → k ≤ 12 → stC sc k ≠ a) := by
    rintro a ⟨k, k1, k2, rfl⟩
    have e : ∀ k : Fin 13, ∀ j : Fin 13, k.val < 2 ∨ j.val < 2 ∨ (13 ≤ stC sp k.val ∧ stC sp k.val ≤ 35 ∧ stC sc j.val ≠ stC sp k.val) := by
      rcases a1 with ⟨rfl, rfl⟩ | ⟨rfl, rfl⟩ <;> decide
    have e2 := fun j => e ⟨k, by omega⟩ j
    refine ⟨?_, ?_, fun j j1 j2 => ?_⟩
    · rcases e2 ⟨2, by decide⟩ with z | z | z
      · exact absurd z (by show ¬ k < 2; omega)
      · exact absurd z (by decide)
      · exact z.1
    · rcases e2 ⟨2, by decide⟩ with z | z | z
      · exact absurd z (by show ¬ k < 2; omega)
      · exact absurd z (by decide)
      · exact z.2.1
    · rcases e2 ⟨j, by omega⟩ with z | z | z
      · exact absurd z (by show ¬ k < 2; omega)
      · exact absurd z (by show ¬ j < 2; omega)
      · exact z.2.2
  have tiN : i ≠ 10 ∧ i ≠ 12 ∧ i ≠ 24 ∧ i ≠ 36 ∧ i ≠ 147 ∧ i ≠ 96 := by unfold Tin at ti; omega
  -- a turn without a new schema
  have keep : ∀ x', Fg (fun a k => a = 10 ∨ a = sp ∨ a = i ∧ (k = 1 ∨ k = 2)) no2 (fun a k => a = 10 ∧ k = 0) (fun a => rwS sp a) no1 x x' → fI x' i 1 = 0 → fI x' i 2 = 0 → ∀ y', FrSc y y' → fI y' 0 4 = 0 → ScM' y y' → Inv κ x' y' := by
    intro x' fx z1 z2 y' fy y4 sy
    have hsn : ∀ q, skRow q → ¬ rwS sp q := fun q hq z => by have := sk_st hq; have := rws q z; omega
    refine ⟨b1.fg fx (fun s hs z => by unfold SnkId at hs; omega) (fun s hs z => by unfold SnkId at hs; omega) hsn, b2.k fy.ba, ⟨t, i, f, w, c, 0, m, U, T, B, h3'.use (IoX.f b1 fx (fun k hk z => by omega) (by omega) (fun s hs z => by unfold Tin at hs; omega) (fun s k hs hk z => by unfold Tin at hs; omega) hsn) z1 z2 (fy.io y4)⟩, b4.k (WrC.f fx (fun k hk z => by omega) (fun z => by have := rws _ z; omega) (fun o k ho hk z => by unfold Tin at ti; omega)), ?_, b6.k (OqC.f fx (fun k l1 l2 z => by omega) (fun o k ho z => by unfold Tin at ti; omega) (fun a ha z => by have := rws _ z; omega) (fun _ _ z => z)) (fy.oq b2.1), b7.k (FtC'.f fx (fun z => by have := rws _ z; omega) (fun z => by omega)) fy.ft, b8.k (OuC.f b1 fx (fun z => by omega) (fun k hk z => by omega) hsn) fy.ou⟩
    refine ⟨sc, sp, F, E, RS, a1, (f_r fx (by omega)).trans a2, (f_r fx (by omega)).trans a3, a4, (fx.ii (by unfold Tin at ti; omega)).trans a5, fun hF => (a6 hF).cg2 (fun k hk => fx.ii (by unfold Tin at ti; omega)) (fun k k1 k2 => fx.aa (fun z => (rws _ z).2.2 k k1 k2 rfl)), a7.k (fun k hk => fx.ii (by unfold Tin at ti; omega)) (fun a l1 l2 => fx.aa (fun z => by have := rws _ z; omega)) (fx.ll (fun z => z)), a8, (sy.1 14 (by decide)).trans a9, fun hF => (a10 hF).z a4 sy.2.1, a11.cg (fun k hk => sy.1 k (by omega)) sy.2.2.1 sy.2.2.2⟩
  refine k_schemaV b1.1 c2 ti.s d1 d3 qr d4 q31 gI.2.1 d5 a2 a3 hsp (fun hn x' _ fx z1 z2 => ?_) (fun hn e x' en ex fx z1 z2 => ?_) (fun hn F' x' hw hne ex fx z1 z2 z4 z5 zr zrs => ?_)
  · have fx' : Fg (fun a k => a = 10 ∨ a = sp ∨ a = i ∧ (k = 1 ∨ k = 2)) no2 (fun a k => a = 10 ∧ k = 0) (fun a => rwS sp a) no1 x x' := fx.mono (fun _ _ z => Or.inr (Or.inr z)) (fun _ _ z => z) (fun _ _ z => z.elim) (fun _ z => z.elim) (fun _ z => z)
    refine s_schema b2.1 gI (fun _ y' fy y4 y14 y34 y35 y36 ya => ⟨rfl, keep x' fx' z1 z2 y' fy y4 ⟨fun k hk => by rcases hk with rfl | rfl | rfl | rfl <;> assumption, fun a j _ _ _ => ya a j (by omega), fun a _ _ => funext (fun j => ya a j (by omega)), by show y'.2.2.2.2.1 25 = _; rw [fy.2.2.2.2]⟩⟩) (fun h4 => absurd h4 (by omega)) (fun h4 => absurd h4 (by omega))
  · refine s_schema b2.1 gI (fun h4 => absurd h4 (by omega)) (fun _ e' y' en' ex' fy y4 y14 y34 y35 y36 ya => ?_) (fun _ F' y' hw' hne' ex' => ?_)
    · obtain ⟨c1, e1⟩ := ex
      obtain ⟨c2', e2⟩ := ex'
      have : e = e' := by rw [← e1 c2', ← e2 c1, Nat.add_comm]
      exact ⟨this, keep x' fx z1 z2 y' fy y4 ⟨fun k hk => by rcases hk with rfl | rfl | rfl | rfl <;> assumption, fun a j l1 l2 l3 => ya a j (fun _ _ => Nat.lt_of_lt_of_le l3 (s1l a)), fun a l1 l2 => funext (fun j => ya a j (by omega)), by show y'.2.2.2.2.1 25 = _; rw [fy.2.2.2.2]⟩⟩
    · exfalso
      obtain ⟨c1, e1⟩ := ex
      obtain ⟨c2', e2⟩ := ex'
      have := e1 c2'
      rw [Nat.add_comm, e2 c1] at this
      exact en this.symm
  · refine s_schema b2.1 gI (fun h4 => absurd h4 (by omega)) (fun _ e' y' en' ex' => ?_) (fun _ F2 y' hw' hne' ex' fy y4 yr y14 y34 y35 y36 y23 => ?_)
    · exfalso
      obtain ⟨c1, e1⟩ := ex
      obtain ⟨c2', e2⟩ := ex'
      have := e2 c1
      rw [Nat.add_comm, e1 c2'] at this
      exact en' this.symm
    · obtain ⟨c1, e1⟩ := ex
      obtain ⟨c2', e2⟩ := ex'
      have ee : F' = F2 := by
        have := e1 c2'
        rw [Nat.add_comm, e2 c1] at this
        injection this with _ this
        exact this.symm
      subst ee
      refine ⟨rfl, ?_⟩
      have hsn : ∀ q, skRow q → ¬ (rwS sp q ∨ q = 41 ∨ q = 43 ∨ q = 44) := fun q hq z => by
        have := sk_st hq
        rcases z with z | z
        · have := rws q z; omega
        · omega
      have hrw : ∀ a, (rwS sp a ∨ a = 41 ∨ a = 43 ∨ a = 44) → 13 ≤ a ∧ a ≤ 44 := fun a z => by
        rcases z with z | z
        · have := rws a z; omega
        · omega
      refine ⟨b1.fg fx (fun s hs z => by unfold SnkId at hs; omega) (fun s hs z => by unfold SnkId at hs; omega) hsn, b2.k fy.ba, ⟨t, i, f, w, c, 0, m, U, T, B, h3'.use (IoX.f b1 fx (fun k hk z => by omega) (by omega) (fun s hs z => by unfold Tin at hs; omega) (fun s k hs hk z => by unfold Tin at hs; omega) hsn) z1 z2 (fy.io y4)⟩, b4.k (WrC.f fx (fun k hk z => by omega) (fun z => by have := hrw _ z; omega) (fun o k ho hk z => by unfold Tin at ti; omega)), ?_, b6.k (OqC.f fx (fun k l1 l2 z => by omega) (fun o k ho z => by unfold Tin at ti; omega) (fun a ha z => by have := hrw _ z; omega) (fun _ _ z => z)) (fy.oq b2.1), b7.k (FtC'.f fx (fun z => by have := hrw _ z; omega) (fun z => by omega)) fy.ft, b8.k (OuC.f b1 fx (fun z => by omega) (fun k hk z => by omega) hsn) fy.ou⟩
      exact ⟨sp, sc, F', [], [], by omega, z4, z5, hw, zr.1, fun _ => zr, zrs, RecI.nil F', by rw [if_neg hne]; exact y14, fun _ => yr, RcM.nil y34 y35 y36 y23⟩
end
