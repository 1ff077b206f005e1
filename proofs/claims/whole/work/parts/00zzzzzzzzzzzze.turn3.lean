/-! record, take, end, poke, feed -/
section
variable {x x' y y' : St} {κ : Nat → Nat} {l1 l2 l3 l4 l5 : Int32}
theorem J_record (h : Inv κ x y) : wp_V_record (fun r x' => wp_Mod_record (fun r' y' => r = r' ∧ Inv κ x' y') y) 0 x := by
  obtain ⟨b1, b2, ⟨t, i, f, w, c, n, m, U, T, B, h3⟩, b4, ⟨sc, sp, F, E, RS, h5⟩, b6, b7, b8⟩ := h
  have h3' := h3
  obtain ⟨⟨-, ti, -, -⟩, -, ⟨-, c2, -, -⟩, -, -, ⟨d1, d2, q, d3, d4, d5⟩, -, -, -, -, gI, -, -⟩ := h3
  obtain ⟨a1, a2, a3, a4, a5, a6, a7, a8, a9, a10, a11⟩ := h5
  obtain ⟨qr, -, q31⟩ := b1.row ti.s d3
  have n31 : n < 2 ^ 31 := by have := gI.2.1; omega
  have hsc : sc = 12 ∨ sc = 24 := by omega
  have tiN : i ≠ 10 ∧ i ≠ 12 ∧ i ≠ 24 ∧ i ≠ 36 ∧ i ≠ 147 ∧ i ≠ 96 := by unfold Tin at ti; omega
  have sch : ∀ k : Fin 13, k.val < 2 ∨ (13 ≤ stC sc k.val ∧ stC sc k.val ≤ 35) := by
    rcases a1 with ⟨rfl, -⟩ | ⟨rfl, -⟩ <;> decide
  have mk : ∀ x', FRv i x x' → fI x' i 1 = 0 → fI x' i 2 = 0 → ∀ y', FrMr y y' → fI y' 0 4 = 0 → ∀ E' RS', RsC x' F E' RS'.length → RecI F E' RS' → RcM y' RS' → Inv κ x' y' := by
    intro x' fx z1 z2 y' fy y4 E' RS' rs ri rc
    have fm : MkM (fun k => k = 0 ∨ k = 4 ∨ 15 ≤ k ∧ k ≤ 17 ∨ k = 24 ∨ k = 25 ∨ 34 ≤ k ∧ k ≤ 37) (fun a => 12 ≤ a ∧ a ≤ 16 ∨ 18 ≤ a ∧ a ≤ 24) (fun a => a = 17 ∨ a = 25) y y' := fy
    have hsn : ∀ q, skRow q → ¬ (q = 37 ∨ q = 38 ∨ q = 40 ∨ q = 41 ∨ q = 42 ∨ q = 43 ∨ q = 44) := fun q hq => by have := sk_st hq; omega
    refine ⟨b1.fg fx (fun s hs z => by unfold SnkId at hs; omega) (fun s hs z => by unfold SnkId at hs; omega) hsn, b2.k (BaM'.f fm (by omega) (by omega)), ⟨t, i, f, w, c, 0, m, U, T, B, h3'.use (IoX.f b1 fx (fun k hk z => by omega) (by omega) (fun s hs z => by unfold Tin at hs; omega) (fun s k hs hk z => by unfold Tin at hs; omega) hsn) z1 z2 ⟨fun k hk => fy.ii (by omega), y4, fun a ha => fy.aa (by omega)⟩⟩, b4.k (WrC.f fx (fun k hk z => by omega) (by omega) (fun o k ho hk z => by unfold Tin at ti; omega)), ?_, b6.k (OqC.f fx (fun k l1 l2 z => by omega) (fun o k ho z => by unfold Tin at ti; omega) (fun a ha z => by omega) (fun a ha z => by omega)) (OqM.f b2.1 fm (fun k hk z => by omega) (fun a ha z => by omega) (fun a ha z => by omega)), b7.k (FtC'.f fx (by omega) (by omega)) (FtM'.f fm (by omega) (by omega)), b8.k (OuC.f b1 fx (by omega) (fun k hk z => by omega) hsn) (OuM.f fm (by omega) (by omega))⟩
    refine ⟨sc, sp, F, E', RS', a1, (f_r fx (by omega)).trans a2, (f_r fx (by omega)).trans a3, a4, (fx.ii (by unfold Tin at ti; omega)).trans a5, fun hF => (a6 hF).cg2 (fun k hk => fx.ii (by unfold Tin at ti; omega)) (fun k k1 k2 => ?_), rs, ri, (fy.ii (by omega)).trans a9, fun hF => (a10 hF).z a4 (fun a j l1 l2 _ => by rw [fy.aa (by omega)]), rc⟩
    rcases sch ⟨k, by omega⟩ with z | z
    · exact absurd z (by show ¬ k < 2; omega)
    · exact fx.aa (by have := z; dsimp only at this; omega)
  have rl := a8.1
  refine k_recordV (L0 := nd1) b1.1 c2 ti.s ti d1 d3 qr d4 q31 gI.2.1 d5 a2 hsc a4 a5 a6 a7 (fun cF z fz z1 z2 rz => ?_) (fun cF cn z fz z1 z2 rz => ?_) (fun cF cn e z fz z1 z2 rz => ?_) (fun cF cn e e2 z fz z1 z2 rz => ?_) (fun cF cn e e2 e3 z fz z1 z2 rz => ?_) (fun cF cn e e2 e3 e4 e5 z fz z1 z2 rz => ?_)
  · exact s_recordL b2.1 gI a4 a11 a10 a9 (fun _ y' fy y4 rc => ⟨rfl, mk z fz z1 z2 y' fy y4 E RS rz a8 rc⟩) (fun cF' => absurd cF cF') (fun cF' => absurd cF cF') (fun cF' => absurd cF cF') (fun cF' => absurd cF cF') (fun cF' => absurd cF cF')
  · exact s_recordL b2.1 gI a4 a11 a10 a9 (fun cF' => absurd cF' cF) (fun _ _ y' fy y4 rc => ⟨rfl, mk z fz z1 z2 y' fy y4 E RS rz a8 rc⟩) (fun _ cn' => absurd cn' (by omega)) (fun _ cn' => absurd cn' (by omega)) (fun _ cn' => absurd cn' (by omega)) (fun _ cn' => absurd cn' (by omega))
  · exact s_recordL b2.1 gI a4 a11 a10 a9 (fun cF' => absurd cF' cF) (fun _ cn' => absurd cn (by omega)) (fun _ _ _ y' fy y4 rc => ⟨rfl, mk z fz z1 z2 y' fy y4 E RS rz a8 rc⟩) (fun _ _ e' => absurd e' e) (fun _ _ e' => absurd e' e) (fun _ _ e' => absurd e' e)
  · exact s_recordL b2.1 gI a4 a11 a10 a9 (fun cF' => absurd cF' cF) (fun _ cn' => absurd cn (by omega)) (fun _ _ e' => absurd e e') (fun _ _ _ _ y' fy y4 rc => ⟨rfl, mk z fz z1 z2 y' fy y4 E RS rz a8 rc⟩) (fun _ _ _ e2' => absurd e2 e2') (fun _ _ _ e2' => absurd e2 e2')
  · refine s_recordL b2.1 gI a4 a11 a10 a9 (fun cF' => absurd cF' cF) (fun _ cn' => absurd cn (by omega)) (fun _ _ e' => absurd e e') (fun _ _ _ e2' => absurd e2' e2) (fun _ _ _ _ _ _ y' fy y4 rc => ⟨rfl, mk z fz z1 z2 y' fy y4 E RS rz a8 rc⟩) (fun _ _ _ _ hl hlt okE => ?_)
    exfalso
    have := (rl.ok a4 cF n31 e hl).mp okE
    omega
  · refine s_recordL b2.1 gI a4 a11 a10 a9 (fun cF' => absurd cF' cF) (fun _ cn' => absurd cn (by omega)) (fun _ _ e' => absurd e e') (fun _ _ _ e2' => absurd e2' e2) (fun _ _ _ _ hl hno => ?_) (fun _ _ _ _ hl hlt okE y' fy y4 rc => ⟨rfl, mk z fz z1 z2 y' fy y4 _ _ (by rw [List.length_append]; exact rz) (a8.add a4 cF cn e hl) rc⟩)
    exfalso
    rcases hno with hno | hno
    · omega
    · exact hno ((rl.ok a4 cF n31 e hl).mpr ⟨e4, e5⟩)
theorem J_take (h : Inv κ x y) : wp_V_take (fun x' => wp_Mod_take (fun y' => Inv κ x' y') y) 0 x := by
  obtain ⟨b1, b2, ⟨t, i, f, w, c, n, m, U, T, B, h3⟩, b4, b5, b6, b7, b8⟩ := h
  obtain ⟨⟨a1, a2, a3, a4⟩, b, ⟨c1, c2, c3, c4⟩, d, e1, e2, e3, g1, g2, g3, g4, g5, g6⟩ := h3
  refine k_take c3 c2 (s_take b2.1 g4.2.1 g4.1 (fun y' fy y0 y65 y4 y41 => ?_))
  have fm : MkM (fun k => k = 0 ∨ k = 65 ∨ k = 4) (fun a => a = 41) no1 y y' := fy
  have fx : Fg (fun a k => a = f ∧ (k = 1 ∨ k = 2)) no2 (fun a k => a = 0 ∧ (k = 1 ∨ k = 2)) no1 no1 x (setI (setI (setR (setR x 0 2 (some i)) 0 1 (some f)) f 1 0) f 2 0) := (Fg.r ⟨rfl, Or.inr rfl⟩).trans ((Fg.r ⟨rfl, Or.inl rfl⟩).trans ((Fg.i ⟨rfl, Or.inl rfl⟩).trans (Fg.i ⟨rfl, Or.inr rfl⟩)))
  have r1 : fR (setI (setI (setR (setR x 0 2 (some i)) 0 1 (some f)) f 1 0) f 2 0) 0 1 = some f := (show fR (setR (setR x 0 2 (some i)) 0 1 (some f)) 0 1 = _ from gR_at)
  have r2 : fR (setI (setI (setR (setR x 0 2 (some i)) 0 1 (some f)) f 1 0) f 2 0) 0 2 = some i := (show fR (setR (setR x 0 2 (some i)) 0 1 (some f)) 0 2 = _ from (gR_ne (by omega)).trans gR_at)
  have f1 : fI (setI (setI (setR (setR x 0 2 (some i)) 0 1 (some f)) f 1 0) f 2 0) f 1 = 0 := by rw [gI_ne (by decide), gI_at]
  have f2 : fI (setI (setI (setR (setR x 0 2 (some i)) 0 1 (some f)) f 1 0) f 2 0) f 2 = 0 := gI_at
  generalize setI (setI (setR (setR x 0 2 (some i)) 0 1 (some f)) f 1 0) f 2 0 = x' at *
  have nf : f ≠ 12 ∧ f ≠ 24 ∧ f ≠ 36 ∧ f ≠ 147 ∧ f ≠ 96 ∧ f ≠ 49 ∧ f ≠ 52 ∧ f ≠ 55 ∧ f ≠ 58 ∧ f ≠ 70 ∧ f ≠ 97 ∧ f ≠ 106 ∧ f ≠ 117 ∧ f ≠ 128 ∧ f ≠ 137 := by unfold Tin at a3; omega
  refine ⟨b1.fg fx (fun s hs z => by omega) (fun s hs z => by unfold SnkId at hs; omega) (fun _ _ z => z), b2.k (BaM'.f fm (by decide) (by decide)), ?_, b4.k (WrC.f fx (fun k hk z => by omega) (fun z => z) (fun o k ho hk z => by omega)), b5.k (ScC'.f fx (fun k hk z => by omega) (fun o k ho z => by omega) (fun _ _ _ z => z) (fun z => z)) (ScM'.f fm (fun k hk z => by omega) (fun a ha z => by omega) (fun z => z)), b6.k (OqC.f fx (fun k l1 l2 z => by omega) (fun o k ho z => by omega) (fun _ _ z => z) (fun _ _ z => z)) (OqM.f b2.1 fm (fun k hk z => by omega) (fun a ha z => by omega) (fun _ _ z => z)), b7.k (FtC'.f fx (fun z => z) (fun z => by omega)) (FtM'.f fm (by decide) (by decide)), b8.k (OuC.f b1 fx (fun z => by omega) (fun k hk z => by omega) (fun _ _ z => z)) (OuM.f fm (by decide) (by decide))⟩
  have bn : ∀ k, k < n → nI (if k < n then uI (T k) else 0) = T k := fun k hk => by rw [if_pos hk, nI_uI]
  have hk : ∀ {s c T}, s ≠ f → HoldC x s T c → HoldC x' s T c := fun hn h => h.k (f_r fx (fun z => by have := z.2; omega)) (fun k hk => fx.ii (fun z => hn z.1)) (fun q hq => ⟨fx.aa (fun z => z), fx.len q⟩)
  refine ⟨t, f, i, w, c, 0, n, U, T, fun k => if k < n then uI (T k) else 0, ⟨a1, a3, a2, a4⟩, ⟨b.2.1, b.1, b.2.2.1, fun z => b.2.2.2.1 z.symm, b.2.2.2.2.2, b.2.2.2.2.1⟩, ⟨(f_r fx (fun z => by have := z.2; omega)).trans c1, r1, r2, (f_r fx (fun z => by have := z.1; omega)).trans c4⟩, fun s hs => ⟨(fx.ii (fun z => by have := z.2; omega)).trans (d s hs).1, (fx.ii (fun z => by have := z.2; omega)).trans (d s hs).2⟩, hk b.2.1 e1, ?_, (hk b.2.2.2.1 e2).cg (fun k hk => (bn k hk).symm), fun k => ?_, g4.2.1, ?_, ?_, y65, fun k hk => ?_⟩
  · obtain ⟨-, -, q, q1, -⟩ := e3
    exact ⟨f1, f2, q, (f_r fx (fun z => by have := z.2; omega)).trans q1, Nat.zero_le _, fun k hk => absurd hk (Nat.not_lt_zero _)⟩
  · show (if k < n then uI (T k) else 0) < 256
    split
    · rename_i hk
      exact uI_by (g4.2.2 k hk).2
    · decide
  · obtain ⟨t1, t2, t3⟩ := g3
    exact ⟨(fy.ii (by decide)).trans t1, t2, by rw [fy.aa (by decide)]; exact t3⟩
  · exact ⟨y4, by decide, fun k hk => absurd hk (Nat.not_lt_zero _)⟩
  · rw [y41 k hk, (g4.2.2 k hk).1]
    exact (bn k hk).symm
theorem J_end (h : Inv κ x y) : wp_V_end (fun r x' => wp_Mod_end (fun r' y' => r = r' ∧ Inv κ x' y') l1 y) 0 l1 x := by
  have h0 := h.m0
  obtain ⟨b1, b2, ⟨t, i, f, w, c, n, m, U, T, B, h3⟩, b4, b5, b6, b7, b8⟩ := h
  obtain ⟨⟨a1, a2, a3, a4⟩, b, ⟨c1, c2, c3, c4⟩, d, e1, e2, e3, g1, g2, g3, g4, g5, g6⟩ := h3
  refine k_endV c1 c2 e1.1 (fun no => s_end b2.1 g3.2.1 g3.1 (fun _ => ⟨rfl, h0⟩) (fun N eN hN => ?_)) (fun p1 p2 => s_end b2.1 g3.2.1 g3.1 (fun no => absurd ⟨p1, p2⟩ no) (fun N eN hN y' fy y0 y4 y3 y2 => ⟨rfl, ?_⟩))
  · exfalso
    refine no ?_
    rw [eN]
    have c4 := g3.2.1
    constructor <;> (first | omega | (simp (disch := omega) only [Int32.le_iff_toInt_le, Int32.lt_iff_toInt_lt, z_eq, z_in, nI_toInt, z_cl, z_m1, z_sg, z_255, Int32.reduceToInt] <;> omega) | (simp only [Int32.le_iff_toInt_le, Int32.lt_iff_toInt_lt, z_eq, z_in, z_add, z_sub, z_mul, z_neg, z_nI, z_cl, z_sg, z_255, z_lit, Int32.reduceToInt] <;> omega))
  have fm : MkM (fun k => k = 0 ∨ k = 3 ∨ k = 4) (fun a => a = 2) no1 y y' := fy
  have fx : Fg (fun a k => a = t ∧ k = 1 ∨ a = i ∧ (k = 1 ∨ k = 2)) no2 (fun a k => a = 0 ∧ (k = 0 ∨ k = 1)) no1 no1 x (setI (setI (setR (setI (setR x 0 1 (some t)) t 1 l1) 0 0 (some i)) i 1 0) i 2 0) := (Fg.r ⟨rfl, Or.inr rfl⟩).trans ((Fg.i (Or.inl ⟨rfl, rfl⟩)).trans ((Fg.r ⟨rfl, Or.inl rfl⟩).trans ((Fg.i (Or.inr ⟨rfl, Or.inl rfl⟩)).trans (Fg.i (Or.inr ⟨rfl, Or.inr rfl⟩)))))
  have r0 : fR (setI (setI (setR (setI (setR x 0 1 (some t)) t 1 l1) 0 0 (some i)) i 1 0) i 2 0) 0 0 = some i := (show fR (setR (setI (setR x 0 1 (some t)) t 1 l1) 0 0 (some i)) 0 0 = _ from gR_at)
  have r1 : fR (setI (setI (setR (setI (setR x 0 1 (some t)) t 1 l1) 0 0 (some i)) i 1 0) i 2 0) 0 1 = some t := (show fR (setR (setI (setR x 0 1 (some t)) t 1 l1) 0 0 (some i)) 0 1 = _ from (gR_ne (by omega)).trans (show fR (setR x 0 1 (some t)) 0 1 = _ from gR_at))
  have i1 : fI (setI (setI (setR (setI (setR x 0 1 (some t)) t 1 l1) 0 0 (some i)) i 1 0) i 2 0) i 1 = 0 := by rw [gI_ne (by decide), gI_at]
  have i2 : fI (setI (setI (setR (setI (setR x 0 1 (some t)) t 1 l1) 0 0 (some i)) i 1 0) i 2 0) i 2 = 0 := gI_at
  have t1 : fI (setI (setI (setR (setI (setR x 0 1 (some t)) t 1 l1) 0 0 (some i)) i 1 0) i 2 0) t 1 = l1 := by
    rw [gI_no b.1, gI_no b.1]
    exact gI_at
  generalize setI (setI (setR (setI (setR x 0 1 (some t)) t 1 l1) 0 0 (some i)) i 1 0) i 2 0 = x' at *
  have nt : ∀ s, Tin s → s ≠ 12 ∧ s ≠ 24 ∧ s ≠ 36 ∧ s ≠ 147 ∧ s ≠ 96 ∧ s ≠ 49 ∧ s ≠ 52 ∧ s ≠ 55 ∧ s ≠ 58 ∧ s ≠ 70 ∧ s ≠ 97 ∧ s ≠ 106 ∧ s ≠ 117 ∧ s ≠ 128 ∧ s ≠ 137 := fun s hs => by unfold Tin at hs; omega
  have n1 := nt t a1
  have n2 := nt i a2
  refine ⟨b1.fg fx (fun s hs z => by omega) (fun s hs z => by unfold SnkId at hs; omega) (fun _ _ z => z), b2.k (BaM'.f fm (by decide) (by decide)), ?_, b4.k (WrC.f fx (fun k hk z => by omega) (fun z => z) (fun o k ho hk z => by omega)), b5.k (ScC'.f fx (fun k hk z => by omega) (fun o k ho z => by omega) (fun _ _ _ z => z) (fun z => z)) (ScM'.f fm (fun k hk z => by omega) (fun a ha z => by omega) (fun z => z)), b6.k (OqC.f fx (fun k l1 l2 z => by omega) (fun o k ho z => by omega) (fun _ _ z => z) (fun _ _ z => z)) (OqM.f b2.1 fm (fun k hk z => by omega) (fun a ha z => by omega) (fun _ _ z => z)), b7.k (FtC'.f fx (fun z => z) (fun z => by omega)) (FtM'.f fm (by decide) (by decide)), b8.k (OuC.f b1 fx (fun z => by omega) (fun k hk z => by omega) (fun _ _ z => z)) (OuM.f fm (by decide) (by decide))⟩
  have hrow : ∀ q, fA x' q = fA x q ∧ fN x' q = fN x q := fun q => ⟨fx.aa (fun z => z), fx.len q⟩
  have hr0 : ∀ s, fR x' s 0 = fR x s 0 ∨ s = 0 := fun s => by
    by_cases z : s = 0
    · exact Or.inr z
    · exact Or.inl (f_r fx (fun q => z q.1))
  have tz : t ≠ 0 ∧ i ≠ 0 ∧ f ≠ 0 := by unfold Tin at a1 a2 a3; omega
  refine ⟨i, t, f, w, 0, N, m, U, U, B, ⟨a2, a1, a3, a4⟩, ⟨fun z => b.1 z.symm, b.2.2.2.1, b.2.2.2.2.1, b.2.1, b.2.2.1, b.2.2.2.2.2⟩, ⟨r0, r1, (f_r fx (fun z => by have := z.2; omega)).trans c3, (f_r fx (fun z => by have := z.1; omega)).trans c4⟩, fun s hs => ⟨(fx.ii (fun z => by omega)).trans (d s hs).1, (fx.ii (fun z => by omega)).trans (d s hs).2⟩, ?_, ?_, ?_, g1, g2, ?_, ?_, (fy.ii (by decide)).trans g5, ?_⟩
  · obtain ⟨-, -, q, q1, -⟩ := e2
    exact ⟨i1, i2, q, ((hr0 i).resolve_right tz.2.1).trans q1, Nat.zero_le _, fun k hk => absurd hk (Nat.not_lt_zero _)⟩
  · obtain ⟨-, u2, q, q1, q2, q3⟩ := e1
    refine ⟨t1.trans eN, (fx.ii (fun z => by omega)).trans u2, q, ((hr0 t).resolve_right tz.1).trans q1, by rw [(hrow q).2]; omega, fun k hk => ?_⟩
    rw [(hrow q).1]
    exact q3 k (by omega)
  · refine e3.k ((hr0 f).resolve_right tz.2.2) (fun k hk => fx.ii (fun z => ?_)) (fun q hq => hrow q)
    rcases z with z | z
    · exact b.2.1 z.1.symm
    · exact b.2.2.2.1 z.1.symm
  · exact ⟨y3, by decide, fun k hk => absurd hk (Nat.not_lt_zero _)⟩
  · refine ⟨y4, by have := g3.2.1; omega, fun k hk => ?_⟩
    rw [y2 k hk]
    exact g3.2.2 k (by omega)
  · rw [fy.aa (by decide)]
    exact g6
/-- rows under a frame with sinks -/
theorem FX.ra {I J R : Nat → Nat → Prop} {A L S : Nat → Prop} (hK : SkS x) (f : FX I J R A L S x x') (hS : ∀ s, S s → SnkId s) {a : Nat} (ha : a < 152) (hn : ¬ skRow a) (hA : ¬ A a) : fA x' a = fA x a := by
  refine (f.2.2.2.1 a (Or.inl ha) hA (fun s hs e => hn ?_)).1
  obtain ⟨-, q, q1, q2, -⟩ := hK s (hS s hs)
  rw [e] at q1
  injection q1 with q1
  rw [q1]
  exact q2
theorem FX.rs {I J R : Nat → Nat → Prop} {A L S : Nat → Prop} (hK : SkS x) (f : FX I J R A L S x x') (hS : ∀ s, S s → SnkId s) {u q : Nat} (hu : SnkId u) (hnu : ¬ S u) (hq : fR x u 0 = some q) (hA : ∀ q, skRow q → ¬ A q) : fA x' q = fA x q ∧ fN x' q = fN x q := by
  obtain ⟨-, q', q1, q2, -⟩ := hK u hu
  rw [hq] at q1
  injection q1 with q1
  subst q1
  refine f.2.2.2.1 q (Or.inr (Or.inl ⟨u, hu, hq⟩)) (hA q q2) (fun s hs e => ?_)
  have ne : u ≠ s := fun z => hnu (by rw [z]; exact hs)
  exact hK.ne (hS s hs) hu ne e hq
/-- one sink of the four has changed -/
theorem FK.wr {s : Nat} (hK : SkS x) (hs : Tin s) (f : FK s x x') : WrC x x' := ⟨fun k hk => f.2.2.1 45 k (fun z => z) (fun z => by omega), FX.ra hK f (fun u e => by rw [e]; exact hs.s) (by decide) (by unfold skRow; omega) (fun z => z), fun o k ho hk => f.1 o k (fun z => by unfold Tin at hs; omega)⟩
theorem FK.sc {s : Nat} (hK : SkS x) (hs : Tin s) (f : FK s x x') : ScC' x x' := ⟨fun k hk => f.2.2.1 0 k (fun z => z) (fun z => by omega), fun o k ho => f.1 o k (fun z => by unfold Tin at hs; omega), fun a l1 l2 => FX.ra hK f (fun u e => by rw [e]; exact hs.s) (by omega) (by unfold skRow; omega) (fun z => z), f.2.2.2.2.1 39 (fun z => z)⟩
theorem FK.oq {s : Nat} (hK : SkS x) (hs : Tin s) (f : FK s x x') : OqC x x' := ⟨fun k l1 l2 => f.2.2.1 0 k (fun z => z) (fun z => by omega), fun o k ho => f.1 o k (fun z => by unfold Tin at hs; omega), fun a ha => FX.ra hK f (fun u e => by rw [e]; exact hs.s) (by omega) (by unfold skRow; omega) (fun z => z), fun a _ => f.2.2.2.2.1 a (fun z => z)⟩
theorem FK.ft {s : Nat} (hK : SkS x) (hs : Tin s) (f : FK s x x') : FtC' x x' := ⟨FX.ra hK f (fun u e => by rw [e]; exact hs.s) (by decide) (by unfold skRow; omega) (fun z => z), f.1 96 3 (fun z => by unfold Tin at hs; omega)⟩
theorem FK.ou {s : Nat} (hK : SkS x) (hs : Tin s) (f : FK s x x') : OuC x x' := by
  have ne : 147 ≠ s := by unfold Tin at hs; omega
  exact ⟨f.2.2.1 147 0 (fun z => z) (fun z => ne z.1), fun k hk => f.1 147 k (fun z => ne z.1), fun q hq => FX.rs hK f (fun u e => by rw [e]; exact hs.s) (by unfold SnkId; omega) ne hq (fun _ _ z => z)⟩
theorem FK.hold {s u c : Nat} {T : Nat → Int32} (hK : SkS x) (hs : Tin s) (hu : Tin u) (hne : u ≠ s) (f : FK s x x') (h : HoldC x u T c) : HoldC x' u T c := h.k (f.2.2.1 u 0 (fun z => z) (fun z => hne z.1)) (fun k hk => f.1 u k (fun z => hne z.1)) (fun q hq => FX.rs hK f (fun u e => by rw [e]; exact hs.s) hu.s hne hq (fun _ _ z => z))
theorem J_poke (h : Inv κ x y) : wp_V_poke (fun r x' => wp_Mod_poke (fun r' y' => r = r' ∧ Inv κ x' y') l1 l2 y) 0 l1 l2 x := by
  obtain ⟨b1, b2, ⟨t, i, f, w, c, n, m, U, T, B, h3⟩, b4, b5, b6, b7, b8⟩ := h
  obtain ⟨⟨a1, a2, a3, a4⟩, b, ⟨c1, c2, c3, c4⟩, d, e1, e2, ⟨d1, d2, q, d3, d4, d5⟩, g1, g2, g3, g4, g5, g6⟩ := h3
  have hK := b1.2.1
  refine k_poke hK a3.s g2 c3 d3 d1 d4 (fun k hk => (d5 k hk).1) (fun x' xK xC fx xI xr xN xb => s_poke b2.1 g2 g5 g6 (fun y' fy y0 yb => ⟨rfl, ?_⟩))
  have fm : MkM (fun k => k = 0) (fun a => a = 41) no1 y y' := fy
  have pk : ∀ k, pkT B m l1 l2 k < 256 := fun k => by
    unfold pkT
    split
    · exact Nat.mod_lt _ (by decide)
    · exact g1 k
  refine ⟨⟨fun r hr => (fx.2.2.2.2.2.1 r hr).trans (b1.1 r hr), xK, xC κ b1.2.2⟩, b2.k (BaM'.f fm (by decide) (by decide)), ?_, b4.k (FK.wr hK a3 fx), b5.k (FK.sc hK a3 fx) (ScM'.f fm (fun k hk z => by omega) (fun a ha z => by omega) (fun z => z)), b6.k (FK.oq hK a3 fx) (OqM.f b2.1 fm (fun k hk z => by omega) (fun a ha z => by omega) (fun _ _ z => z)), b7.k (FK.ft hK a3 fx) (FtM'.f fm (by decide) (by decide)), b8.k (FK.ou hK a3 fx) (OuM.f fm (by decide) (by decide))⟩
  refine ⟨t, i, f, w, c, n, m, U, T, pkT B m l1 l2, ⟨a1, a2, a3, a4⟩, b, ⟨(fx.2.2.1 0 0 (fun z => z) (fun z => by unfold Tin at a3; omega)).trans c1, (fx.2.2.1 0 1 (fun z => z) (fun z => by omega)).trans c2, (fx.2.2.1 0 2 (fun z => z) (fun z => by omega)).trans c3, (fx.2.2.1 45 0 (fun z => z) (fun z => by unfold Tin at a3; omega)).trans c4⟩, fun s hs => ?_, FK.hold hK a3 a1 b.2.1 fx e1, FK.hold hK a3 a2 b.2.2.2.1 fx e2, ⟨?_, ?_, q, xr, by rw [xN]; exact d4, fun k hk => ⟨xb k hk, ?_⟩⟩, pk, g2, ?_, ?_, (fy.ii (by decide)).trans g5, yb⟩
  · show x'.1 s 5 = 0 ∧ x'.1 s 6 = 0
    rw [xI]
    exact d s hs
  · show x'.1 f 1 = _
    rw [xI]
    exact d1
  · show x'.1 f 2 = _
    rw [xI]
    exact d2
  · have := pk k
    constructor <;> (first | omega | (simp (disch := omega) only [Int32.le_iff_toInt_le, Int32.lt_iff_toInt_lt, z_eq, z_in, nI_toInt, z_cl, z_m1, z_sg, z_255, Int32.reduceToInt] <;> omega) | (simp only [Int32.le_iff_toInt_le, Int32.lt_iff_toInt_lt, z_eq, z_in, z_add, z_sub, z_mul, z_neg, z_nI, z_cl, z_sg, z_255, z_lit, Int32.reduceToInt] <;> omega))
  · obtain ⟨t1, t2, t3⟩ := g3
    exact ⟨(fy.ii (by decide)).trans t1, t2, by rw [fy.aa (by decide)]; exact t3⟩
  · obtain ⟨t1, t2, t3⟩ := g4
    exact ⟨(fy.ii (by decide)).trans t1, t2, by rw [fy.aa (by decide)]; exact t3⟩
theorem J_feed (h : Inv κ x y) : ∃ κ', Kle κ κ' ∧ ∀ kb nb, KP κ ≤ kb + KP κ' → NP κ ≤ nb + NP κ' → wp_V_feed (fun r x' => wp_Mod_feed (fun r' y' => r = r' ∧ Inv κ' x' y') l1 l2 l3 l4 l5 y) 0 l1 l2 l3 l4 l5 kb nb x := by
  have hI := h
  obtain ⟨b1, b2, ⟨t, i, f, w, c, n, m, U, T, B, h3⟩, b4, b5, b6, b7, b8⟩ := h
  obtain ⟨⟨a1, a2, a3, a4⟩, b, ⟨c1, c2, c3, c4⟩, d, e1, e2, e3, g1, g2, g3, g4, g5, g6⟩ := h3
  have hK := b1.2.1
  have hκ : ∀ s, SnkId s → κ s ≤ roomOf s := b1.2.2.room hK
  have hroom := a1.room
  obtain ⟨q, q1, q2⟩ := b1.2.2 t a1.s
  have qc : c ≤ fN x q := by
    obtain ⟨-, -, q', r1, r2, -⟩ := e1
    rw [q1] at r1
    injection r1 with r1
    subst r1
    exact r2
  have q5 : 512 ≤ fN x q ∧ fN x q ≤ 40000 := by
    obtain ⟨-, q', r1, -, r2, r3, -⟩ := hK t a1.s
    rw [q1] at r1
    injection r1 with r1
    subst r1
    rw [hroom] at r3
    exact ⟨r2, r3⟩
  by_cases cc : c + 20 ≤ 40000
  rotate_left
  · refine ⟨κ, Kle.refl hκ, fun kb nb hk hn => ?_⟩
    unfold wp_V_feed
    refine ⟨t, c1, ?_⟩
    rw [e1.1, show (20 : Int32) = nI 20 from rfl, nI_add, show (40000 : Int32) = nI 40000 from rfl]
    refine br_f (by have := g3.2.1; (first | omega | (simp (disch := omega) only [Int32.le_iff_toInt_le, Int32.lt_iff_toInt_lt, z_eq, z_in, nI_toInt, z_cl, z_m1, z_sg, z_255, Int32.reduceToInt] <;> omega) | (simp only [Int32.le_iff_toInt_le, Int32.lt_iff_toInt_lt, z_eq, z_in, z_add, z_sub, z_mul, z_neg, z_nI, z_cl, z_sg, z_255, z_lit, Int32.reduceToInt] <;> omega))) (s_feed b2.1 g3 (fun z => absurd z cc) (fun _ y' fy ty => ⟨rfl, ?_⟩))
    · have fm : MkM (fun k => k = 0 ∨ k = 3) (fun a => a = 1) no1 y y' := Fr.g fy
      refine ⟨b1, b2.k (BaM'.f fm (by decide) (by decide)), ⟨t, i, f, w, c, n, m, U, T, B, ⟨a1, a2, a3, a4⟩, b, ⟨c1, c2, c3, c4⟩, d, e1, e2, e3, g1, g2, ty, ?_, (fm.ii (by decide)).trans g5, ?_⟩, b4, b5.k (ScC'.refl x) (ScM'.f fm (fun k hk z => by omega) (fun a ha z => by omega) (fun z => z)), b6.k (OqC.refl x) (OqM.f b2.1 fm (fun k hk z => by omega) (fun a ha z => by omega) (fun _ _ z => z)), b7.k (FtC'.refl x) (FtM'.f fm (by decide) (by decide)), b8.k (OuC.refl x) (OuM.f fm (by decide) (by decide))⟩
      · obtain ⟨t1, t2, t3⟩ := g4
        exact ⟨(fm.ii (by decide)).trans t1, t2, by rw [fm.aa (by decide)]; exact t3⟩
      · rw [fm.aa (by decide)]
        exact g6
  · have cN := cpN_ok (cap := fN x q) (room := 40000) (c := c) qc q5.2 (by omega) (m := 20) cc
    have cL := (cpN_le (cap := fN x q) (room := 40000) (c := c) qc q5.2 (by omega) (m := 20) (j := 0) (by omega) cc).1
    have cL : 40000 - cpN (fN x q) 40000 c 20 ≤ 40000 - fN x q := cL
    obtain ⟨kp1, kp2⟩ := kup_P (κ := κ) (s := t) (N := cpN (fN x q) 40000 c 20) a1.s
    unfold kq at kp1
    unfold nq at kp2
    rw [← q2, hroom] at kp1 kp2
    refine ⟨kup κ t (cpN (fN x q) 40000 c 20), kup_le hκ (by rw [← q2]; omega) (by rw [hroom]; omega), fun kb nb hk hn => c_feed hK a1.s hroom c1 q1 e1 g3.2.1 (by omega) (by omega) (fun _ x' q' xK fx xh xq xN => s_feed b2.1 g3 (fun _ y' fy ty => ⟨rfl, ?_⟩) (fun z => absurd cc z)) (fun z => absurd cc z)⟩
    have fm : MkM (fun k => k = 0 ∨ k = 3) (fun a => a = 1) no1 y y' := Fr.g fy
    have fk : FK t x x' := fx.x
    refine ⟨⟨fun r hr => (fk.2.2.2.2.2.1 r hr).trans (b1.1 r hr), xK, b1.2.2.k hK a1.s fx xq xN⟩, b2.k (BaM'.f fm (by decide) (by decide)), ?_, b4.k (FK.wr hK a1 fk), b5.k (FK.sc hK a1 fk) (ScM'.f fm (fun k hk z => by omega) (fun a ha z => by omega) (fun z => z)), b6.k (FK.oq hK a1 fk) (OqM.f b2.1 fm (fun k hk z => by omega) (fun a ha z => by omega) (fun _ _ z => z)), b7.k (FK.ft hK a1 fk) (FtM'.f fm (by decide) (by decide)), b8.k (FK.ou hK a1 fk) (OuM.f fm (by decide) (by decide))⟩
    refine ⟨t, i, f, w, c + 20, n, m, app U c (b20 l1 l2 l3 l4 l5), T, B, ⟨a1, a2, a3, a4⟩, b, ⟨(fk.2.2.1 0 0 (fun z => z) (fun z => by unfold Tin at a1; omega)).trans c1, (fk.2.2.1 0 1 (fun z => z) (fun z => by omega)).trans c2, (fk.2.2.1 0 2 (fun z => z) (fun z => by omega)).trans c3, (fk.2.2.1 45 0 (fun z => z) (fun z => by unfold Tin at a1; omega)).trans c4⟩, fun s hs => ⟨(fx.1 s 5 (fun z => by omega)).trans (d s hs).1, (fx.1 s 6 (fun z => by omega)).trans (d s hs).2⟩, xh, FK.hold hK a1 a2 (fun z => b.1 z.symm) fk e2, FK.hold hK a1 a3 (fun z => b.2.1 z.symm) fk e3, g1, g2, ty, ?_, (fm.ii (by decide)).trans g5, ?_⟩
    · obtain ⟨t1, t2, t3⟩ := g4
      exact ⟨(fm.ii (by decide)).trans t1, t2, by rw [fm.aa (by decide)]; exact t3⟩
    · rw [fm.aa (by decide)]
      exact g6
end
