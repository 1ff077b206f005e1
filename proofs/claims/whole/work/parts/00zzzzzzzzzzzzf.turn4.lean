/-! write and open -/
section
variable {x x' y y' : St} {κ : Nat → Nat} {l1 l2 l3 l4 l5 : Int32}
/-- a write that is refused at once -/
def badW (F : List SFd) (RS : List (List SEn)) (l1 l2 : Int32) : Prop := F = [] ∨ l1 < 1 ∨ 1000 < l1 ∨ l2 < 1 ∨ 2000 < l2 ∨ ∃ g, l2 = nI g ∧ 1 ≤ g ∧ g ≤ 2000 ∧ 500 < nGr RS g
theorem i_pos {v : Int32} {b : Nat} (hb : b < 2 ^ 31) (h1 : ¬ v < 1) (h2 : ¬ nI b < v) : ∃ n, v = nI n ∧ 1 ≤ n ∧ n ≤ b := by
  obtain ⟨n, n1, rfl⟩ := wb_of32 v
  have n2 : n < 2 ^ 31 := by
    rcases Nat.lt_or_ge n (2 ^ 31) with z | z
    · exact z
    · have := nI_big z n1
      exfalso
      apply h1
      clear h2
      (first | omega | (simp (disch := omega) only [Int32.le_iff_toInt_le, Int32.lt_iff_toInt_lt, z_eq, z_in, nI_toInt, z_cl, z_m1, z_sg, z_255, Int32.reduceToInt] at * <;> omega) | (simp only [Int32.le_iff_toInt_le, Int32.lt_iff_toInt_lt, z_eq, z_in, z_add, z_sub, z_mul, z_neg, z_nI, z_cl, z_sg, z_255, z_lit, Int32.reduceToInt] at * <;> omega))
  refine ⟨n, rfl, ?_, ?_⟩
  · rcases Nat.lt_or_ge n 1 with z | z
    · exfalso
      have : n = 0 := by omega
      subst this
      exact h1 (by decide)
    · exact z
  · rcases Nat.lt_or_ge b n with z | z
    · exact absurd (by (first | omega | (simp (disch := omega) only [Int32.le_iff_toInt_le, Int32.lt_iff_toInt_lt, z_eq, z_in, nI_toInt, z_cl, z_m1, z_sg, z_255, Int32.reduceToInt] <;> omega) | (simp only [Int32.le_iff_toInt_le, Int32.lt_iff_toInt_lt, z_eq, z_in, z_add, z_sub, z_mul, z_neg, z_nI, z_cl, z_sg, z_255, z_lit, Int32.reduceToInt] <;> omega))) h2
    · exact z
theorem bad_or {F : List SFd} {RS : List (List SEn)} : badW F RS l1 l2 ∨ (F ≠ [] ∧ ∃ most g, l1 = nI most ∧ l2 = nI g ∧ 1 ≤ most ∧ most ≤ 1000 ∧ 1 ≤ g ∧ g ≤ 2000 ∧ nGr RS g ≤ 500) := by
  by_cases a1 : F = []
  · exact Or.inl (Or.inl a1)
  by_cases a2 : l1 < 1
  · exact Or.inl (Or.inr (Or.inl a2))
  by_cases a3 : 1000 < l1
  · exact Or.inl (Or.inr (Or.inr (Or.inl a3)))
  by_cases a4 : l2 < 1
  · exact Or.inl (Or.inr (Or.inr (Or.inr (Or.inl a4))))
  by_cases a5 : 2000 < l2
  · exact Or.inl (Or.inr (Or.inr (Or.inr (Or.inr (Or.inl a5)))))
  obtain ⟨mo, e1, m1, m2⟩ := i_pos (b := 1000) (by decide) a2 a3
  obtain ⟨g, e2, g1, g2⟩ := i_pos (b := 2000) (by decide) a4 a5
  by_cases a6 : nGr RS g ≤ 500
  · exact Or.inr ⟨a1, mo, g, e1, e2, m1, m2, g1, g2, a6⟩
  · exact Or.inl (Or.inr (Or.inr (Or.inr (Or.inr (Or.inr ⟨g, e2, g1, g2, by omega⟩)))))
theorem gr_i {RS : List (List SEn)} {g : Nat} (hR : RS.length ≤ 2000) (g1 : 1 ≤ g) (g2 : g ≤ 2000) : (((nI RS.length + nI g) - 1) / nI g) = nI (nGr RS g) ∧ nGr RS g < 2 ^ 31 ∧ ¬ nI g = 0 := by
  have e : (nI RS.length + nI g) - 1 = nI (RS.length + g - 1) := by
    rw [nI_add, show (1 : Int32) = nI 1 from rfl, nI_sub (by omega)]
  refine ⟨?_, ?_, fun z => by have := nI_inj (b := 0) (by omega) (by omega) z; omega⟩
  · rw [e, nI_dv (by omega) (by omega) (by omega)]
    rfl
  · unfold nGr
    have := Nat.div_le_self (RS.length + g - 1) g
    omega
theorem k_badW {post : Int32 → St → Prop} {kb nb sc : Nat} {F : List SFd} {RS : List (List SEn)} (h4 : fR x 0 4 = some sc) (hF128 : F.length ≤ 128) (h0 : fI x sc 0 = nI F.length) (h36 : fI x 36 0 = nI RS.length) (hR : RS.length ≤ 2000) (hb : badW F RS l1 l2) (p : post (-1) x) : wp_V_write post 0 l1 l2 kb nb x := by
  unfold wp_V_write
  refine ⟨sc, h4, ?_⟩
  rw [h0]
  unfold j_V_write_34
  by_cases a1 : F = []
  · exact br_t (by rw [a1]; rfl) p
  have lF : 0 < F.length := List.length_pos_iff.mpr a1
  refine br_f (fun z => by have := nI_inj (b := 0) (by omega) (by omega) z; omega) ?_
  by_cases a2 : l1 < 1
  · exact br_t a2 p
  refine br_f a2 ?_
  by_cases a3 : 1000 < l1
  · exact br_t a3 p
  refine br_f a3 ?_
  by_cases a4 : l2 < 1
  · exact br_t a4 p
  refine br_f a4 ?_
  by_cases a5 : 2000 < l2
  · exact br_f (Int32.not_le.mpr a5) p
  refine br_t (Int32.not_lt.mp a5) ?_
  have e36 : fI x (stC 0 6) 0 = nI RS.length := h36
  rw [e36]
  rcases hb with z | z | z | z | z | ⟨g, rfl, g1, g2, g3⟩
  · exact absurd z a1
  · exact absurd z a2
  · exact absurd z a3
  · exact absurd z a4
  · exact absurd z a5
  obtain ⟨q1, q2, q3⟩ := gr_i hR g1 g2
  refine nm_e ⟨q3, nm_r (e' := nI (nGr RS g)) q1 (br_f ?_ p)⟩
  (first | omega | (simp (disch := omega) only [Int32.le_iff_toInt_le, Int32.lt_iff_toInt_lt, z_eq, z_in, nI_toInt, z_cl, z_m1, z_sg, z_255, Int32.reduceToInt] <;> omega) | (simp only [Int32.le_iff_toInt_le, Int32.lt_iff_toInt_lt, z_eq, z_in, z_add, z_sub, z_mul, z_neg, z_nI, z_cl, z_sg, z_255, z_lit, Int32.reduceToInt] <;> omega))
theorem s_badW {post : Int32 → St → Prop} {F : List SFd} {RS : List (List SEn)} (h14 : fI y 0 14 = if F = [] then 0 else 1) (h34 : fI y 0 34 = nI RS.length) (hR : RS.length ≤ 2000) (hb : badW F RS l1 l2) (p : post (-1) (setI y 0 0 0)) : wp_Mod_write post l1 l2 y := by
  unfold wp_Mod_write
  refine nm_e ?_
  rw [gI_ne (by decide : (14 : Nat) ≠ 0), gI_ne (by decide : (34 : Nat) ≠ 0), h14, h34]
  unfold j_Mod_write_52
  by_cases a1 : F = []
  · rw [if_pos a1]
    exact br_t rfl p
  rw [if_neg a1]
  refine br_f (by decide) ?_
  by_cases a2 : l1 < 1
  · exact br_t a2 p
  refine br_f a2 ?_
  by_cases a3 : 1000 < l1
  · exact br_t a3 p
  refine br_f a3 ?_
  by_cases a4 : l2 < 1
  · exact br_t a4 p
  refine br_f a4 ?_
  by_cases a5 : 2000 < l2
  · exact br_t a5 p
  refine br_f a5 ?_
  rcases hb with z | z | z | z | z | ⟨g, rfl, g1, g2, g3⟩
  · exact absurd z a1
  · exact absurd z a2
  · exact absurd z a3
  · exact absurd z a4
  · exact absurd z a5
  obtain ⟨q1, q2, q3⟩ := gr_i hR g1 g2
  rw [q1]
  exact ⟨q3, br_f (by (first | omega | (simp (disch := omega) only [Int32.le_iff_toInt_le, Int32.lt_iff_toInt_lt, z_eq, z_in, nI_toInt, z_cl, z_m1, z_sg, z_255, Int32.reduceToInt] <;> omega) | (simp only [Int32.le_iff_toInt_le, Int32.lt_iff_toInt_lt, z_eq, z_in, z_add, z_sub, z_mul, z_neg, z_nI, z_cl, z_sg, z_255, z_lit, Int32.reduceToInt] <;> omega))) p⟩
theorem wq_rows {q : Nat} (hq : skRow q ∨ 13 ≤ q ∧ q ≤ 44 ∨ 70 ≤ q ∧ q ≤ 146) : ¬ (q = 61 ∨ q = 62 ∨ q = 63 ∨ q = 65 ∨ q = 69 ∨ q = stC 55 4 ∨ q = stC 58 4) := by
  have e1 : stC 55 4 = 56 := by decide
  have e2 : stC 58 4 = 59 := by decide
  rw [e1, e2]
  unfold skRow at hq
  omega
theorem wq_s {w s : Nat} (hw : Tin w) (hs : s = 55 ∨ s = 58 ∨ s = w ∨ s = 52 ∨ s = 49) : SnkId s := by unfold SnkId; unfold Tin at hw; omega
theorem wq_keep {w : Nat} (hK : SkS x) (hw : Tin w) (f : FWq w x x') : (∀ k, k ≤ 2 → fR x' 0 k = fR x 0 k) ∧ fR x' 45 0 = fR x 45 0 ∧ ScC' x x' ∧ OqC x x' ∧ FtC' x x' ∧ OuC x x' := by
  have hr : ∀ a, (13 ≤ a ∧ a ≤ 44 ∨ 70 ≤ a ∧ a ≤ 146) → fA x' a = fA x a := fun a ha => FX.ra hK f (fun s hs => wq_s hw hs) (by omega) (by unfold skRow; omega) (wq_rows (by omega))
  unfold Tin at hw
  refine ⟨fun k hk => f.2.2.1 0 k (by omega) (by omega), f.2.2.1 45 0 (by omega) (by omega), ⟨fun k hk => f.2.2.1 0 k (by omega) (by omega), fun o k ho => f.1 o k (by omega), fun a l1 l2 => hr a (by omega), f.2.2.2.2.1 39 (by omega)⟩, ⟨fun k l1 l2 => f.2.2.1 0 k (by omega) (by omega), fun o k ho => f.1 o k (by omega), fun a ha => hr a (by omega), fun a ha => f.2.2.2.2.1 a (by omega)⟩, ⟨hr 98 (by omega), f.1 96 3 (by omega)⟩, ⟨f.2.2.1 147 0 (by omega) (by omega), fun k hk => f.1 147 k (by omega), fun q hq => FX.rs hK f (fun s hs => wq_s hw hs) (by unfold SnkId; omega) (by omega) hq (fun q hq => wq_rows (Or.inl hq))⟩⟩
theorem wq_hold {w s c : Nat} {T : Nat → Int32} (hK : SkS x) (hw : Tin w) (hs : Tin s) (hne : s ≠ w) (f : FWq w x x') (h : HoldC x s T c) : HoldC x' s T c := by
  have hs' := hs.s
  have ww := hw
  unfold Tin at hs
  exact h.k (f.2.2.1 s 0 (by omega) (by omega)) (fun k hk => f.1 s k (by omega)) (fun q hq => FX.rs hK f (fun s hs => wq_s ww hs) hs' (by omega) hq (fun q hq => wq_rows (Or.inl hq)))
theorem J_write (h : Inv κ x y) : ∃ κ', Kle κ κ' ∧ ∀ kb nb, KP κ ≤ kb + KP κ' → NP κ ≤ nb + NP κ' → wp_V_write (fun r x' => wp_Mod_write (fun r' y' => r = r' ∧ Inv κ' x' y') l1 l2 y) 0 l1 l2 kb nb x := by
  have h0 := h.m0
  obtain ⟨b1, b2, ⟨t, i, f, w, c, n, m, U, T, B, h3⟩, ⟨tt, bb, w1, w2, w3, w4⟩, ⟨sc, sp, F, E, RS, h5⟩, b6, b7, b8⟩ := h
  have h3' := h3
  obtain ⟨⟨a1, a2, a3, a4⟩, b, ⟨c1, c2, c3, c4⟩, d, e1, e2, e3, g1, g2, g3, g4, g5, g6⟩ := h3
  have h5' := h5
  obtain ⟨s1, s2, s3, s4, s5, s6, s7, s8, s9, s10, s11⟩ := h5
  have hK := b1.2.1
  have hκ : ∀ s, SnkId s → κ s ≤ roomOf s := b1.2.2.room hK
  have hR2 : RS.length ≤ 2000 := s11.2.2.2.1
  rcases bad_or (F := F) (RS := RS) (l1 := l1) (l2 := l2) with hb | ⟨cF, most, g, rfl, rfl, m1, m2, g1', g2', gn⟩
  · exact ⟨κ, Kle.refl hκ, fun kb nb _ _ => k_badW s2 s4.1 s5 s7.1 hR2 hb (s_badW s9 s11.2.2.1 hR2 hb ⟨rfl, h0⟩)⟩
  have hRep := s6 cF
  have hNm : NmS F := hRep.2.2.1
  have hE := WrE_of s4 hNm s8 s7.2.2.2.1 hR2
  have hlv : ∀ e, e ∈ E → e.2.2.1 < 128 := by
    intro e he
    obtain ⟨k, hk, rfl⟩ := List.getElem_of_mem he
    have := s7.2.2.2.2.2.2.1 k hk
    rw [List.getD_eq_getElem?_getD, List.getElem?_eq_getElem hk] at this
    exact this.2.2.2.2.2.1
  have hH := WrH_of s4 hNm s8 s7.2.2.2.1 hlv
  have lF : F.length ≠ 0 := fun z => cF (List.eq_nil_of_length_eq_zero z)
  have wN : w ≠ 52 ∧ w ≠ 55 ∧ w ≠ 58 ∧ w ≠ 49 ∧ w ≠ 147 := by unfold Tin at a4; omega
  obtain ⟨κ', t', b', k1, k2, k3⟩ := k_write (most := most) (g := g) a4.s wN (by unfold SchId; omega) w1 hE m1 m2 g1' g2' gn lF hκ hK b1.2.2 b1.1 s2 hRep s7 c4 c3 w2 (d w a4).1 (d w a4).2 w3 w4
  refine ⟨κ', k1, fun kb nb hk hn => k3 _ kb nb hk hn (fun x' xK xC fx xT x5 x6 x95 x96 xe => ?_) (fun x' B' xe xK xC fx xT xS xl x95 x96 => ?_)⟩
  · rw [filC_eq m2 g1'] at xe
    have hk := wq_keep hK a4 fx
    have hh : ∀ {s c T}, Tin s → s ≠ w → HoldC x s T c → HoldC x' s T c := fun hs hne h => wq_hold hK a4 hs hne fx h
    refine s_write b2.1 (s10 cF) s11 hH b2.2.1 m1 m2 g1' g2' gn (by rw [s9, if_neg cF]; decide) (fun y' fy y33 ye => ⟨rfl, ?_⟩) (fun y' B' fy y33 ye => by rw [xe] at ye; exact nomatch ye)
    have fm : MkM (fun k => k = 0 ∨ 38 ≤ k ∧ k ≤ 44 ∨ k = 64 ∨ k = 66 ∨ k = 71) (fun a => a = 26 ∨ a = 27 ∨ a = 33 ∨ a = 36 ∨ a = 39 ∨ a = 40 ∨ a = 42 ∨ a = 44 ∨ a = 50 ∨ a = 51) (fun a => a = 30 ∨ a = 43) y y' := fy
    refine ⟨⟨fun r hr => (fx.2.2.2.2.2.1 r hr).trans (b1.1 r hr), xK, xC⟩, ⟨fun a => (congrFun fy.2.2.2.2.2 a).trans (b2.1 a), y33, by rw [fm.aa (by omega)]; exact b2.2.2⟩, ⟨t, i, f, w, c, n, m, U, T, B, ⟨a1, a2, a3, a4⟩, b, ⟨(hk.1 0 (by decide)).trans c1, (hk.1 1 (by decide)).trans c2, (hk.1 2 (by decide)).trans c3, hk.2.1.trans c4⟩, fun s hs => ?_, hh a1 b.2.2.1 e1, hh a2 b.2.2.2.2.1 e2, hh a3 b.2.2.2.2.2 e3, g1, g2, ?_, ?_, (fm.ii (by omega)).trans g5, ?_⟩, ⟨t', b', k2, xT, x95, x96⟩, ⟨sc, sp, F, E, RS, h5'.k hk.2.2.1 (ScM'.f fm (fun k hk z => by omega) (fun a ha z => by omega) (by omega))⟩, b6.k hk.2.2.2.1 (OqM.f b2.1 fm (fun k hk z => by omega) (fun a ha z => by omega) (fun a ha z => by omega)), b7.k hk.2.2.2.2.1 (FtM'.f fm (by omega) (by omega)), b8.k hk.2.2.2.2.2 (OuM.f fm (by omega) (by omega))⟩
    · by_cases z : s = w
      · subst z
        exact ⟨x5, x6⟩
      · exact ⟨(fx.1 s 5 (fun q => by unfold Tin at hs; omega)).trans (d s hs).1, (fx.1 s 6 (fun q => by unfold Tin at hs; omega)).trans (d s hs).2⟩
    · obtain ⟨t1, t2, t3⟩ := g3
      exact ⟨(fm.ii (by omega)).trans t1, t2, by rw [fm.aa (by omega)]; exact t3⟩
    · obtain ⟨t1, t2, t3⟩ := g4
      exact ⟨(fm.ii (by omega)).trans t1, t2, by rw [fm.aa (by omega)]; exact t3⟩
    · rw [fm.aa (by omega)]
      exact g6
  · rw [filC_eq m2 g1'] at xe
    have hk := wq_keep hK a4 fx
    have hh : ∀ {s c T}, Tin s → s ≠ w → HoldC x s T c → HoldC x' s T c := fun hs hne h => wq_hold hK a4 hs hne fx h
    refine s_write b2.1 (s10 cF) s11 hH b2.2.1 m1 m2 g1' g2' gn (by rw [s9, if_neg cF]; decide) (fun y' fy y33 ye => by rw [xe] at ye; exact nomatch ye) (fun y' B2 fy y33 ye yF => ?_)
    rw [xe] at ye
    injection ye with ye
    subst ye
    refine ⟨rfl, ?_⟩
    have fm : MkM (fun k => k = 0 ∨ 38 ≤ k ∧ k ≤ 44 ∨ 64 ≤ k ∧ k ≤ 66 ∨ k = 71) (fun a => a = 26 ∨ a = 27 ∨ a = 33 ∨ a = 36 ∨ a = 39 ∨ a = 40 ∨ a = 41 ∨ a = 42 ∨ a = 44 ∨ a = 50 ∨ a = 51) (fun a => a = 30 ∨ a = 43) y y' := fy
    have fs : Fg no2 no2 (fun a k => a = 45 ∧ k = 0 ∨ a = 0 ∧ k = 2) no1 no1 x' (setR (setR x' 45 0 (some f)) 0 2 (some w)) := (Fg.r (Or.inl ⟨rfl, rfl⟩)).trans (Fg.r (Or.inr ⟨rfl, rfl⟩))
    have r2 : fR (setR (setR x' 45 0 (some f)) 0 2 (some w)) 0 2 = some w := gR_at
    have r45 : fR (setR (setR x' 45 0 (some f)) 0 2 (some w)) 45 0 = some f := (gR_ne (by omega)).trans gR_at
    have bx : BaC κ' x' := ⟨fun r hr => (fx.2.2.2.2.2.1 r hr).trans (b1.1 r hr), xK, xC⟩
    have hW : HoldC x' w (fun k => nI (B'.getD k 0)) B'.length ∧ ∀ b, b ∈ B' → b < 256 := by
      rcases xS.2.2 with ⟨-, z⟩ | ⟨z, -⟩
      · exact ⟨z.2, z.1⟩
      · rw [a4.room] at z
        omega
    generalize setR (setR x' 45 0 (some f)) 0 2 (some w) = x2 at *
    have hs2 : ∀ {s c T}, Tin s → HoldC x' s T c → HoldC x2 s T c := fun hs h => h.k (f_r fs (fun z => by unfold Tin at hs; omega)) (fun k hk => fs.ii (fun z => z)) (fun q hq => ⟨fs.aa (fun z => z), fs.len q⟩)
    refine ⟨bx.fg fs (fun _ _ z => z) (fun s hs z => by unfold SnkId at hs; omega) (fun _ _ z => z), ⟨fun a => (congrFun fy.2.2.2.2.2 a).trans (b2.1 a), y33, by rw [fm.aa (by omega)]; exact b2.2.2⟩, ⟨t, i, w, f, c, n, B'.length, U, T, fun k => B'.getD k 0, ⟨a1, a2, a4, a3⟩, ⟨b.1, b.2.2.1, b.2.1, b.2.2.2.2.1, b.2.2.2.1, fun z => b.2.2.2.2.2 z.symm⟩, ⟨(f_r fs (by omega)).trans ((hk.1 0 (by decide)).trans c1), (f_r fs (by omega)).trans ((hk.1 1 (by decide)).trans c2), r2, r45⟩, fun s hs => ?_, hs2 a1 (hh a1 b.2.2.1 e1), hs2 a2 (hh a2 b.2.2.2.2.1 e2), hs2 a4 hW.1, fun k => ?_, xl, ?_, ?_, yF.1, fun k hk => yF.2.2.2 k hk⟩, (WrJ.k ⟨t', b', k2, xT, x95, x96⟩ (WrC.f fs (fun k hk z => by omega) (fun z => z) (fun _ _ _ _ z => z))), ⟨sc, sp, F, E, RS, (h5'.k hk.2.2.1 (ScM'.f fm (fun k hk z => by omega) (fun a ha z => by omega) (by omega))).k (ScC'.f fs (fun k hk z => by omega) (fun _ _ _ z => z) (fun _ _ _ z => z) (fun z => z)) ⟨fun _ _ => rfl, fun _ _ _ _ _ => rfl, fun _ _ _ => rfl, rfl⟩⟩, (b6.k hk.2.2.2.1 (OqM.f b2.1 fm (fun k hk z => by omega) (fun a ha z => by omega) (fun a ha z => by omega))).k (OqC.f fs (fun k l1 l2 z => by omega) (fun _ _ _ z => z) (fun _ _ z => z) (fun _ _ z => z)) ⟨fun a => (congrFun fy.2.2.2.2.2 a).trans (b2.1 a), fun _ _ => rfl, fun _ _ _ _ _ _ => rfl, fun _ _ => rfl, fun _ _ => rfl⟩, (b7.k hk.2.2.2.2.1 (FtM'.f fm (by omega) (by omega))).k (FtC'.f fs (fun z => z) (fun z => z)) ⟨rfl, rfl⟩, (b8.k hk.2.2.2.2.2 (OuM.f fm (by omega) (by omega))).k (OuC.f bx fs (fun z => by omega) (fun _ _ z => z) (fun _ _ z => z)) ⟨rfl, rfl⟩⟩
    · rw [fs.ii (fun z => z), fs.ii (fun z => z)]
      by_cases z : s = w
      · subst z
        exact ⟨xS.1, xS.2.1⟩
      · exact ⟨(fx.1 s 5 (fun q => by unfold Tin at hs; omega)).trans (d s hs).1, (fx.1 s 6 (fun q => by unfold Tin at hs; omega)).trans (d s hs).2⟩
    · show B'.getD k 0 < 256
      rcases Nat.lt_or_ge k B'.length with z | z
      · exact hW.2 _ (mem_gD z)
      · rw [List.getD_eq_getElem?_getD, List.getElem?_eq_none z]
        decide
    · obtain ⟨t1, t2, t3⟩ := g3
      exact ⟨(fm.ii (by omega)).trans t1, t2, by rw [fm.aa (by omega)]; exact t3⟩
    · obtain ⟨t1, t2, t3⟩ := g4
      exact ⟨(fm.ii (by omega)).trans t1, t2, by rw [fm.aa (by omega)]; exact t3⟩
end
