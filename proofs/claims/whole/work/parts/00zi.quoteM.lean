/-! the model reads a TEXT -/
/-- what reading a text changes -/
abbrev FrQ (x y : St) : Prop := FrM (fun k => k = 16 ∨ k = 17 ∨ k = 25) (fun a => a = 16) x y
theorem TxM.frq {K A : Nat → Prop} {x y : St} {T : Nat → Int32} {n : Nat} (h : TxM x T n) (f : FrM K A x y) (hK : ¬ K 15) (hA : ¬ A 2) : TxM y T n := by
  obtain ⟨h1, h2, h3, h4⟩ := h
  refine ⟨(f.1 0 15 (fun z => hK z.2)).trans h1, h2, ?_, fun i hi => ⟨?_, (h4 i hi).2⟩⟩
  · show y.2.2.2.2.2 2 = _
    rw [f.2.2.2.2]
    exact h3
  · show y.2.2.2.1 2 i = _
    rw [f.2.1 2 hA]
    exact (h4 i hi).1
theorem LM.frm {I : Nat → Nat → Prop} {A : Nat → Prop} {x y : St} (h : LM x) (f : Fr I A x y) : LM y := by
  intro o
  show y.2.2.2.2.2 o = _
  rw [f.2.2.2.2]
  exact h o
/-- s bytes said before, then those of a -/
def SaidM (x y : St) (s : Nat) (a : List Int32) : Prop := fI y 0 25 = nI (s + a.length) ∧ (∀ i, i < s → fA y 16 i = fA x 16 i) ∧ ∀ i, i < a.length → fA y 16 (s + i) = a.getD i 0
theorem getD_snoc {a : List Int32} {v : Int32} {i : Nat} (h : i < (a ++ [v]).length) : (a ++ [v]).getD i 0 = if i < a.length then a.getD i 0 else v := by
  have hl : (a ++ [v]).length = a.length + 1 := by rw [List.length_append]; rfl
  rw [List.getD_eq_getElem?_getD, List.getD_eq_getElem?_getD]
  by_cases c : i < a.length
  · rw [if_pos c, List.getElem?_append_left c]
  · rw [if_neg c, List.getElem?_append_right (by omega), show i - a.length = 0 by omega]
    rfl
theorem s_say {post : St → Prop} {x y : St} {v : Int32} {s : Nat} {a : List Int32} (hL : LM y) (h : SaidM x y s a) (hb : s + a.length < 4100)
    (p : ∀ z, FrM (fun k => k = 25) (fun r => r = 16) y z → SaidM x z s (a ++ [v]) → post z) : wp_Mod_say post v y := by
  obtain ⟨h1, h2, h3⟩ := h
  have hl : (a ++ [v]).length = a.length + 1 := by rw [List.length_append]; rfl
  unfold wp_Mod_say
  rw [hL 16, h1]
  refine ⟨vp_in_nI (by show _ < 4100; exact hb) (by decide), nm_e (nm_r (e' := setI (setA y 16 (nI (s + a.length)) v) 0 25 (nI (s + a.length + 1))) ?_ (p _ (Fr.trans (Fr.A rfl) (Fr.I ⟨rfl, rfl⟩)) ⟨?_, ?_, ?_⟩))⟩
  · rw [show fI (setA y 16 (nI (s + a.length)) v) 0 25 = fI y 0 25 from rfl, h1, nI_1]
  · rw [hl]; rfl
  · intro i hi
    show fA (setA y 16 (nI (s + a.length)) v) 16 i = _
    rw [gA_at, nI_clamp (by omega), upd_ne (by omega)]
    exact h2 i hi
  · intro i hi
    show fA (setA y 16 (nI (s + a.length)) v) 16 (s + i) = _
    rw [gA_at, nI_clamp (by omega), getD_snoc hi]
    rw [hl] at hi
    by_cases c : i < a.length
    · rw [upd_ne (by omega), if_pos c]
      exact h3 i c
    · rw [show s + i = s + a.length by omega, upd_at, if_neg c]
theorem s_readText {post : St → Prop} {x : St} {T : Nat → Int32} {n k s : Nat} (hL : LM x) (h : TxM x T n) (hk : fI x 0 16 = nI k) (hb : k ≤ n) (he : fI x 0 17 = -1) (hs : fI x 0 25 = nI s) (hsb : s + (n - k) ≤ 4050)
    (pN : ¬ (k < n ∧ T k = 39) → post (setI x 0 17 (nI k)))
    (p1 : k < n → T k = 39 → (qtO T n (k + 1) []).1 = -1 → ∀ y, FrQ x y → fI y 0 17 = -1 → fI y 0 16 = nI (qtO T n (k + 1) []).2.1 → SaidM x y s (qtO T n (k + 1) []).2.2 → (qtO T n (k + 1) []).2.1 ≤ n → k + (qtO T n (k + 1) []).2.2.length + 2 ≤ (qtO T n (k + 1) []).2.1 → post y)
    (p0 : k < n → T k = 39 → (qtO T n (k + 1) []).1 ≠ -1 → ∀ y j t, FrQ x y → fI y 0 17 = (qtO T n (k + 1) []).1 → fI y 0 16 = nI j → j ≤ n + 5 → fI y 0 25 = nI t → s ≤ t → t ≤ s + (n - k) + 1 → (∀ i, i < s → fA y 16 i = fA x 16 i) → post y) : wp_Mod_readText post x := by
  have hn := h.2.1
  unfold wp_Mod_readText
  refine s_look h hk (by omega) ?_
  by_cases c : k < n ∧ T k = 39
  · rw [if_pos c.1]
    refine br_t c.2 (nm_r (e' := setI x 0 16 (nI (k + 1))) (by rw [hk, nI_1]) ?_)
    have p1 := p1 c.1 c.2
    have p0 := p0 c.1 c.2
    refine lp_Mod_readText_30 (fun a0 y => (∃ (j : Nat) (a : List Int32), nI a.length = a0 ∧ FrQ x y ∧ SaidM x y s a ∧ fI y 0 16 = nI j ∧ fI y 0 17 = -1 ∧ j ≤ n ∧ k + 1 + a.length ≤ j ∧ qtO T n (k + 1) [] = qtO T n j a) ∨ ∃ (j t : Nat), FrQ x y ∧ (qtO T n (k + 1) []).1 ≠ -1 ∧ fI y 0 17 = (qtO T n (k + 1) []).1 ∧ fI y 0 16 = nI j ∧ j ≤ n + 3 ∧ fI y 0 25 = nI t ∧ s ≤ t ∧ t ≤ s + (n - k) + 1 ∧ ∀ i, i < s → fA y 16 i = fA x 16 i) (fun _ y => if fI y 0 17 = -1 then n + 1 - (fI y 0 16).toNatClampNeg else 0) ?_ _ _ (Or.inl ⟨k + 1, [], rfl, Fr.I ⟨rfl, Or.inl rfl⟩, ⟨hs, fun _ _ => rfl, fun i hi => absurd hi (Nat.not_lt_zero i)⟩, rfl, he, by omega, Nat.le_refl _, rfl⟩)
    rintro R a0 y (⟨j, a, rfl, f1, f2, f3, f4, f5, f6, f7⟩ | ⟨j, t, f1, f2, f3, f4, f5, f6, f7, f8, f9⟩) ih
    · have Ly : LM y := hL.frm f1
      have Ty : TxM y T n := h.frq f1 (by simp) (by decide)
      unfold j_Mod_readText_30
      refine bn_t f4 (s_look Ty f3 (by omega) ?_)
      have fin : k < n → j_Mod_readText_71 post (nI a.length) (if j < n then T j else -1) y → True := fun _ _ => trivial
      by_cases d1 : j < n ∧ T j = 39
      · rw [if_pos d1.1]
        have e : qtO T n (k + 1) [] = (-1, j + 1, a) := by rw [f7, qtO_eq (by omega), if_pos d1]
        rw [e] at p1
        refine br_t d1.2 ?_
        unfold j_Mod_readText_120
        rw [f3, nI_1]
        exact nm_e (p1 rfl _ (f1.trans (Fr.I ⟨rfl, Or.inl rfl⟩)) f4 rfl f2 (by show j + 1 ≤ n; omega) (by show k + a.length + 2 ≤ j + 1; omega))
      have nq : ¬ (if j < n then T j else -1) = 39 := fun z => by
        by_cases g : j < n
        · rw [if_pos g] at z; exact d1 ⟨g, z⟩
        · rw [if_neg g] at z; exact absurd z (by decide)
      refine br_f nq (s_look Ty f3 (by omega) ?_)
      have bad : (¬ j < n ∨ T j < 32 ∨ 126 < T j ∨ a.length = 255) → j_Mod_readText_71 post (nI a.length) (if j < n then T j else -1) y := by
        intro w
        have e : qtO T n (k + 1) [] = (nI j, j, a) := by rw [f7, qtO_eq (by omega), if_neg d1, if_pos w]
        rw [e] at p0
        unfold j_Mod_readText_71
        rw [f3]
        refine s_fail ?_
        rw [if_pos f4]
        exact p0 (nI_nm1 (by omega)) _ j (s + a.length) (f1.trans (Fr.I ⟨rfl, Or.inr (Or.inl rfl)⟩)) rfl f3 (by omega) f2.1 (by omega) (by omega) f2.2.1
      by_cases g : j < n
      · rw [if_pos g] at bad ⊢
        refine ⟨fun w => bad (Or.inr (Or.inl w)), fun w => ⟨fun w2 => bad (Or.inr (Or.inr (Or.inl w2))), fun w2 => ⟨fun w3 => ?_, fun w3 => bad (Or.inr (Or.inr (Or.inr ?_)))⟩⟩⟩
        · have hl : ¬ a.length = 255 := fun z => w3 (by rw [z]; rfl)
          have nb : ¬ (¬ j < n ∨ T j < 32 ∨ 126 < T j ∨ a.length = 255) := by
            rintro (z | z | z | z)
            · exact z g
            · exact w z
            · exact w2 z
            · exact hl z
          have e0 := f7
          rw [qtO_eq (k := j) (by omega), if_neg d1, if_neg nb] at e0
          refine nm_r (e' := nI j) f3 (nm_r (e' := setI y 0 16 (nI (j + 1))) (by rw [f3, nI_1]) ?_)
          have say : ∀ (Y : St) (v : Int32) (j2 : Nat), FrQ x Y → SaidM x Y s a → fI Y 0 16 = nI j2 → fI Y 0 17 = -1 → j < j2 → j2 ≤ n → k + 1 + (a.length + 1) ≤ j2 → qtO T n (k + 1) [] = qtO T n j2 (a ++ [v]) → ∀ l2 l3, j_Mod_readText_111 post R (nI a.length) l2 l3 v Y := by
            intro Y v j2 g1 g2 g3 g4 g5 g6 g7 g8 l2 l3
            unfold j_Mod_readText_111
            refine s_say (hL.frm g1) g2 (by omega) (fun z z1 z2 => ?_)
            have z16 : fI z 0 16 = nI j2 := (z1.1 0 16 (by simp)).trans g3
            have z17 : fI z 0 17 = -1 := (z1.1 0 17 (by simp)).trans g4
            have hl2 : (a ++ [v]).length = a.length + 1 := by rw [List.length_append]; rfl
            rw [nI_1]
            refine ih _ _ (Or.inl ⟨j2, a ++ [v], by rw [hl2], g1.trans (z1.wk (fun o k q => ⟨q.1, Or.inr (Or.inr q.2)⟩) (fun _ q => q)), z2, z16, z17, g6, by rw [hl2]; exact g7, g8⟩) ?_
            rw [if_pos z17, if_pos f4, z16, f3, nI_clamp (by omega), nI_clamp (by omega)]
            omega
          refine ⟨fun w4 => ?_, fun w4 => ?_⟩
          · rw [if_neg w4] at e0
            exact say _ _ (j + 1) (f1.trans (Fr.I ⟨rfl, Or.inl rfl⟩)) f2 rfl f4 (by omega) (by omega) (by omega) e0 _ _
          · rw [if_pos w4] at e0
            refine s_behind (Ty.I (by decide)) rfl g f4 (fun w5 => ?_) (fun w5 v j2 hj2 => ?_)
            · rw [if_pos w5] at e0
              have := esc_ok w5 (by omega) (by omega)
              rw [setI_setI]
              exact say _ _ (j + (escL T n j).1) (f1.trans (Fr.I ⟨rfl, Or.inl rfl⟩)) f2 rfl f4 (by omega) (by omega) (by omega) e0 _ _
            · rw [if_neg w5] at e0
              rw [setI_setI]
              unfold j_Mod_readText_111
              have g1 : FrQ x (setI (setI y 0 16 (nI j2)) 0 17 (escL T n j).2.2) := (f1.trans (Fr.I ⟨rfl, Or.inl rfl⟩)).trans (Fr.I ⟨rfl, Or.inr (Or.inl rfl)⟩)
              refine s_say (x := x) (s := s) (a := a) (hL.frm g1) f2 (by omega) (fun z z1 z2 => ?_)
              have z16 : fI z 0 16 = nI j2 := (z1.1 0 16 (by simp)).trans rfl
              have z17 : fI z 0 17 = (escL T n j).2.2 := (z1.1 0 17 (by simp)).trans rfl
              have hl2 : (a ++ [v]).length = a.length + 1 := by rw [List.length_append]; rfl
              refine ih _ _ (Or.inr ⟨j2, s + a.length + 1, g1.trans (z1.wk (fun o k q => ⟨q.1, Or.inr (Or.inr q.2)⟩) (fun _ q => q)), by rw [e0]; exact w5, by rw [e0]; exact z17, z16, hj2, by rw [z2.1, hl2]; rfl, by omega, by omega, z2.2.1⟩) ?_
              rw [if_pos f4, if_neg (fun u => w5 (z17.symm.trans u)), f3, nI_clamp (by omega)]
              omega
        · have hal : a.length ≤ n := by omega
          exact (nI_eq (b := 255) (by omega) (by decide)).mp w3
      · rw [if_neg g] at bad ⊢
        exact br_t (by decide) (bad (Or.inl g))
    · unfold j_Mod_readText_30 j_Mod_readText_120
      rw [f4, nI_1]
      exact bn_f (by rw [f3]; exact f2) (nm_e (p0 f2 _ (j + 1) t (f1.trans (Fr.I ⟨rfl, Or.inl rfl⟩)) f3 rfl (by omega) f6 f7 f8 f9))
  · have nq : ¬ (if k < n then T k else -1) = 39 := fun z => by
      by_cases g : k < n
      · rw [if_pos g] at z; exact c ⟨g, z⟩
      · rw [if_neg g] at z; exact absurd z (by decide)
    refine br_f nq (s_fail ?_)
    rw [if_pos he, hk]
    exact pN c
