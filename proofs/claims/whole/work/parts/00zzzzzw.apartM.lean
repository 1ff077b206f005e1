/-! columns that lie beside each other: the model looks whether they are apart -/
def arnd (F : List SFd) (a b : Nat) : Int32 := fnd (fun g => decide (dsc F g a ∧ dsc F g b)) a
theorem fnd_at {p : Nat → Bool} {g : Nat} : ∀ {N : Nat}, g < N → p g = true → (∀ h, g < h → h < N → p h = false) → fnd p N = nI g := by
  intro N
  induction N with
  | zero => intro h; exact absurd h (Nat.not_lt_zero _)
  | succ N ih =>
    intro h1 h2 h3
    show (if p N = true then nI N else fnd p N) = nI g
    by_cases c : g = N
    · rw [← c, if_pos h2]
    · rw [h3 N (by omega) (by omega), if_neg (by decide)]
      exact ih (by omega) h2 (fun h a b => h3 h a (by omega))
def fl2 (r d : Nat) (A : List SEn) : List (Nat × Nat) := (A.filter (fun e => decide (e.2.1 ≤ r))).map (fun e => (e.2.1, min e.2.2.1 d))
theorem fl2_app {r d : Nat} {A B : List SEn} : fl2 r d (A ++ B) = fl2 r d A ++ fl2 r d B := by
  unfold fl2
  rw [List.filter_append, List.map_append]
theorem fl2_one {r d : Nat} {e : SEn} : fl2 r d [e] = if e.2.1 ≤ r then [(e.2.1, min e.2.2.1 d)] else [] := by
  unfold fl2
  rw [List.filter_cons]
  by_cases c : e.2.1 ≤ r
  · rw [if_pos c, decide_eq_true c]; rfl
  · rw [if_neg c, decide_eq_false c]; rfl
theorem en_at {A : List SEn} {i : Nat} (h : i < A.length) : A.getD i en0 = A[i] := by
  rw [List.getD_eq_getElem?_getD, List.getElem?_eq_getElem h]; rfl
theorem fl2_take {r d i : Nat} {A : List SEn} (h : i < A.length) : fl2 r d (A.take (i + 1)) = fl2 r d (A.take i) ++ (if (A.getD i en0).2.1 ≤ r then [((A.getD i en0).2.1, min (A.getD i en0).2.2.1 d)] else []) := by
  rw [List.take_succ_eq_append_getElem h, fl2_app, fl2_one, en_at h]
theorem fl2_cut {r d i : Nat} {A : List SEn} (h : i < A.length) (hr : (A.getD i en0).2.1 ≤ r) : ∃ Z, fl2 r d A = fl2 r d (A.take i) ++ ((A.getD i en0).2.1, min (A.getD i en0).2.2.1 d) :: Z := by
  refine ⟨fl2 r d (A.drop (i + 1)), ?_⟩
  have := fl2_app (r := r) (d := d) (A := A.take (i + 1)) (B := A.drop (i + 1))
  rw [List.take_append_drop] at this
  rw [this, fl2_take h, if_pos hr, List.append_assoc]
  rfl
section
variable {x : St} {F : List SFd}
theorem s_up1 {g : Nat} (hL : LM x) (hw : WfS F) (hR : RepM x 1 F) (hg : g < F.length) {P : Int32 → Prop} (p : P (fPa F g)) : vp_in ((128 : Int32) * 1 + nI g) (fN x 5) ∧ ∀ v : Int32, v = rA x 5 ((128 : Int32) * 1 + nI g) → P v := by
  have l5 : fN x 5 = 384 := hL 5
  have hF := hw.1
  rw [i128m]
  refine ⟨vp_in_nI (by omega) (by omega), nm_r (e' := fPa F g) (by rw [rA_nI (by omega)]; exact (hR.2.2.1 g hg).2.2.1) p⟩
theorem s_around {post : Int32 → St → Prop} {a b : Nat} (hL : LM x) (hw : WfS F) (hR : RepM x 1 F) (hab : a < b) (hb : b < F.length) (p : post (arnd F a b) x) : wp_Mod_around post (nI a) (nI b) x := by
  have hF := hw.1
  have ok : ∀ {f}, f < F.length → gOk F.length (fPa F f) := fun h => hw.2.2.1.ok h
  have pa : ∀ {f g : Nat}, f < F.length → g < F.length → fPa F f = nI g → g < f ∧ dsc F g f := fun {f g} h1 h2 h3 => by
    rcases hw.2.2.1.2 f h1 with z | ⟨w, w1, w2⟩
    · rw [z] at h3; exact absurd h3.symm (nI_nm1 (by omega))
    · rw [w2] at h3
      have := nI_inj (by omega) (by omega) h3
      subst this
      exact ⟨w1, dsc_in hw h1 w1 w2 (dsc_self hw (by omega))⟩
  unfold wp_Mod_around wp_Mod_place
  refine s_up1 hL hw hR (show a < F.length by omega) ?_
  refine lp_Mod_around_14 (fun a0 a1 a2 a3 y => nI a = a0 ∧ nI b = a1 ∧ x = y ∧ gOk F.length a3 ∧ ((a2 = -1 ∧ (∀ g, g < F.length → a3 = nI g → g < a ∧ dsc F g a) ∧ ∀ h, h < a → dsc F h a → dsc F h b → ∃ g, g < F.length ∧ a3 = nI g ∧ dsc F h g) ∨ (a2 ≠ -1 ∧ a2 = arnd F a b))) (fun _ _ _ a3 _ => gM a3) ?_ _ _ _ _ _ ⟨rfl, rfl, rfl, ok (by omega), Or.inl ⟨rfl, fun g g1 g2 => pa (by omega) g1 g2, fun h h1 h2 _ => by
    obtain ⟨g, g1, g2, g3⟩ := dsc_pa hw (by omega) h2 (by omega)
    exact ⟨g, by omega, g2, g3⟩⟩⟩
  rintro Q a0 a1 a2 a3 y ⟨rfl, rfl, rfl, hg, h⟩ ih
  have fin : a2 = arnd F a b → j_Mod_around_109 post (nI a) (nI b) a2 a3 x := fun e => by
    unfold j_Mod_around_109
    rw [e]
    exact p
  unfold j_Mod_around_14
  rcases h with ⟨rfl, h1, h2⟩ | ⟨h1, h2⟩
  · rcases hg with rfl | ⟨g, hg, rfl⟩
    · refine br_t rfl (fin ?_)
      symm
      unfold arnd
      rw [fnd_some (by omega)]
      intro f hf
      refine decide_eq_false (fun z => ?_)
      obtain ⟨g, g1, g2, -⟩ := h2 f hf z.1 z.2
      exact nI_nm1 (by omega) g2.symm
    · obtain ⟨ga, gd⟩ := h1 g hg rfl
      refine br_f (nI_nm1 (by omega)) ⟨fun z => absurd rfl z, fun _ => ?_⟩
      unfold wp_Mod_place
      refine s_up1 hL hw hR hb ?_
      refine lp_Mod_around_40 (fun b0 b1 b2 b3 b4 b5 u => nI a = b0 ∧ nI b = b1 ∧ -1 = b2 ∧ nI g = b3 ∧ x = u ∧ gOk F.length b5 ∧ (b4 = 0 ∨ b4 = 1) ∧ (b4 = 1 → dsc F g b) ∧ (∀ h, h < F.length → b5 = nI h → dsc F h b) ∧ (b4 = 0 → dsc F g b → ∃ h, h < F.length ∧ b5 = nI h ∧ dsc F g h)) (fun _ _ _ _ _ b5 _ => gM b5) ?_ _ _ _ _ _ _ _ ⟨rfl, rfl, rfl, rfl, rfl, ok hb, Or.inl rfl, fun z => absurd z (by decide), fun h h3 h4 => (pa hb h3 h4).2, fun _ z => by
        obtain ⟨h, h3, h4, h5⟩ := dsc_pa hw hb z (by omega)
        exact ⟨h, by omega, h4, h5⟩⟩
      rintro Q2 b0 b1 b2 b3 b4 b5 u ⟨rfl, rfl, rfl, rfl, rfl, hg5, c1, c2, c3, c4⟩ ih2
      unfold j_Mod_around_40
      rcases hg5 with rfl | ⟨h, hh, rfl⟩
      · -- the next one above
        refine br_t rfl ?_
        have nx : ∀ s0, ((s0 = -1 ∧ ¬ dsc F g b) ∨ (s0 = nI g ∧ dsc F g b)) → j_Mod_around_92 post Q (nI a) (nI b) (-1) (nI g) b4 (-1) s0 x := fun s0 hs => by
          unfold j_Mod_around_92 wp_Mod_place
          refine s_up1 hL hw hR hg ?_
          refine ih _ _ _ _ _ ⟨rfl, rfl, rfl, ok hg, ?_⟩ (gM_lt hw.2.2.1 hg)
          rcases hs with ⟨rfl, hn⟩ | ⟨rfl, hy⟩
          · refine Or.inl ⟨rfl, fun g' g1 g2 => ?_, fun k k1 k2 k3 => ?_⟩
            · have := pa hg g1 g2
              exact ⟨by omega, dsc_trans hw this.2 a (by omega) gd⟩
            · obtain ⟨g', g1, g2, g3⟩ := h2 k k1 k2 k3
              have := nI_inj (by omega) (by omega) g2
              subst this
              obtain ⟨w, w1, w2, w3⟩ := dsc_pa hw hg g3 (fun z => hn (by rw [z]; exact k3))
              exact ⟨w, by omega, w2, w3⟩
          · refine Or.inr ⟨nI_nm1 (by omega), ?_⟩
            symm
            refine fnd_at ga (decide_eq_true ⟨gd, hy⟩) (fun k k1 k2 => decide_eq_false (fun z => ?_))
            obtain ⟨g', g1, g2, g3⟩ := h2 k k2 z.1 z.2
            have := nI_inj (by omega) (by omega) g2
            subst this
            have := dsc_le hw hg g3
            omega
        rcases c1 with rfl | rfl
        · refine br_t rfl (nx _ (Or.inl ⟨rfl, fun z => ?_⟩))
          obtain ⟨h, h3, h4, -⟩ := c4 rfl z
          exact nI_nm1 (by omega) h4.symm
        · exact br_f (by decide) (nx _ (Or.inr ⟨rfl, c2 rfl⟩))
      · refine br_f (nI_nm1 (by omega)) ?_
        have nx : ∀ s0, (s0 = 0 ∨ s0 = 1) → (s0 = 1 → dsc F g b) → (s0 = 0 → b4 = 0 ∧ h ≠ g) → j_Mod_around_63 post Q Q2 (nI a) (nI b) (-1) (nI g) b4 (nI h) s0 x := fun s0 s1 s2 s3 => by
          unfold j_Mod_around_63 wp_Mod_place
          refine s_up1 hL hw hR hh ?_
          refine ih2 _ _ _ _ _ _ _ ⟨rfl, rfl, rfl, rfl, rfl, ok hh, s1, s2, fun k k1 k2 => dsc_trans hw (pa hh k1 k2).2 b hb (c3 h hh rfl), fun z w => ?_⟩ (gM_lt hw.2.2.1 hh)
          obtain ⟨k, k1, k2, k3⟩ := c4 (s3 z).1 w
          have := nI_inj (by omega) (by omega) k2
          subst this
          obtain ⟨v, v1, v2, v3⟩ := dsc_pa hw hh k3 (s3 z).2
          exact ⟨v, by omega, v2, v3⟩
        unfold j_Mod_around_58
        rcases c1 with rfl | rfl
        · refine ⟨fun z => absurd rfl z, fun _ => ⟨fun z => nx 0 (Or.inl rfl) (fun w => absurd w (by decide)) (fun _ => ⟨rfl, fun w => z (by rw [w])⟩), fun z => ?_⟩⟩
          have := nI_inj (by omega) (by omega) z
          subst this
          exact nx 1 (Or.inr rfl) (fun _ => c3 h hh rfl) (fun w => absurd w (by decide))
        · exact ⟨fun _ => nx 1 (Or.inr rfl) (fun _ => c2 rfl) (fun w => absurd w (by decide)), fun z => absurd z (by decide)⟩
  · rcases hg with rfl | ⟨g, hg, rfl⟩
    · exact br_t rfl (fin h2)
    · exact br_f (nI_nm1 (by omega)) ⟨fun _ => fin h2, fun z => absurd z h1⟩
end
