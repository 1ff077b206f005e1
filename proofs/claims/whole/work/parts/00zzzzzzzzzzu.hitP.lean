/-! what is passed over holds no row whose condition is true -/
section
variable {F : List SFd} {G : List Nat} {CK : List (List PgW)} {Q : Qy} {g j : Nat}
theorem RwT.ty {a b : Nat} {t : Tl} {o : Option PV} (e : a = 3 ↔ b = 3) (h : RwT a t o) : RwT b t o := by
  have l : ∀ p q, ltV a p q = ltV b p q := by
    intro p q
    unfold ltV
    by_cases d : a = 3
    · rw [if_pos d, if_pos (e.mp d)]
    · rw [if_neg d, if_neg (fun z => d (e.mpr z))]
  obtain ⟨h1, h2⟩ := h
  refine And.intro h1 (fun p hp => ?_)
  obtain ⟨k1, k2, k3, k4, k5, k6, k7⟩ := h2 p hp
  rw [l] at k5 k6
  exact ⟨k1, fun z => k2 (e.mpr z), fun z => k3 (e.mpr z), fun z => k4 (e.mpr z), k5, k6, k7⟩
theorem ty_pair (hw : WfS F) {f d : Nat} (hf : colF F f) (hd : colF F d) (h : fTy F f = fTy F d ∨ whl (fTy F f) ∧ whl (fTy F d)) : tOf F (nI d) = 3 ↔ tOf F (nI f) = 3 := by
  obtain ⟨-, a1, a2⟩ := tOf_n hw hf
  obtain ⟨-, b1, b2⟩ := tOf_n hw hd
  have key : ∀ {u : Nat} {w : Int32}, u < 4 → w = nI u → (u = 3 ↔ w = 3) := fun hu e => ⟨fun z => by rw [e, z]; rfl, fun z => by rw [e] at z; exact (nI_eq (by omega) (by decide)).mp z⟩
  rw [key a1 a2, key b1 b2]
  rcases h with h | ⟨h1, h2⟩
  · rw [h]
  · unfold whl at h1 h2
    constructor
    · intro z
      rw [z] at h2
      exact absurd h2 (by decide)
    · intro z
      rw [z] at h1
      exact absurd h1 (by decide)
theorem celR_in {i c : Nat} (hg : g < G.length) (hi : i < G.getD g 0) : celR F G CK (smN (G.take g) + i) c = cel F CK g i c := by
  have h := smN_take hg
  unfold celR
  rw [rgO_is hg (Nat.le_add_right _ _) (by omega), Nat.add_sub_cancel_left]
theorem mem_gD {α : Type} {L : List α} {d : α} {k : Nat} (h : k < L.length) : L.getD k d ∈ L := by
  rw [List.getD_eq_getElem?_getD, List.getElem?_eq_getElem h]
  exact List.getElem_mem h
theorem pgA_sub {X : List PgW} {j : Nat} (h : j < (ckC X).length) : ∀ e, e ∈ (pgA X j).1 → e ∈ ckC X := by
  intro e he
  unfold ckC
  exact List.mem_flatten.mpr ⟨_, List.mem_map.mpr ⟨_, mem_gD (pgI_ok h).1, rfl⟩, he⟩
theorem RwT_chunk (hw : WfS F) (ok : OkO F G CK) (hl : CK.length = ncol F * G.length) (hg : g < G.length) {f i : Nat} (hf : colF F f) (hi : i < G.getD g 0) : RwT (tyC F (ncol (F.take f))) (tlK F CK g (ncol (F.take f))) (cel F CK g i (ncol (F.take f))) := by
  obtain ⟨hc, -⟩ := col_ok hw hf
  obtain ⟨-, h1, -⟩ := ok.at hl hg hc
  have fl := flat_len hw ok hl hf hg
  exact RwT_of h1 (fun z => absurd rfl z) (by rw [fl]; exact hi)
theorem RwT_page (hw : WfS F) (ok : OkO F G CK) (wd : WdO F CK) (hl : CK.length = ncol F * G.length) (hg : g < G.length) {f i : Nat} (hf : colF F f) (hj : j < G.getD g 0) (hji : j ≤ i) (hi : i < pgE (CK.getD (ncol F * g + ncol (F.take f)) []) j) : RwT (tyC F (ncol (F.take f))) (tlP F CK g j (ncol (F.take f))) (cel F CK g i (ncol (F.take f))) := by
  obtain ⟨hc, -⟩ := col_ok hw hf
  obtain ⟨lw, h1, -⟩ := ok.at hl hg hc
  have fl := flat_len hw ok hl hf hg
  have hjl : j < (ckC (CK.getD (ncol F * g + ncol (F.take f)) [])).length := by
    show j < (ckG F CK g (ncol (F.take f))).length
    rw [fl]; exact hj
  obtain ⟨o1, o2, o3, o4⟩ := pgI_ok hjl
  have hil : i < (ckC (CK.getD (ncol F * g + ncol (F.take f)) [])).length := by omega
  have es := pgI_same hji hi hjl
  have ea : pgA (CK.getD (ncol F * g + ncol (F.take f)) []) i = pgA (CK.getD (ncol F * g + ncol (F.take f)) []) j := by
    unfold pgA
    rw [es]
  obtain ⟨k, hk, ek⟩ := pgI_en hil
  rw [ea] at hk ek
  have wdp := wd _ lw _ o1
  rw [Nat.mul_add_mod, Nat.mod_eq_of_lt hc] at wdp
  have := RwT_of (F := F) (c := ncol (F.take f)) (C := (pgA (CK.getD (ncol F * g + ncol (F.take f)) []) j).1) (W := (pgA (CK.getD (ncol F * g + ncol (F.take f)) []) j).2) (fun e he => h1 e (pgA_sub hjl e he)) (fun z => wdp.1 z) hk
  unfold cel
  show RwT _ _ (if ((ckC (CK.getD (ncol F * g + ncol (F.take f)) [])).getD i en0).2.2.1 = _ then some ((ckC (CK.getD (ncol F * g + ncol (F.take f)) [])).getD i en0).2.2.2 else none)
  rw [ek]
  exact this
theorem mnE_le {E : List QSt} {n m : Nat} : mnE F E CK g n j m ≤ n ∧ ∀ c, c < m → askB F E c = true → mnE F E CK g n j m ≤ pgE (CK.getD (ncol F * g + c) []) j := by
  induction m with
  | zero => exact ⟨Nat.le_refl _, fun c hc => absurd hc (Nat.not_lt_zero _)⟩
  | succ m ih =>
    unfold mnE
    by_cases d : askB F E m = true
    · rw [if_pos d]
      refine ⟨Nat.le_trans (Nat.min_le_left _ _) ih.1, fun c hc ha => ?_⟩
      by_cases e : c = m
      · rw [e]; exact Nat.min_le_right _ _
      · exact Nat.le_trans (Nat.min_le_left _ _) (ih.2 c (by omega) ha)
    · rw [if_neg d]
      refine ⟨ih.1, fun c hc ha => ?_⟩
      by_cases e : c = m
      · rw [e] at ha; exact absurd ha d
      · exact ih.2 c (by omega) ha
theorem mnE_gt {E : List QSt} {n : Nat} (hj : j < n) : ∀ m, (∀ c, c < m → askB F E c = true → j < pgE (CK.getD (ncol F * g + c) []) j) → j < mnE F E CK g n j m
  | 0, _ => hj
  | m + 1, h => by
    have ih := mnE_gt hj m (fun c hc => h c (by omega))
    unfold mnE
    by_cases d : askB F E m = true
    · rw [if_pos d]
      exact Nat.lt_min.mpr ⟨ih, h m (Nat.lt_succ_self _) d⟩
    · rw [if_neg d]
      exact ih
/-- a column that is asked has a page for each row -/
theorem ask_pg (hw : WfS F) (hW : QyW F Q) (ok : OkO F G CK) (hl : CK.length = ncol F * G.length) (hg : g < G.length) (hj : j < G.getD g 0) {c : Nat} (ha : askB F Q.2.2.1 c = true) : c < ncol F ∧ ncol F * g + c < CK.length ∧ (ckC (CK.getD (ncol F * g + c) [])).length = G.getD g 0 ∧ j < pgE (CK.getD (ncol F * g + c) []) j ∧ pgE (CK.getD (ncol F * g + c) []) j ≤ G.getD g 0 := by
  obtain ⟨f, ⟨hf, -⟩, e⟩ := ask_AsC hw hW ha
  obtain ⟨hc, -⟩ := col_ok hw hf
  obtain ⟨lw, -⟩ := ok.at hl hg hc
  have fl : (ckC (CK.getD (ncol F * g + ncol (F.take f)) [])).length = G.getD g 0 := flat_len hw ok hl hf hg
  rw [e] at hc lw fl
  obtain ⟨-, -, o3, o4⟩ := pgI_ok (X := CK.getD (ncol F * g + c) []) (j := j) (by rw [fl]; exact hj)
  rw [fl] at o4
  exact ⟨hc, lw, fl, o3, o4⟩
theorem hit_gen (hw : WfS F) (hW : QyW F Q) (hL : Q.2.2.2.length < 2 ^ 31) {τ : Nat → Tl} {v : Nat → Option PV} (hτ : ∀ f, AsC F Q f → RwT (tyC F (ncol (F.take f))) (τ (ncol (F.take f))) (v (ncol (F.take f)))) (h : cnd (tst F Q.2.2.2 v) Q.2.2.1 = 2) : canQ F Q τ = true := by
  have hF := hw.1
  refine hit_can hw hW hL (fun f hf => ?_) (fun f d t hf hd ht z4 e1 e2 => ?_) h
  · rw [(tOf_n hw hf.1).1]
    exact hτ f hf
  · have hs := hW.2.2.2.1 t ht
    rcases hs with ⟨f', _, e | e⟩ | ⟨f', a, m, _, _, _, _, e⟩ | ⟨f', op, a, _, _, _, _, e⟩ | ⟨f', op, d', hf', _, hd', hty, e⟩ | e | e | e
    · rw [e] at z4; exact absurd z4 (by show ¬ (0 : Int32) = 4; decide)
    · rw [e] at z4; exact absurd z4 (by show ¬ (1 : Int32) = 4; decide)
    · rw [e] at z4; exact absurd z4 (by show ¬ (2 : Int32) = 4; decide)
    · rw [e] at z4; exact absurd z4 (by show ¬ (3 : Int32) = 4; decide)
    · have i1 : nI f' = nI f := by rw [e] at e1; exact e1
      have i2 : nI d' = nI d := by rw [e] at e2; exact e2
      have q1 := (nI_eq (by have := hf'.1; omega) (by have := hf.1; omega)).mp i1
      have q2 := (nI_eq (by have := hd'.1; omega) (by have := hd.1; omega)).mp i2
      rw [q1, q2] at hty
      refine RwT.ty (ty_pair hw hf hd hty) ?_
      rw [(tOf_n hw hd).1]
      exact hτ d ⟨hd, t, ht, Or.inr ⟨z4, e2⟩⟩
    · rw [e] at z4; exact absurd z4 (by show ¬ (5 : Int32) = 4; decide)
    · rw [e] at z4; exact absurd z4 (by show ¬ (6 : Int32) = 4; decide)
    · rw [e] at z4; exact absurd z4 (by show ¬ (7 : Int32) = 4; decide)
theorem hit_chunk (hw : WfS F) (hW : QyW F Q) (hL : Q.2.2.2.length < 2 ^ 31) (ok : OkO F G CK) (hl : CK.length = ncol F * G.length) (hg : g < G.length) (hc : ¬ canQ F Q (tlK F CK g) = true) {i : Nat} (hi : i < G.getD g 0) : hit F G CK Q (smN (G.take g) + i) = false := by
  refine decide_eq_false (fun z => hc (hit_gen hw hW hL (fun f hf => ?_) z))
  rw [celR_in hg hi]
  exact RwT_chunk hw ok hl hg hf.1 hi
theorem hit_page (hw : WfS F) (hW : QyW F Q) (hL : Q.2.2.2.length < 2 ^ 31) (ok : OkO F G CK) (wd : WdO F CK) (hl : CK.length = ncol F * G.length) (hg : g < G.length) (hc : ¬ canQ F Q (tlP F CK g j) = true) (hj : j < G.getD g 0) {i : Nat} (hji : j ≤ i) (hi : i < mnE F Q.2.2.1 CK g (G.getD g 0) j (ncol F)) : hit F G CK Q (smN (G.take g) + i) = false := by
  have hm := mnE_le (F := F) (CK := CK) (g := g) (j := j) (E := Q.2.2.1) (n := G.getD g 0) (m := ncol F)
  refine decide_eq_false (fun z => hc (hit_gen hw hW hL (fun f hf => ?_) z))
  rw [celR_in hg (by omega)]
  have := hm.2 (ncol (F.take f)) (col_ok hw hf.1).1 (hf.ask hw)
  exact RwT_page hw ok wd hl hg hf.1 hj hji (by omega)
end
