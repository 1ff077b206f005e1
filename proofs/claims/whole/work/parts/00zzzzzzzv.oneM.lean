/-! one value of a field is written, model -/
def RwE (L : List SEn) (q : Nat) : Prop := q < L.length ∧ (q = 0 ∨ (L.getD (L.length - q) en0).2.1 = 0)
theorem RwE.nx {L : List SEn} {q r : Nat} (h : RwE L q) : q ≤ (rst r L).length ∧ (q < (rst r L).length → RwE (rst r L) q) ∧ ((rst r L).length = q → rst r L = [] ∨ hdR' (rst r L) = 0) := by
  have ne : L ≠ [] := fun z => by rw [z] at h; exact absurd h.1 (Nat.not_lt_zero _)
  obtain ⟨k, k1, k2, k3, k4, k5⟩ := rst_is r ne
  obtain ⟨h1, h2⟩ := h
  have le : q ≤ L.length - k := by
    rcases Nat.lt_or_ge (L.length - k) q with z | z
    · have := k4 (L.length - q) (by omega) (by omega)
      rcases h2 with h2 | h2 <;> omega
    · exact z
  rw [k3]
  refine ⟨by rw [List.length_drop]; exact le, fun lt => ⟨lt, ?_⟩, fun e => ?_⟩
  · rcases h2 with h2 | h2
    · exact Or.inl h2
    · right
      rw [List.length_drop] at lt ⊢
      rw [getD_dr, show k + (L.length - k - q) = L.length - q by omega]
      exact h2
  · rw [List.length_drop] at e
    rcases h2 with h2 | h2
    · left; exact List.drop_eq_nil_of_le (by omega)
    · right
      have ek : k = L.length - q := by omega
      unfold hdR'
      rw [getD_dr, Nat.add_zero, ek]
      exact h2
abbrev FrTm (x y : St) : Prop := Fg (fun o k => o = 0 ∧ k = 113) no2 no2 (fun a => a = 75 ∨ a = 76) no1 x y
def StT (x : St) (F : List SFd) (W : Nat → Bool) (Q : List PV) (e q : Nat → Nat) : Prop := LM x ∧ RepM x 1 F ∧ WtM x W (ncol F) ∧ PoM x Q ∧ ∀ c, c < ncol F → W c = true → q c ≤ e c ∧ e c ≤ 10000 ∧ fA x 77 c = nI (e c - q c)
def EnS (x : St) (F : List SFd) (W : Nat → Bool) (Q : List PV) (e : Nat → Nat) (S : Nat → List SEn) : Prop := ∀ c, c < ncol F → W c = true → (S c).length ≤ e c ∧ ∀ i, i < (S c).length → EnO x F Q (e c - (S c).length + i) ((S c).getD i en0)
def CuM (x : St) (F : List SFd) (W : Nat → Bool) (e : Nat → Nat) (S : Nat → List SEn) (g : Int32) : Prop := ∀ c, c < ncol F → W c = true → inG F g (lfC F c) → fA x 76 c = nI (e c - (S c).length)
def RoS (F : List SFd) (W : Nat → Bool) (q : Nat → Nat) (S : Nat → List SEn) (g : Int32) : Prop := ∀ c, c < ncol F → W c = true → inG F g (lfC F c) → RwE (S c) (q c)
def TgM (x : St) (F : List SFd) (W : Nat → Bool) (Q : List PV) (e q : Nat → Nat) (S : Nat → List SEn) (g : Int32) : Prop := StT x F W Q e q ∧ EnS x F W Q e S ∧ JG F W S g ∧ GdS F W S ∧ RoS F W q S g
/-- all else of the cursors stays -/
def ElM (x y : St) (F : List SFd) (W : Nat → Bool) (g : Int32) : Prop := ∀ c, c < ncol F → ¬ (W c = true ∧ inG F g (lfC F c)) → fA y 76 c = fA x 76 c
section
variable {x y : St} {F : List SFd} {W : Nat → Bool} {Q : List PV} {e q : Nat → Nat} {S : Nat → List SEn} {g : Int32}
theorem FrTl.tm (f : FrTl x y) : FrTm x y := f.mono (fun _ _ h => h) (fun _ _ h => h) (fun _ _ h => h) (fun _ h => Or.inl h) (fun _ h => h)
theorem StT.fr (h : StT x F W Q e q) (f : FrTm x y) : StT y F W Q e q := by
  obtain ⟨h1, h2, h3, h4, h5⟩ := h
  refine ⟨fun o => (f.len o).trans (h1 o), RepM_cgA h2 (fun r a b => f.aa (by omega)), fun c hc => ?_, h4.cg (f.ii (by decide)) (f.ii (by decide)) (f.ll id) (f.aa (by decide)) (f.aa (by decide)) (f.aa (by decide)), fun c hc wc => ?_⟩
  · rw [f.aa (show ¬ (78 = 75 ∨ 78 = 76) by decide)]; exact h3 c hc
  · rw [f.aa (show ¬ (77 = 75 ∨ 77 = 76) by decide)]; exact h5 c hc wc
theorem EnS.fr (h : EnS x F W Q e S) (f : FrTm x y) : EnS y F W Q e S := fun c hc wc => by
  obtain ⟨h1, h2⟩ := h c hc wc
  refine ⟨h1, fun i hi => ?_⟩
  have := (h2 i hi).cg (y := y) (Z := []) (fun r a b => by rw [f.aa (show ¬ (r = 75 ∨ r = 76) by omega)])
  rw [List.append_nil] at this
  exact this
theorem EnS.rest (h : EnS x F W Q e S) (r : Nat) : EnS x F W Q e (fun c => rst r (S c)) := fun c hc wc => by
  obtain ⟨h1, h2⟩ := h c hc wc
  show (rst r (S c)).length ≤ e c ∧ ∀ i, i < (rst r (S c)).length → EnO x F Q (e c - (rst r (S c)).length + i) ((rst r (S c)).getD i en0)
  by_cases z : S c = []
  · rw [z]; exact ⟨Nat.zero_le _, fun i hi => absurd hi (Nat.not_lt_zero _)⟩
  · obtain ⟨k, k1, k2, k3, -⟩ := rst_is r z
    rw [k3, List.length_drop]
    refine ⟨by omega, fun i hi => ?_⟩
    rw [getD_dr, show e c - ((S c).length - k) + i = e c - (S c).length + (k + i) by omega]
    exact h2 (k + i) (by omega)
theorem TgM.fr (h : TgM x F W Q e q S g) (f : FrTm x y) : TgM y F W Q e q S g := ⟨h.1.fr f, h.2.1.fr f, h.2.2⟩
theorem CuM.tl (h : CuM x F W e S g) (f : FrTl x y) : CuM y F W e S g := fun c hc wc hi => by rw [f.aa (show ¬ 76 = 75 by decide)]; exact h c hc wc hi
/-- of a cursor that stands at an entry -/
theorem TgM.at (h : TgM x F W Q e q S g) {c : Nat} (hw : WfS F) (hc : c < ncol F) (wc : W c = true) (hi : inG F g (lfC F c)) : S c ≠ [] ∧ (S c).length ≤ e c ∧ e c ≤ 10000 ∧ 0 < (S c).length ∧ fA x 58 (e c - (S c).length) = nI (hdR' (S c)) ∧ fA x 59 (e c - (S c).length) = nI (hdD (S c)) ∧ hdR' (S c) ≤ 17 ∧ hdD (S c) ≤ mdC F c ∧ hdD (S c) ≤ 17 := by
  obtain ⟨⟨-, -, -, -, t5⟩, t6, t7, t8, -⟩ := h
  have ne := (t7.1 c hc wc hi).1
  have pos := List.length_pos_iff.mpr ne
  obtain ⟨u1, u2⟩ := t6 c hc wc
  obtain ⟨v1, v2, -⟩ := u2 0 pos
  rw [Nat.add_zero] at v1 v2
  have mem : (S c).getD 0 en0 ∈ S c := by rw [en_at pos]; exact List.getElem_mem pos
  obtain ⟨⟨-, r2, r3, -⟩, r4⟩ := (t8 c hc wc).2 _ mem
  rw [r4] at r2 r3
  have b1 : mrC F c ≤ 17 := rF_le hw (lfC_ok hc).1
  have b2 : mdC F c ≤ 17 := dG_le hw (Or.inr ⟨_, (lfC_ok hc).1, rfl⟩)
  have e1 : hdR' (S c) = ((S c).getD 0 en0).2.1 := rfl
  have e2 : hdD (S c) = ((S c).getD 0 en0).2.2.1 := rfl
  exact ⟨ne, u1, (t5 c hc wc).2.1, pos, v1, v2, by omega, by omega, by omega⟩
theorem k_plM {post : Int32 → St → Prop} {l0 l1 : Int32} {x : St} : wp_Mod_place post l0 l1 x = post ((128 * l0) + l1) x := rfl
def okTG (F : List SFd) (W : Nat → Bool) (Q : List PV) (e q : Nat → Nat) (D d : Nat) : Prop := ∀ (post : St → Prop) (x : St) (S : Nat → List SEn) (g : Int32) (B : List Nat), TgM x F W Q e q S g → (g = -1 ∨ ∃ f, f < F.length ∧ g = nI f ∧ fTy F f = 4) → 17 ≤ upS wOne (fPa F) g + D → OutM x B → (B ++ tlG vlB F W D g S).length < 2 ^ 29 → CuM x F W e S g → (∀ y, FrTm x y → OutM y (B ++ tlG vlB F W D g S) → CuM y F W e (fun c => rst (rgF F g) (S c)) g → ElM x y F W g → post y) → (wr_Mod_tellGroup d).1 post g x
def okTO (F : List SFd) (W : Nat → Bool) (Q : List PV) (e q : Nat → Nat) (D d : Nat) : Prop := ∀ (post : St → Prop) (x : St) (S : Nat → List SEn) (f : Nat) (B : List Nat), f < F.length → TgM x F W Q e q S (nI f) → 17 ≤ upS wOne (fPa F) (nI f) + D → gdL F W f ≠ [] → OutM x B → (B ++ tlO (tlG vlB F W D) vlB F f (gdc F W f) S).length < 2 ^ 29 → CuM x F W e S (nI f) → (∀ y, FrTm x y → OutM y (B ++ tlO (tlG vlB F W D) vlB F f (gdc F W f) S) → CuM y F W e (fun c => rst (rF F f) (S c)) (nI f) → ElM x y F W (nI f) → post y) → (wr_Mod_tellGroup d).2 post (nI f) (nI (gdc F W f)) x
theorem tellOne_of (hw : WfS F) {D d : Nat} (hG : okTG F W Q e q D d) : okTO F W Q e q D (d + 1) := by
  intro post x S f B hf T hD hgd hO hB hC p
  have h128 := hw.1
  have h64 := hw.2.1
  obtain ⟨g1, g2, g3⟩ := gdc_ok hgd
  generalize hc : gdc F W f = c at *
  have hL := T.1.1
  have l4 : fN x 4 = 384 := hL 4
  have l76 : fN x 76 = 64 := hL 76
  have l60 : fN x 60 = 10000 := hL 60
  have e4 : rA x 4 ((128 : Int32) * 1 + nI f) = fTy F f := by rw [i128m, rA_nI (by omega)]; exact (T.1.2.1.2.2.1 f hf).2.1
  have ic : inG F (nI f) (lfC F c) := (inG_f hf h128).mpr g3
  obtain ⟨a1, a2, a3, a4, -, -, -, a5, -⟩ := T.at hw g1 g2 ic
  have dd := (T.2.2.1.1 c g1 g2 ic).2.2
  show wb_Mod_tellOne post (wr_Mod_tellGroup d).1 (wr_Mod_tellGroup d).2 (nI f) (nI c) x
  unfold wb_Mod_tellOne
  rw [k_plM, k_plM, e4, l4, l76, l60]
  refine ⟨by rw [i128m]; exact vp_in_nI (by omega) (by decide), ?_⟩
  unfold tlO at hB p
  by_cases ht : fTy F f = 4
  · rw [if_pos ht] at hB p
    exact bn_t ht (hG _ x S (nI f) B T (Or.inr ⟨f, hf, rfl, ht⟩) hD hO hB hC p)
  · rw [if_neg ht] at hB p
    obtain ⟨lc, -⟩ := leaf_col hw hf ht g1 g3
    have cu : fA x 76 c = nI (e c - (S c).length) := hC c g1 g2 ic
    obtain ⟨ty1, ty2⟩ := tyC_ok hw g1
    rw [lc] at ty1
    have md : mdC F c = dG F (nI f) := by unfold mdC; rw [lc]
    have eq : hdD (S c) = mdC F c := by omega
    have mem : (S c).getD 0 en0 ∈ S c := by rw [en_at a4]; exact List.getElem_mem a4
    obtain ⟨⟨-, -, -, r3, -⟩, r4⟩ := (T.2.2.2.1 c g1 g2).2 _ mem
    rw [r4] at r3
    obtain ⟨a, b1, b2, b3⟩ := ((T.2.1 c g1 g2).2 0 a4).2.2.1 (by rw [r4]; exact eq)
    rw [Nat.add_zero] at b2
    have ok : okPv (tyC F c) (pvd Q a) := by rw [b3]; exact r3 eq
    rw [show rA x 76 (nI c) = nI (e c - (S c).length) from by rw [rA_nI (by omega)]; exact cu, show rA x 60 (nI (e c - (S c).length)) = nI a from by rw [rA_nI (by omega)]; exact b2, ty1]
    have hPq := T.1.2.2.2.1
    refine bn_f (by rw [← ty1]; exact ht) ⟨by rw [i128m]; exact vp_in_nI (by omega) (by decide), vp_in_nI (by omega) (by decide), vp_in_nI (by omega) (by decide), ?_⟩
    refine s_tellValue hL hO hPq b1 hPq.2.2.1 hPq.2.2.2.1 ty2 ok (by rw [List.length_append] at hB; omega) (fun y1 f1 o1 => ?_)
    have l76' : fN y1 76 = 64 := f1.lm hL 76
    rw [l76']
    refine ⟨vp_in_nI (by omega) (by decide), vp_in_nI (by omega) (by decide), nm_e ?_⟩
    have cu1 : fA y1 76 = fA x 76 := f1.aa (by decide)
    rw [b3] at o1
    refine p _ (Fg.trans f1.tm (Fg.a (Or.inr rfl))) ?_ (fun c' hc' wc' hi => ?_) (fun c' hc' hn => ?_)
    · exact ⟨o1.1, o1.2.1, fun i h1 h2 => by rw [show fA (setA y1 76 (nI c) (rA y1 76 (nI c) + 1)) 75 = fA y1 75 from (Fg.a (I := no2) (J := no2) (R := no2) (A := fun a => a = 76) (L := no1) rfl).aa (by decide)]; exact o1.2.2 i h1 h2⟩
    · have k := leaf_col hw hf ht hc' ((inG_f hf h128).mp hi)
      have e0 := leaf_col hw hf ht g1 g3
      have ec : c' = c := by rw [k.2, e0.2]
      rw [ec, gA_on (by omega), rA_nI (by omega), cu1, cu]
      have lo := leaf_one (F := F) (W := W) (S := S) T.2.2.2.1 g1 g2 a1
      have : mrC F c = rF F f := by unfold mrC; rw [lc]
      rw [this] at lo
      show nI (e c - (S c).length) + 1 = nI (e c - (rst (rF F f) (S c)).length)
      rw [lo, List.length_drop, nI_1]
      congr 1
      omega
    · have ne : c' ≠ c := fun z => hn (by rw [z]; exact ⟨g2, ic⟩)
      rw [gA_off (by omega) ne, cu1]
end
