/-! paths of a query, model -/
theorem gw_se : goodW [115, 101, 108, 101, 99, 116] ∧ (126879447475060 : Int64) = lN (bW [115, 101, 108, 101, 99, 116]) := by unfold goodW; decide +kernel
theorem gw_wh : goodW [119, 104, 101, 114, 101] ∧ (512852587109 : Int64) = lN (bW [119, 104, 101, 114, 101]) := by unfold goodW; decide +kernel
theorem gw_by : goodW [98, 121] ∧ (25209 : Int64) = lN (bW [98, 121]) := by unfold goodW; decide +kernel
theorem gw_an : goodW [97, 110, 100] ∧ (6385252 : Int64) = lN (bW [97, 110, 100]) := by unfold goodW; decide +kernel
theorem gw_or : goodW [111, 114] ∧ (28530 : Int64) = lN (bW [111, 114]) := by unfold goodW; decide +kernel
theorem gw_no : goodW [110, 111, 116] ∧ (7237492 : Int64) = lN (bW [110, 111, 116]) := by unfold goodW; decide +kernel
theorem gw_is : goodW [105, 115] ∧ (26995 : Int64) = lN (bW [105, 115]) := by unfold goodW; decide +kernel
theorem gw_nu : goodW [110, 117, 108, 108] ∧ (1853189228 : Int64) = lN (bW [110, 117, 108, 108]) := by unfold goodW; decide +kernel
theorem gw_in : goodW [105, 110] ∧ (26990 : Int64) = lN (bW [105, 110]) := by unfold goodW; decide +kernel
theorem gw_co : goodW [99, 111, 117, 110, 116] ∧ (427071729268 : Int64) = lN (bW [99, 111, 117, 110, 116]) := by unfold goodW; decide +kernel
theorem gw_su : goodW [115, 117, 109] ∧ (7566701 : Int64) = lN (bW [115, 117, 109]) := by unfold goodW; decide +kernel
theorem gw_mi : goodW [109, 105, 110] ∧ (7170414 : Int64) = lN (bW [109, 105, 110]) := by unfold goodW; decide +kernel
theorem gw_ma : goodW [109, 97, 120] ∧ (7168376 : Int64) = lN (bW [109, 97, 120]) := by unfold goodW; decide +kernel
theorem own_t {T : Nat → Int32} {n k : Nat} (w : List Nat) (hm : w ∈ ownW) (h : isWd T n k w) : ownB T n k = true := List.any_eq_true.mpr ⟨w, hm, decide_eq_true h⟩
theorem own_f {T : Nat → Int32} {n k : Nat} (h : ∀ w, w ∈ ownW → ¬ isWd T n k w) : ownB T n k = false := by
  unfold ownB
  rw [List.any_eq_false]
  intro w hw z
  exact h w hw (of_decide_eq_true z)
theorem s_isKept {post : Int32 → St → Prop} {x : St} {T : Nat → Int32} {n k : Nat} (p : post (if ownB T n k = true then 1 else 0) x) : wp_Mod_isKept post (if wln T n k ≤ 8 then wv T k (wln T n k) else 0) x := by
  generalize hv : (if wln T n k ≤ 8 then wv T k (wln T n k) else 0) = v
  have t : ∀ {w : List Nat} {C : Int64}, goodW w ∧ C = lN (bW w) → (lg_cmp v C = 0 ↔ isWd T n k w) := fun {w C} h => by
    rw [lg_cmp_eq, h.2, ← hv]
    exact wv_word h.1
  have o1 : ∀ w, w ∈ ownW → isWd T n k w → post 1 x := fun w hm h => by rw [if_pos (own_t w hm h)] at p; exact p
  have o0 : (∀ w, w ∈ ownW → ¬ isWd T n k w) → post 0 x := fun h => by rw [own_f h] at p; exact p
  clear p
  unfold wp_Mod_isKept j_Mod_isKept_128
  rw [t gw_se, t gw_wh, t gw_t4, t gw_by, t gw_an, t gw_or, t gw_no, t gw_is, t gw_nu, t gw_in, t gw_tr, t gw_fa, t gw_co, t gw_su, t gw_mi, t gw_ma]
  refine ⟨fun c => o1 _ (by decide) c, fun c1 => ⟨fun c => o1 _ (by decide) c, fun c2 => ⟨fun c => o1 _ (by decide) c, fun c3 => ⟨fun c => o1 _ (by decide) c, fun c4 => ⟨fun c => o1 _ (by decide) c, fun c5 => ⟨fun c => o1 _ (by decide) c, fun c6 => ⟨fun c => o1 _ (by decide) c, fun c7 => ⟨fun c => o1 _ (by decide) c, fun c8 => ⟨fun c => o1 _ (by decide) c, fun c9 => ⟨fun c => o1 _ (by decide) c, fun c10 => ⟨fun c => o1 _ (by decide) c, fun c11 => ⟨fun c => o1 _ (by decide) c, fun c12 => ⟨fun c => o1 _ (by decide) c, fun c13 => ⟨fun c => o1 _ (by decide) c, fun c14 => ⟨fun c => o1 _ (by decide) c, fun c15 => ⟨fun c16 => o0 ?_, fun c => o1 _ (by decide) c⟩⟩⟩⟩⟩⟩⟩⟩⟩⟩⟩⟩⟩⟩⟩⟩
  intro w hw
  unfold ownW at hw
  rcases List.mem_cons.mp hw with e | hw
  · rw [e]; exact c1
  rcases List.mem_cons.mp hw with e | hw
  · rw [e]; exact c2
  rcases List.mem_cons.mp hw with e | hw
  · rw [e]; exact c3
  rcases List.mem_cons.mp hw with e | hw
  · rw [e]; exact c4
  rcases List.mem_cons.mp hw with e | hw
  · rw [e]; exact c5
  rcases List.mem_cons.mp hw with e | hw
  · rw [e]; exact c6
  rcases List.mem_cons.mp hw with e | hw
  · rw [e]; exact c7
  rcases List.mem_cons.mp hw with e | hw
  · rw [e]; exact c8
  rcases List.mem_cons.mp hw with e | hw
  · rw [e]; exact c9
  rcases List.mem_cons.mp hw with e | hw
  · rw [e]; exact c10
  rcases List.mem_cons.mp hw with e | hw
  · rw [e]; exact c11
  rcases List.mem_cons.mp hw with e | hw
  · rw [e]; exact c12
  rcases List.mem_cons.mp hw with e | hw
  · rw [e]; exact c13
  rcases List.mem_cons.mp hw with e | hw
  · rw [e]; exact c14
  rcases List.mem_cons.mp hw with e | hw
  · rw [e]; exact c15
  rcases List.mem_cons.mp hw with e | hw
  · rw [e]; exact c16
  exact absurd hw List.not_mem_nil
theorem fdF_is {F : List SFd} {g : Int32} {nm : List Int32} : fdF F g nm = -1 ∨ ∃ f, f < F.length ∧ fdF F g nm = nI f := by
  rcases (fnd_is : fdF F g nm = -1 ∨ _) with z | ⟨f, hf, hfr, -⟩
  · exact Or.inl z
  · exact Or.inr ⟨f, hf, hfr⟩
section
variable {b : Prop} {T : Nat → Int32} {n s : Nat} {F : List SFd} {x y : St} {Q : Qy}
theorem s_findQ {post : Int32 → St → Prop} {k w : Nat} {g : Int32} (hT : TxM y T n) (hL : LM y) (hw : WfS F) (hR : RepM y 1 F) (hk : k + w ≤ n) (p : post (fdF F g (rowL T k w)) y) : wp_Mod_find post 1 g 2 (nI k) (nI w) y := by
  have hF := hw.1
  have h40 : fN y 2 = 40000 := hT.2.2.1
  have hn := hT.2.1
  show wp_Mod_find _ (nI 1) g 2 (nI k) (nI w) y
  refine s_find hL (by decide) hR.1 hF (fun f hf z => by
    rw [(hR.2.2.1 f hf).2.2.2.1] at z
    have := (hw.2.2.2.1 f hf).2.2.2.2
    rw [nI_eq (by omega) (by omega)] at z
    omega) (by rw [h40]; omega) (by rw [h40]; decide) ?_
  have hR2 : rowL (fA y 2) k w = rowL T k w := by
    rw [nm_eq]
    refine ⟨rowL_len, fun i hi => ?_⟩
    rw [rowL_at hi]
    exact (hT.2.2.2 (k + i) (by omega)).1
  have ef : fnd (mtM y 1 g 2 k w) F.length = fdF F g (rowL T k w) := fnd_cg (fun f hf => by
    have := mtM_iff (g := g) (r := 2) (fr := k) (n := w) hR hw (by omega) hf
    rw [hR2] at this
    by_cases c : fPa F f = g ∧ fNm F f = rowL T k w
    · rw [this.mpr c, decide_eq_true c]
    · rw [decide_eq_false c]; exact bt_f (fun z => c (this.mp z)))
  rw [ef]
  exact p
/-- a path's field is none or one of the schema's -/
theorem qPth_f (hF : F.length < 2 ^ 31) : ∀ d k g bl, (qPth T n F d k g bl).2.2 = -1 ∨ ∃ f, f < F.length ∧ (qPth T n F d k g bl).2.2 = nI f := by
  intro d
  induction d with
  | zero => intro k g bl; exact Or.inl rfl
  | succ d ih =>
    intro k g bl
    unfold qPth
    by_cases c : wln T n k = 0 ∨ ownB T n k = true
    · rw [if_pos c]; exact Or.inl rfl
    · rw [if_neg c]
      by_cases c2 : k + wln T n k < n ∧ T (k + wln T n k) = 46
      · rw [if_pos c2]; exact ih _ _ _
      · rw [if_neg c2]
        show (if bl = true then -1 else fdF F g (rowL T k (wln T n k))) = -1 ∨ ∃ f, f < F.length ∧ (if bl = true then -1 else fdF F g (rowL T k (wln T n k))) = nI f
        cases bl
        · exact fdF_is
        · exact Or.inl rfl
theorem qPth_k (hn : n < 2 ^ 31) : ∀ d k g bl, k ≤ n → (qPth T n F d k g bl).1 = -1 → k < (qPth T n F d k g bl).2.1 ∧ (qPth T n F d k g bl).2.1 ≤ n := by
  intro d
  induction d with
  | zero => intro k g bl _ h; exact absurd h (by show ¬ (-3 : Int32) = -1; decide)
  | succ d ih =>
    intro k g bl hk
    have hw := @wln_le T n k hk
    unfold qPth
    by_cases c : wln T n k = 0 ∨ ownB T n k = true
    · rw [if_pos c]
      intro h
      exact absurd h (nI_nm1 (by omega))
    · rw [if_neg c]
      by_cases c2 : k + wln T n k < n ∧ T (k + wln T n k) = 46
      · rw [if_pos c2]
        intro h
        have := ih _ _ _ (by omega) h
        exact ⟨by omega, this.2⟩
      · rw [if_neg c2]
        intro _
        have c : ¬ wln T n k = 0 := fun z => c (Or.inl z)
        exact ⟨by show k < k + wln T n k; omega, hw⟩
end
