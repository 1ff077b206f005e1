/-! words and texts are written, class -/
theorem sn147 : SnkId 147 := by unfold SnkId; decide
theorem st82 : stRow 82 := st_of (by decide) (by decide) (by decide +kernel)
theorem fk_row {s r : Nat} {x y : St} (hs : SnkId s) (hr : stRow r) (hK : SkS x) (f : FK s x y) : fA y r = fA x r ∧ fN y r = fN x r := f.2.2.2.1 r (Or.inl hr.1) id (fun t e => by rw [e]; exact stRow_ne hs hK hr)
theorem st_true : isSt 8 [116, 114, 117, 101] := ⟨rfl, by decide, by decide +kernel⟩
theorem st_false : isSt 9 [102, 97, 108, 115, 101] := ⟨rfl, by decide, by decide +kernel⟩
theorem st_bx : isSt 10 [92, 120] := ⟨rfl, by decide, by decide +kernel⟩
section
variable {κ : Nat → Nat} {B : List Nat} {Pre : St → Prop}
theorem k_wordL {j : Nat} {b : List Nat} (hj : isSt j b) (hb : ∀ c, c ∈ b → c < 256) (st : ∀ x y, SkS x → FK 147 x y → Pre x → Pre y) : ∀ d k κ B, k + d = b.length → (∀ t, SnkId t → κ t ≤ roomOf t) → App κ 147 B (b.drop k) Pre (fun post kb nb x => wl_Asm_writeWord_2 post (d + 1) 146 j (nI k) kb nb x) := by
  obtain ⟨j1, j2, j3⟩ := hj
  intro d
  induction d with
  | zero =>
    intro k κ B hk hκ
    have e : b.drop k = [] := List.drop_eq_nil_of_le (by omega)
    rw [e]
    refine (App.nil hκ).cg (fun post kb nb x _ _ _ z => ?_)
    show j_Asm_writeWord_2 post _ 146 j (nI k) kb nb x
    unfold j_Asm_writeWord_2
    rw [j1]
    exact br_t (by (first | omega | (simp (disch := omega) only [Int32.le_iff_toInt_le, Int32.lt_iff_toInt_lt, z_eq, z_in, nI_toInt, z_cl, z_m1, z_sg, z_255, Int32.reduceToInt] <;> omega) | (simp only [Int32.le_iff_toInt_le, Int32.lt_iff_toInt_lt, z_eq, z_in, z_add, z_sub, z_mul, z_neg, z_nI, z_cl, z_sg, z_255, z_lit, Int32.reduceToInt] <;> omega))) z
  | succ d ih =>
    intro k κ B hk hκ
    have e : b.drop k = [b.getD k 0] ++ b.drop (k + 1) := by
      rw [List.drop_eq_getElem_cons (by omega), List.getD_eq_getElem?_getD, List.getElem?_eq_getElem (by omega)]
      rfl
    rw [e]
    refine (App.seq sn147 st (k_put (w := nI (b.getD k 0)) sn147 hκ (hb _ (getD_mem (by omega))) rfl) (fun κ1 h1 => ih (k + 1) κ1 _ (by omega) h1)).cg (fun post kb nb x _ _ _ z => ?_)
    show j_Asm_writeWord_2 post (wl_Asm_writeWord_2 post (d + 1)) 146 j (nI k) kb nb x
    unfold j_Asm_writeWord_2
    rw [j1, j3 k (by omega), nI_1]
    exact br_f (by (first | omega | (simp (disch := omega) only [Int32.le_iff_toInt_le, Int32.lt_iff_toInt_lt, z_eq, z_in, nI_toInt, z_cl, z_m1, z_sg, z_255, Int32.reduceToInt] <;> omega) | (simp only [Int32.le_iff_toInt_le, Int32.lt_iff_toInt_lt, z_eq, z_in, z_add, z_sub, z_mul, z_neg, z_nI, z_cl, z_sg, z_255, z_lit, Int32.reduceToInt] <;> omega))) ⟨by (first | omega | (simp (disch := omega) only [Int32.le_iff_toInt_le, Int32.lt_iff_toInt_lt, z_eq, z_in, nI_toInt, z_cl, z_m1, z_sg, z_255, Int32.reduceToInt] <;> omega) | (simp only [Int32.le_iff_toInt_le, Int32.lt_iff_toInt_lt, z_eq, z_in, z_add, z_sub, z_mul, z_neg, z_nI, z_cl, z_sg, z_255, z_lit, Int32.reduceToInt] <;> omega)), by (first | omega | (simp (disch := omega) only [Int32.le_iff_toInt_le, Int32.lt_iff_toInt_lt, z_eq, z_in, nI_toInt, z_cl, z_m1, z_sg, z_255, Int32.reduceToInt] <;> omega) | (simp only [Int32.le_iff_toInt_le, Int32.lt_iff_toInt_lt, z_eq, z_in, z_add, z_sub, z_mul, z_neg, z_nI, z_cl, z_sg, z_255, z_lit, Int32.reduceToInt] <;> omega)), z⟩
theorem k_word {j : Nat} {b : List Nat} (hj : isSt j b) (hb : ∀ c, c ∈ b → c < 256) (st : ∀ x y, SkS x → FK 147 x y → Pre x → Pre y) (hκ : ∀ t, SnkId t → κ t ≤ roomOf t) : App κ 147 B b Pre (fun post kb nb x => wp_Asm_writeWord post 146 j kb nb x) :=
  (k_wordL hj hb st b.length 0 κ B (Nat.zero_add _) hκ).cg (fun _ _ _ _ _ _ _ z => ⟨_, z⟩)
theorem k_hex {post : Int32 → St → Prop} {x : St} {d : Nat} (hd : d < 16) (p : post (nI (hx d)) x) : wp_Asm_hexDigit post (nI d) x := by
  unfold wp_Asm_hexDigit
  by_cases c : d < 10
  · have e : hx d = 48 + d := if_pos c
    rw [e] at p
    rw [show (48 : Int32) + nI d = nI (48 + d) from by rw [show (48 : Int32) = nI 48 from rfl, nI_add]]
    exact br_f (by (first | omega | (simp (disch := omega) only [Int32.le_iff_toInt_le, Int32.lt_iff_toInt_lt, z_eq, z_in, nI_toInt, z_cl, z_m1, z_sg, z_255, Int32.reduceToInt] <;> omega) | (simp only [Int32.le_iff_toInt_le, Int32.lt_iff_toInt_lt, z_eq, z_in, z_add, z_sub, z_mul, z_neg, z_nI, z_cl, z_sg, z_255, z_lit, Int32.reduceToInt] <;> omega))) p
  · have e : hx d = 87 + d := if_neg c
    rw [e] at p
    rw [show (97 : Int32) + nI d - 10 = nI (87 + d) from by rw [show (97 : Int32) = nI 97 from rfl, nI_add, show (10 : Int32) = nI 10 from rfl, nI_sub (by omega)]; congr 1; omega]
    exact br_t (by (first | omega | (simp (disch := omega) only [Int32.le_iff_toInt_le, Int32.lt_iff_toInt_lt, z_eq, z_in, nI_toInt, z_cl, z_m1, z_sg, z_255, Int32.reduceToInt] <;> omega) | (simp only [Int32.le_iff_toInt_le, Int32.lt_iff_toInt_lt, z_eq, z_in, z_add, z_sub, z_mul, z_neg, z_nI, z_cl, z_sg, z_255, z_lit, Int32.reduceToInt] <;> omega))) p
def SrT (x : St) (a : Nat) (t : List Int32) : Prop := okT t ∧ a + t.length ≤ fN x 82 ∧ fN x 82 < 2 ^ 20 ∧ ∀ j, j < t.length → fA x 82 (a + j) = (t.getD j 0).toInt8.toInt32
theorem SrT.k {a : Nat} {t : List Int32} : ∀ x y, SkS x → FK 147 x y → SrT x a t → SrT y a t := fun x y hK f h => by
  obtain ⟨e1, e2⟩ := fk_row sn147 st82 hK f
  unfold SrT
  rw [e1, e2]
  exact h
theorem hx_lt {d : Nat} (h : d < 16) : hx d < 256 := by
  unfold hx
  split <;> omega
theorem k_textL {a : Nat} {t : List Int32} {v : Int64} {l3 : Int32} (hok : okT t) (ha : a + t.length < 2 ^ 20) : ∀ d k κ B, k + d = t.length → (∀ t, SnkId t → κ t ≤ roomOf t) → App κ 147 B (((t.drop k).map (fun v => qt1 (uI v))).flatten ++ [39]) (fun x => SrT x a t) (fun post kb nb x => wl_Asm_writeText_25 post (d + 1) 146 v l3 (nI (a + t.length)) (nI (a + k)) kb nb x) := by
  intro d
  induction d with
  | zero =>
    intro k κ B hk hκ
    rw [List.drop_eq_nil_of_le (by omega)]
    refine (App.one (k_put (b := 39) (w := 39) sn147 hκ (by decide) rfl)).cg (fun post kb nb x _ _ _ z => ?_)
    show j_Asm_writeText_25 post _ 146 v l3 (nI (a + t.length)) (nI (a + k)) kb nb x
    unfold j_Asm_writeText_25
    exact br_t (by (first | omega | (simp (disch := omega) only [Int32.le_iff_toInt_le, Int32.lt_iff_toInt_lt, z_eq, z_in, nI_toInt, z_cl, z_m1, z_sg, z_255, Int32.reduceToInt] <;> omega) | (simp only [Int32.le_iff_toInt_le, Int32.lt_iff_toInt_lt, z_eq, z_in, z_add, z_sub, z_mul, z_neg, z_nI, z_cl, z_sg, z_255, z_lit, Int32.reduceToInt] <;> omega))) z
  | succ d ih =>
    intro k κ B hk hκ
    have hv := hok.2 k (by omega)
    have c256 := uI_by hv
    have ev : t.getD k 0 = nI (uI (t.getD k 0)) := (nI_uI _).symm
    have e : t.drop k = t.getD k 0 :: t.drop (k + 1) := by
      rw [List.drop_eq_getElem_cons (by omega), List.getD_eq_getElem?_getD, List.getElem?_eq_getElem (by omega)]
      rfl
    rw [e, List.map_cons, List.flatten_cons, List.append_assoc]
    have rest : ∀ (κ : Nat → Nat) (B : List Nat) (l6 : Int32), (∀ t, SnkId t → κ t ≤ roomOf t) → App κ 147 B (((t.drop (k + 1)).map (fun v => qt1 (uI v))).flatten ++ [39]) (fun x => SrT x a t) (fun post kb nb x => j_Asm_writeText_132 post (wl_Asm_writeText_25 post (d + 1)) 146 v l3 (nI (a + t.length)) (nI (a + k)) l6 kb nb x) := fun κ B l6 hκ => (ih (k + 1) κ B (by omega) hκ).cg (fun post kb nb x _ _ _ z => by
      unfold j_Asm_writeText_132
      rw [nI_1]
      exact z)
    generalize hc : uI (t.getD k 0) = c at *
    generalize ((t.drop (k + 1)).map (fun v => qt1 (uI v))).flatten ++ [39] = Z at *
    -- the byte that is read
    have rd : ∀ x, SrT x a t → vp_in (nI (a + k)) (fN x 82) ∧ rA x 82 (nI (a + k)) &&& 255 = nI c := fun x h => by
      obtain ⟨h1, h2, h3, h4⟩ := h
      refine ⟨vp_in_nI (by omega) (by omega), ?_⟩
      rw [rA_nI (by omega), h4 k (by omega), bp_b, ev, nI_255, Nat.mod_eq_of_lt c256]
    obtain ⟨e15, e4⟩ := by_15 c c256
    by_cases cx : c < 32 ∨ 126 < c
    · have eq : qt1 c = [92, 120, hx (c / 16), hx (c % 16)] := if_pos cx
      rw [eq]
      have A3 : ∀ (κ : Nat → Nat) (B : List Nat), (∀ t, SnkId t → κ t ≤ roomOf t) → App κ 147 B ([hx (c % 16)] ++ Z) (fun x => SrT x a t) (fun post kb nb x => wp_Asm_hexDigit (fun (r24 : Int32) (x23 : St) => (∃ k25 n26 k27 n28 : Nat, k25 + k27 = kb ∧ n26 + n28 = nb ∧ wp_Snk_put (fun (x29 : St) => j_Asm_writeText_132 post (wl_Asm_writeText_25 post (d + 1)) 146 v l3 (nI (a + t.length)) (nI (a + k)) (nI c) k27 n28 x29) 147 r24 k25 n26 x23)) (nI (c % 16)) x) := fun κ B hκ => (App.seq sn147 SrT.k (k_put (w := nI (hx (c % 16))) sn147 hκ (hx_lt (by omega)) rfl) (fun κ1 h1 => rest κ1 _ (nI c) h1)).cg (fun post kb nb x _ _ _ z => k_hex (by omega) z)
      have A2 : ∀ (κ : Nat → Nat) (B : List Nat), (∀ t, SnkId t → κ t ≤ roomOf t) → App κ 147 B ([hx (c / 16)] ++ ([hx (c % 16)] ++ Z)) (fun x => SrT x a t) (fun post kb nb x => wp_Asm_hexDigit (fun (r17 : Int32) (x16 : St) => (∃ k18 n19 k20 n21 : Nat, k18 + k20 = kb ∧ n19 + n21 = nb ∧ wp_Snk_put (fun (x22 : St) => wp_Asm_hexDigit (fun (r24 : Int32) (x23 : St) => (∃ k25 n26 k27 n28 : Nat, k25 + k27 = k20 ∧ n26 + n28 = n21 ∧ wp_Snk_put (fun (x29 : St) => j_Asm_writeText_132 post (wl_Asm_writeText_25 post (d + 1)) 146 v l3 (nI (a + t.length)) (nI (a + k)) (nI c) k27 n28 x29) 147 r24 k25 n26 x23)) (nI (c % 16)) x22) 147 r17 k18 n19 x16)) (nI (c / 16)) x) := fun κ B hκ => (App.seq sn147 SrT.k (k_put (w := nI (hx (c / 16))) sn147 hκ (hx_lt (by omega)) rfl) (fun κ1 h1 => A3 κ1 _ h1)).cg (fun post kb nb x _ _ _ z => k_hex (by omega) z)
      refine (App.seq sn147 SrT.k (k_word st_bx (by decide) SrT.k hκ) (fun κ1 h1 => A2 κ1 _ h1)).cg (fun post kb nb x _ _ hp z => ?_)
      show j_Asm_writeText_25 post (wl_Asm_writeText_25 post (d + 1)) 146 v l3 (nI (a + t.length)) (nI (a + k)) kb nb x
      obtain ⟨q1, q2⟩ := rd x hp
      have go : j_Asm_writeText_62 post (wl_Asm_writeText_25 post (d + 1)) 146 v l3 (nI (a + t.length)) (nI (a + k)) (nI c) kb nb x := by
        unfold j_Asm_writeText_62
        rw [e15, e4]
        exact z
      unfold j_Asm_writeText_25
      refine br_f (by (first | omega | (simp (disch := omega) only [Int32.le_iff_toInt_le, Int32.lt_iff_toInt_lt, z_eq, z_in, nI_toInt, z_cl, z_m1, z_sg, z_255, Int32.reduceToInt] <;> omega) | (simp only [Int32.le_iff_toInt_le, Int32.lt_iff_toInt_lt, z_eq, z_in, z_add, z_sub, z_mul, z_neg, z_nI, z_cl, z_sg, z_255, z_lit, Int32.reduceToInt] <;> omega))) ⟨q1, nm_r q2 ?_⟩
      by_cases c1 : c < 32
      · exact br_t (by (first | omega | (simp (disch := omega) only [Int32.le_iff_toInt_le, Int32.lt_iff_toInt_lt, z_eq, z_in, nI_toInt, z_cl, z_m1, z_sg, z_255, Int32.reduceToInt] <;> omega) | (simp only [Int32.le_iff_toInt_le, Int32.lt_iff_toInt_lt, z_eq, z_in, z_add, z_sub, z_mul, z_neg, z_nI, z_cl, z_sg, z_255, z_lit, Int32.reduceToInt] <;> omega))) go
      · exact br_f (by (first | omega | (simp (disch := omega) only [Int32.le_iff_toInt_le, Int32.lt_iff_toInt_lt, z_eq, z_in, nI_toInt, z_cl, z_m1, z_sg, z_255, Int32.reduceToInt] <;> omega) | (simp only [Int32.le_iff_toInt_le, Int32.lt_iff_toInt_lt, z_eq, z_in, z_add, z_sub, z_mul, z_neg, z_nI, z_cl, z_sg, z_255, z_lit, Int32.reduceToInt] <;> omega))) (br_f (by (first | omega | (simp (disch := omega) only [Int32.le_iff_toInt_le, Int32.lt_iff_toInt_lt, z_eq, z_in, nI_toInt, z_cl, z_m1, z_sg, z_255, Int32.reduceToInt] <;> omega) | (simp only [Int32.le_iff_toInt_le, Int32.lt_iff_toInt_lt, z_eq, z_in, z_add, z_sub, z_mul, z_neg, z_nI, z_cl, z_sg, z_255, z_lit, Int32.reduceToInt] <;> omega))) go)
    · have q1 : qt1 c = if c = 39 ∨ c = 92 then [92, c] else [c] := if_neg cx
      have A1 : ∀ (κ : Nat → Nat) (B : List Nat), (∀ t, SnkId t → κ t ≤ roomOf t) → App κ 147 B ([c] ++ Z) (fun x => SrT x a t) (fun post kb nb x => j_Asm_writeText_123 post (wl_Asm_writeText_25 post (d + 1)) 146 v l3 (nI (a + t.length)) (nI (a + k)) (nI c) kb nb x) := fun κ B hκ => (App.seq sn147 SrT.k (k_put (w := nI c) sn147 hκ c256 rfl) (fun κ1 h1 => rest κ1 _ (nI c) h1)).cg (fun post kb nb x _ _ _ z => z)
      by_cases c2 : c = 39 ∨ c = 92
      · rw [q1, if_pos c2]
        refine (App.seq sn147 SrT.k (k_put (b := 92) (w := 92) sn147 hκ (by decide) rfl) (fun κ1 h1 => A1 κ1 _ h1)).cg (fun post kb nb x _ _ hp z => ?_)
        show j_Asm_writeText_25 post (wl_Asm_writeText_25 post (d + 1)) 146 v l3 (nI (a + t.length)) (nI (a + k)) kb nb x
        obtain ⟨q1, q2⟩ := rd x hp
        have go : j_Asm_writeText_114 post (wl_Asm_writeText_25 post (d + 1)) 146 v l3 (nI (a + t.length)) (nI (a + k)) (nI c) kb nb x := z
        unfold j_Asm_writeText_25
        refine br_f (by (first | omega | (simp (disch := omega) only [Int32.le_iff_toInt_le, Int32.lt_iff_toInt_lt, z_eq, z_in, nI_toInt, z_cl, z_m1, z_sg, z_255, Int32.reduceToInt] <;> omega) | (simp only [Int32.le_iff_toInt_le, Int32.lt_iff_toInt_lt, z_eq, z_in, z_add, z_sub, z_mul, z_neg, z_nI, z_cl, z_sg, z_255, z_lit, Int32.reduceToInt] <;> omega))) ⟨q1, nm_r q2 (br_f (by (first | omega | (simp (disch := omega) only [Int32.le_iff_toInt_le, Int32.lt_iff_toInt_lt, z_eq, z_in, nI_toInt, z_cl, z_m1, z_sg, z_255, Int32.reduceToInt] <;> omega) | (simp only [Int32.le_iff_toInt_le, Int32.lt_iff_toInt_lt, z_eq, z_in, z_add, z_sub, z_mul, z_neg, z_nI, z_cl, z_sg, z_255, z_lit, Int32.reduceToInt] <;> omega))) (br_t (by (first | omega | (simp (disch := omega) only [Int32.le_iff_toInt_le, Int32.lt_iff_toInt_lt, z_eq, z_in, nI_toInt, z_cl, z_m1, z_sg, z_255, Int32.reduceToInt] <;> omega) | (simp only [Int32.le_iff_toInt_le, Int32.lt_iff_toInt_lt, z_eq, z_in, z_add, z_sub, z_mul, z_neg, z_nI, z_cl, z_sg, z_255, z_lit, Int32.reduceToInt] <;> omega))) ?_))⟩
        by_cases c3 : c = 39
        · exact br_t (by rw [c3]; rfl) go
        · exact br_f (fun z => c3 (nI_inj (b := 39) (by omega) (by decide) z)) (bn_t (by rw [show c = 92 by omega]; rfl) go)
      · rw [q1, if_neg c2]
        refine (A1 κ B hκ).cg (fun post kb nb x _ _ hp z => ?_)
        show j_Asm_writeText_25 post (wl_Asm_writeText_25 post (d + 1)) 146 v l3 (nI (a + t.length)) (nI (a + k)) kb nb x
        obtain ⟨q1, q2⟩ := rd x hp
        unfold j_Asm_writeText_25
        exact br_f (by (first | omega | (simp (disch := omega) only [Int32.le_iff_toInt_le, Int32.lt_iff_toInt_lt, z_eq, z_in, nI_toInt, z_cl, z_m1, z_sg, z_255, Int32.reduceToInt] <;> omega) | (simp only [Int32.le_iff_toInt_le, Int32.lt_iff_toInt_lt, z_eq, z_in, z_add, z_sub, z_mul, z_neg, z_nI, z_cl, z_sg, z_255, z_lit, Int32.reduceToInt] <;> omega))) ⟨q1, nm_r q2 (br_f (by (first | omega | (simp (disch := omega) only [Int32.le_iff_toInt_le, Int32.lt_iff_toInt_lt, z_eq, z_in, nI_toInt, z_cl, z_m1, z_sg, z_255, Int32.reduceToInt] <;> omega) | (simp only [Int32.le_iff_toInt_le, Int32.lt_iff_toInt_lt, z_eq, z_in, z_add, z_sub, z_mul, z_neg, z_nI, z_cl, z_sg, z_255, z_lit, Int32.reduceToInt] <;> omega))) (br_t (by (first | omega | (simp (disch := omega) only [Int32.le_iff_toInt_le, Int32.lt_iff_toInt_lt, z_eq, z_in, nI_toInt, z_cl, z_m1, z_sg, z_255, Int32.reduceToInt] <;> omega) | (simp only [Int32.le_iff_toInt_le, Int32.lt_iff_toInt_lt, z_eq, z_in, z_add, z_sub, z_mul, z_neg, z_nI, z_cl, z_sg, z_255, z_lit, Int32.reduceToInt] <;> omega))) (br_f (fun z => c2 (Or.inl (nI_inj (b := 39) (by omega) (by decide) z))) (bn_f (fun z => c2 (Or.inr (nI_inj (b := 92) (by omega) (by decide) z))) z))))⟩
theorem k_textW {a : Nat} {t : List Int32} (hok : okT t) (ha : a + t.length < 2 ^ 20) (hκ : ∀ t, SnkId t → κ t ≤ roomOf t) : App κ 147 B (qtB t) (fun x => SrT x a t) (fun post kb nb x => wp_Asm_writeText post 146 (lN (256 * a + t.length)) kb nb x) := by
  have t255 := hok.1
  have A := App.seq (κ := κ) (B := B) sn147 SrT.k (k_put (b := 39) (w := 39) sn147 hκ (by decide) rfl) (fun κ1 h1 => (k_textL (v := lN (256 * a + t.length)) (l3 := nI a) hok ha t.length 0 κ1 (B ++ [39]) (Nat.zero_add _) h1).cg (W2 := fun post kb nb x => ∃ n, wl_Asm_writeText_25 post n 146 (lN (256 * a + t.length)) (nI a) (nI (a + t.length)) (nI a) kb nb x) (fun _ _ _ _ _ _ _ z => ⟨_, z⟩))
  refine A.cg (fun post kb nb x _ _ hp z => ?_)
  show wp_Asm_writeText post 146 (lN (256 * a + t.length)) kb nb x
  unfold wp_Asm_writeText
  exact k_plc (ref_pl t255 (by omega)) (k_size (ref_sz t255 (by omega)) (nm_r (e' := nI (a + t.length)) (nI_add _ _) z))
end
