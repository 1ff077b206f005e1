/-! the model reads texts: plain, by lengths, in parts -/
section
variable {x : St} {T : Nat → Nat} {n st p : Nat}
theorem oob_tests {post : Prop} {v : Nat} {m : Int64} {k : Nat} {A B : Prop} (hv : v < 2 ^ 64) (hm : m = lN k) (hk : k < 2 ^ 62) (a : k < v → A) (b : v ≤ k → B) : ((lg_cmp (lN v) 0) < 0 → A) ∧ (¬ (lg_cmp (lN v) 0) < 0 → (((lg_cmp (lN v) m) ≤ 0 → B) ∧ (¬ (lg_cmp (lN v) m) ≤ 0 → A))) := by
  subst hm
  rw [lg_cmp_lt, lN_neg2 hv]
  by_cases c : v ≤ k
  · exact ⟨fun z => by omega, fun _ => ⟨fun _ => b c, fun z => absurd (by rw [lg_cmp_le, lN_le2 (by omega) (by omega)]; exact c) z⟩⟩
  · refine ⟨fun _ => a (by omega), fun z => ⟨fun w => ?_, fun _ => a (by omega)⟩⟩
    rw [lg_cmp_le, lN_le2 (by omega) (by omega)] at w
    omega
theorem s_ptx {post : St → Prop} {m : Nat} (hF : FiM x T n) (h0 : fI x 0 69 = 0) (hp : fI x 0 67 = nI p) (h68 : fI x 0 68 = nI st) (hps : p ≤ st) (hst : st ≤ n) (hm : m ≤ 1000) (hN : NwT x [])
    (pe : ∀ e y, ptxF T st m [] p = .error e → FrTk x y → Flt y e → fA y 34 0 = 0 → post y)
    (pk : ∀ P q y, ptxF T st m [] p = .ok (P, q) → FrTk x y → fI y 0 69 = 0 → fI y 0 67 = nI q → q ≤ st → NwT y P → P.length = m → post y) : wp_Mod_readPlain post (nI m) x := by
  have hT := hF.2.2.1
  have stop : ∀ (y : St) d l1 l2 e, Flt y e → ptxF T st m [] p = .error e → FrTk x y → fA y 34 0 = 0 → wl_Mod_readPlain_2 post (d + 1) l1 l2 y := fun y d l1 l2 e hf he hy hz => by
    unfold wl_Mod_readPlain_2 j_Mod_readPlain_2
    by_cases c : l1 ≤ l2
    · exact br_t c (pe e y he hy hf hz)
    · exact br_f c ⟨fun _ => pe e y he hy hf hz, fun z => absurd z hf.ne⟩
  have key : ∀ d acc q (y : St), acc.length + d = m → FrTk x y → FiM y T n → fI y 0 69 = 0 → fI y 0 67 = nI q → q ≤ st → NwT y acc → ptxF T st m [] p = ptxF T st d acc q → wl_Mod_readPlain_2 post (d + 1) (nI m) (nI acc.length) y := by
    intro d
    induction d with
    | zero =>
      intro acc q y hd y1 y2 y3 y4 y5 y6 y7
      unfold wl_Mod_readPlain_2 j_Mod_readPlain_2
      exact br_t (by (first | omega | (simp (disch := omega) only [Int32.le_iff_toInt_le, Int32.lt_iff_toInt_lt, z_eq, z_in, nI_toInt, z_cl, z_m1, z_sg, z_255, Int32.reduceToInt] <;> omega) | (simp only [Int32.le_iff_toInt_le, Int32.lt_iff_toInt_lt, z_eq, z_in, z_add, z_sub, z_mul, z_neg, z_nI, z_cl, z_sg, z_255, z_lit, Int32.reduceToInt] <;> omega))) (pk acc q y y7 y1 y3 y4 y5 y6 (by omega))
    | succ d ih =>
      intro acc q y hd y1 y2 y3 y4 y5 y6 y7
      have y68 : fI y 0 68 = nI st := (y1.1 0 68 (by decide)).trans h68
      unfold wl_Mod_readPlain_2 j_Mod_readPlain_2
      refine br_f (by (first | omega | (simp (disch := omega) only [Int32.le_iff_toInt_le, Int32.lt_iff_toInt_lt, z_eq, z_in, nI_toInt, z_cl, z_m1, z_sg, z_255, Int32.reduceToInt] <;> omega) | (simp only [Int32.le_iff_toInt_le, Int32.lt_iff_toInt_lt, z_eq, z_in, z_add, z_sub, z_mul, z_neg, z_nI, z_cl, z_sg, z_255, z_lit, Int32.reduceToInt] <;> omega))) ⟨fun z => absurd y3 z, fun _ => ?_⟩
      rw [y68]
      refine s_vrd y2 y3 y4 y5 hst (fun e z z1 z2 z3 => ?_) (fun v q1 z z1 z2 z3 z4 => ?_)
      · refine ⟨fun _ => ?_, fun w => absurd w z3.ne⟩
        unfold j_Mod_readPlain_50 j_Mod_readPlain_64
        refine ⟨fun _ => stop z _ _ _ e z3 ?_ (Fg.trans y1 (z2.mono (fun _ _ w => ⟨w.1, by omega⟩) (fun _ _ w => w) (fun _ _ w => w) (fun _ w => w.elim) (fun _ w => w))) (z2.nw y6).z, fun w => absurd w z3.ne⟩
        rw [y7]; simp only [ptxF]; rw [z1]
      · obtain ⟨v1, v2, v3⟩ := vrd_ok hT z1
        have ez : ptxF T st m [] p = (if 255 < v then .error 7 else if st < q1 + v then .error 1 else if 20000 < oF acc acc.length + v then .error 7 else ptxF T st d (acc ++ [(0, txs T q1 v)]) (q1 + v)) := by
          rw [y7]; simp only [ptxF]; rw [z1]
        have fz : FrTk x z := Fg.trans y1 (z2.mono (fun _ _ w => ⟨w.1, by omega⟩) (fun _ _ w => w) (fun _ _ w => w) (fun _ w => w.elim) (fun _ w => w))
        have Fz := z2.fi y2
        refine ⟨fun w => absurd z4 w, fun _ => oob_tests (post := True) v1 (show (255 : Int64) = lN 255 from rfl) (by decide) (fun c => ?_) (fun c => ?_)⟩
        · rw [if_pos c] at ez
          unfold j_Mod_readPlain_44 j_Mod_readPlain_50 j_Mod_readPlain_64
          have fl : Flt (setI z 0 69 7) 7 := ⟨gI_at, by decide, by decide⟩
          exact nm_e ⟨fun _ => stop _ _ _ _ 7 fl ez (Fg.trans fz (Fg.i ⟨rfl, by decide⟩)) (z2.nw y6).z, fun w => absurd w fl.ne⟩
        · rw [if_neg (by omega)] at ez
          unfold j_Mod_readPlain_50
          refine ⟨fun w => absurd z4 w, fun _ => ?_⟩
          rw [lN_i, show (0 : Int32) = nI 0 from rfl]
          refine s_takeText (acc := acc) Fz z4 z3 ((z2.1 0 68 (by decide)).trans y68) v3 hst c (Nat.zero_le _) (Nat.zero_le _) (by omega) (z2.nw y6) (fun e u u1 u2 u3 u0 => ?_) (fun u u1 u2 u3 u4 u5 u6 => ?_)
          · unfold j_Mod_readPlain_64
            refine stop u _ _ _ e u3 ?_ (Fg.trans fz u2) (by rw [u0]; exact (z2.nw y6).z)
            rcases u1 with ⟨a, b⟩ | ⟨a, b, c'⟩
            · rw [ez, if_pos a, b]
            · rw [ez, if_neg a, if_pos (by omega), c']
          · rw [if_neg u1, if_neg (by omega)] at ez
            unfold j_Mod_readPlain_64
            rw [nI_1]
            have e1 : (acc ++ [((0 : Int64), txs T q1 v)]).length = acc.length + 1 := by rw [List.length_append]; rfl
            have u6' : NwT u (acc ++ [(0, txs T q1 v)]) := by rw [List.take_zero, List.nil_append] at u6; exact u6
            have := ih (acc ++ [(0, txs T q1 v)]) (q1 + v) u (by omega) (Fg.trans fz u3) (u3.fi Fz) u4 u5 (by omega) u6' ez
            rw [e1] at this
            exact this
  exact ⟨m + 1, key m [] p x (by rw [List.length_nil]; omega) (Fg.refl x) hF h0 hp hps hN rfl⟩
theorem uL_le {v : Int64} : (0 ≤ v ∧ v ≤ 255) ↔ uL v ≤ 255 := by
  have h := uL_lt v
  have e := lN_uL v
  rw [← e, uL_lN h, Int64.le_iff_toInt_le, Int64.le_iff_toInt_le, lN_int h, show (0 : Int64).toInt = 0 from rfl, show (255 : Int64).toInt = 255 from rfl]
  split <;> omega
theorem s_tx1 {post : St → Prop} {m : Nat} (hF : FiM x T n) (h0 : fI x 0 69 = 0) (hp : fI x 0 67 = nI p) (h68 : fI x 0 68 = nI st) (hps : p ≤ st) (hst : st ≤ n) (hm : m ≤ 1000) (hN : NwT x [])
    (pe : ∀ e y, tx1 T m st p = .error e → FrVl x y → Flt y e → fA y 34 0 = 0 → post y)
    (pk : ∀ P q y, tx1 T m st p = .ok (P, q) → FrVl x y → fI y 0 69 = 0 → fI y 0 67 = nI q → q ≤ st → NwT y P → P.length = m → post y) : wp_Mod_readLengths post (nI m) x := by
  have hT := hF.2.2.1
  unfold wp_Mod_readLengths
  have stop2 : ∀ (y : St) l1 l2 e, Flt y e → tx1 T m st p = .error e → FrVl x y → fA y 34 0 = 0 → ∃ d : Nat, wl_Mod_readLengths_57 post d l1 l2 y := fun y l1 l2 e hf he hy hz => by
    refine ⟨1, ?_⟩
    unfold wl_Mod_readLengths_57 j_Mod_readLengths_57
    by_cases c : l1 ≤ l2
    · exact br_t c (pe e y he hy hf hz)
    · exact br_f c ⟨fun _ => pe e y he hy hf hz, fun z => absurd z hf.ne⟩
  have stop1 : ∀ (y : St) d l1 l2 e, Flt y e → tx1 T m st p = .error e → FrVl x y → fA y 34 0 = 0 → wl_Mod_readLengths_7 post (d + 1) l1 l2 y := fun y d l1 l2 e hf he hy hz => by
    unfold wl_Mod_readLengths_7 j_Mod_readLengths_7
    by_cases c : l1 ≤ l2
    · refine br_t c ?_
      unfold j_Mod_readLengths_55
      exact stop2 y _ _ e hf he hy hz
    · refine br_f c ⟨fun _ => ?_, fun z => absurd z hf.ne⟩
      unfold j_Mod_readLengths_55
      exact stop2 y _ _ e hf he hy hz
  refine s_cde hF h0 hp h68 hps hst (by omega) (fun e y y1 y2 y3 => ⟨1, stop1 y 0 _ _ e y3 (by unfold tx1; rw [y1]) y2.vl (y2.nw hN).z⟩) (fun L q y y1 y2 y3 y4 y5 y6 y7 => ?_)
  have ec : tx1 T m st p = if ∃ k, k < m ∧ 255 < uL (L.getD k 0) then .error 7 else ltxF T st L m [] q := by unfold tx1; rw [y1]
  have Fy := y2.fi hF
  have y43 : fN y 43 = 2000 := Fy.1 43
  -- all lengths
  have look : ∀ d k, k + d = m → (∀ j, j < k → uL (L.getD j 0) ≤ 255) → wl_Mod_readLengths_7 post (d + 2) (nI m) (nI k) y := by
    intro d
    induction d with
    | zero =>
      intro k hk hj
      have e : k = m := by omega
      subst e
      unfold wl_Mod_readLengths_7 j_Mod_readLengths_7
      refine br_t (by (first | omega | (simp (disch := omega) only [Int32.le_iff_toInt_le, Int32.lt_iff_toInt_lt, z_eq, z_in, nI_toInt, z_cl, z_m1, z_sg, z_255, Int32.reduceToInt] <;> omega) | (simp only [Int32.le_iff_toInt_le, Int32.lt_iff_toInt_lt, z_eq, z_in, z_add, z_sub, z_mul, z_neg, z_nI, z_cl, z_sg, z_255, z_lit, Int32.reduceToInt] <;> omega))) ?_
      unfold j_Mod_readLengths_55
      rw [if_neg (fun z => by obtain ⟨j, j1, j2⟩ := z; have := hj j j1; omega)] at ec
      have key : ∀ d acc q (z : St), acc.length + d = k → FrTk y z → FiM z T n → fI z 0 69 = 0 → fI z 0 67 = nI q → q ≤ st → NwT z acc → tx1 T k st p = ltxF T st L d acc q → wl_Mod_readLengths_57 post (d + 1) (nI k) (nI acc.length) z := by
        intro d
        induction d with
        | zero =>
          intro acc q z hd z1 z2 z3 z4 z5 z6 z7
          unfold wl_Mod_readLengths_57 j_Mod_readLengths_57
          exact br_t (by (first | omega | (simp (disch := omega) only [Int32.le_iff_toInt_le, Int32.lt_iff_toInt_lt, z_eq, z_in, nI_toInt, z_cl, z_m1, z_sg, z_255, Int32.reduceToInt] <;> omega) | (simp only [Int32.le_iff_toInt_le, Int32.lt_iff_toInt_lt, z_eq, z_in, z_add, z_sub, z_mul, z_neg, z_nI, z_cl, z_sg, z_255, z_lit, Int32.reduceToInt] <;> omega))) (pk acc q z z7 (Fg.trans y2.vl z1.vl) z3 z4 z5 z6 (by omega))
        | succ d ih =>
          intro acc q z hd z1 z2 z3 z4 z5 z6 z7
          have z43 : fN z 43 = 2000 := z2.1 43
          have l43 : fL z 43 acc.length = L.getD acc.length 0 := by
            show z.2.2.2.2.1 43 _ = _
            rw [z1.2.2.2.2.1 43 id]
            exact y7 _ (by omega)
          have hle := hj acc.length (by omega)
          have z68 : fI z 0 68 = nI st := (z1.1 0 68 (by decide)).trans ((y2.1 0 68 (by decide)).trans h68)
          have e7 : tx1 T k st p = (if st < q + uL (L.getD acc.length 0) then .error 1 else if 20000 < oF acc acc.length + uL (L.getD acc.length 0) then .error 7 else ltxF T st L d (acc ++ [(0, txs T q (uL (L.getD acc.length 0)))]) (q + uL (L.getD acc.length 0))) := z7
          unfold wl_Mod_readLengths_57 j_Mod_readLengths_57
          refine br_f (by (first | omega | (simp (disch := omega) only [Int32.le_iff_toInt_le, Int32.lt_iff_toInt_lt, z_eq, z_in, nI_toInt, z_cl, z_m1, z_sg, z_255, Int32.reduceToInt] <;> omega) | (simp only [Int32.le_iff_toInt_le, Int32.lt_iff_toInt_lt, z_eq, z_in, z_add, z_sub, z_mul, z_neg, z_nI, z_cl, z_sg, z_255, z_lit, Int32.reduceToInt] <;> omega))) ⟨fun w => absurd z3 w, fun _ => ⟨vp_in_nI (by omega) (by omega), ?_⟩⟩
          rw [rL_nI (by omega), l43, ← lN_uL (L.getD acc.length 0), lN_i, show (0 : Int32) = nI 0 from rfl]
          refine s_takeText (acc := acc) z2 z3 z4 z68 z5 hst hle (Nat.zero_le _) (Nat.zero_le _) (by omega) z6 (fun e u u1 u2 u3 u0 => ?_) (fun u u1 u2 u3 u4 u5 u6 => ?_)
          · have he : tx1 T k st p = .error e := by
              rcases u1 with ⟨a, b⟩ | ⟨a, b, c'⟩
              · rw [e7, if_pos a, b]
              · rw [e7, if_neg a, if_pos (by omega), c']
            have hu : FrVl x u := Fg.trans y2.vl (Fg.trans z1.vl u2.vl)
            have hz : fA u 34 0 = 0 := by rw [u0]; exact z6.z
            unfold wl_Mod_readLengths_57 j_Mod_readLengths_57
            cases d <;> (
              show (_ → post u) ∧ _
              by_cases c : nI k ≤ nI acc.length + 1
              · exact br_t c (pe e u he hu u3 hz)
              · exact br_f c ⟨fun _ => pe e u he hu u3 hz, fun w => absurd w u3.ne⟩)
          · rw [if_neg u1, if_neg (by omega)] at e7
            rw [nI_1]
            have e1 : (acc ++ [((0 : Int64), txs T q (uL (L.getD acc.length 0)))]).length = acc.length + 1 := by rw [List.length_append]; rfl
            have u6' : NwT u (acc ++ [(0, txs T q (uL (L.getD acc.length 0)))]) := by rw [List.take_zero, List.nil_append] at u6; exact u6
            have := ih (acc ++ [(0, txs T q (uL (L.getD acc.length 0)))]) _ u (by omega) (Fg.trans z1 u3) (u3.fi z2) u4 u5 (by omega) u6' e7
            rw [e1] at this
            exact this
      exact ⟨k + 1, key k [] q y (by rw [List.length_nil]; omega) (Fg.refl y) Fy y3 y4 y5 (y2.nw hN) ec⟩
    | succ d ih =>
      intro k hk hj
      unfold wl_Mod_readLengths_7 j_Mod_readLengths_7
      refine br_f (by (first | omega | (simp (disch := omega) only [Int32.le_iff_toInt_le, Int32.lt_iff_toInt_lt, z_eq, z_in, nI_toInt, z_cl, z_m1, z_sg, z_255, Int32.reduceToInt] <;> omega) | (simp only [Int32.le_iff_toInt_le, Int32.lt_iff_toInt_lt, z_eq, z_in, z_add, z_sub, z_mul, z_neg, z_nI, z_cl, z_sg, z_255, z_lit, Int32.reduceToInt] <;> omega))) ⟨fun w => absurd y3 w, fun _ => ⟨vp_in_nI (by omega) (by omega), ?_⟩⟩
      rw [rL_nI (by omega), y7 k (by omega)]
      have bad : 255 < uL (L.getD k 0) → j_Mod_readLengths_43 post (wl_Mod_readLengths_7 post (d + 2)) (nI m) (nI k) y := fun c => by
        unfold j_Mod_readLengths_43 j_Mod_readLengths_49
        exact nm_e (stop1 _ _ _ _ 7 ⟨gI_at, by decide, by decide⟩ (by rw [ec]; exact if_pos ⟨k, by omega, c⟩) (Fg.trans y2.vl (Fg.i ⟨rfl, by decide⟩)) (y2.nw hN).z)
      have ok : uL (L.getD k 0) ≤ 255 → j_Mod_readLengths_49 post (wl_Mod_readLengths_7 post (d + 2)) (nI m) (nI k) y := fun c => by
        unfold j_Mod_readLengths_49
        rw [nI_1]
        exact ih (k + 1) (by omega) (fun j hj' => by
          by_cases e : j = k
          · rw [e]; exact c
          · exact hj j (by omega))
      have q := @uL_le (L.getD k 0)
      rw [lg_cmp_lt, lg_cmp_le]
      by_cases c1 : L.getD k 0 < 0
      · refine br_t c1 (bad ?_)
        rcases Nat.lt_or_ge 255 (uL (L.getD k 0)) with z | z
        · exact z
        · exact absurd (q.mpr z).1 (Int64.not_le.mpr c1)
      · refine br_f c1 ⟨vp_in_nI (by omega) (by omega), ?_⟩
        by_cases c2 : L.getD k 0 ≤ 255
        · exact br_t c2 (ok (q.mp ⟨Int64.not_lt.mp c1, c2⟩))
        · refine br_f c2 (bad ?_)
          rcases Nat.lt_or_ge 255 (uL (L.getD k 0)) with z | z
          · exact z
          · exact absurd (q.mpr z).2 c2
  exact ⟨m + 2, look m 0 (by omega) (fun j hj => absurd hj (Nat.not_lt_zero _))⟩
end
