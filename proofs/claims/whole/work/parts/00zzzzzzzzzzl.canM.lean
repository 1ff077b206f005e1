/-! what can be, model -/
def TdM (x : St) (ty : Nat) (Pl : List PV) (c : Nat) (t : Tl) : Prop := fA x 97 c = nI t.1 ∧ fA x 98 c = nI t.2.1 ∧ t.1 ≤ 10000 ∧ t.2.1 ≤ t.1 ∧ fA x 102 c = nI t.2.2.2.2.length ∧ t.2.2.2.2.length ≤ 100 ∧ (t.2.1 < t.1 → ∃ a b, a < Pl.length ∧ b < Pl.length ∧ fA x 99 c = nI a ∧ fA x 100 c = nI b ∧ pvd Pl a = t.2.2.1 ∧ pvd Pl b = t.2.2.2.1 ∧ okVv ty t.2.2.1 ∧ okVv ty t.2.2.2.1) ∧ ∃ w, (t.2.2.2.2 ≠ [] → fA x 101 c = nI w) ∧ w + t.2.2.2.2.length ≤ Pl.length ∧ ∀ i, i < t.2.2.2.2.length → pvd Pl (w + i) = pvd t.2.2.2.2 i ∧ okVv ty (pvd t.2.2.2.2 i)
theorem any_tk {W : List PV} {g : PV → Bool} {k : Nat} (h : k < W.length) : (W.take (k + 1)).any g = ((W.take k).any g || g (pvd W k)) := by
  rw [tkP h, List.any_append]
  show (_ || (_ || false)) = _
  rw [Bool.or_false]
section
variable {x : St} {Pl : List PV} {s : Nat} {Q : Qy}
theorem nrw {b : Bool} : narrow .boolean (.int (if b = true then 1 else 0)) = .int (if b = true then 1 else 0) := by cases b <;> rfl
theorem i_nle {a : Int32} (h : 0 < a) : ¬ a ≤ 0 := by (first | omega | (simp (disch := omega) only [Int32.le_iff_toInt_le, Int32.lt_iff_toInt_lt, z_eq, z_in, nI_toInt, z_cl, z_m1, z_sg, z_255, Int32.reduceToInt] at * <;> omega) | (simp only [Int32.le_iff_toInt_le, Int32.lt_iff_toInt_lt, z_eq, z_in, z_add, z_sub, z_mul, z_neg, z_nI, z_cl, z_sg, z_255, z_lit, Int32.reduceToInt] at * <;> omega))
theorem i_le {a : Int32} (h : ¬ 0 < a) : a ≤ 0 := by (first | omega | (simp (disch := omega) only [Int32.le_iff_toInt_le, Int32.lt_iff_toInt_lt, z_eq, z_in, nI_toInt, z_cl, z_m1, z_sg, z_255, Int32.reduceToInt] at * <;> omega) | (simp only [Int32.le_iff_toInt_le, Int32.lt_iff_toInt_lt, z_eq, z_in, z_add, z_sub, z_mul, z_neg, z_nI, z_cl, z_sg, z_255, z_lit, Int32.reduceToInt] at * <;> omega))
theorem i_nge {a : Int32} (h : a < 0) : ¬ 0 ≤ a := by (first | omega | (simp (disch := omega) only [Int32.le_iff_toInt_le, Int32.lt_iff_toInt_lt, z_eq, z_in, nI_toInt, z_cl, z_m1, z_sg, z_255, Int32.reduceToInt] at * <;> omega) | (simp only [Int32.le_iff_toInt_le, Int32.lt_iff_toInt_lt, z_eq, z_in, z_add, z_sub, z_mul, z_neg, z_nI, z_cl, z_sg, z_255, z_lit, Int32.reduceToInt] at * <;> omega))
theorem i_ge {a : Int32} (h : ¬ a < 0) : 0 ≤ a := by (first | omega | (simp (disch := omega) only [Int32.le_iff_toInt_le, Int32.lt_iff_toInt_lt, z_eq, z_in, nI_toInt, z_cl, z_m1, z_sg, z_255, Int32.reduceToInt] at * <;> omega) | (simp only [Int32.le_iff_toInt_le, Int32.lt_iff_toInt_lt, z_eq, z_in, z_add, z_sub, z_mul, z_neg, z_nI, z_cl, z_sg, z_255, z_lit, Int32.reduceToInt] at * <;> omega))
theorem cHl_0 {lo hi : Int32} : cHl 0 lo hi = (decide (lo ≤ 0) && decide (0 ≤ hi)) := rfl
theorem cHl_1 {lo hi : Int32} : cHl 1 lo hi = (decide (¬ lo = 0) || decide (¬ hi = 0)) := rfl
theorem cHl_b {op : Nat} {lo hi : Int32} (h : 2 ≤ op) : cHl op lo hi = if op < 4 then hld op lo else hld op hi := by
  unfold cHl
  rw [if_neg (by omega), if_neg (by omega)]
/-- by the least and the greatest -/
theorem s_cHl {post : Int32 → St → Prop} {op : Nat} {lo hi : Int32} (ho : op ≤ 5) (p : post (if cHl op lo hi = true then 1 else 0) x) :
    ((¬ nI op = 0 → ((¬ nI op = 1 → ((4 ≤ nI op → wp_Mod_holds (fun (r : Int32) (y : St) => (narrow .boolean (.int r) = .int r ∧ post r y)) (nI op) hi x) ∧ (¬ 4 ≤ nI op → wp_Mod_holds (fun (r : Int32) (y : St) => (narrow .boolean (.int r) = .int r ∧ post r y)) (nI op) lo x))) ∧ (nI op = 1 → ((¬ lo = 0 → post 1 x) ∧ (lo = 0 → ((hi = 0 → post 0 x) ∧ (¬ hi = 0 → post 1 x))))))) ∧ (nI op = 0 → ((0 < lo → post 0 x) ∧ (¬ 0 < lo → ((hi < 0 → post 0 x) ∧ (¬ hi < 0 → post 1 x)))))) := by
  have e : op = 0 ∨ op = 1 ∨ op = 2 ∨ op = 3 ∨ op = 4 ∨ op = 5 := by omega
  rcases e with e | e | e | e | e | e <;> subst e
  · rw [cHl_0] at p
    refine bn_t rfl ?_
    by_cases c : 0 < lo
    · rw [decide_eq_false (i_nle c)] at p
      exact br_t c p
    · rw [decide_eq_true (i_le c), Bool.true_and] at p
      refine br_f c ?_
      by_cases d : hi < 0
      · rw [if_neg (show ¬ decide (0 ≤ hi) = true from fun z => i_nge d (of_decide_eq_true z))] at p
        exact br_t d p
      · rw [if_pos (decide_eq_true (i_ge d))] at p
        exact br_f d p
  · rw [cHl_1] at p
    refine bn_f (by decide) (bn_t rfl ?_)
    by_cases c : lo = 0
    · rw [decide_eq_false (show ¬ ¬ lo = 0 from fun z => z c), Bool.false_or] at p
      refine bn_t c ?_
      by_cases d : hi = 0
      · rw [if_neg (show ¬ decide (¬ hi = 0) = true from fun z => (of_decide_eq_true z) d)] at p
        exact br_t d p
      · rw [if_pos (decide_eq_true d)] at p
        exact br_f d p
    · rw [decide_eq_true c, Bool.true_or] at p
      exact bn_f c p
  · rw [cHl_b (by decide), if_pos (show 2 < 4 by decide)] at p
    exact bn_f (by decide) (bn_f (by decide) (br_f (by decide) (s_holds (by decide) ⟨nrw, p⟩)))
  · rw [cHl_b (by decide), if_pos (show 3 < 4 by decide)] at p
    exact bn_f (by decide) (bn_f (by decide) (br_f (by decide) (s_holds (by decide) ⟨nrw, p⟩)))
  · rw [cHl_b (by decide), if_neg (show ¬ 4 < 4 by decide)] at p
    exact bn_f (by decide) (bn_f (by decide) (br_t (by decide) (s_holds (by decide) ⟨nrw, p⟩)))
  · rw [cHl_b (by decide), if_neg (show ¬ 5 < 4 by decide)] at p
    exact bn_f (by decide) (bn_f (by decide) (br_t (by decide) (s_holds (by decide) ⟨nrw, p⟩)))
theorem s_canC {post : Int32 → St → Prop} {ty op c i : Nat} {t : Tl} (hL : LM x) (h : PoM x Pl) (hs : s < 3) (hQ : KqM x s Q) (hi : i < Q.2.2.2.length) (hty : (Q.2.2.2.getD i lt0).1 = 3 ↔ ty = 3) (vb : okVv ty (lvl (Q.2.2.2.getD i lt0))) (ho : op ≤ 5) (hc : c < 64) (hT : TdM x ty Pl c t) (hsome : t.2.1 < t.1) (p : post (if canC ty op t (lvl (Q.2.2.2.getD i lt0)) = true then 1 else 0) x) : wp_Mod_canCompare post (nI c) (nI op) (nI (64 * s + i)) x := by
  obtain ⟨-, -, -, -, t102, tW, tB, w, w1, w2, w3⟩ := hT
  obtain ⟨a, b, ha, hb, e99, e100, ea, eb, oa, ob⟩ := tB hsome
  have ii : vp_in (nI c) 64 := vp_in_nI hc (by decide)
  have hPl := h.2.2.1
  unfold wp_Mod_canCompare
  refine lp_Mod_canCompare_6 (fun b1 b2 b3 b4 b5 y => nI c = b1 ∧ nI op = b2 ∧ nI (64 * s + i) = b3 ∧ x = y ∧ ∃ k, k ≤ t.2.2.2.2.length ∧ nI k = b5 ∧ b4 = (if (t.2.2.2.2.take k).any (fun v => hld op (cmpV ty v (lvl (Q.2.2.2.getD i lt0)))) = true then 1 else 0)) (fun _ _ _ _ b5 _ => t.2.2.2.2.length - b5.toNatClampNeg) ?_ _ _ _ _ _ _ ⟨rfl, rfl, rfl, rfl, 0, Nat.zero_le _, rfl, rfl⟩
  rintro R b1 b2 b3 b4 b5 y ⟨rfl, rfl, rfl, rfl, k, hk, rfl, rfl⟩ ih
  unfold j_Mod_canCompare_6 j_Mod_canCompare_43
  rw [show fN x 102 = 64 from hL 102, rA_nI (by omega), t102]
  refine ⟨ii, ?_⟩
  unfold canC at p
  by_cases ck : k < t.2.2.2.2.length
  · have wne : t.2.2.2.2 ≠ [] := fun z => by rw [z] at ck; exact absurd ck (Nat.not_lt_zero _)
    refine br_f (by (first | omega | (simp (disch := omega) only [Int32.le_iff_toInt_le, Int32.lt_iff_toInt_lt, z_eq, z_in, nI_toInt, z_cl, z_m1, z_sg, z_255, Int32.reduceToInt] <;> omega) | (simp only [Int32.le_iff_toInt_le, Int32.lt_iff_toInt_lt, z_eq, z_in, z_add, z_sub, z_mul, z_neg, z_nI, z_cl, z_sg, z_255, z_lit, Int32.reduceToInt] <;> omega))) ?_
    have nx : ∀ (v l4 : Int32), v = (if ((t.2.2.2.2.take k).any (fun v => hld op (cmpV ty v (lvl (Q.2.2.2.getD i lt0)))) || hld op (cmpV ty (pvd t.2.2.2.2 k) (lvl (Q.2.2.2.getD i lt0)))) = true then 1 else 0) → j_Mod_canCompare_48 post R (nI c) (nI op) (nI (64 * s + i)) l4 (nI k) v x := by
      intro v l4 ev
      unfold j_Mod_canCompare_48
      rw [nI_1]
      refine ih _ _ _ _ _ _ ⟨rfl, rfl, rfl, rfl, k + 1, ck, rfl, by rw [any_tk ck]; exact ev⟩ ?_
      rw [nI_clamp (by omega), nI_clamp (by omega)]
      omega
    by_cases cl : (t.2.2.2.2.take k).any (fun v => hld op (cmpV ty v (lvl (Q.2.2.2.getD i lt0)))) = true
    · rw [if_pos cl]
      exact bn_f (by decide) (nx 1 _ (by rw [cl, Bool.true_or, if_pos rfl]))
    · have clf : (t.2.2.2.2.take k).any (fun v => hld op (cmpV ty v (lvl (Q.2.2.2.getD i lt0)))) = false := by cases z : (t.2.2.2.2.take k).any (fun v => hld op (cmpV ty v (lvl (Q.2.2.2.getD i lt0)))); rfl; exact absurd z cl
      rw [if_neg cl]
      refine bn_t rfl ?_
      rw [show fN x 101 = 64 from hL 101, rA_nI (by omega), w1 wne, nI_add]
      refine ⟨ii, s_agLit hL h hs hQ (by omega) hi hty (by rw [(w3 k ck).1]; exact (w3 k ck).2) vb ?_⟩
      rw [(w3 k ck).1]
      refine s_holds ho ?_
      by_cases d : hld op (cmpV ty (pvd t.2.2.2.2 k) (lvl (Q.2.2.2.getD i lt0))) = true
      · rw [if_pos d]
        exact br_f (by decide) (nx 1 _ (by rw [clf, d]; rfl))
      · have df : hld op (cmpV ty (pvd t.2.2.2.2 k) (lvl (Q.2.2.2.getD i lt0))) = false := by cases z : hld op (cmpV ty (pvd t.2.2.2.2 k) (lvl (Q.2.2.2.getD i lt0))); rfl; exact absurd z d
        rw [if_neg d]
        exact br_t rfl (nx 0 _ (by rw [clf, df]; rfl))
  · have ek : k = t.2.2.2.2.length := by omega
    refine br_t (by (first | omega | (simp (disch := omega) only [Int32.le_iff_toInt_le, Int32.lt_iff_toInt_lt, z_eq, z_in, nI_toInt, z_cl, z_m1, z_sg, z_255, Int32.reduceToInt] <;> omega) | (simp only [Int32.le_iff_toInt_le, Int32.lt_iff_toInt_lt, z_eq, z_in, z_add, z_sub, z_mul, z_neg, z_nI, z_cl, z_sg, z_255, z_lit, Int32.reduceToInt] <;> omega))) ⟨ii, ?_⟩
    by_cases we : t.2.2.2.2 = []
    · rw [if_pos we] at p
      rw [we]
      refine br_t (by decide) ?_
      rw [show fN x 99 = 64 from hL 99, rA_nI (by omega), e99]
      refine ⟨ii, s_agLit hL h hs hQ ha hi hty (by rw [ea]; exact oa) vb ?_⟩
      rw [show fN x 100 = 64 from hL 100, rA_nI (by omega), e100, ea]
      refine ⟨ii, s_agLit hL h hs hQ hb hi hty (by rw [eb]; exact ob) vb ?_⟩
      rw [eb]
      exact s_cHl ho p
    · rw [if_neg we] at p
      have : 0 < t.2.2.2.2.length := List.length_pos_iff.mpr we
      refine br_f (by (first | omega | (simp (disch := omega) only [Int32.le_iff_toInt_le, Int32.lt_iff_toInt_lt, z_eq, z_in, nI_toInt, z_cl, z_m1, z_sg, z_255, Int32.reduceToInt] <;> omega) | (simp only [Int32.le_iff_toInt_le, Int32.lt_iff_toInt_lt, z_eq, z_in, z_add, z_sub, z_mul, z_neg, z_nI, z_cl, z_sg, z_255, z_lit, Int32.reduceToInt] <;> omega))) ⟨nrw, ?_⟩
      rw [ek, List.take_length]
      exact p
theorem s_canMt {post : Int32 → St → Prop} {ty op c d : Nat} {t u : Tl} {ty' : Nat} (hL : LM x) (h : PoM x Pl) (ho : op ≤ 5) (hty : ty < 4) (hc : c < 64) (hd : d < 64) (hT : TdM x ty Pl c t) (hU : TdM x ty' Pl d u) (hu : okVv ty u.2.2.1 ∧ okVv ty u.2.2.2.1) (h1 : t.2.1 < t.1) (h2 : u.2.1 < u.1) (p : post (if cHl op (cmpV ty t.2.2.1 u.2.2.2.1) (cmpV ty t.2.2.2.1 u.2.2.1) = true then 1 else 0) x) : wp_Mod_canMeet post (nI ty) (nI c) (nI op) (nI d) x := by
  obtain ⟨-, -, -, -, -, -, tB, -⟩ := hT
  obtain ⟨-, -, -, -, -, -, uB, -⟩ := hU
  obtain ⟨a, b, ha, hb, e99, e100, ea, eb, oa, ob⟩ := tB h1
  obtain ⟨a', b', ha', hb', f99, f100, fa, fb, -, -⟩ := uB h2
  have ii : vp_in (nI c) 64 := vp_in_nI hc (by decide)
  have jj : vp_in (nI d) 64 := vp_in_nI hd (by decide)
  unfold wp_Mod_canMeet
  rw [show fN x 99 = 64 from hL 99, show fN x 100 = 64 from hL 100, rA_nI (o := 99) (k := c) (by omega), rA_nI (o := 100) (k := d) (by omega), e99, f100]
  refine ⟨ii, jj, s_compare hL h ha hb' hty (by rw [ea]; exact oa) (by rw [fb]; exact hu.2) ?_⟩
  rw [show fN x 99 = 64 from hL 99, show fN x 100 = 64 from hL 100, rA_nI (o := 100) (k := c) (by omega), rA_nI (o := 99) (k := d) (by omega), e100, f99]
  refine ⟨ii, jj, s_compare hL h hb ha' hty (by rw [eb]; exact ob) (by rw [fa]; exact hu.1) ?_⟩
  rw [ea, fb, eb, fa]
  exact s_cHl ho p
end
