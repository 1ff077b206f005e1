/-! which columns a condition asks, model -/
def askS (F : List SFd) (c : Nat) (s : QSt) : Bool := decide (¬ 5 ≤ s.1 ∧ cOf F s.2.1 = c) || decide (s.1 = 4 ∧ cOf F s.2.2.2.1 = c)
def askB (F : List SFd) (E : List QSt) (c : Nat) : Bool := E.any (askS F c)
section
variable {x : St} {s : Nat} {Q : Qy} {F : List SFd}
/-- the columns of a step -/
theorem stW_f {L : List QLt} {t : QSt} (h : stW F L t) : (¬ 5 ≤ t.1 → ∃ f, colF F f ∧ t.2.1 = nI f) ∧ (t.1 = 4 → ∃ g, colF F g ∧ t.2.2.2.1 = nI g) ∧ 0 ≤ t.1 ∧ t.1 ≤ 7 := by
  rcases h with ⟨f, hf, e | e⟩ | ⟨f, a, m, hf, -, -, -, e⟩ | ⟨f, op, a, hf, -, -, -, e⟩ | ⟨f, op, g, hf, -, hg, -, e⟩ | e | e | e <;> subst e
  · exact ⟨fun _ => ⟨f, hf, rfl⟩, fun z => absurd z (by show ¬ (0 : Int32) = 4; decide), by show (0 : Int32) ≤ 0; decide, by show (0 : Int32) ≤ 7; decide⟩
  · exact ⟨fun _ => ⟨f, hf, rfl⟩, fun z => absurd z (by show ¬ (1 : Int32) = 4; decide), by show (0 : Int32) ≤ 1; decide, by show (1 : Int32) ≤ 7; decide⟩
  · exact ⟨fun _ => ⟨f, hf, rfl⟩, fun z => absurd z (by show ¬ (2 : Int32) = 4; decide), by show (0 : Int32) ≤ 2; decide, by show (2 : Int32) ≤ 7; decide⟩
  · exact ⟨fun _ => ⟨f, hf, rfl⟩, fun z => absurd z (by show ¬ (3 : Int32) = 4; decide), by show (0 : Int32) ≤ 3; decide, by show (3 : Int32) ≤ 7; decide⟩
  · exact ⟨fun _ => ⟨f, hf, rfl⟩, fun _ => ⟨g, hg, rfl⟩, by show (0 : Int32) ≤ 4; decide, by show (4 : Int32) ≤ 7; decide⟩
  · exact ⟨fun z => absurd (show (5 : Int32) ≤ 5 by decide) z, fun z => absurd z (by show ¬ (5 : Int32) = 4; decide), by decide, by decide⟩
  · exact ⟨fun z => absurd (show (5 : Int32) ≤ 6 by decide) z, fun z => absurd z (by show ¬ (6 : Int32) = 4; decide), by decide, by decide⟩
  · exact ⟨fun z => absurd (show (5 : Int32) ≤ 7 by decide) z, fun z => absurd z (by show ¬ (7 : Int32) = 4; decide), by decide, by decide⟩
theorem s_asks {post : Int32 → St → Prop} {c : Nat} (hL : LM x) (hw : WfS F) (hR : RepM x 1 F) (hs : s < 3) (h117 : fI x 0 117 = nI s) (hQ : SqM x s Q) (hW : ∀ t, t ∈ Q.2.2.1 → stW F Q.2.2.2 t) (hc : c < 64) (p : post (if askB F Q.2.2.1 c = true then 1 else 0) x) : wp_Mod_asks post (nI c) x := by
  have hF := hw.1
  have hC := hw.2.1
  obtain ⟨-, -, ⟨q1, q64l, q3⟩, -⟩ := hQ
  have colv : ∀ f, colF F f → rA x 6 (nI (128 + f)) = nI (ncol (F.take f)) ∧ vp_in (nI (128 + f)) 384 ∧ ncol (F.take f) < 64 ∧ f < 2 ^ 31 := by
    intro f hf
    have hf1 := hf.1
    refine ⟨?_, vp_in_nI (by omega) (by decide), by have := (col_ok hw hf).1; omega, by omega⟩
    rw [rA_nI (by omega)]
    have := (hR.2.2.1 f hf1).2.2.2.2.2
    rw [if_neg hf.2.1] at this
    exact this
  unfold wp_Mod_asks
  refine lp_Mod_asks_4 (fun b1 b2 b3 y => nI c = b1 ∧ x = y ∧ ∃ k, k ≤ Q.2.2.1.length ∧ nI k = b3 ∧ b2 = (if askB F (Q.2.2.1.take k) c = true then 1 else 0)) (fun _ _ b3 _ => Q.2.2.1.length - b3.toNatClampNeg) ?_ _ _ _ _ ⟨rfl, rfl, 0, Nat.zero_le _, rfl, rfl⟩
  rintro R b1 b2 b3 y ⟨rfl, rfl, k, hk, rfl, rfl⟩ ih
  unfold j_Mod_asks_4
  rw [h117, q42, show fN x 79 = 12 from hL 79, rA_nI (by omega), q1]
  refine ⟨vp_in_nI (by omega) (by decide), ?_⟩
  by_cases ck : k < Q.2.2.1.length
  · refine br_f (by (first | omega | (simp (disch := omega) only [Int32.le_iff_toInt_le, Int32.lt_iff_toInt_lt, z_eq, z_in, nI_toInt, z_cl, z_m1, z_sg, z_255, Int32.reduceToInt] <;> omega) | (simp only [Int32.le_iff_toInt_le, Int32.lt_iff_toInt_lt, z_eq, z_in, z_add, z_sub, z_mul, z_neg, z_nI, z_cl, z_sg, z_255, z_lit, Int32.reduceToInt] <;> omega))) ?_
    have iv : vp_in (nI (64 * s + k)) 192 := vp_in_nI (by omega) (by decide)
    have rd : ∀ a, rA x a (nI (64 * s + k)) = fA x a (64 * s + k) := fun a => rA_nI (by omega)
    have e1 : Q.2.2.1.take (k + 1) = Q.2.2.1.take k ++ [Q.2.2.1.getD k (0, 0, 0, 0, 0)] := by
      rw [List.take_succ, List.getD_eq_getElem?_getD, List.getElem?_eq_getElem ck]
      rfl
    have e2 : askB F (Q.2.2.1.take (k + 1)) c = (askB F (Q.2.2.1.take k) c || askS F c (Q.2.2.1.getD k (0, 0, 0, 0, 0))) := by
      unfold askB
      rw [e1, List.any_append]
      show (_ || (_ || false)) = _
      rw [Bool.or_false]
    have hm : Q.2.2.1.getD k (0, 0, 0, 0, 0) ∈ Q.2.2.1 := by
      rw [List.getD_eq_getElem?_getD, List.getElem?_eq_getElem ck]
      exact List.getElem_mem ck
    obtain ⟨f1, f2, -⟩ := stW_f (hW _ hm)
    obtain ⟨r0, r1, -, r3, -⟩ := q3 k ck
    have nx : ∀ (v l2 l4 : Int32), v = (if (askB F (Q.2.2.1.take k) c || askS F c (Q.2.2.1.getD k (0, 0, 0, 0, 0))) = true then 1 else 0) → j_Mod_asks_103 post R (nI c) l2 (nI k) l4 v x := by
      intro v l2 l4 ev
      unfold j_Mod_asks_103
      rw [nI_1]
      refine ih _ _ _ _ ⟨rfl, rfl, k + 1, ck, rfl, by rw [e2]; exact ev⟩ ?_
      rw [nI_clamp (by omega), nI_clamp (by omega)]
      omega
    generalize Q.2.2.1.getD k (0, 0, 0, 0, 0) = t at *
    generalize askB F (Q.2.2.1.take k) c = B at *
    rw [q64]
    refine nm_e ?_
    cases B with
    | true =>
      unfold j_Mod_asks_98
      exact bn_f (by decide) (nx 1 _ _ (by rw [Bool.true_or, if_pos rfl]))
    | false =>
      refine bn_t rfl ?_
      rw [show fN x 84 = 192 from hL 84, rd, r0]
      refine ⟨iv, ?_⟩
      unfold askS at nx
      have m67 : ¬ (¬ 5 ≤ t.1 ∧ cOf F t.2.1 = c) → j_Mod_asks_67 post R (nI c) 0 (nI k) (nI (64 * s + k)) x := by
        intro no
        rw [decide_eq_false no, Bool.false_or, Bool.false_or] at nx
        unfold j_Mod_asks_67 j_Mod_asks_102 j_Mod_asks_98
        rw [show fN x 84 = 192 from hL 84, rd, r0]
        refine ⟨iv, ?_⟩
        by_cases c4 : t.1 = 4
        · obtain ⟨g, hg, eg⟩ := f2 c4
          obtain ⟨v1, v2, v3, v4⟩ := colv g hg
          refine bn_t c4 ?_
          rw [show fN x 87 = 192 from hL 87, rd, r3, eg, k_plM, pl1, v1, show fN x 6 = 384 from hL 6]
          refine ⟨iv, v2, ?_⟩
          rw [eg, cOf_n v4] at nx
          by_cases d : ncol (F.take g) = c
          · exact bn_t (by rw [d]) (nx 1 _ _ (by rw [decide_eq_true ⟨c4, d⟩]; rfl))
          · exact bn_f (fun z => d ((nI_eq (by omega) (by omega)).mp z)) (nx 0 _ _ (by rw [decide_eq_false (fun z => d z.2)]; rfl))
        · exact bn_f c4 (nx 0 _ _ (by rw [decide_eq_false (fun z => c4 z.1)]; rfl))
      by_cases c5 : 5 ≤ t.1
      · exact br_t c5 (m67 (fun z => z.1 c5))
      · obtain ⟨f, hf, ef⟩ := f1 c5
        obtain ⟨v1, v2, v3, v4⟩ := colv f hf
        refine br_f c5 ?_
        rw [show fN x 85 = 192 from hL 85, rd, r1, ef, k_plM, pl1, v1, show fN x 6 = 384 from hL 6]
        refine ⟨iv, v2, ?_⟩
        have ec : cOf F t.2.1 = ncol (F.take f) := by rw [ef, cOf_n v4]
        by_cases d : ncol (F.take f) = c
        · unfold j_Mod_asks_98
          exact br_t (by rw [d]) (nx 1 _ _ (by rw [decide_eq_true ⟨c5, ec.trans d⟩]; rfl))
        · exact br_f (fun z => d ((nI_eq (by omega) (by omega)).mp z)) (m67 (fun z => d (ec.symm.trans z.2)))
  · have ek : k = Q.2.2.1.length := by omega
    refine br_t (by (first | omega | (simp (disch := omega) only [Int32.le_iff_toInt_le, Int32.lt_iff_toInt_lt, z_eq, z_in, nI_toInt, z_cl, z_m1, z_sg, z_255, Int32.reduceToInt] <;> omega) | (simp only [Int32.le_iff_toInt_le, Int32.lt_iff_toInt_lt, z_eq, z_in, z_add, z_sub, z_mul, z_neg, z_nI, z_cl, z_sg, z_255, z_lit, Int32.reduceToInt] <;> omega))) ⟨nrw, ?_⟩
    rw [ek, List.take_length]
    exact p
end
