/-! chunks that are opened; the least and the greatest of their pages, model -/
abbrev ChT : Type := Nat × Nat × Nat × Nat × PV × PV
abbrev PgW : Type := List SEn × List PV
/-- the entries of pages -/
def ckC (G : List PgW) : List SEn := (G.map (fun g => g.1)).flatten
theorem ckC_add {G : List PgW} {g : PgW} : ckC (G ++ [g]) = ckC G ++ g.1 := by
  unfold ckC
  rw [List.map_append, List.flatten_append]
  show _ ++ (g.1 ++ []) = _
  rw [List.append_nil]
/-- so many pages more -/
def pgsO (T : Nat → Nat) (F : List SFd) (c st : Nat) : Nat → List PgW → List SEn → Nat → Except (Nat × Nat) (List PgW × Nat)
  | 0, G, _, p => .ok (G, p)
  | d + 1, G, E, p => match pgO T F c E.length (tx E) st p with
    | .error e => .error (e, G.length)
    | .ok (g, q) => pgsO T F c st d (G ++ [g]) (E ++ g.1) q
abbrev mnV (ty : Nat) (V : List PV) : PV := pvd V (mnF ty V (V.length - 1))
abbrev mxV (ty : Nat) (V : List PV) : PV := pvd V (mxF ty V (V.length - 1))
/-- behind its pages -/
def ckE (F : List SFd) (c : Nat) (t : ChT) (rows : Nat) (A : List SEn) (C : List SEn) : Nat :=
  if C.length ≠ t.2.2.1 ∨ nR C ≠ rows then 16 else if C.length - (vlE (mdC F c) C).length ≠ t.2.2.2.1 then 10 else if vlE (mdC F c) C ≠ [] ∧ kv (tyC F c) (mnV (tyC F c) (vlE (mdC F c) C)) ≠ kv (tyC F c) t.2.2.2.2.1 then 11 else if vlE (mdC F c) C ≠ [] ∧ kv (tyC F c) (mxV (tyC F c) (vlE (mdC F c) C)) ≠ kv (tyC F c) t.2.2.2.2.2 then 12 else if c ≠ 0 ∧ aprt F (lfC F (c - 1)) (lfC F c) A C then 21 else 0
/-- a chunk: A are the entries of the column before it -/
def ckO (T : Nat → Nat) (F : List SFd) (c : Nat) (t : ChT) (rows : Nat) (A E : List SEn) (p : Nat) : Except (Nat × Int32) (List PgW × Nat) := match pgsO T F c (p + t.1) t.2.1 [] E p with
  | .error (e, k) => .error (e, nI k)
  | .ok (G, q) => if q < p + t.1 then .error (6, -1) else if ckE F c t rows A (ckC G) ≠ 0 then .error (ckE F c t rows A (ckC G), -1) else .ok (G, q)
/-- what an entry keeps -/
def okE (F : List SFd) (e : SEn) : Prop := e.1 < ncol F ∧ e.2.1 ≤ mrC F e.1 ∧ e.2.2.1 ≤ mdC F e.1 ∧ (e.2.2.1 = mdC F e.1 → okPv (tyC F e.1) e.2.2.2) ∧ (e.2.2.1 ≠ mdC F e.1 → e.2.2.2 = (0, []))
theorem vlE_mem {md : Nat} {E : List SEn} {v : PV} (h : v ∈ vlE md E) : ∃ e, e ∈ E ∧ e.2.2.1 = md ∧ e.2.2.2 = v := by
  obtain ⟨e, h1, h2⟩ := List.mem_map.mp h
  obtain ⟨h3, h4⟩ := List.mem_filter.mp h1
  exact ⟨e, h3, of_decide_eq_true h4, h2⟩
theorem vlE_le {md : Nat} (E : List SEn) : (vlE md E).length ≤ E.length := by
  unfold vlE
  rw [List.length_map]
  exact List.length_filter_le _ _
section
variable {T : Nat → Nat} {F : List SFd} {c st p : Nat}
theorem pgO_ok {a b q : Nat} {L : List SEn} {W : List PV} (hw : WfS F) (hc : c < ncol F) (hT : ∀ i, T i < 256) (h : pgO T F c a b st p = .ok ((L, W), q)) : p + 10 ≤ q ∧ q ≤ st ∧ 0 < L.length ∧ L.length ≤ 1000 ∧ a + L.length ≤ 10000 ∧ b + tx L ≤ 60000 ∧ (∀ e, e ∈ L → okE F e ∧ e.1 = c) ∧ (∀ v, v ∈ W → okPv (tyC F c) v) ∧ W.length ≤ 100 ∧ (L.getD 0 en0).2.1 = 0 := by
  unfold pgO at h
  split at h
  · cases h
  rename_i how R D P W' q' e1
  obtain ⟨k1, k2, k3, k4, k5, k6, k7, k8, k9, k10, k11, k12, k13, k14⟩ := pgR_ok (ty_lt hw hc).1 hT e1
  split at h
  · cases h
  rename_i c1
  split at h
  · cases h
  rename_i c2
  split at h
  · cases h
  simp only [Except.ok.injEq, Prod.mk.injEq] at h
  obtain ⟨⟨h1, h2⟩, h3⟩ := h
  subst h1
  subst h3
  have ta := tx_all (c := c) (R := R) k8
  refine ⟨k1, k2, by rw [entL_len]; exact k3, by rw [entL_len]; exact k4, by rw [entL_len]; omega, by rw [ta]; omega, fun e he => ?_, fun v hv => ?_, ?_, ?_⟩
  · obtain ⟨k, hk, rfl⟩ := List.mem_map.mp he
    have hk := List.mem_range.mp hk
    refine ⟨⟨hc, k6 _ (getD_mem (B := R) (by omega)), k7 _ (getD_mem (B := D) hk), fun z => ?_, fun z => ?_⟩, rfl⟩
    · have z : D.getD k 0 = mdC F c := z
      show okPv (tyC F c) (if D.getD k 0 = mdC F c then pvd P (hvN (mdC F c) (D.take k)) else (0, []))
      rw [if_pos z]
      have := hv_lt (md := mdC F c) hk z
      exact k9 _ (pvd_mem (by omega))
    · show (if D.getD k 0 = mdC F c then pvd P (hvN (mdC F c) (D.take k)) else (0, [])) = _
      rw [if_neg (show ¬ D.getD k 0 = mdC F c from z)]
  · rw [← h2] at hv
    split at hv
    · exact k10 v hv
    · exact absurd hv (by simp)
  · rw [← h2]
    split
    · assumption
    · exact Nat.zero_le _
  · rw [entL_at (by omega)]
    show R.getD 0 0 = 0
    rcases Nat.eq_zero_or_pos (R.getD 0 0) with z | z
    · exact z
    · exact absurd (by omega) c2
end
section
variable {x : St} {F : List SFd} {Q : List PV} {c : Nat}
/-- pages as they lie: their column and the row each begins with -/
def pgP (c row : Nat) : List PgW → List OPg
  | [] => []
  | g :: G => (c, row, g.1, g.2) :: pgP c (row + nR g.1) G
theorem pgP_len {row : Nat} {G : List PgW} : (pgP c row G).length = G.length := by
  induction G generalizing row with
  | nil => rfl
  | cons g G ih => simp only [pgP, List.length_cons, ih]
theorem pgP_add {row : Nat} {G : List PgW} {g : PgW} : pgP c row (G ++ [g]) = pgP c row G ++ [(c, row + nR (ckC G), g.1, g.2)] := by
  induction G generalizing row with
  | nil => rfl
  | cons a G ih =>
    show (c, row, a.1, a.2) :: pgP c (row + nR a.1) (G ++ [g]) = (c, row, a.1, a.2) :: (pgP c (row + nR a.1) G ++ _)
    rw [ih, show ckC (a :: G) = a.1 ++ ckC G from rfl, nR_app, Nat.add_assoc]
theorem pgP_at {row : Nat} {G : List PgW} {k : Nat} (h : k < G.length) : ∃ r, (pgP c row G).getD k pg0 = (c, r, (G.getD k ([], [])).1, (G.getD k ([], [])).2) := by
  induction G generalizing row k with
  | nil => exact absurd h (Nat.not_lt_zero _)
  | cons a G ih =>
    cases k with
    | zero => exact ⟨row, rfl⟩
    | succ k =>
      obtain ⟨r, hr⟩ := ih (row := row + nR a.1) (k := k) (by simp only [List.length_cons] at h; omega)
      exact ⟨r, hr⟩
theorem ckC_take {G : List PgW} {k : Nat} (h : k < G.length) : ckC (G.take (k + 1)) = ckC (G.take k) ++ (G.getD k ([], [])).1 := by
  have e : G.getD k ([], []) = G[k] := by rw [List.getD_eq_getElem?_getD, List.getElem?_eq_getElem h]; rfl
  rw [List.take_succ_eq_append_getElem h, ckC_add, e]
/-- the least and the greatest of a chunk -/
def BdL (Q : List PV) (ty : Nat) (V : List PV) (lo hi : Int32) : Prop := (V = [] → lo = -1 ∧ hi = -1) ∧ (V ≠ [] → ∃ a b, a < Q.length ∧ b < Q.length ∧ lo = nI a ∧ hi = nI b ∧ IsMn ty V (pvd Q a) ∧ IsMx ty V (pvd Q b))
theorem s_ckL {post : St → Prop} {E : List SEn} {PP : List OPg} {G : List PgW} {row : Nat} {l1 l2 l3 l4 l5 l6 l8 : Int32} (hL : LM x) (hty : tyC F c < 4) (hO : OsM x F Q E (PP ++ pgP c row G)) (hp : (PP ++ pgP c row G).length ≤ 10000) (hG : ∀ e, e ∈ ckC G → okE F e ∧ e.1 = c) (hE : (ckC G).length ≤ 10000) (h38 : fI x 0 38 = nI (tyC F c))
    (pk : ∀ S lo hi, BdL Q (tyC F c) (vlE (mdC F c) (ckC G)) lo hi → j_Mod_openChunk_221 post S l1 l2 l3 l4 l5 l6 (nI PP.length) l8 (nI ((ckC G).length - (vlE (mdC F c) (ckC G)).length)) lo hi (nI (PP ++ pgP c row G).length) x) : ∃ n : Nat, wl_Mod_openChunk_221 post n l1 l2 l3 l4 l5 l6 (nI PP.length) l8 0 (-1) (-1) (nI PP.length) x := by
  have lp : (PP ++ pgP c row G).length = PP.length + G.length := by rw [List.length_append, pgP_len]
  have n70 : fN x 70 = 10000 := hL 70
  have n71 : fN x 71 = 10000 := hL 71
  have n72 : fN x 72 = 10000 := hL 72
  obtain ⟨hPo, h87, h86, -, hPg⟩ := hO
  have okV : ∀ k, k ≤ G.length → ∀ v, v ∈ vlE (mdC F c) (ckC (G.take k)) → okPv (tyC F c) v := fun k _ v hv => by
    obtain ⟨e, e1, e2, e3⟩ := vlE_mem hv
    have hm : e ∈ ckC G := by
      unfold ckC at e1 ⊢
      obtain ⟨l, l1, l2⟩ := List.mem_flatten.mp e1
      obtain ⟨g, g1, g2⟩ := List.mem_map.mp l1
      exact List.mem_flatten.mpr ⟨l, List.mem_map.mpr ⟨g, List.mem_of_mem_take g1, g2⟩, l2⟩
    obtain ⟨q1, q2⟩ := hG e hm
    have := q1.2.2.2.1
    rw [q2, e3] at this
    exact this e2
  have cl : ∀ k, k ≤ G.length → (ckC (G.take k)).length ≤ (ckC G).length := fun k _ => by
    have := List.take_append_drop k G
    have e : ckC G = ckC (G.take k) ++ ckC (G.drop k) := by
      unfold ckC
      rw [← List.flatten_append, ← List.map_append, this]
    rw [e, List.length_append]
    omega
  refine lp_Mod_openChunk_221 (fun a0 a1 a2 a3 a4 a5 a6 a7 a8 a9 a10 a11 u => l1 = a0 ∧ l2 = a1 ∧ l3 = a2 ∧ l4 = a3 ∧ l5 = a4 ∧ l6 = a5 ∧ nI PP.length = a6 ∧ l8 = a7 ∧ x = u ∧ ∃ k, nI (PP.length + k) = a11 ∧ k ≤ G.length ∧ nI ((ckC (G.take k)).length - (vlE (mdC F c) (ckC (G.take k))).length) = a8 ∧ BdL Q (tyC F c) (vlE (mdC F c) (ckC (G.take k))) a9 a10) (fun _ _ _ _ _ _ _ _ _ _ _ a11 _ => 10000 - a11.toNatClampNeg) ?_ _ _ _ _ _ _ _ _ _ _ _ _ _ ⟨rfl, rfl, rfl, rfl, rfl, rfl, rfl, rfl, rfl, 0, rfl, Nat.zero_le _, rfl, fun _ => ⟨rfl, rfl⟩, fun z => absurd rfl z⟩
  rintro S a0 a1 a2 a3 a4 a5 a6 a7 a8 a9 a10 a11 u ⟨rfl, rfl, rfl, rfl, rfl, rfl, rfl, rfl, rfl, k, rfl, k1, rfl, kb⟩ ih
  by_cases ck : k < G.length
  · have pg := hPg (PP.length + k) (by omega)
    rw [getD_r] at pg
    obtain ⟨r, hr⟩ := pgP_at (c := c) (row := row) ck
    rw [hr] at pg
    obtain ⟨-, -, -, -, g5, g6, -⟩ := pg
    have g5 : fA x 70 (PP.length + k) = nI ((G.getD k ([], [])).1.length - (vlE (mdC F c) (G.getD k ([], [])).1).length) := g5
    have g6 : BdO x (tyC F c) Q (PP.length + k) (vlE (mdC F c) (G.getD k ([], [])).1) := g6
    have ct := ckC_take ck
    have v1 := vlE_le (md := mdC F c) (ckC (G.take k))
    have v2 := vlE_le (md := mdC F c) (G.getD k ([], [])).1
    have cl1 := cl (k + 1) (by omega)
    have vt : vlE (mdC F c) (ckC (G.take (k + 1))) = vlE (mdC F c) (ckC (G.take k)) ++ vlE (mdC F c) (G.getD k ([], [])).1 := by rw [ct, vlE_app]
    rw [ct, List.length_append] at cl1
    unfold j_Mod_openChunk_221
    rw [h86, lp]
    refine br_f (by (first | omega | (simp (disch := omega) only [Int32.le_iff_toInt_le, Int32.lt_iff_toInt_lt, z_eq, z_in, nI_toInt, z_cl, z_m1, z_sg, z_255, Int32.reduceToInt] <;> omega) | (simp only [Int32.le_iff_toInt_le, Int32.lt_iff_toInt_lt, z_eq, z_in, z_add, z_sub, z_mul, z_neg, z_nI, z_cl, z_sg, z_255, z_lit, Int32.reduceToInt] <;> omega))) ⟨vp_in_nI (by omega) (by omega), nm_r (e' := nI ((ckC (G.take (k + 1))).length - (vlE (mdC F c) (ckC (G.take (k + 1)))).length)) ?_ ⟨vp_in_nI (by omega) (by omega), ?_⟩⟩
    · rw [rA_nI (by omega), g5, nI_add, vt, ct, List.length_append, List.length_append]
      congr 1
      omega
    -- to the next page
    have nx : ∀ lo hi, BdL Q (tyC F c) (vlE (mdC F c) (ckC (G.take (k + 1)))) lo hi → j_Mod_openChunk_336 post S l1 l2 l3 l4 l5 l6 (nI PP.length) l8 (nI ((ckC (G.take (k + 1))).length - (vlE (mdC F c) (ckC (G.take (k + 1)))).length)) lo hi (nI (PP.length + k)) x := fun lo hi hb => by
      unfold j_Mod_openChunk_336
      rw [nI_1]
      exact ih _ _ _ _ _ _ _ _ _ _ _ _ _ ⟨rfl, rfl, rfl, rfl, rfl, rfl, rfl, rfl, rfl, k + 1, rfl, by omega, rfl, hb⟩ (by rw [nI_clamp (by omega), nI_clamp (by omega)]; omega)
    have r71 : rA x 71 (nI (PP.length + k)) = fA x 71 (PP.length + k) := by rw [rA_nI (by omega)]
    have r72 : rA x 72 (nI (PP.length + k)) = fA x 72 (PP.length + k) := by rw [rA_nI (by omega)]
    rw [r71, h38]
    by_cases cv : vlE (mdC F c) (G.getD k ([], [])).1 = []
    · rw [(g6.1 cv).1]
      refine bn_t rfl (nx _ _ ?_)
      rw [vt, cv, List.append_nil]
      exact kb
    · obtain ⟨a, b, a1, b1, a2, b2, a3, b3⟩ := g6.2 cv
      rw [a2]
      refine bn_f (nI_nm1 (by have := hPo.2.2.1; omega)) ?_
      have hQ := hPo.2.2.1
      have v71 : vp_in (nI (PP.length + k)) (fN x 71) := vp_in_nI (by omega) (by omega)
      have v72 : vp_in (nI (PP.length + k)) (fN x 72) := vp_in_nI (by omega) (by omega)
      have ne : vlE (mdC F c) (ckC (G.take (k + 1))) ≠ [] := by
        rw [vt]
        intro z
        exact cv (List.append_eq_nil_iff.mp z).2
      have okn : ∀ v, v ∈ vlE (mdC F c) (G.getD k ([], [])).1 → okPv (tyC F c) v := fun v hv => okV (k + 1) (by omega) v (by rw [vt]; exact List.mem_append_right _ hv)
      have oka := okn _ a3.1
      have okb := okn _ b3.1
      -- the greatest
      have hi : ∀ lo a', lo = nI a' → a' < Q.length → IsMn (tyC F c) (vlE (mdC F c) (ckC (G.take (k + 1)))) (pvd Q a') → j_Mod_openChunk_294 post S l1 l2 l3 l4 l5 l6 (nI PP.length) l8 (nI ((ckC (G.take (k + 1))).length - (vlE (mdC F c) (ckC (G.take (k + 1)))).length)) a9 a10 (nI (PP.length + k)) lo x := fun lo a' h1 h2 h3 => by
        unfold j_Mod_openChunk_294
        have fin : ∀ s b', s = nI b' → b' < Q.length → IsMx (tyC F c) (vlE (mdC F c) (ckC (G.take (k + 1)))) (pvd Q b') → j_Mod_openChunk_334 post S l1 l2 l3 l4 l5 l6 (nI PP.length) l8 (nI ((ckC (G.take (k + 1))).length - (vlE (mdC F c) (ckC (G.take (k + 1)))).length)) lo a10 (nI (PP.length + k)) s x := fun s b' s1 s2 s3 => by
          unfold j_Mod_openChunk_334
          exact nx _ _ ⟨fun z => absurd z ne, fun _ => ⟨a', b', h2, s2, h1, s1, h3, s3⟩⟩
        have take : IsMx (tyC F c) (vlE (mdC F c) (ckC (G.take (k + 1)))) (pvd Q b) → j_Mod_openChunk_322 post S l1 l2 l3 l4 l5 l6 (nI PP.length) l8 (nI ((ckC (G.take (k + 1))).length - (vlE (mdC F c) (ckC (G.take (k + 1)))).length)) lo a10 (nI (PP.length + k)) x := fun h => by
          unfold j_Mod_openChunk_322
          exact ⟨v72, fin _ b (by rw [r72]; exact b2) b1 h⟩
        rw [r72, b2, h38]
        by_cases cV : vlE (mdC F c) (ckC (G.take k)) = []
        · rw [(kb.1 cV).2] at fin ⊢
          refine br_t rfl ?_
          have := take (by rw [vt, cV]; exact b3)
          rw [(kb.1 cV).2] at this
          exact this
        · obtain ⟨a0', b0', q1, q2, q3, q4, q5, q6⟩ := kb.2 cV
          rw [q4] at fin take ⊢
          have okb0 := okV k (by omega) _ q6.1
          have app := IsMx.app q6 b3
          rw [← vt] at app
          refine br_f (nI_nm1 (by omega)) ⟨v72, s_compare hL hPo b1 q2 hty okb.v okb0.v ?_⟩
          have lt := (cmpV_lt okb.v okb0.v).2
          by_cases cg : 0 < cmpV (tyC F c) (pvd Q b) (pvd Q b0')
          · exact br_f (fun z => Int32.not_lt.mpr z cg) (take (app.1 (lt.mp cg)))
          · exact br_t (Int32.not_lt.mp cg) (fin _ b0' rfl q2 (app.2 (fun z => cg (lt.mpr z))))
      have take : IsMn (tyC F c) (vlE (mdC F c) (ckC (G.take (k + 1)))) (pvd Q a) → j_Mod_openChunk_282 post S l1 l2 l3 l4 l5 l6 (nI PP.length) l8 (nI ((ckC (G.take (k + 1))).length - (vlE (mdC F c) (ckC (G.take (k + 1)))).length)) a9 a10 (nI (PP.length + k)) x := fun h => by
        unfold j_Mod_openChunk_282
        exact ⟨v71, hi _ a (by rw [r71]; exact a2) a1 h⟩
      by_cases cV : vlE (mdC F c) (ckC (G.take k)) = []
      · have e9 := (kb.1 cV).1
        exact ⟨fun _ => take (by rw [vt, cV]; exact a3), fun z => absurd e9 z⟩
      · obtain ⟨a0', b0', q1, q2, q3, q4, q5, q6⟩ := kb.2 cV
        have oka0 := okV k (by omega) _ q5.1
        have app := IsMn.app q5 a3
        rw [← vt] at app
        refine br_f (by rw [q3]; exact nI_nm1 (by omega)) ⟨v71, ?_⟩
        rw [show wp_Mod_compare (fun (r1702 : Int32) (x1701 : St) => ((0 ≤ r1702 → j_Mod_openChunk_294 post S l1 l2 l3 l4 l5 l6 (nI PP.length) l8 (nI ((ckC (G.take (k + 1))).length - (vlE (mdC F c) (ckC (G.take (k + 1)))).length)) a9 a10 (nI (PP.length + k)) a9 x1701) ∧ (¬ 0 ≤ r1702 → j_Mod_openChunk_282 post S l1 l2 l3 l4 l5 l6 (nI PP.length) l8 (nI ((ckC (G.take (k + 1))).length - (vlE (mdC F c) (ckC (G.take (k + 1)))).length)) a9 a10 (nI (PP.length + k)) x1701))) (nI (tyC F c)) (nI a) a9 x = wp_Mod_compare (fun (r1702 : Int32) (x1701 : St) => ((0 ≤ r1702 → j_Mod_openChunk_294 post S l1 l2 l3 l4 l5 l6 (nI PP.length) l8 (nI ((ckC (G.take (k + 1))).length - (vlE (mdC F c) (ckC (G.take (k + 1)))).length)) a9 a10 (nI (PP.length + k)) a9 x1701) ∧ (¬ 0 ≤ r1702 → j_Mod_openChunk_282 post S l1 l2 l3 l4 l5 l6 (nI PP.length) l8 (nI ((ckC (G.take (k + 1))).length - (vlE (mdC F c) (ckC (G.take (k + 1)))).length)) a9 a10 (nI (PP.length + k)) x1701))) (nI (tyC F c)) (nI a) (nI a0') x from by rw [← q3]]
        refine s_compare hL hPo a1 q1 hty oka.v oka0.v ?_
        have lt := (cmpV_lt oka.v oka0.v).1
        by_cases cg : cmpV (tyC F c) (pvd Q a) (pvd Q a0') < 0
        · exact br_f (fun z => Int32.not_lt.mpr z cg) (take (app.1 (lt.mp cg)))
        · exact br_t (Int32.not_lt.mp cg) (hi _ a0' q3 q1 (app.2 (fun z => cg (lt.mpr z))))
  · have ek : k = G.length := by omega
    subst ek
    rw [List.take_length] at kb ⊢
    rw [← lp]
    exact pk S a9 a10 kb
end
