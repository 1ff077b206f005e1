/-! values of flat columns, model -/
def cel (F : List SFd) (CK : List (List PgW)) (g j c : Nat) : Option PV := if ((ckG F CK g c).getD j en0).2.2.1 = mdC F c then some ((ckG F CK g c).getD j en0).2.2.2 else none
def celR (F : List SFd) (G : List Nat) (CK : List (List PgW)) (r c : Nat) : Option PV := cel F CK (rgO G r) (r - smN (G.take (rgO G r))) c
section
variable {x : St} {F : List SFd} {G : List Nat} {CK : List (List PgW)} {Pl : List PV} {f g : Nat}
theorem col_ok (hw : WfS F) (hf : colF F f) : ncol (F.take f) < ncol F ∧ lfC F (ncol (F.take f)) = f := ⟨ncol_lt hf.1 hf.2.1, lfC_of hf.1 hf.2.1⟩
theorem flat_len (hw : WfS F) (ok : OkO F G CK) (hl : CK.length = ncol F * G.length) (hf : colF F f) (hg : g < G.length) : (ckG F CK g (ncol (F.take f))).length = G.getD g 0 := by
  obtain ⟨hc, hlf⟩ := col_ok hw hf
  obtain ⟨-, h1, -, -, h2, -⟩ := ok.at hl hg hc
  rw [← h2]
  unfold nR
  rw [List.filter_eq_self.mpr]
  intro e he
  obtain ⟨o1, o2⟩ := h1 e he
  have := o1.2.1
  rw [o2] at this
  have z : mrC F (ncol (F.take f)) = 0 := by
    show rF F (lfC F (ncol (F.take f))) = 0
    rw [hlf]
    exact hf.2.2
  exact decide_eq_true (by omega)
theorem s_valueAt (H : RdM x F G CK Pl) (hw : WfS F) (ok : OkO F G CK) (hl : CK.length = ncol F * G.length) (hf : colF F f) {r : Nat} (hr : r < smN G) {post : Int32 → St → Prop}
    (p0 : celR F G CK r (ncol (F.take f)) = none → post (-1) x) (p1 : ∀ a, a < Pl.length → celR F G CK r (ncol (F.take f)) = some (pvd Pl a) → post (nI a) x) : wp_Mod_valueAt post (nI f) (nI r) x := by
  obtain ⟨hc, hlf⟩ := col_ok hw hf
  have hF := hw.1
  have hC := hw.2.1
  unfold wp_Mod_valueAt
  refine s_groupOf H hr (fun g1 g2 g3 => ?_)
  obtain ⟨hL, hR, h53, h500, h2000, hK, h65, hE, hP, hEn⟩ := H
  have fl := flat_len hw ok hl hf g2
  have e10 : rA x 10 1 = nI (ncol F) := by
    show fA x 10 1 = _
    exact hR.2.1
  have e6 : rA x 6 (nI (128 + f)) = nI (ncol (F.take f)) := by
    rw [rA_nI (by have := hf.1; omega)]
    have := (hR.2.2.1 f hf.1).2.2.2.2.2
    rw [if_neg hf.2.1] at this
    exact this
  have hwl : ncol F * rgO G r + ncol (F.take f) < CK.length := by
    rw [hl]
    have : ncol F * (rgO G r + 1) ≤ ncol F * G.length := Nat.mul_le_mul_left _ g2
    rw [Nat.mul_add] at this
    omega
  have hf128 := hf.1
  refine ⟨by rw [show fN x 10 = 3 from hL 10]; exact vp_in_nI (n := 1) (by decide) (by decide), ?_⟩
  rw [k_plM, pl1, e10, e6, nI_mul, nI_add, show fN x 6 = 384 from hL 6, show fN x 65 = 13401 from hL 65, rA_nI (by omega), (h65 _ hwl).1]
  refine ⟨vp_in_nI (by omega) (by decide), vp_in_nI (by omega) (by decide), s_firstRow ⟨hL, hR, h53, h500, h2000, hK, h65, hE, hP, hEn⟩ g2 ?_⟩
  have tk := enA_tk (CK := CK) (ncol F * rgO G r + ncol (F.take f))
  have hi : r - smN (G.take (rgO G r)) < (ckG F CK (rgO G r) (ncol (F.take f))).length := by
    rw [fl]
    rw [smN_take g2] at g3
    omega
  have ei := enA_in hwl hi
  have tk2 : (enA (CK.take (ncol F * rgO G r + ncol (F.take f)))).length + (r - smN (G.take (rgO G r))) < (enA CK).length := by
    have := enA_split hwl
    have := congrArg List.length this
    rw [List.length_append, List.length_append] at this
    have hi2 : r - smN (G.take (rgO G r)) < (ckC (CK.getD (ncol F * rgO G r + ncol (F.take f)) [])).length := hi
    omega
  rw [nI_add, nI_sub (by omega), show (enA (CK.take (ncol F * rgO G r + ncol (F.take f)))).length + r - smN (G.take (rgO G r)) = (enA (CK.take (ncol F * rgO G r + ncol (F.take f)))).length + (r - smN (G.take (rgO G r))) by omega, show fN x 60 = 10000 from hL 60]
  refine ⟨vp_in_nI (by omega) (by decide), ?_⟩
  rw [rA_nI (by omega)]
  obtain ⟨-, -, n1, n2⟩ := hEn _ tk2
  rw [ei] at n1 n2
  obtain ⟨-, k1, -⟩ := ok.at hl g2 hc
  have ec : ((ckG F CK (rgO G r) (ncol (F.take f))).getD (r - smN (G.take (rgO G r))) en0).1 = ncol (F.take f) := by
    refine (k1 _ ?_).2
    rw [List.getD_eq_getElem?_getD, List.getElem?_eq_getElem hi]
    exact List.getElem_mem hi
  rw [ec] at n1 n2
  unfold celR cel at p0 p1
  by_cases d : ((ckG F CK (rgO G r) (ncol (F.take f))).getD (r - smN (G.take (rgO G r))) en0).2.2.1 = mdC F (ncol (F.take f))
  · rw [if_pos d] at p1
    obtain ⟨a, ha, e1, e2⟩ := n1 d
    rw [e1]
    exact p1 a ha (by rw [e2])
  · rw [if_neg d] at p0
    rw [n2 d]
    exact p0 rfl
end
