/-! query(), model: all of it -/
section
variable {T : Nat → Int32} {n s : Nat} {F : List SFd} {x y : St} {Q : Qy} {r : QR}
theorem qBd_as {f g : Nat → Qy → QR} : qBd (qBd r f) g = qBd r (fun k Q => qBd (f k Q) g) := by
  by_cases c : r.1 = -1
  · rw [qBd_g c, qBd_g c]
  · rw [qBd_b c, qBd_b c, qBd_b c]
def qWh (T : Nat → Int32) (n : Nat) (F : List SFd) (k : Nat) (Q : Qy) : QR := if isWd T n (skip T n k) [119, 104, 101, 114, 101] then qCnd T n (qTst T n F 32) (n + 1) (skip T n k + 5) none none Q else (-1, skip T n k, Q)
def qGr (T : Nat → Int32) (n : Nat) (F : List SFd) (k : Nat) (Q : Qy) : QR := if isWd T n (skip T n k) [103, 114, 111, 117, 112] then qBd (qWrd T n [98, 121] (-1, skip T n k + 5, Q)) (qBys T n F 9) else (-1, skip T n k, Q)
theorem qry_eq : qry T n F = qBd (qBd (qBd (qBd (qWrd T n [115, 101, 108, 101, 99, 116] (-1, 0, ([], [], [], []))) (qIts T n F 17)) (qWh T n F)) (qGr T n F)) (qEnd T n) := by
  rw [qBd_as, qBd_as, qBd_as]
  rfl
theorem qIts_w (hw : WfS F) (hn : n < 2 ^ 31) : ∀ d k Q, k ≤ n → (qIts T n F d k Q).1 = -1 → ∃ k' L, qIts T n F d k Q = (-1, k', (Q.1 ++ L, Q.2)) ∧ L ≠ [] ∧ (∀ j, j ∈ L → itW F n j) ∧ k < k' ∧ k' ≤ n := by
  intro d
  induction d with
  | zero => intro k Q _ h; exact absurd h (by show ¬ (-3 : Int32) = -1; decide)
  | succ d ih =>
    intro k Q hk h
    rw [qIts_eq] at h ⊢
    obtain ⟨h1, e1⟩ := qBd_q h
    obtain ⟨k1, it, e2, hi, k2, k3⟩ := qItm_w hw hn hk h1
    rw [e1] at h ⊢
    rw [e2] at h ⊢
    have sl := @skip_le T n k1 k3
    have sg := skip_ge T n k1
    have h : (qItT T n F d k1 (Q.1 ++ [it], Q.2)).1 = -1 := h
    show ∃ k' L, qItT T n F d k1 (Q.1 ++ [it], Q.2) = _ ∧ _
    unfold qItT at h ⊢
    by_cases c : skip T n k1 < n ∧ T (skip T n k1) = 44
    · rw [if_pos c] at h ⊢
      obtain ⟨k4, L, e3, -, hL, k5, k6⟩ := ih _ _ c.1 h
      refine ⟨k4, it :: L, ?_, List.cons_ne_nil _ _, fun j hj => ?_, by omega, k6⟩
      · refine e3.trans ?_
        show (_, _, (Q.1 ++ [it]) ++ L, _) = _
        rw [List.append_assoc]
        rfl
      · rcases List.mem_cons.mp hj with q | q
        · rw [q]; exact hi
        · exact hL j q
    · rw [if_neg c]
      exact ⟨_, [it], rfl, List.cons_ne_nil _ _, fun j hj => by rw [List.mem_singleton.mp hj]; exact hi, by omega, sl⟩
theorem qBys_w (hw : WfS F) (hn : n < 2 ^ 31) : ∀ d k Q, k ≤ n → (qBys T n F d k Q).1 = -1 → ∃ k' L, qBys T n F d k Q = (-1, k', (Q.1, Q.2.1 ++ L, Q.2.2)) ∧ L ≠ [] ∧ (∀ j, j ∈ L → colF F j) ∧ k < k' ∧ k' ≤ n := by
  intro d
  induction d with
  | zero => intro k Q _ h; exact absurd h (by show ¬ (-3 : Int32) = -1; decide)
  | succ d ih =>
    intro k Q hk h
    rw [qBys_eq] at h ⊢
    obtain ⟨h1, e1⟩ := qBd_q h
    obtain ⟨k1, it, e2, hi, k2, k3⟩ := qBy_w hw hn hk h1
    rw [e1] at h ⊢
    rw [e2] at h ⊢
    have sl := @skip_le T n k1 k3
    have sg := skip_ge T n k1
    have h : (qByT T n F d k1 (Q.1, Q.2.1 ++ [it], Q.2.2)).1 = -1 := h
    show ∃ k' L, qByT T n F d k1 (Q.1, Q.2.1 ++ [it], Q.2.2) = _ ∧ _
    unfold qByT at h ⊢
    by_cases c : skip T n k1 < n ∧ T (skip T n k1) = 44
    · rw [if_pos c] at h ⊢
      obtain ⟨k4, L, e3, -, hL, k5, k6⟩ := ih _ _ c.1 h
      refine ⟨k4, it :: L, ?_, List.cons_ne_nil _ _, fun j hj => ?_, by omega, k6⟩
      · refine e3.trans ?_
        show (_, _, _, (Q.2.1 ++ [it]) ++ L, _) = _
        rw [List.append_assoc]
        rfl
      · rcases List.mem_cons.mp hj with q | q
        · rw [q]; exact hi
        · exact hL j q
    · rw [if_neg c]
      exact ⟨_, [it], rfl, List.cons_ne_nil _ _, fun j hj => by rw [List.mem_singleton.mp hj]; exact hi, by omega, sl⟩
theorem qGr_i (hw : WfS F) (hn : n < 2 ^ 31) {k : Nat} (hk : k ≤ n) (h : (qGr T n F k Q).1 = -1) : ∃ k' L, qGr T n F k Q = (-1, k', (Q.1, Q.2.1 ++ L, Q.2.2)) ∧ (∀ j, j ∈ L → colF F j) ∧ k ≤ k' ∧ k' ≤ n := by
  have sl := @skip_le T n k hk
  have sg := skip_ge T n k
  unfold qGr at h ⊢
  by_cases c : isWd T n (skip T n k) [103, 114, 111, 117, 112]
  · rw [if_pos c] at h ⊢
    have w := isWd_le sl c
    obtain ⟨h1, e1⟩ := qBd_q h
    obtain ⟨-, e2, w2⟩ := qWrd_q h1 hn (show skip T n k + 5 ≤ n from w)
    have w2 : isWd T n (skip T n (skip T n k + 5)) [98, 121] := w2
    have w3 := isWd_le (skip_le w) w2
    have sg2 := skip_ge T n (skip T n k + 5)
    rw [e1] at h ⊢
    rw [e2] at h ⊢
    obtain ⟨k4, L, e3, -, hL, k5, k6⟩ := qBys_w hw hn 9 (skip T n (skip T n k + 5) + 2) Q w3 h
    exact ⟨k4, L, e3, hL, by omega, k6⟩
  · rw [if_neg c]
    exact ⟨_, [], by rw [List.append_nil], fun j hj => absurd hj List.not_mem_nil, sg, sl⟩
theorem qWh_i (hw : WfS F) (hn : n < 2 ^ 31) {k : Nat} (hk : k ≤ n) (h : (qWh T n F k Q).1 = -1) : ∃ k' E L, qWh T n F k Q = (-1, k', (Q.1, Q.2.1, Q.2.2.1 ++ E, Q.2.2.2 ++ L)) ∧ (∀ s, s ∈ E → stW F (Q.2.2.2 ++ L) s) ∧ (E = [] ∨ exE 0 E) ∧ k ≤ k' ∧ k' ≤ n := by
  have sl := @skip_le T n k hk
  have sg := skip_ge T n k
  unfold qWh at h ⊢
  by_cases c : isWd T n (skip T n k) [119, 104, 101, 114, 101]
  · rw [if_pos c] at h ⊢
    have w := isWd_le sl c
    obtain ⟨k', E, L, er, k2, k3, hE, hx⟩ := qCnd_w (T := T) hn (qTst_w (T := T) hw hn 32) (n + 1) (skip T n k + 5) none none Q w (fun q e => nomatch e) (fun q e => nomatch e) h
    exact ⟨k', E, L, er, hE, Or.inr hx, by omega, k3⟩
  · rw [if_neg c]
    exact ⟨_, [], [], by rw [List.append_nil, List.append_nil], fun s hs => absurd hs List.not_mem_nil, Or.inl rfl, sg, sl⟩
theorem s_q179 (hB : BsM x T n F s) {post : Int32 → St → Prop} {l1 : Int32} (h : RqM True n s x r y) (hI : r.1 = -1 → ∀ j, j ∈ r.2.2.1 → j.2.2 < 2 ^ 31)
    (p0 : ¬ (qBd (qBd r (qGr T n F)) (qEnd T n)).1 = -1 → ∀ z, FfM True s x z (qBd (qBd r (qGr T n F)) (qEnd T n)).1 → post (qBd (qBd r (qGr T n F)) (qEnd T n)).1 z)
    (p1 : (qBd (qBd r (qGr T n F)) (qEnd T n)).1 = -1 → ∀ z, DnM s x z (qBd (qBd r (qGr T n F)) (qEnd T n)).2.2 → fI z 0 0 = fI x 0 0 → fI z 0 4 = fI x 0 4 → post (-1) z) : j_Mod_query_179 post l1 y := by
  have t2 := hB.2.1
  have hw := hB.2.2.2.1
  unfold j_Mod_query_179
  by_cases c : r.1 = -1
  · have g := h.gd c
    have hI := hI c
    rw [qBd_g c] at p0 p1
    have hG : (qGr T n F r.2.1 r.2.2).1 = -1 → ∀ j, j ∈ (qGr T n F r.2.1 r.2.2).2.2.1 → j.2.2 < 2 ^ 31 := by
      intro e
      obtain ⟨k', L, e1, -⟩ := qGr_i hw (by omega) g.2.2.2.1 e
      rw [e1]
      exact hI
    have fin : ∀ z, RqM True n s x (qGr T n F r.2.1 r.2.2) z → j_Mod_query_235 post l1 z := fun z hz => s_q235 hB hz hG p0 p1
    refine s_qWord hB gw_t4.1 gw_t4.2 h (fun _ w z hz => br_f (by decide) ?_) (fun w z hz => br_t rfl (fin z ?_))
    · have e : qGr T n F r.2.1 r.2.2 = qBd (qWrd T n [98, 121] (-1, skip T n r.2.1 + 5, r.2.2)) (qBys T n F 9) := by unfold qGr; rw [if_pos w]
      refine s_qNeed hB gw_by hz (fun u hu => ?_)
      have hu : RqM True n s x (qWrd T n [98, 121] (-1, skip T n r.2.1 + 5, r.2.2)) u := hu
      unfold j_Mod_query_207
      by_cases c2 : (qWrd T n [98, 121] (-1, skip T n r.2.1 + 5, r.2.2)).1 = -1
      · refine bn_t (by rw [hu.e]; exact c2) (s_qBy hB (hu.gd c2) (fun v hv => ⟨8 + 1, s_qBysL hB 8 _ v (fun e2 => ?_) hv (fun v2 hv2 => fin v2 ?_)⟩))
        · obtain ⟨k', f, e3, -⟩ := qBy_w hw (by omega) (hu.gd c2).2.2.2.1 e2
          rw [e3]
          show 9 ≤ (_ ++ [f]).length + 8
          rw [List.length_append]
          show 9 ≤ _ + 1 + 8
          omega
        · rw [e, qBd_g c2, qBys_eq]
          exact hv2
      · refine bn_f (by rw [hu.e]; exact c2) ⟨8 + 1, s_qBysL hB 8 _ u (fun e2 => absurd e2 c2) hu (fun v2 hv2 => fin v2 ?_)⟩
        rw [qBd_b c2] at hv2
        rw [e, qBd_b c2]
        exact hv2
    · have e : qGr T n F r.2.1 r.2.2 = (-1, skip T n r.2.1, r.2.2) := by unfold qGr; rw [if_neg (fun q => w ⟨c, q⟩)]
      rw [e]
      rw [c] at hz
      exact hz
  · rw [qBd_b c] at p0 p1
    refine s_qWord hB gw_t4.1 gw_t4.2 h (fun e => absurd e c) (fun w z hz => br_t rfl (s_q235 hB (r := r) ((hz.ft c).rs c) hI p0 p1))
theorem s_qK149 (hB : BsM x T n F s) {post : Int32 → St → Prop} {l1 : Int32} (h : RqM True n s x r y) (hI : r.1 = -1 → ∀ j, j ∈ r.2.2.1 → j.2.2 < 2 ^ 31)
    (p0 : ¬ (qBd (qBd (qBd r (qWh T n F)) (qGr T n F)) (qEnd T n)).1 = -1 → ∀ z, FfM True s x z (qBd (qBd (qBd r (qWh T n F)) (qGr T n F)) (qEnd T n)).1 → post (qBd (qBd (qBd r (qWh T n F)) (qGr T n F)) (qEnd T n)).1 z)
    (p1 : (qBd (qBd (qBd r (qWh T n F)) (qGr T n F)) (qEnd T n)).1 = -1 → ∀ z, DnM s x z (qBd (qBd (qBd r (qWh T n F)) (qGr T n F)) (qEnd T n)).2.2 → fI z 0 0 = fI x 0 0 → fI z 0 4 = fI x 0 4 → post (-1) z) : K149 post l1 y := by
  have t2 := hB.2.1
  have hw := hB.2.2.2.1
  unfold K149
  by_cases c : r.1 = -1
  · have g := h.gd c
    have hI := hI c
    rw [qBd_g c] at p0 p1
    have hG : (qWh T n F r.2.1 r.2.2).1 = -1 → ∀ j, j ∈ (qWh T n F r.2.1 r.2.2).2.2.1 → j.2.2 < 2 ^ 31 := by
      intro e
      obtain ⟨k', E, L, e1, -⟩ := qWh_i hw (by omega) g.2.2.2.1 e
      rw [e1]
      exact hI
    have fin : ∀ z, RqM True n s x (qWh T n F r.2.1 r.2.2) z → j_Mod_query_179 post l1 z := fun z hz => s_q179 hB hz hG p0 p1
    refine s_qWord hB gw_wh.1 gw_wh.2 h (fun _ w z hz => br_f (by decide) ?_) (fun w z hz => br_t rfl (fin z ?_))
    · have e : qWh T n F r.2.1 r.2.2 = qCnd T n (qTst T n F 32) (n + 1) (skip T n r.2.1 + 5) none none r.2.2 := by unfold qWh; rw [if_pos w]
      refine s_qCnd hB (hz.gd rfl) (fun u hu => fin u ?_)
      rw [e]
      exact hu
    · have e : qWh T n F r.2.1 r.2.2 = (-1, skip T n r.2.1, r.2.2) := by unfold qWh; rw [if_neg (fun q => w ⟨c, q⟩)]
      rw [e]
      rw [c] at hz
      exact hz
  · rw [qBd_b c] at p0 p1
    refine s_qWord hB gw_wh.1 gw_wh.2 h (fun e => absurd e c) (fun w z hz => br_t rfl (s_q179 hB (r := r) ((hz.ft c).rs c) hI p0 p1))
/-- from select on -/
theorem s_q137 (hB : BsM x T n F s) {post : Int32 → St → Prop} {l1 : Int32} (h : RqM True n s x (qWrd T n [115, 101, 108, 101, 99, 116] (-1, 0, ([], [], [], []))) y)
    (p0 : ¬ (qry T n F).1 = -1 → ∀ z, FfM True s x z (qry T n F).1 → post (qry T n F).1 z)
    (p1 : (qry T n F).1 = -1 → ∀ z, DnM s x z (qry T n F).2.2 → fI z 0 0 = fI x 0 0 → fI z 0 4 = fI x 0 4 → post (-1) z) : j_Mod_query_137 post l1 y := by
  have t2 := hB.2.1
  have hw := hB.2.2.2.1
  rw [qry_eq] at p0 p1
  unfold j_Mod_query_137
  generalize er : qWrd T n [115, 101, 108, 101, 99, 116] (-1, 0, ([], [], [], [])) = r at *
  by_cases c : r.1 = -1
  · have g := h.gd c
    rw [qBd_g c] at p0 p1
    refine bn_t (by rw [h.e]; exact c) (s_qItm hB g (fun z hz => ⟨16 + 1, s_qItsL hB 16 _ z (fun e2 => ?_) hz (fun u hu => ?_)⟩))
    · obtain ⟨k', it, e3, -⟩ := qItm_w hw (by omega) g.2.2.2.1 e2
      rw [e3]
      show 17 ≤ (_ ++ [it]).length + 16
      rw [List.length_append]
      show 17 ≤ _ + 1 + 16
      omega
    · rw [← qIts_eq] at hu
      refine s_qK149 hB hu (fun e => ?_) p0 p1
      obtain ⟨k', L, e1, -, hL, -⟩ := qIts_w hw (by omega) 17 r.2.1 r.2.2 g.2.2.2.1 e
      have e0 : r.2.2.1 = [] := by
        rw [← er] at c ⊢
        obtain ⟨-, e4, -⟩ := qWrd_q c (by omega) (Nat.zero_le n)
        rw [e4]
      rw [e1]
      intro j hj
      have hj : j ∈ r.2.2.1 ++ L := hj
      rw [e0] at hj
      have := (hL j hj).1
      omega
  · rw [qBd_b c] at p0 p1
    refine bn_f (by rw [h.e]; exact c) ⟨16 + 1, s_qItsL hB 16 _ y (fun e2 => absurd e2 c) h (fun u hu => ?_)⟩
    rw [qBd_b c] at hu
    exact s_qK149 hB hu (fun e => absurd e c) p0 p1
end
