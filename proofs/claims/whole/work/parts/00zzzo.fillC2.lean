/-! the class fills a page: rows -/
def HdI (E : List SEn) (r : List Nat) : Prop := ∃ i l, r = i :: l ∧ (en E i).2.1 = 0 ∧ ∀ z, z ∈ l → 1 ≤ (en E z).2.1
def txI (E : List SEn) : List Nat → Nat
  | [] => 0
  | i :: r => (en E i).2.2.2.2.length + txI E r
theorem txI_app {E : List SEn} {r : List Nat} {i : Nat} : txI E (r ++ [i]) = txI E r + (en E i).2.2.2.2.length := by
  induction r with
  | nil => show _ + 0 = 0 + _; omega
  | cons j r ih => show _ + txI E (r ++ [i]) = _ + txI E r + _; omega
def rT (E : List SEn) (ty : Nat) (r : List Nat) : Nat := if ty = 3 then txI E r else 0
def flN (E : List SEn) (ty most : Nat) : Bool → Nat → Nat → List (List Nat) → Nat
  | _, _, _, [] => 0
  | fs, n, b, r :: L => if r.length ≤ 1000 ∧ (fs = true ∨ n + r.length ≤ most ∧ b + rT E ty r ≤ 20000) then 1 + flN E ty most false (n + r.length) (b + rT E ty r) L else 0
/-- the schema's word on a column -/
def SdC (x : St) (sc c f ty md : Nat) : Prop := fR x 45 5 = some sc ∧ c < 64 ∧ f < 128 ∧ (stC sc 10 < 61 ∨ 69 < stC sc 10) ∧ (stC sc 3 < 61 ∨ 69 < stC sc 3) ∧ (stC sc 6 < 61 ∨ 69 < stC sc 6) ∧ stC sc 10 < 152 ∧ stC sc 3 < 152 ∧ stC sc 6 < 152 ∧ fN x (stC sc 10) = 64 ∧ fN x (stC sc 3) = 128 ∧ fN x (stC sc 6) = 128 ∧ fA x (stC sc 10) c = nI f ∧ fA x (stC sc 3) f = nI ty ∧ fA x (stC sc 6) f = nI md
theorem SdC.tk {x y : St} {sc c f ty md : Nat} (h : SdC x sc c f ty md) (g : FTk x y) : SdC y sc c f ty md := by
  obtain ⟨h1, h2, h3, h4, h5, h6, h7, h8, h9, h10, h11, h12, h13, h14, h15⟩ := h
  refine ⟨(g.2.2.1 45 5 id (fun z => z.1.elim)).trans h1, h2, h3, h4, h5, h6, h7, h8, h9, (g.n h7).trans h10, (g.n h8).trans h11, (g.n h9).trans h12, ?_, ?_, ?_⟩
  · rw [g.row h7 (by omega)]; exact h13
  · rw [g.row h8 (by omega)]; exact h14
  · rw [g.row h9 (by omega)]; exact h15
theorem chn_len {nx : Nat → Int32} {h : Int32} : ∀ {l : List Nat}, Chn nx h l → h = -1 → (∀ i, i ∈ l → i < 10000) → l = [] := by
  intro l
  cases l with
  | nil => intro _ _ _; rfl
  | cons i l =>
    intro a b c
    have hi := c i List.mem_cons_self
    have hb := a.1.symm.trans b
    exact absurd hb (by (first | omega | (simp (disch := omega) only [Int32.le_iff_toInt_le, Int32.lt_iff_toInt_lt, z_eq, z_in, nI_toInt, z_cl, z_m1, z_sg, z_255, Int32.reduceToInt] <;> omega) | (simp only [Int32.le_iff_toInt_le, Int32.lt_iff_toInt_lt, z_eq, z_in, z_add, z_sub, z_mul, z_neg, z_nI, z_cl, z_sg, z_255, z_lit, Int32.reduceToInt] <;> omega)))
theorem gd_tk {A B : List Nat} {k : Nat} (h : k < A.length) : (A ++ B).getD k 0 = A.getD k 0 := by
  rw [List.getD_eq_getElem?_getD, List.getElem?_append_left h, List.getD_eq_getElem?_getD]
theorem gd_mem {A : List Nat} {k : Nat} (h : k < A.length) : A.getD k 0 ∈ A := by
  rw [List.getD_eq_getElem?_getD, List.getElem?_eq_getElem h]
  exact List.getElem_mem h
/-- one row is measured -/
theorem c_row {post : Int32 → St → Prop} {rec48 : Nat → Int32 → Int32 → Int32 → Int32 → Int32 → Int32 → Int32 → St → Prop} {x : St} {E : List SEn} {ty : Nat} {r l : List Nat} {cur l1 l2 l3 l4 l5 l6 l7 : Int32} (hL : LC x) (h6 : fR x 45 6 = some 36) (hE : EnW x E ty (r ++ l)) (hCh : Chn (fA x 41) cur (r ++ l)) (hr : HdI E r) (hl : l = [] ∨ ∃ i l', l = i :: l' ∧ (en E i).2.1 = 0) (h5 : l5 = if ty = 3 then 1 else 0)
    (p : ∀ m l10, (r.length ≤ 1000 → m = rT E ty r) → m ≤ 260000 → j_Wrt_fillPage_145 post rec48 45 l1 l2 l3 l4 l5 l6 l7 (nI (min r.length 1001)) (nI m) l10 x) : ∃ n : Nat, wl_Wrt_fillPage_68 post rec48 n 45 l1 l2 l3 l4 l5 l6 l7 0 0 cur x := by
  have hmem : ∀ k, k < (r ++ l).length → (r ++ l).getD k 0 < 10000 := fun k hk => (hE _ (gd_mem hk)).1
  refine lp_Wrt_fillPage_68 (fun a0 a1 a2 a3 a4 a5 a6 a7 a8 a9 a10 y => 45 = a0 ∧ l1 = a1 ∧ l2 = a2 ∧ l3 = a3 ∧ l4 = a4 ∧ l5 = a5 ∧ l6 = a6 ∧ l7 = a7 ∧ x = y ∧ ∃ k, nI k = a8 ∧ k ≤ r.length ∧ k ≤ 1001 ∧ nI (rT E ty (r.take k)) = a9 ∧ rT E ty (r.take k) ≤ 255 * k ∧ Chn (fA x 41) a10 ((r ++ l).drop k)) (fun _ _ _ _ _ _ _ _ a8 _ _ _ => 1002 - a8.toNatClampNeg) ?_ _ _ _ _ _ _ _ _ _ _ _ _ ⟨rfl, rfl, rfl, rfl, rfl, rfl, rfl, rfl, rfl, 0, rfl, Nat.zero_le _, Nat.zero_le _, by unfold rT; rw [List.take_zero]; split <;> rfl, by unfold rT; rw [List.take_zero]; split <;> exact Nat.zero_le _, by rw [List.drop_zero]; exact hCh⟩
  rintro Q a0 a1 a2 a3 a4 a5 a6 a7 a8 a9 a10 y ⟨rfl, rfl, rfl, rfl, rfl, rfl, rfl, rfl, rfl, k, rfl, k1, k2, rfl, k3, k4⟩ ih
  have hrl : (r ++ l).length = r.length + l.length := List.length_append
  have out : (k = r.length ∨ k = 1001) → j_Wrt_fillPage_145 post rec48 45 l1 l2 l3 l4 l5 l6 l7 (nI k) (nI (rT E ty (r.take k))) a10 x := fun z => by
    have q := p (rT E ty (r.take k)) a10 (fun w => by
      rw [List.take_of_length_le (by omega)]) (by omega)
    rw [show min r.length 1001 = k by omega] at q
    exact q
  unfold j_Wrt_fillPage_68
  by_cases ce : a10 = -1
  · have e := chn_len k4 ce (fun i hi => (hE i (List.mem_of_mem_drop hi)).1)
    have : ((r ++ l).drop k).length = 0 := by rw [e]; rfl
    rw [List.length_drop] at this
    exact br_t ce (out (Or.inl (by omega)))
  · refine br_f ce ?_
    by_cases c1 : 1000 < k
    · exact br_t (by (first | omega | (simp (disch := omega) only [Int32.le_iff_toInt_le, Int32.lt_iff_toInt_lt, z_eq, z_in, nI_toInt, z_cl, z_m1, z_sg, z_255, Int32.reduceToInt] <;> omega) | (simp only [Int32.le_iff_toInt_le, Int32.lt_iff_toInt_lt, z_eq, z_in, z_add, z_sub, z_mul, z_neg, z_nI, z_cl, z_sg, z_255, z_lit, Int32.reduceToInt] <;> omega))) (out (Or.inr (by omega)))
    · refine br_f (by (first | omega | (simp (disch := omega) only [Int32.le_iff_toInt_le, Int32.lt_iff_toInt_lt, z_eq, z_in, nI_toInt, z_cl, z_m1, z_sg, z_255, Int32.reduceToInt] <;> omega) | (simp only [Int32.le_iff_toInt_le, Int32.lt_iff_toInt_lt, z_eq, z_in, z_add, z_sub, z_mul, z_neg, z_nI, z_cl, z_sg, z_255, z_lit, Int32.reduceToInt] <;> omega))) ?_
      -- there is an entry
      have hk : k < (r ++ l).length := by
        by_cases z : k < (r ++ l).length
        · exact z
        · exfalso
          rw [List.drop_eq_nil_of_le (by omega)] at k4
          exact ce k4
      obtain ⟨tk, dr⟩ := lgd hk
      rw [dr] at k4
      obtain ⟨z1, z2⟩ := k4
      have hi := hE _ (gd_mem hk)
      have n37 : fN x (stC 36 5) = 10000 := (hL 37 (by decide)).trans (by decide +kernel)
      have n39 : fN x (stC 36 7) = 10000 := (hL 39 (by decide)).trans (by decide +kernel)
      have n41 : fN x (stC 36 9) = 10000 := (hL 41 (by decide)).trans (by decide +kernel)
      have e37 : rA x (stC 36 5) a10 = nI (en E ((r ++ l).getD k 0)).2.1 := by rw [z1, rA_nI (by have := hi.1; omega)]; exact hi.2.1
      have go : k < r.length → j_Wrt_fillPage_100 post rec48 Q 45 l1 l2 l3 l4 l5 l6 l7 (nI k) (nI (rT E ty (r.take k))) a10 x := fun hkr => by
        have eg := gd_tk (B := l) hkr
        rw [eg] at z1 z2 hi e37
        obtain ⟨tkr, -⟩ := lgd hkr
        generalize r.getD k 0 = i at *
        have i1 := hi.1
        have nx : ∀ w : Nat, w ≤ 255 → rT E ty (r.take (k + 1)) = rT E ty (r.take k) + w → j_Wrt_fillPage_124 post rec48 Q 45 l1 l2 l3 l4 l5 l6 l7 (nI k) (nI (rT E ty (r.take k))) a10 (nI w) (nI (rT E ty (r.take k))) x := fun w hw ew => by
          unfold j_Wrt_fillPage_124
          refine nm_r (nI_add _ _) ⟨36, h6, by rw [z1]; exact vp_in_nI (by omega) (by omega), nm_e ?_⟩
          rw [nI_1, z1, rA_nI (by omega)]
          exact ih _ _ _ _ _ _ _ _ _ _ _ _ ⟨rfl, rfl, rfl, rfl, rfl, rfl, rfl, rfl, rfl, k + 1, rfl, by omega, by omega, by rw [ew], by omega, z2⟩ (by rw [nI_clamp (by omega), nI_clamp (by omega)]; omega)
        unfold j_Wrt_fillPage_100
        by_cases c3 : ty = 3
        · rw [if_pos c3] at h5
          refine br_f (by rw [h5]; decide) ⟨36, h6, by rw [z1]; exact vp_in_nI (by omega) (by omega), ?_⟩
          obtain ⟨o1, o2, a, o3, o4, o5⟩ := hi.2.2.2.2.2.2 c3
          have o4 : a + (en E i).2.2.2.2.length ≤ fN x 42 := o4
          have lt : (en E i).2.2.2.2.length ≤ 255 := o1.1
          unfold wp_V_sizeOf
          have ev : rL x (stC 36 7) a10 = lN (256 * a + (en E i).2.2.2.2.length) := by rw [z1, rL_nI (by omega)]; exact o3
          rw [ev, ref_sz lt (by omega)]
          refine nx _ lt ?_
          unfold rT
          rw [if_pos c3, if_pos c3, tkr, txI_app]
        · rw [if_neg c3] at h5
          refine br_t h5 (nx 0 (by omega) ?_)
          unfold rT
          rw [if_neg c3, if_neg c3]
      by_cases c0 : k = 0
      · obtain ⟨i, l', e, -⟩ := hr
        exact br_t (by rw [c0]; rfl) (go (by rw [e, c0]; exact Nat.succ_pos _))
      · refine br_f (fun z => c0 (nI_inj (b := 0) (by omega) (by decide) z)) ⟨36, h6, by rw [z1]; exact vp_in_nI (by have := hi.1; omega) (by omega), ?_⟩
        rw [e37]
        by_cases ckr : k < r.length
        · refine br_f (fun z => ?_) (go ckr)
          have hz := nI_inj (b := 0) (by have := hi.2.2.2.1; omega) (by decide) z
          rw [gd_tk ckr] at hz
          obtain ⟨i, l', e, e1, e2⟩ := hr
          subst e
          have : (i :: l').getD k 0 ∈ l' := by
            obtain ⟨k', rfl⟩ : ∃ k', k = k' + 1 := ⟨k - 1, by omega⟩
            exact gd_mem (A := l') (by rw [List.length_cons] at ckr; omega)
          have := e2 _ this
          omega
        · have ek : k = r.length := by omega
          refine br_t ?_ (out (Or.inl ek))
          rcases hl with z | ⟨i, l', z, z'⟩
          · rw [z, List.append_nil] at hk; omega
          · have : (r ++ l).getD k 0 = i := by
              rw [List.getD_eq_getElem?_getD, List.getElem?_append_right (by omega), ek, Nat.sub_self, z]
              rfl
            rw [this, z']
            rfl
theorem flat_tk {L : List (List Nat)} {k : Nat} (h : k < L.length) : (L.take (k + 1)).flatten = (L.take k).flatten ++ L.getD k [] ∧ L.drop k = L.getD k [] :: L.drop (k + 1) := by
  constructor
  · rw [List.take_succ_eq_append_getElem h, List.flatten_append, List.getD_eq_getElem?_getD, List.getElem?_eq_getElem h]
    show _ ++ (L[k] ++ []) = _
    rw [List.append_nil]
    rfl
  · rw [List.drop_eq_getElem_cons h, List.getD_eq_getElem?_getD, List.getElem?_eq_getElem h]
    rfl
theorem c_fill {post : Int32 → St → Prop} {x : St} {E : List SEn} {sc c f ty md most : Nat} {A B : List (List Nat)} (hL : LC x) (h6 : fR x 45 6 = some 36) (hS : SdC x sc c f ty md) (hty : ty < 4) (hmd : md < 128) (hm : most ≤ 1000) (hA : A.length ≤ 2000) (hE : EnW x E ty (A ++ B).flatten) (hCh : Chn (fA x 41) (fA x 61 c) (A ++ B).flatten) (hH : ∀ r, r ∈ A ++ B → HdI E r)
    (p : ∀ y, FTk x y → PgS y E md (A.take (flN E ty most true 0 0 A)).flatten → Chn (fA y 41) (fA y 61 c) (A.drop (flN E ty most true 0 0 A) ++ B).flatten → (∀ d, d ≠ c → fA y 61 d = fA x 61 d) → flN E ty most true 0 0 A ≤ A.length → post (nI (flN E ty most true 0 0 A)) y) : wp_Wrt_fillPage post 45 (nI c) (nI A.length) (nI most) x := by
  obtain ⟨s1, s2, s3, s4, s5, s6, s7, s8, s9, s10, s11, s12, s13, s14, s15⟩ := id hS
  have key : ∀ l5 : Int32, l5 = (if ty = 3 then 1 else 0) → j_Wrt_fillPage_30 post 45 (nI c) (nI A.length) (nI most) (nI f) l5 x := by
    intro l5 h5
    unfold j_Wrt_fillPage_30
    refine nm_e (nm_e ?_)
    have f0 : FTk x (setI (setI x 45 11 0) 45 12 0) := FTk.trans (FTk.i (Or.inl rfl)) (FTk.i (Or.inr rfl))
    refine lp_Wrt_fillPage_48 (fun a0 a1 a2 a3 a4 a5 a6 a7 y => 45 = a0 ∧ nI c = a1 ∧ nI A.length = a2 ∧ nI most = a3 ∧ nI f = a4 ∧ l5 = a5 ∧ ∃ k b, nI k = a7 ∧ nI b = a6 ∧ k ≤ A.length ∧ (b ≤ 300000 ∧ (k = 0 → b = 0)) ∧ FTk x y ∧ PgS y E md (A.take k).flatten ∧ Chn (fA y 41) (fA y 61 c) (A.drop k ++ B).flatten ∧ (∀ d, d ≠ c → fA y 61 d = fA x 61 d) ∧ flN E ty most true 0 0 A = k + flN E ty most (decide (k = 0)) (A.take k).flatten.length b (A.drop k)) (fun _ _ _ _ _ _ _ a7 _ => A.length - a7.toNatClampNeg) ?_ _ _ _ _ _ _ _ _ _ ⟨rfl, rfl, rfl, rfl, rfl, rfl, 0, 0, rfl, rfl, Nat.zero_le _, ⟨by decide, fun _ => rfl⟩, f0, ⟨?_, Nat.zero_le _, fun k hk => absurd hk (Nat.not_lt_zero _), gI_at, fun k hk => absurd hk (Nat.not_lt_zero _)⟩, ?_, fun _ _ => rfl, ?_⟩
    · rintro Q a0 a1 a2 a3 a4 a5 a6 a7 y ⟨rfl, rfl, rfl, rfl, rfl, rfl, k, b, rfl, rfl, k1, ⟨b1, b0⟩, y1, y2, y3, y4, y5⟩ ih
      have hLy := hL.tk y1
      have hSy := hS.tk y1
      have r6 : fR y 45 6 = some 36 := (y1.2.2.1 45 6 id (fun z => z.1.elim)).trans h6
      have e61 : fN y (stC 45 7) = 64 := (hLy 61 (by decide)).trans (by decide +kernel)
      have stop : flN E ty most (decide (k = 0)) (A.take k).flatten.length b (A.drop k) = 0 → post (nI k) y := fun z => by
        rw [z, Nat.add_zero] at y5
        have := p y y1 (by rw [y5]; exact y2) (by rw [y5]; exact y3) y4 (by omega)
        rw [y5] at this
        exact this
      unfold j_Wrt_fillPage_48
      by_cases ck : k < A.length
      · obtain ⟨tk, dr⟩ := flat_tk ck
        have hmemr : A.getD k [] ∈ A := by
          rw [List.getD_eq_getElem?_getD, List.getElem?_eq_getElem ck]
          exact List.getElem_mem ck
        have hr := hH (A.getD k []) (List.mem_append_left _ hmemr)
        rw [dr] at y3 y5 stop
        generalize hrr : A.getD k [] = r at *
        have e3 : (r :: A.drop (k + 1) ++ B).flatten = r ++ (A.drop (k + 1) ++ B).flatten := rfl
        rw [e3] at y3
        have hE2 : EnW y E ty (r ++ (A.drop (k + 1) ++ B).flatten) := (hE.tk y1).sub (fun i hi => by
          rcases List.mem_append.mp hi with z | z
          · exact List.mem_flatten.mpr ⟨r, List.mem_append_left _ hmemr, z⟩
          · obtain ⟨q, q1, q2⟩ := List.mem_flatten.mp z
            refine List.mem_flatten.mpr ⟨q, ?_, q2⟩
            rcases List.mem_append.mp q1 with w | w
            · exact List.mem_append_left _ (List.mem_of_mem_drop w)
            · exact List.mem_append_right _ w)
        have hl : (A.drop (k + 1) ++ B).flatten = [] ∨ ∃ i l', (A.drop (k + 1) ++ B).flatten = i :: l' ∧ (en E i).2.1 = 0 := by
          cases hq : A.drop (k + 1) ++ B with
          | nil => exact Or.inl rfl
          | cons q M =>
            have hqm : q ∈ A ++ B := by
              have : q ∈ A.drop (k + 1) ++ B := by rw [hq]; exact List.mem_cons_self
              rcases List.mem_append.mp this with w | w
              · exact List.mem_append_left _ (List.mem_of_mem_drop w)
              · exact List.mem_append_right _ w
            obtain ⟨i, l', e, e1, -⟩ := hH q hqm
            refine Or.inr ⟨i, l' ++ M.flatten, ?_, e1⟩
            rw [e]
            rfl
        refine br_f (by (first | omega | (simp (disch := omega) only [Int32.le_iff_toInt_le, Int32.lt_iff_toInt_lt, z_eq, z_in, nI_toInt, z_cl, z_m1, z_sg, z_255, Int32.reduceToInt] <;> omega) | (simp only [Int32.le_iff_toInt_le, Int32.lt_iff_toInt_lt, z_eq, z_in, z_add, z_sub, z_mul, z_neg, z_nI, z_cl, z_sg, z_255, z_lit, Int32.reduceToInt] <;> omega))) ⟨vp_in_nI (by omega) (by omega), nm_e ?_⟩
        rw [rA_nI (by omega)]
        refine c_row hLy r6 hE2 y3 hr hl h5 (fun m l10 m1 m2 => ?_)
        have hr0 : 1 ≤ r.length := by
          obtain ⟨i, l', e, -⟩ := hr
          rw [e, List.length_cons]; omega
        have n11 := y2.1
        have nl := y2.2.1
        -- take it
        have tke : r.length ≤ 1000 → (decide (k = 0) = true ∨ (A.take k).flatten.length + r.length ≤ most ∧ b + rT E ty r ≤ 20000) → ∀ l11, j_Wrt_fillPage_200 post Q 45 (nI c) (nI A.length) (nI most) (nI f) l5 (nI b) (nI k) (nI (min r.length 1001)) (nI m) l10 l11 y := fun hr1 hd l11 => by
          unfold j_Wrt_fillPage_200
          obtain ⟨g1, -, -, -, -, -, -, -, -, -, -, g12, -, -, g15⟩ := id hSy
          refine ⟨sc, g1, vp_in_nI (by omega) (by omega), ?_⟩
          rw [show rA y (stC sc 6) (nI f) = nI md from by rw [rA_nI (by omega)]; exact g15, show min r.length 1001 = r.length by omega]
          have em := m1 hr1
          have hlen : (A.take k).flatten.length + r.length ≤ 1000 := by
            rcases hd with z | z
            · have : k = 0 := of_decide_eq_true z
              rw [this, List.take_zero]
              show 0 + _ ≤ _
              omega
            · omega
          have hbb : b + m ≤ 300000 := by
            rcases hd with z | z
            · have : k = 0 := of_decide_eq_true z
              have := b0 this
              omega
            · omega
          refine c_take s2 hLy r6 y2 hE2 y3 (by rw [List.length_append]; omega) hlen hmd (fun w w1 w2 w3 w4 => nm_r (nI_add _ _) ?_)
          rw [nI_1]
          have t1 : (r ++ (A.drop (k + 1) ++ B).flatten).take r.length = r := List.take_left' rfl
          have t2 : (r ++ (A.drop (k + 1) ++ B).flatten).drop r.length = (A.drop (k + 1) ++ B).flatten := List.drop_left' rfl
          rw [t1] at w2
          rw [t2] at w3
          refine ih _ _ _ _ _ _ _ _ _ ⟨rfl, rfl, rfl, rfl, rfl, rfl, k + 1, b + m, rfl, rfl, by omega, ⟨hbb, fun z => by omega⟩, FTk.trans y1 w1, by rw [tk]; exact w2, w3, fun d hd => (w4 d hd).trans (y4 d hd), ?_⟩ (by rw [nI_clamp (by omega), nI_clamp (by omega)]; omega)
          rw [y5]
          simp only [flN]
          rw [if_pos ⟨hr1, hd⟩, tk, List.length_append, em, show decide (k + 1 = 0) = false from rfl]
          omega
        have stp : (1000 < r.length ∨ ¬ (decide (k = 0) = true ∨ (A.take k).flatten.length + r.length ≤ most ∧ b + rT E ty r ≤ 20000)) → post (nI k) y := fun z => by
          refine stop ?_
          simp only [flN]
          exact if_neg (fun w => by rcases z with z | z; omega; exact z w.2)
        have lm : ∀ s0 : Int32, (s0 = 0 ∨ s0 = 1) → (r.length ≤ 1000 → (s0 = 0 ↔ ((A.take k).flatten.length + r.length ≤ most ∧ b + rT E ty r ≤ 20000))) → j_Wrt_fillPage_172 post Q 45 (nI c) (nI A.length) (nI most) (nI f) l5 (nI b) (nI k) (nI (min r.length 1001)) (nI m) l10 s0 y := fun s0 hs0 hs => by
          unfold j_Wrt_fillPage_172 j_Wrt_fillPage_197
          refine br_f (fun z => by have := nI_inj (b := 0) (by omega) (by decide) z; omega) ?_
          by_cases c1 : r.length ≤ 1000
          · refine br_f (by (first | omega | (simp (disch := omega) only [Int32.le_iff_toInt_le, Int32.lt_iff_toInt_lt, z_eq, z_in, nI_toInt, z_cl, z_m1, z_sg, z_255, Int32.reduceToInt] <;> omega) | (simp only [Int32.le_iff_toInt_le, Int32.lt_iff_toInt_lt, z_eq, z_in, z_add, z_sub, z_mul, z_neg, z_nI, z_cl, z_sg, z_255, z_lit, Int32.reduceToInt] <;> omega))) ?_
            by_cases c0 : k = 0
            · exact br_t (by rw [c0]; decide) (tke c1 (Or.inl (decide_eq_true c0)) _)
            · refine br_f (by (first | omega | (simp (disch := omega) only [Int32.le_iff_toInt_le, Int32.lt_iff_toInt_lt, z_eq, z_in, nI_toInt, z_cl, z_m1, z_sg, z_255, Int32.reduceToInt] <;> omega) | (simp only [Int32.le_iff_toInt_le, Int32.lt_iff_toInt_lt, z_eq, z_in, z_add, z_sub, z_mul, z_neg, z_nI, z_cl, z_sg, z_255, z_lit, Int32.reduceToInt] <;> omega))) ?_
              by_cases cs : s0 = 0
              · exact br_t cs (tke c1 (Or.inr ((hs c1).mp cs)) _)
              · refine br_f cs (stp (Or.inr (fun z => ?_)))
                rcases z with z | z
                · exact c0 (of_decide_eq_true z)
                · exact cs ((hs c1).mpr z)
          · exact br_t (by (first | omega | (simp (disch := omega) only [Int32.le_iff_toInt_le, Int32.lt_iff_toInt_lt, z_eq, z_in, nI_toInt, z_cl, z_m1, z_sg, z_255, Int32.reduceToInt] <;> omega) | (simp only [Int32.le_iff_toInt_le, Int32.lt_iff_toInt_lt, z_eq, z_in, z_add, z_sub, z_mul, z_neg, z_nI, z_cl, z_sg, z_255, z_lit, Int32.reduceToInt] <;> omega))) (stp (Or.inl (by omega)))
        unfold j_Wrt_fillPage_145 j_Wrt_fillPage_167
        rw [n11, nI_add, nI_add]
        by_cases d1 : most < (A.take k).flatten.length + min r.length 1001
        · refine br_t (by (first | omega | (simp (disch := omega) only [Int32.le_iff_toInt_le, Int32.lt_iff_toInt_lt, z_eq, z_in, nI_toInt, z_cl, z_m1, z_sg, z_255, Int32.reduceToInt] <;> omega) | (simp only [Int32.le_iff_toInt_le, Int32.lt_iff_toInt_lt, z_eq, z_in, z_add, z_sub, z_mul, z_neg, z_nI, z_cl, z_sg, z_255, z_lit, Int32.reduceToInt] <;> omega))) (lm 1 (Or.inr rfl) (fun w => ⟨fun z => absurd z (by decide), fun z => by omega⟩))
        · refine br_f (by (first | omega | (simp (disch := omega) only [Int32.le_iff_toInt_le, Int32.lt_iff_toInt_lt, z_eq, z_in, nI_toInt, z_cl, z_m1, z_sg, z_255, Int32.reduceToInt] <;> omega) | (simp only [Int32.le_iff_toInt_le, Int32.lt_iff_toInt_lt, z_eq, z_in, z_add, z_sub, z_mul, z_neg, z_nI, z_cl, z_sg, z_255, z_lit, Int32.reduceToInt] <;> omega))) ?_
          by_cases d2 : b + m ≤ 20000
          · exact br_t (by (first | omega | (simp (disch := omega) only [Int32.le_iff_toInt_le, Int32.lt_iff_toInt_lt, z_eq, z_in, nI_toInt, z_cl, z_m1, z_sg, z_255, Int32.reduceToInt] <;> omega) | (simp only [Int32.le_iff_toInt_le, Int32.lt_iff_toInt_lt, z_eq, z_in, z_add, z_sub, z_mul, z_neg, z_nI, z_cl, z_sg, z_255, z_lit, Int32.reduceToInt] <;> omega))) (lm 0 (Or.inl rfl) (fun w => ⟨fun _ => ⟨by omega, by rw [← m1 w]; exact d2⟩, fun _ => rfl⟩))
          · exact br_f (by (first | omega | (simp (disch := omega) only [Int32.le_iff_toInt_le, Int32.lt_iff_toInt_lt, z_eq, z_in, nI_toInt, z_cl, z_m1, z_sg, z_255, Int32.reduceToInt] <;> omega) | (simp only [Int32.le_iff_toInt_le, Int32.lt_iff_toInt_lt, z_eq, z_in, z_add, z_sub, z_mul, z_neg, z_nI, z_cl, z_sg, z_255, z_lit, Int32.reduceToInt] <;> omega))) (lm 1 (Or.inr rfl) (fun w => ⟨fun z => absurd z (by decide), fun z => by rw [← m1 w] at z; omega⟩))
      · refine br_t (by (first | omega | (simp (disch := omega) only [Int32.le_iff_toInt_le, Int32.lt_iff_toInt_lt, z_eq, z_in, nI_toInt, z_cl, z_m1, z_sg, z_255, Int32.reduceToInt] <;> omega) | (simp only [Int32.le_iff_toInt_le, Int32.lt_iff_toInt_lt, z_eq, z_in, z_add, z_sub, z_mul, z_neg, z_nI, z_cl, z_sg, z_255, z_lit, Int32.reduceToInt] <;> omega))) (stop ?_)
        rw [List.drop_eq_nil_of_le (by omega)]
        cases decide (k = 0) <;> rfl
    · rw [gI_ne (by decide)]; exact gI_at
    · rw [List.drop_zero]; exact hCh
    · rw [Nat.zero_add]; rfl
  unfold wp_Wrt_fillPage
  refine ⟨sc, s1, vp_in_nI (by omega) (by omega), nm_r (e' := nI f) (by rw [rA_nI (by omega)]; exact s13) ⟨sc, s1, vp_in_nI (by omega) (by omega), ?_⟩⟩
  rw [rA_nI (by omega), s14]
  by_cases c3 : ty = 3
  · exact bn_t (by rw [c3]; rfl) (key 1 (by rw [if_pos c3]))
  · exact bn_f (fun z => c3 (nI_inj (b := 3) (by omega) (by decide) z)) (key 0 (by rw [if_neg c3]))
