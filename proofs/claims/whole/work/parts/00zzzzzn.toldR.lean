/-! the model reads a LEAST or GREATEST, and holds values against it -/
/-- what was told at i: 0 or 1 -/
def ToM (y : St) (ty i : Nat) (v : PV) : Prop := (ty ≠ 3 → fL y 47 i = v.1) ∧ (ty = 3 → v.2.length ≤ 255 ∧ fA y 48 i = nI v.2.length ∧ ∀ j, j < v.2.length → fA y 49 (256 * i + j) = v.2.getD j 0)
abbrev FrTo (x y : St) : Prop := Fg (fun o k => o = 0 ∧ (k = 67 ∨ k = 69)) no2 no2 (fun a => a = 48 ∨ a = 49) (fun a => a = 47) x y
section
variable {x : St} {T : Nat → Nat} {n st p : Nat}
theorem FrTo.fi {y : St} (f : FrTo x y) (h : FiM x T n) : FiM y T n := h.cg (f.2.2.2.1 41 (by decide)) (fun o => by show y.2.2.2.2.2 o = _; rw [f.2.2.2.2.2])
theorem FrRd.to {y : St} (f : FrRd x y) : FrTo x y := f.mono (fun _ _ z => z) (fun _ _ z => z) (fun _ _ z => z) (fun _ z => z.elim) (fun _ z => z.elim)
theorem tld_ok {ty : Nat} {v : PV} {q : Nat} (hT : ∀ i, T i < 256) (h : tld T ty st p = .ok (v, q)) : p < q ∧ q ≤ st ∧ okVv ty v ∧ (ty ≠ 3 → v.2 = []) ∧ (ty = 3 → v.1 = 0) := by
  unfold tld at h
  by_cases c0 : ty = 0
  · rw [if_pos c0] at h
    cases e : fxd T 1 st p with
    | error e' => rw [e] at h; exact absurd h (by simp)
    | ok w =>
      obtain ⟨u, q1⟩ := w
      rw [e] at h
      simp only at h
      have f := fxd_ok hT e
      by_cases c1 : 1 < u
      · rw [if_pos c1] at h; exact absurd h (by simp)
      · rw [if_neg c1] at h
        simp only [Except.ok.injEq, Prod.mk.injEq] at h
        rw [← h.1, ← h.2]
        exact ⟨by omega, f.2.1, fun z => by omega, fun _ => rfl, fun z => by omega⟩
  · rw [if_neg c0] at h
    by_cases c3 : ty = 3
    · rw [if_pos c3] at h
      cases e : vrd T st p with
      | error e' => rw [e] at h; exact absurd h (by simp)
      | ok w =>
        obtain ⟨m, q1⟩ := w
        rw [e] at h
        simp only at h
        have f := vrd_ok hT e
        by_cases c1 : 255 < m
        · rw [if_pos c1] at h; exact absurd h (by simp)
        rw [if_neg c1] at h
        by_cases c2 : st < q1 + m
        · rw [if_pos c2] at h; exact absurd h (by simp)
        rw [if_neg c2] at h
        simp only [Except.ok.injEq, Prod.mk.injEq] at h
        rw [← h.1, ← h.2]
        exact ⟨by omega, by omega, fun _ => txs_ok hT (by omega), fun z => absurd c3 z, fun _ => rfl⟩
    · rw [if_neg c3] at h
      cases e : vrd T st p with
      | error e' => rw [e] at h; exact absurd h (by simp)
      | ok w =>
        obtain ⟨m, q1⟩ := w
        rw [e] at h
        simp only at h
        have f := vrd_ok hT e
        by_cases c1 : ty = 1 ∧ ¬ inI (uz m)
        · rw [if_pos c1] at h; exact absurd h (by simp)
        rw [if_neg c1] at h
        simp only [Except.ok.injEq, Prod.mk.injEq] at h
        rw [← h.1, ← h.2]
        exact ⟨by omega, by omega, fun z => absurd z c3, fun _ => rfl, fun z => absurd z c3⟩
theorem s_told {post : St → Prop} {ty i : Nat} (hF : FiM x T n) (h0 : fI x 0 69 = 0) (hp : fI x 0 67 = nI p) (h68 : fI x 0 68 = nI st) (h38 : fI x 0 38 = nI ty) (hty : ty < 4) (hi : i < 2) (hps : p ≤ st) (hst : st ≤ n)
    (pe : ∀ e y, tld T ty st p = .error e → FrTo x y → Flt y e → post y)
    (pk : ∀ v q y, tld T ty st p = .ok (v, q) → FrTo x y → fI y 0 69 = 0 → fI y 0 67 = nI q → ToM y ty i v → (∀ k, k ≠ i → k < 2 → fL y 47 k = fL x 47 k ∧ fA y 48 k = fA x 48 k ∧ ∀ j, j < 256 → fA y 49 (256 * k + j) = fA x 49 (256 * k + j)) → post y) : wp_Mod_readTold post (nI i) x := by
  have hn := hF.2.1
  have hT := hF.2.2.1
  have e41 : fN x 41 = 40000 := hF.1 41
  have e47 : fN x 47 = 2 := hF.1 47
  have e48 : fN x 48 = 2 := hF.1 48
  have e49 : fN x 49 = 512 := hF.1 49
  have o47 : ∀ (y : St) (v : Int64), fL (setL y 47 (nI i) v) 47 i = v := fun y v => by rw [gL_at, nI_clamp (by omega), updL_at]
  have o47n : ∀ (y : St) (v : Int64) k, k ≠ i → fL (setL y 47 (nI i) v) 47 k = fL y 47 k := fun y v k hk => by rw [gL_at, nI_clamp (by omega), updL_ne hk]
  unfold wp_Mod_readTold
  rw [h38, h68]
  by_cases c0 : ty = 0
  · have et : tld T ty st p = (match fxd T 1 st p with | .error e => .error e | .ok (v, q) => if 1 < v then .error 7 else .ok ((lN v, []), q)) := by unfold tld; rw [if_pos c0]; rfl
    refine ⟨fun z => absurd (by rw [c0]; rfl) z, fun _ => ?_⟩
    rw [show (1 : Int32) = nI 1 from rfl]
    refine s_fxd hF h0 hp hps hst (by decide) (fun e y y1 y2 y3 => ?_) (fun v q y y1 y2 y3 y4 => ?_)
    · have n47 : fN y 47 = 2 := (y2.fi hF).1 47
      refine ⟨vp_in_nI (by omega) (by omega), nm_e ⟨fun _ => pe e _ (by rw [et, y1]) (Fg.trans y2.to (Fg.l rfl)) y3, fun z => absurd z y3.ne⟩⟩
    · have n47 : fN y 47 = 2 := (y2.fi hF).1 47
      have f := fxd_ok hT y1
      rw [y1] at et
      simp only at et
      refine ⟨vp_in_nI (by omega) (by omega), nm_e ⟨fun z => absurd y4 z, fun _ => ⟨vp_in_nI (by show _ < fN y 47; omega) (by show fN y 47 < _; omega), ?_⟩⟩⟩
      have ry : rL (setL y 47 (nI i) (lN v)) 47 (nI i) = lN v := by rw [rL_nI (by omega)]; exact o47 _ _
      rw [ry, lg_cmp_le, show (1 : Int64) = lN 1 from rfl, lN_le2 (by have : v < 256 ^ 1 := f.2.2; omega) (by decide)]
      have fz : FrTo x (setL y 47 (nI i) (lN v)) := Fg.trans y2.to (Fg.l rfl)
      by_cases c1 : v ≤ 1
      · rw [if_neg (by omega)] at et
        refine br_t c1 (pk _ q _ et fz y4 y3 ⟨fun _ => o47 _ _, fun z => by omega⟩ (fun k hk hk2 => ⟨?_, ?_, fun j hj => ?_⟩))
        · rw [o47n _ _ _ hk]; show y.2.2.2.2.1 47 k = _; rw [y2.2.2.2.2.1 47 id]
        · show y.2.2.2.1 48 k = _; rw [y2.2.2.2.1 48 id]
        · show y.2.2.2.1 49 _ = _; rw [y2.2.2.2.1 49 id]
      · rw [if_pos (by omega)] at et
        exact br_f c1 (nm_e (pe 7 _ et (Fg.trans fz (Fg.i ⟨rfl, by decide⟩)) ⟨gI_at, by decide, by decide⟩))
  · refine ⟨fun _ => ?_, fun z => absurd (nI_inj (b := 0) (by omega) (by decide) z) c0⟩
    by_cases c3 : ty = 3
    · have et : tld T ty st p = (match vrd T st p with | .error e => .error e | .ok (m, q) => if 255 < m then .error 7 else if st < q + m then .error 1 else .ok ((0, txs T q m), q + m)) := by unfold tld; rw [if_neg c0, if_pos c3]; rfl
      refine ⟨fun _ => ?_, fun z => absurd (by rw [c3]; rfl) z⟩
      have st2 : ∀ (y : St) l2 e, Flt y e → tld T ty st p = .error e → FrTo x y → j_Mod_readTold_139 post (nI i) l2 y := fun y l2 e hf he hy => by
        unfold j_Mod_readTold_139 j_Mod_readTold_166
        exact ⟨fun _ => ⟨fun z => absurd z hf.ne, fun _ => pe e y he hy hf⟩, fun z => absurd z hf.ne⟩
      refine s_vrd hF h0 hp hps hst (fun e y y1 y2 y3 => ?_) (fun m q y y1 y2 y3 y4 => ?_)
      · exact ⟨fun _ => st2 y _ e y3 (by rw [et, y1]) y2.to, fun z => absurd z y3.ne⟩
      · obtain ⟨v1, v2, v3⟩ := vrd_ok hT y1
        rw [y1] at et
        simp only at et
        refine ⟨fun z => absurd y4 z, fun _ => oob_tests (post := True) v1 (show (255 : Int64) = lN 255 from rfl) (by decide) (fun c => ?_) (fun c => ?_)⟩
        · rw [if_pos c] at et
          unfold j_Mod_readTold_133
          exact nm_e (st2 _ _ 7 ⟨gI_at, by decide, by decide⟩ et (Fg.trans y2.to (Fg.i ⟨rfl, by decide⟩)))
        · rw [if_neg (by omega)] at et
          unfold j_Mod_readTold_139
          refine ⟨fun z => absurd y4 z, fun _ => ?_⟩
          rw [show fI y 0 68 = nI st from (y2.1 0 68 (by decide)).trans h68, y3, nI_sub v3, show (nI (st - q)).toInt64 = lN (st - q) from nI_l (by omega), lg_cmp_ge, lN_le2 (by omega) (by omega)]
          by_cases c1 : m ≤ st - q
          · rw [if_neg (by omega)] at et
            refine br_t c1 ?_
            unfold j_Mod_readTold_166
            have Fy := y2.fi hF
            have n48 : fN y 48 = 2 := Fy.1 48
            refine ⟨fun _ => ⟨vp_in_nI (by omega) (by omega), ?_⟩, fun z => absurd y4 z⟩
            rw [lN_i]
            refine nm_e ?_
            refine lp_Mod_readTold_185 (fun a0 a1 a2 u => nI i = a0 ∧ lN m = a1 ∧ ∃ k, nI k = a2 ∧ k ≤ m ∧ Fg no2 no2 no2 (fun a => a = 48 ∨ a = 49) no1 y u ∧ fA u 48 i = nI m ∧ (∀ k', k' ≠ i → fA u 48 k' = fA y 48 k') ∧ (∀ j, j < k → fA u 49 (256 * i + j) = nI (T (q + j))) ∧ ∀ j, ¬ (256 * i ≤ j ∧ j < 256 * i + m) → fA u 49 j = fA y 49 j) (fun _ _ a2 _ => m - a2.toNatClampNeg) ?_ _ _ _ _ ⟨rfl, rfl, 0, rfl, Nat.zero_le _, Fg.a (Or.inl rfl), by rw [gA_at, nI_clamp (by omega), upd_at], fun k' hk' => by rw [gA_at, nI_clamp (by omega), upd_ne hk'], fun j hj => absurd hj (Nat.not_lt_zero _), fun j _ => rfl⟩
            rintro Q a0 a1 a2 u ⟨rfl, rfl, k, rfl, k1, u1, u2, u3, u4, u5⟩ ih
            have I0 : ∀ k, fI u 0 k = fI y 0 k := fun k => u1.1 0 k id
            have fu : FrTo x u := Fg.trans y2.to (u1.mono (fun _ _ z => z.elim) (fun _ _ z => z) (fun _ _ z => z) (fun _ z => z) (fun _ z => z.elim))
            have N0 : ∀ o, fN u o = fN x o := fun o => by show u.2.2.2.2.2 o = _; rw [fu.2.2.2.2.2]
            have n41 := N0 41
            have n49 := N0 49
            have A41 : fA u 41 = fA x 41 := fu.2.2.2.1 41 (by decide)
            unfold j_Mod_readTold_185
            rw [show (nI k).toInt64 = lN k from nI_l (by omega), lg_cmp_ge, lN_le2 (by omega) (by omega), I0 67, y3]
            by_cases ck : k < m
            · refine br_f (by omega) ?_
              rw [nI_add, show (256 : Int32) * nI i + nI k = nI (256 * i + k) from by rw [show (256 : Int32) = nI 256 from rfl, nI_mul, nI_add]]
              refine ⟨vp_in_nI (by omega) (by omega), vp_in_nI (by omega) (by omega), nm_e ?_⟩
              rw [rA_nI (by omega), A41, hF.2.2.2 _ (by omega), nI_1]
              refine ih _ _ _ _ ⟨rfl, rfl, k + 1, rfl, ck, Fg.trans u1 (Fg.a (Or.inr rfl)), u2, u3, fun j hj => ?_, fun j hj => ?_⟩ (by rw [nI_clamp (by omega), nI_clamp (by omega)]; omega)
              · rw [gA_at, nI_clamp (by omega)]
                by_cases e : j = k
                · rw [e, upd_at]
                · rw [upd_ne (by omega)]; exact u4 j (by omega)
              · rw [gA_at, nI_clamp (by omega), upd_ne (by omega)]; exact u5 j hj
            · have ek : k = m := by omega
              subst ek
              refine br_t (Nat.le_refl _) ?_
              rw [lN_i, nI_add]
              refine nm_e (pk _ _ _ et (Fg.trans fu (Fg.i ⟨rfl, by decide⟩)) ((gI_ne (by decide)).trans ((I0 69).trans y4)) gI_at ⟨fun z => absurd c3 z, fun _ => ⟨by show (txs T q k).length ≤ _; rw [txs_len]; exact c, by show fA u 48 i = nI (txs T q k).length; rw [txs_len]; exact u2, fun j hj => ?_⟩⟩ (fun k' hk' hk2 => ⟨?_, ?_, fun j hj => ?_⟩))
              · have hj : j < (txs T q k).length := hj
                rw [txs_len] at hj
                show fA u 49 _ = (txs T q k).getD j 0
                rw [txs_at hj]; exact u4 j hj
              · show u.2.2.2.2.1 47 k' = _
                rw [u1.2.2.2.2.1 47 id]; show y.2.2.2.2.1 47 k' = _; rw [y2.2.2.2.2.1 47 id]
              · show fA u 48 k' = _
                rw [u3 k' hk']; show y.2.2.2.1 48 k' = _; rw [y2.2.2.2.1 48 id]
              · show fA u 49 _ = _
                rw [u5 _ (by omega)]; show y.2.2.2.1 49 _ = _; rw [y2.2.2.2.1 49 id]
          · rw [if_pos (by omega)] at et
            have := st2 (setI y 0 69 1) (lN m) 1 ⟨gI_at, by decide, by decide⟩ et (Fg.trans y2.to (Fg.i ⟨rfl, by decide⟩))
            unfold j_Mod_readTold_139 at this
            exact br_f c1 (nm_e (this.1 (Flt.ne ⟨gI_at, by decide, by decide⟩)))
    · have et : tld T ty st p = (match vrd T st p with | .error e => .error e | .ok (z, q) => if ty = 1 ∧ ¬ inI (uz z) then .error 7 else .ok ((uz z, []), q)) := by unfold tld; rw [if_neg c0, if_neg c3]; rfl
      have hty12 : ty = 1 ∨ ty = 2 := by omega
      refine ⟨fun z => absurd (nI_inj (b := 3) (by omega) (by decide) z) c3, fun _ => ?_⟩
      refine s_vrd hF h0 hp hps hst (fun e y y1 y2 y3 => ?_) (fun m q y y1 y2 y3 y4 => ?_)
      · have n47 : fN y 47 = 2 := (y2.fi hF).1 47
        rw [show (0 : Int64) = lN 0 from rfl]
        refine s_uz (by decide) ⟨vp_in_nI (by omega) (by omega), nm_e ⟨fun _ => pe e _ (by rw [et, y1]) (Fg.trans y2.to (Fg.l rfl)) y3, fun z => absurd z y3.ne⟩⟩
      · have n47 : fN y 47 = 2 := (y2.fi hF).1 47
        obtain ⟨v1, v2, v3⟩ := vrd_ok hT y1
        rw [y1] at et
        simp only at et
        refine s_uz v1 ⟨vp_in_nI (by omega) (by omega), nm_e ⟨fun z => absurd y4 z, fun _ => ⟨vp_in_nI (by show _ < fN y 47; omega) (by show fN y 47 < _; omega), ?_⟩⟩⟩
        have ry : rL (setL y 47 (nI i) (uz m)) 47 (nI i) = uz m := by rw [rL_nI (by omega)]; exact o47 _ _
        rw [ry]
        have fz : FrTo x (setL y 47 (nI i) (uz m)) := Fg.trans y2.to (Fg.l rfl)
        refine s_isOne (ty := ty) ((y2.1 0 38 (by decide)).trans h38) hty12 ?_
        by_cases c1 : ty = 1 ∧ ¬ inI (uz m)
        · rw [if_pos c1] at et ⊢
          exact ⟨fun z => absurd rfl z, fun _ => nm_e (pe 7 _ et (Fg.trans fz (Fg.i ⟨rfl, by decide⟩)) ⟨gI_at, by decide, by decide⟩)⟩
        · rw [if_neg c1] at et ⊢
          refine ⟨fun _ => pk _ q _ et fz y4 y3 ⟨fun _ => o47 _ _, fun z => absurd z c3⟩ (fun k hk hk2 => ⟨?_, ?_, fun j hj => ?_⟩), fun z => absurd z (by decide)⟩
          · rw [o47n _ _ _ hk]; show y.2.2.2.2.1 47 k = _; rw [y2.2.2.2.2.1 47 id]
          · show y.2.2.2.1 48 k = _; rw [y2.2.2.2.1 48 id]
          · show y.2.2.2.1 49 _ = _; rw [y2.2.2.2.1 49 id]
end
