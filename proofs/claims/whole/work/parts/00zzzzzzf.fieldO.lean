/-! a field of a file's schema is read, model -/
abbrev isNmF (nm : List Int32) : Prop := 0 < nm.length ∧ nm.length ≤ 16 ∧ ∀ i, i < nm.length → ltr (nm.getD i 0) ∨ (0 < i ∧ (dgt (nm.getD i 0) ∨ nm.getD i 0 = 95))
abbrev plcd (F : List SFd) (g : Nat) : Prop := g = 0 ∨ (g ≤ F.length ∧ fTy F (g - 1) = 4 ∧ dsc F (g - 1) (F.length - 1))
def grI (g : Nat) : Int32 := if g = 0 then -1 else nI (g - 1)
def fdO (T : Nat → Nat) (F : List SFd) (st p : Nat) : Rd (List SFd) := match fxd T 1 st p with
  | .error e => .error e
  | .ok (k, q) => match vrd T st q with
    | .error e => .error e
    | .ok (g, q1) => match vrd T st q1 with
      | .error e => .error e
      | .ok (m, q2) => if st < q2 + m then .error 1 else if 14 < k ∨ ¬ plcd F g ∨ ¬ isNmF (txs T q2 m) then .error 15 else if hasN F (grI g) (txs T q2 m) = true ∨ mayF F (nI (k / 3)) (grI g) = false then .error 15 else .ok (F ++ [(nI (k % 3), nI (k / 3), grI g, txs T q2 m)], q2 + m)
def FrSo (x y : St) : Prop := (∀ o k, ¬ (o = 0 ∧ (k = 67 ∨ k = 69)) → y.1 o k = x.1 o k) ∧ (∀ a i, (3 ≤ a → a ≤ 11 → i < limS a) → y.2.2.2.1 a i = x.2.2.2.1 a i) ∧ y.2.1 = x.2.1 ∧ y.2.2.1 = x.2.2.1 ∧ y.2.2.2.2 = x.2.2.2.2
section
variable {x y : St} {F : List SFd} {T : Nat → Nat} {n st p : Nat}
theorem FrSo.refl (x : St) : FrSo x x := ⟨fun _ _ _ => rfl, fun _ _ _ => rfl, rfl, rfl, rfl⟩
theorem FrSo.trans {z : St} (h : FrSo x y) (k : FrSo y z) : FrSo x z :=
  ⟨fun o i c => (k.1 o i c).trans (h.1 o i c), fun a i c => (k.2.1 a i c).trans (h.2.1 a i c), k.2.2.1.trans h.2.2.1, k.2.2.2.1.trans h.2.2.2.1, k.2.2.2.2.trans h.2.2.2.2⟩
theorem FrRd.so (f : FrRd x y) : FrSo x y := by
  obtain ⟨f1, f2, f3, f4, f5, f6⟩ := f
  refine ⟨fun o k c => f1 o k c, fun a i _ => by rw [f4 a id], ?_, ?_, ?_⟩
  · funext o k; exact f2 o k id
  · funext o k; exact f3 o k id
  · exact Prod.ext (funext fun a => f5 a id) f6
theorem FrSo.i {k : Nat} {v : Int32} (h : k = 67 ∨ k = 69) : FrSo x (setI x 0 k v) := FrRd.so (Fg.i ⟨rfl, h⟩)
theorem FrSo.fi (f : FrSo x y) (h : FiM x T n) : FiM y T n := by
  refine h.cg ?_ (fun o => by show y.2.2.2.2.2 o = x.2.2.2.2.2 o; rw [f.2.2.2.2])
  funext i
  exact f.2.1 41 i (fun _ z => absurd z (by decide))
theorem FrSo.ad {kd ty g : Int32} {r fr m N C : Nat} (hN : N < 128) (hC : C ≤ 64) : FrSo x (adF x kd ty g r fr m N C) := by
  have f := FrS.ad (x := x) (kd := kd) (ty := ty) (g := g) (r := r) (fr := fr) (n := m) hN hC
  exact ⟨fun o k _ => by rw [adF_I], f.2.1, f.2.2.1, f.2.2.2.1, f.2.2.2.2⟩
theorem k15 : ∀ k, k < 15 → nI k / 3 = nI (k / 3) ∧ nI k - nI k / 3 * 3 = nI (k % 3) ∧ (nI (k % 3) = 0 ∨ nI (k % 3) = 1 ∨ nI (k % 3) = 2) ∧ 0 ≤ nI (k / 3) ∧ nI (k / 3) ≤ 4 := by decide +kernel
theorem plcd_gIn {g : Nat} (h : plcd F g) : gIn F (grI g) := by
  unfold grI
  rcases h with z | ⟨z1, z2, z3⟩
  · rw [if_pos z]; exact Or.inl rfl
  · by_cases c : g = 0
    · rw [if_pos c]; exact Or.inl rfl
    · rw [if_neg c]
      exact Or.inr ⟨g - 1, by omega, rfl, z2, z3⟩
theorem s_openField {post : St → Prop} (hF : FiM x T n) (hw : WfS F) (hR : RepM x 2 F) (h0 : fI x 0 69 = 0) (hp : fI x 0 67 = nI p) (hps : p ≤ st) (hst : st ≤ n)
    (pe : ∀ e y, fdO T F st p = .error e → FrSo x y → Flt y e → RepM y 2 F → post y)
    (pk : ∀ F' q y, fdO T F st p = .ok (F', q) → FrSo x y → fI y 0 69 = 0 → fI y 0 67 = nI q → RepM y 2 F' → WfS F' → p + 4 ≤ q → q ≤ st → F'.length = F.length + 1 → post y) : wp_Mod_openField post (nI st) x := by
  have hn := hF.2.1
  have hT := hF.2.2.1
  have hFl := hw.1
  have rep : ∀ {u : St}, (∀ a, fA u a = fA x a) → RepM u 2 F := fun {u} h => by
    unfold RepM
    rw [h, h, h, h, h, h, h, h, h]
    exact hR
  have repR : ∀ {u : St}, FrRd x u → RepM u 2 F := fun f => rep (fun a => f.2.2.2.1 a id)
  -- behind a fault of the numbers
  have F1 : ∀ (u : St) e l2 l3 l5 s0, Flt u e → fdO T F st p = .error e → FrRd x u → j_Mod_openField_47 post (nI st) l2 l3 l5 s0 u := fun u e l2 l3 l5 s0 hf he hu => by
    unfold j_Mod_openField_47
    exact s_flt hf.ne ⟨fun z => absurd z hf.ne, fun _ => pe e u he hu.so hf (repR hu)⟩
  unfold wp_Mod_openField
  rw [show (1 : Int32) = nI 1 from rfl]
  refine s_fxd hF h0 hp hps hst (by decide) (fun e u u1 u2 u3 => ?_) (fun k q u u1 u2 u3 u4 => ?_)
  · have he : fdO T F st p = .error e := by unfold fdO; rw [u1]
    refine nm_e (s_vrd0 u3.ne (s_vrd0 u3.ne ?_))
    unfold j_Mod_openField_42
    exact ⟨fun _ => F1 u e _ _ _ _ u3 he u2, fun _ => ⟨fun _ => F1 u e _ _ _ _ u3 he u2, fun _ => F1 u e _ _ _ _ u3 he u2⟩⟩
  · have fo := fxd_ok hT u1
    have k256 : k < 256 := fo.2.2
    rw [lN_i]
    refine nm_e ?_
    refine s_vrd (u2.fi hF) u4 u3 fo.2.1 hst (fun e v v1 v2 v3 => ?_) (fun g q1 v v1 v2 v3 v4 => ?_)
    · have he : fdO T F st p = .error e := by unfold fdO; rw [u1]; simp only; rw [v1]
      refine s_vrd0 v3.ne ?_
      unfold j_Mod_openField_42
      exact ⟨fun _ => F1 v e _ _ _ _ v3 he (Fg.trans u2 v2), fun _ => ⟨fun _ => F1 v e _ _ _ _ v3 he (Fg.trans u2 v2), fun _ => F1 v e _ _ _ _ v3 he (Fg.trans u2 v2)⟩⟩
    · have go := vrd_ok hT v1
      have fv : FrRd x v := Fg.trans u2 v2
      refine s_vrd (fv.fi hF) v4 v3 go.2.2 hst (fun e w w1 w2 w3 => ?_) (fun m q2 w w1 w2 w3 w4 => ?_)
      · have he : fdO T F st p = .error e := by unfold fdO; rw [u1]; simp only; rw [v1]; simp only; rw [w1]
        unfold j_Mod_openField_42
        exact ⟨fun _ => F1 w e _ _ _ _ w3 he (Fg.trans fv w2), fun _ => ⟨fun _ => F1 w e _ _ _ _ w3 he (Fg.trans fv w2), fun _ => F1 w e _ _ _ _ w3 he (Fg.trans fv w2)⟩⟩
      · have mo := vrd_ok hT w1
        have fw : FrRd x w := Fg.trans fv w2
        have ef : fdO T F st p = (if st < q2 + m then .error 1 else if 14 < k ∨ ¬ plcd F g ∨ ¬ isNmF (txs T q2 m) then .error 15 else if hasN F (grI g) (txs T q2 m) = true ∨ mayF F (nI (k / 3)) (grI g) = false then .error 15 else .ok (F ++ [(nI (k % 3), nI (k / 3), grI g, txs T q2 m)], q2 + m)) := by
          unfold fdO; rw [u1]; simp only; rw [v1]; simp only; rw [w1]
        rw [w3, nI_sub mo.2.2]
        refine oob_tests (post := True) mo.1 (show (nI (st - q2)).toInt64 = lN (st - q2) from nI_l (by omega)) (by omega) (fun c1 => ?_) (fun c1 => ?_)
        · rw [if_pos (by omega)] at ef
          have fl : Flt (setI w 0 69 1) 1 := ⟨gI_at, by decide, by decide⟩
          unfold j_Mod_openField_42 j_Mod_openField_47
          exact s_fl1 w4 ⟨fun z => absurd z fl.ne, fun _ => pe 1 _ ef (FrSo.trans fw.so (FrSo.i (by decide))) fl (RepM.I (repR fw))⟩
        · rw [if_neg (by omega)] at ef
          unfold j_Mod_openField_47
          refine s_fl0 (br_t w4 (nm_r (e' := nI q2) w3 ?_))
          have e41 : ∀ (z : St), FrSo x z → fN z 41 = 40000 ∧ ∀ i, i < n → fA z 41 i = nI (T i) := fun z hz => ⟨(hz.fi hF).1 41, (hz.fi hF).2.2.2⟩
          -- behind the name
          have B : ∀ l8 l9, ((l8 = 0 ∧ ¬ isNmF (txs T q2 m)) ∨ (l8 = 1 ∧ isNmF (txs T q2 m))) → j_Mod_openField_170 post (nI st) (nI k) (lN g) (lN m) (nI q2) l8 l9 w := fun l8 l9 h8 => by
            unfold j_Mod_openField_170
            refine nm_e ?_
            rw [w3, lN_i, nI_add]
            have fz : FrSo x (setI w 0 67 (nI (q2 + m))) := FrSo.trans fw.so (FrSo.i (by decide))
            have Rz : RepM (setI w 0 67 (nI (q2 + m))) 2 F := RepM.I (repR fw)
            have z67 : fI (setI w 0 67 (nI (q2 + m))) 0 67 = nI (q2 + m) := gI_at
            have z69 : fI (setI w 0 67 (nI (q2 + m))) 0 69 = 0 := (gI_ne (by decide)).trans w4
            generalize setI w 0 67 (nI (q2 + m)) = z at fz Rz z67 z69
            have Fz := fz.fi hF
            have n9 : fN z 9 = 3 := Fz.1 9
            have n4 : fN z 4 = 384 := Fz.1 4
            have n5 : fN z 5 = 384 := Fz.1 5
            refine ⟨vp_in_nI (n := 2) (N := fN z 9) (by omega) (by omega), ?_⟩
            rw [rA2, Rz.1]
            -- with the group known
            have C : ∀ gg pl, ((pl = 0 ∧ ¬ plcd F g) ∨ (pl = 1 ∧ plcd F g ∧ gg = grI g)) → j_Mod_openField_270 post (nI st) (nI k) (lN g) (lN m) (nI q2) l8 gg pl gg z := fun gg pl hpl => by
              have bad : (14 < k ∨ ¬ plcd F g ∨ ¬ isNmF (txs T q2 m)) → j_Mod_openField_289 post (nI st) (nI k) (lN g) (lN m) (nI q2) l8 gg pl z := fun hb => by
                rw [if_pos hb] at ef
                have fl : Flt (setI z 0 69 15) 15 := ⟨gI_at, by decide, by decide⟩
                unfold j_Mod_openField_289 j_Mod_openField_294
                refine s_fl1 z69 ⟨fun _ => ?_, fun y => absurd y fl.ne⟩
                unfold j_Mod_openField_349
                exact ⟨fun _ => pe 15 _ ef (FrSo.trans fz (FrSo.i (by decide))) fl Rz, fun y => absurd y fl.ne⟩
              unfold j_Mod_openField_270
              by_cases ck : 14 < k
              · exact br_t (by (first | omega | (simp (disch := omega) only [Int32.le_iff_toInt_le, Int32.lt_iff_toInt_lt, z_eq, z_in, nI_toInt, z_cl, z_m1, z_sg, z_255, Int32.reduceToInt] <;> omega) | (simp only [Int32.le_iff_toInt_le, Int32.lt_iff_toInt_lt, z_eq, z_in, z_add, z_sub, z_mul, z_neg, z_nI, z_cl, z_sg, z_255, z_lit, Int32.reduceToInt] <;> omega))) (bad (Or.inl ck))
              refine br_f (by (first | omega | (simp (disch := omega) only [Int32.le_iff_toInt_le, Int32.lt_iff_toInt_lt, z_eq, z_in, nI_toInt, z_cl, z_m1, z_sg, z_255, Int32.reduceToInt] <;> omega) | (simp only [Int32.le_iff_toInt_le, Int32.lt_iff_toInt_lt, z_eq, z_in, z_add, z_sub, z_mul, z_neg, z_nI, z_cl, z_sg, z_255, z_lit, Int32.reduceToInt] <;> omega))) ?_
              rcases hpl with ⟨rfl, hn1⟩ | ⟨rfl, hp1, rfl⟩
              · exact br_t rfl (bad (Or.inr (Or.inl hn1)))
              refine br_f (by decide) ?_
              rcases h8 with ⟨rfl, hn2⟩ | ⟨rfl, hp2⟩
              · exact bn_t rfl (bad (Or.inr (Or.inr hn2)))
              refine bn_f (by decide) ?_
              rw [if_neg (by rintro (y | y | y); exact ck y; exact y hp1; exact y hp2)] at ef
              unfold j_Mod_openField_294
              refine s_fl0 ⟨fun y => absurd z69 y, fun _ => ?_⟩
              have hg := plcd_gIn hp1
              have hgo := hg.ok
              have lt : (txs T q2 m).length = m := txs_len
              have m16 : m ≤ 16 := by have := hp2.2.1; omega
              have m0 : 0 < m := by have := hp2.1; omega
              obtain ⟨k1, k2, k3, k4, k5⟩ := k15 k (by omega)
              rw [lN_i, show (2 : Int32) = nI 2 from rfl, k1]
              have h40 := (e41 z fz).1
              have eT : rowL (fA z 41) q2 m = txs T q2 m := by
                symm
                rw [nm_eq]
                refine ⟨lt, fun i hi => ?_⟩
                rw [txs_at hi]
                exact ((e41 z fz).2 _ (by omega)).symm
              refine s_find Fz.1 (by decide) Rz.1 hFl (fun f hf y => by omega) (by omega) (by omega) ?_
              have key : fnd (mtM z 2 (grI g) 41 q2 m) F.length = -1 ↔ hasN F (grI g) (txs T q2 m) = false := by
                rw [fnd_some (by omega), hasN_iff]
                constructor
                · intro y f hf y2
                  have := y f hf
                  rw [← eT] at y2
                  rw [(mtM_iff Rz hw (by omega) hf).mpr y2] at this
                  exact absurd this (by decide)
                · intro y f hf
                  refine bt_f (fun y2 => y f hf ?_)
                  rw [← eT]
                  exact (mtM_iff Rz hw (by omega) hf).mp y2
              -- no room, or the name is there
              have no : (hasN F (grI g) (txs T q2 m) = true ∨ mayF F (nI (k / 3)) (grI g) = false) → j_Mod_openField_339 post (nI st) (nI k) (lN g) (lN m) (nI q2) 1 (grI g) 1 z := fun hb => by
                rw [if_pos hb] at ef
                have fl : Flt (setI z 0 69 15) 15 := ⟨gI_at, by decide, by decide⟩
                unfold j_Mod_openField_339 j_Mod_openField_344 j_Mod_openField_349
                exact s_fl1 z69 ⟨fun _ => pe 15 _ ef (FrSo.trans fz (FrSo.i (by decide))) fl Rz, fun y => absurd y fl.ne⟩
              by_cases cn : hasN F (grI g) (txs T q2 m) = false
              · refine bn_t (key.mpr cn) ?_
                have hu : upS wOne (mP z 2) (grI g) = upS wOne (fPa F) (grI g) := Rz.up hw hgo
                have hub : upS wOne (fPa F) (grI g) ≤ 17 := up17 hw hgo (fun _ => Nat.le_refl _)
                refine s_mayCome Fz.1 Rz.1 Rz.2.1 hw.2.1 (Rz.wf hw) hgo (fun m1 m2 m3 => ?_) (fun y => ?_) (by rw [hu]; omega)
                · have c2 : F.length < 128 ∧ (nI (k / 3) = 4 → upS wOne (fPa F) (grI g) < 16) ∧ (¬ nI (k / 3) = 4 → ncol F < 64) := ⟨m1, fun y => by rw [← hu]; exact m2 y, m3⟩
                  have hmay : mayF F (nI (k / 3)) (grI g) = true := decide_eq_true c2
                  refine bn_f (by decide) ?_
                  rw [if_neg (by rintro (y | y); rw [cn] at y; exact absurd y (by decide); rw [hmay] at y; exact absurd y (by decide))] at ef
                  unfold j_Mod_openField_344
                  refine s_fl0 ?_
                  unfold j_Mod_openField_349
                  refine ⟨fun y => absurd z69 y, fun _ => ?_⟩
                  rw [lN_i, k2, k1]
                  refine s_addField Fz.1 Rz.1 (by omega) Rz.2.1 (by by_cases y : nI (k / 3) = 4; exact Or.inl y; exact Or.inr (m3 y)) m16 (by omega) (by omega) (by decide) ?_
                  have Ra := RepM_add (kd := nI (k % 3)) (ty := nI (k / 3)) (g := grI g) (r := 41) (fr := q2) (n := m) Rz (by omega) hw.2.1 (by by_cases y : nI (k / 3) = 4; exact Or.inl y; exact Or.inr (m3 y)) ⟨by decide, by decide, by decide, by decide, by decide, by decide⟩ m16 (fun f hf => (hw.2.2.2.1 f hf).2.2.2.2)
                  rw [eT] at Ra
                  have Wa := WfS_add hw hg k3 ⟨k4, k5⟩ hmay cn hp2.1 hp2.2.1
                  refine pk _ (q2 + m) _ ef (FrSo.trans fz (FrSo.ad (by omega) hw.2.1)) ?_ ?_ Ra Wa (by omega) (by omega) (by rw [List.length_append]; rfl)
                  · show (adF z _ _ _ _ _ _ _ _).1 0 69 = 0
                    rw [adF_I]; exact z69
                  · show (adF z _ _ _ _ _ _ _ _).1 0 67 = _
                    rw [adF_I]; exact z67
                · have c2 : ¬ (F.length < 128 ∧ (nI (k / 3) = 4 → upS wOne (fPa F) (grI g) < 16) ∧ (¬ nI (k / 3) = 4 → ncol F < 64)) := fun w' => y ⟨w'.1, fun y' => by rw [hu]; exact w'.2.1 y', w'.2.2⟩
                  exact bn_t rfl (no (Or.inr (decide_eq_false c2)))
              · exact bn_f (fun y => cn (key.mp y)) (no (Or.inl (bf_t cn)))
            have start : ∃ v0 : Int32, nI F.length - 1 = v0 ∧ gOk F.length v0 ∧ (∀ h, h < F.length → v0 = nI h → dsc F h (F.length - 1)) ∧ ∀ f, f < F.length → dsc F f (F.length - 1) → ∃ h, h < F.length ∧ v0 = nI h ∧ dsc F f h := by
              refine ⟨_, rfl, ?_⟩
              rcases Nat.eq_zero_or_pos F.length with c0 | c0
              · rw [c0]
                exact ⟨Or.inl rfl, fun h hh => by omega, fun f hf => by omega⟩
              · rw [show (1 : Int32) = nI 1 from rfl, nI_sub (by omega)]
                exact ⟨Or.inr ⟨F.length - 1, by omega, rfl⟩, fun h hh e => by rw [← nI_inj (by omega) (by omega) e]; exact dsc_self hw (by omega), fun f hf hd => ⟨F.length - 1, by omega, rfl, hd⟩⟩
            obtain ⟨v0, ev, s1, s2, s3⟩ := start
            refine nm_r (e' := v0) ev ?_
            refine lp_Mod_openField_192 (fun a0 a1 a2 a3 a4 a5 a6 u => nI st = a0 ∧ nI k = a1 ∧ lN g = a2 ∧ lN m = a3 ∧ nI q2 = a4 ∧ l8 = a5 ∧ z = u ∧ gOk F.length a6 ∧ (∀ h, h < F.length → a6 = nI h → dsc F h (F.length - 1)) ∧ ∀ f, f + 1 = g → f < F.length → dsc F f (F.length - 1) → ∃ h, h < F.length ∧ a6 = nI h ∧ dsc F f h) (fun _ _ _ _ _ _ a6 _ => gM a6) ?_ _ _ _ _ _ _ _ _ ⟨rfl, rfl, rfl, rfl, rfl, rfl, rfl, s1, s2, fun f _ hf hd => s3 f hf hd⟩
            rintro S a0 a1 a2 a3 a4 a5 a6 u' ⟨rfl, rfl, rfl, rfl, rfl, rfl, rfl, hg6, i1, i2⟩ ih
            -- at the end of the way
            have D : (a6 = -1 ∨ ∃ h, h < F.length ∧ a6 = nI h ∧ h + 1 = g) → j_Mod_openField_224 post (nI st) (nI k) (lN g) (lN m) (nI q2) l8 a6 z := fun hend => by
              unfold j_Mod_openField_224 j_Mod_openField_251 j_Mod_openField_255 j_Mod_openField_256
              by_cases cg : g = 0
              · have e0 : lg_cmp (lN g) 0 = 0 := (lg_cmp_eq _ _).mpr (by rw [cg]; rfl)
                refine br_t e0 ⟨fun y => absurd e0 y, fun _ => ?_⟩
                have : grI g = -1 := by unfold grI; rw [if_pos cg]
                have := C (-1) 1 (Or.inr ⟨rfl, Or.inl cg, this.symm⟩)
                unfold j_Mod_openField_270 at this ⊢
                exact this
              · have e0 : ¬ lg_cmp (lN g) 0 = 0 := fun y => cg ((lN0 (by omega)).mp ((lg_cmp_eq _ _).mp y))
                refine br_f e0 ?_
                have neg : ∀ gg, ¬ plcd F g → j_Mod_openField_270 post (nI st) (nI k) (lN g) (lN m) (nI q2) l8 gg 0 gg z := fun gg h => C gg 0 (Or.inl ⟨rfl, h⟩)
                rcases hend with rfl | ⟨h, h1, rfl, h3⟩
                · refine br_t rfl ⟨fun _ => neg _ (fun y => ?_), fun y => absurd y e0⟩
                  rcases y with y | ⟨y1, y2, y3⟩
                  · exact cg y
                  · obtain ⟨h, h1, h2, -⟩ := i2 (g - 1) (by omega) (by omega) y3
                    exact nI_nm1 (by omega) h2.symm
                · refine br_f (nI_nm1 (by omega)) ?_
                  unfold wp_Mod_place
                  dsimp only
                  rw [show (2 : Int32) = nI 2 from rfl, pl_eq]
                  refine ⟨vp_in_nI (by omega) (by omega), ?_⟩
                  rw [rA_nI (by omega), (Rz.2.2.1 h h1).2.1]
                  have eg : grI g = nI h := by unfold grI; rw [if_neg cg, show g - 1 = h by omega]
                  by_cases ct : fTy F h = 4
                  · refine bn_t ct ⟨fun _ => C _ 1 (Or.inr ⟨rfl, Or.inr ⟨by omega, ?_, ?_⟩, eg.symm⟩), fun y => absurd y e0⟩
                    · rw [show g - 1 = h by omega]; exact ct
                    · rw [show g - 1 = h by omega]; exact i1 h h1 rfl
                  · refine bn_f ct ⟨fun _ => neg _ (fun y => ?_), fun y => absurd y e0⟩
                    rcases y with y | ⟨y1, y2, y3⟩
                    · exact cg y
                    · rw [show g - 1 = h by omega] at y2
                      exact ct y2
            unfold j_Mod_openField_192
            rcases hg6 with rfl | ⟨h, hh, rfl⟩
            · exact br_t rfl (D (Or.inl rfl))
            · refine br_f (nI_nm1 (by omega)) ?_
              have e1 : (nI h).toInt64 + 1 = lN (h + 1) := by
                rw [nI_l (by omega)]
                exact (Int64.ofNat_add h 1).symm
              rw [e1]
              by_cases ce : h + 1 = g
              · exact br_t ((lg_cmp_eq _ _).mpr (by rw [ce])) (D (Or.inr ⟨h, hh, rfl, ce⟩))
              · refine br_f (fun y => ce ?_) ?_
                · have := (lg_cmp_eq _ _).mp y
                  have := congrArg uL this
                  rw [uL_lN (by omega), uL_lN (by omega)] at this
                  exact this
                · unfold wp_Mod_place
                  dsimp only
                  rw [show (2 : Int32) = nI 2 from rfl, pl_eq]
                  refine ⟨vp_in_nI (by omega) (by omega), nm_r (e' := fPa F h) (by rw [rA_nI (by omega)]; exact (Rz.2.2.1 h hh).2.2.1) ?_⟩
                  refine ih _ _ _ _ _ _ _ _ ⟨rfl, rfl, rfl, rfl, rfl, rfl, rfl, hw.2.2.1.ok hh, fun u hu hu2 => ?_, fun f f1 f2 f3 => ?_⟩ (gM_lt hw.2.2.1 hh)
                  · rcases hw.2.2.1.2 h hh with y | ⟨y, y1, y2⟩
                    · rw [y] at hu2; exact absurd hu2.symm (nI_nm1 (by omega))
                    · rw [y2] at hu2
                      have := nI_inj (by omega) (by omega) hu2
                      subst this
                      exact dsc_trans hw (dsc_in hw hh y1 y2 (dsc_self hw (by omega))) _ (by omega) (i1 h hh rfl)
                  · obtain ⟨h', h1, h2, h3⟩ := i2 f f1 f2 f3
                    have := nI_inj (by omega) (by omega) h2
                    subst this
                    obtain ⟨y, y1, y2, y3⟩ := dsc_pa hw hh h3 (by omega)
                    exact ⟨y, by omega, y2, y3⟩
          -- the name
          have lt : (txs T q2 m).length = m := txs_len
          have loop : ∀ s, ((s = 0 ∧ ¬ isNmF (txs T q2 m)) ∨ (s = 1 ∧ 0 < m ∧ m ≤ 16)) → j_Mod_openField_86 post (nI st) (nI k) (lN g) (lN m) (nI q2) s w := fun s hs => by
            unfold j_Mod_openField_86
            refine lp_Mod_openField_91 (fun a0 a1 a2 a3 a4 a5 a6 u => nI st = a0 ∧ nI k = a1 ∧ lN g = a2 ∧ lN m = a3 ∧ nI q2 = a4 ∧ w = u ∧ ∃ i, nI i = a6 ∧ i ≤ 17 ∧ ((a5 = 0 ∧ ¬ isNmF (txs T q2 m)) ∨ (a5 = 1 ∧ 0 < m ∧ m ≤ 16 ∧ i ≤ m ∧ ∀ j, j < i → ltr ((txs T q2 m).getD j 0) ∨ (0 < j ∧ (dgt ((txs T q2 m).getD j 0) ∨ (txs T q2 m).getD j 0 = 95))))) (fun _ _ _ _ _ _ a6 _ => 18 - a6.toNatClampNeg) ?_ _ _ _ _ _ _ _ _ ⟨rfl, rfl, rfl, rfl, rfl, rfl, 0, rfl, by decide, by
              rcases hs with y | y
              · exact Or.inl y
              · exact Or.inr ⟨y.1, y.2.1, y.2.2, Nat.zero_le _, fun j hj => absurd hj (Nat.not_lt_zero _)⟩⟩
            rintro S a0 a1 a2 a3 a4 a5 a6 u' ⟨rfl, rfl, rfl, rfl, rfl, rfl, i, rfl, i1, hi⟩ ih
            unfold j_Mod_openField_91
            have cmp : 0 ≤ lg_cmp (nI i).toInt64 (lN m) ↔ ¬ (lN i < lN m) := by
              rw [nI_l (by omega), lg_cmp_ge, Int64.not_lt]
            rcases hi with ⟨rfl, hn1⟩ | ⟨rfl, m0, m16, im, hj⟩
            · exact ⟨fun _ => B _ _ (Or.inl ⟨rfl, hn1⟩), fun _ => ⟨fun _ => B _ _ (Or.inl ⟨rfl, hn1⟩), fun y => absurd rfl y⟩⟩
            · rw [cmp, lN_lt2 (by omega) (by omega)]
              by_cases ci : i < m
              · refine br_f (fun y => y ci) (br_f (by decide) ?_)
                have e41' := e41 w fw.so
                rw [nI_add]
                have v41 : vp_in (nI (q2 + i)) (fN w 41) := vp_in_nI (by omega) (by omega)
                have r41 : rA w 41 (nI (q2 + i)) = (txs T q2 m).getD i 0 := by rw [rA_nI (by omega), txs_at ci]; exact e41'.2 _ (by omega)
                rw [r41]
                have yes : (ltr ((txs T q2 m).getD i 0) ∨ (0 < i ∧ (dgt ((txs T q2 m).getD i 0) ∨ (txs T q2 m).getD i 0 = 95))) → j_Mod_openField_157 post S (nI st) (nI k) (lN g) (lN m) (nI q2) 1 (nI i) w := fun hy => by
                  unfold j_Mod_openField_157 j_Mod_openField_162
                  rw [nI_1]
                  refine ih _ _ _ _ _ _ _ _ ⟨rfl, rfl, rfl, rfl, rfl, rfl, i + 1, rfl, by omega, Or.inr ⟨rfl, m0, m16, by omega, fun j hj' => ?_⟩⟩ (by rw [nI_clamp (by omega), nI_clamp (by omega)]; omega)
                  by_cases e : j = i
                  · rw [e]; exact hy
                  · exact hj j (by omega)
                have nay : ¬ (ltr ((txs T q2 m).getD i 0) ∨ (0 < i ∧ (dgt ((txs T q2 m).getD i 0) ∨ (txs T q2 m).getD i 0 = 95))) → j_Mod_openField_161 post S (nI st) (nI k) (lN g) (lN m) (nI q2) 1 (nI i) w := fun hy => by
                  unfold j_Mod_openField_161 j_Mod_openField_162
                  rw [nI_1]
                  exact ih _ _ _ _ _ _ _ _ ⟨rfl, rfl, rfl, rfl, rfl, rfl, i + 1, rfl, by omega, Or.inl ⟨rfl, fun y => hy (y.2.2 i (by omega))⟩⟩ (by rw [nI_clamp (by omega), nI_clamp (by omega)]; omega)
                refine ⟨v41, s_isLetter ?_⟩
                by_cases cl : ltr ((txs T q2 m).getD i 0)
                · rw [if_pos cl]
                  exact bn_f (by decide) (yes (Or.inl cl))
                · rw [if_neg cl]
                  refine bn_t rfl ?_
                  by_cases c0 : i = 0
                  · exact br_t (by rw [c0]; decide) (nay (fun y => y.elim cl (fun y => by omega)))
                  · refine br_f (by (first | omega | (simp (disch := omega) only [Int32.le_iff_toInt_le, Int32.lt_iff_toInt_lt, z_eq, z_in, nI_toInt, z_cl, z_m1, z_sg, z_255, Int32.reduceToInt] <;> omega) | (simp only [Int32.le_iff_toInt_le, Int32.lt_iff_toInt_lt, z_eq, z_in, z_add, z_sub, z_mul, z_neg, z_nI, z_cl, z_sg, z_255, z_lit, Int32.reduceToInt] <;> omega))) ⟨v41, s_isDigit ?_⟩
                    rw [r41]
                    by_cases cd : dgt ((txs T q2 m).getD i 0)
                    · rw [if_pos cd]
                      exact bn_f (by decide) (yes (Or.inr ⟨by omega, Or.inl cd⟩))
                    · rw [if_neg cd]
                      refine bn_t rfl ⟨v41, ?_⟩
                      by_cases cu : (txs T q2 m).getD i 0 = 95
                      · exact bn_t cu (yes (Or.inr ⟨by omega, Or.inr cu⟩))
                      · exact bn_f cu (nay (fun y => y.elim cl (fun y => y.2.elim cd cu)))
              · refine br_t (fun y => ci y) (B _ _ (Or.inr ⟨rfl, by omega, by omega, fun j hj' => hj j (by omega)⟩))
          unfold j_Mod_openField_85
          have cle : lg_cmp (lN m) 0 ≤ 0 ↔ lN m ≤ 0 := by rw [lg_cmp_le]
          by_cases c0 : m = 0
          · refine br_t (by rw [cle, c0]; decide) (loop 0 (Or.inl ⟨rfl, fun y => ?_⟩))
            have := y.1
            omega
          · refine br_f (fun y => ?_) ?_
            · rw [cle, show (0 : Int64) = lN 0 from rfl, lN_le2 (by omega) (by decide)] at y
              omega
            · have cgt : 0 < lg_cmp (lN m) 16 ↔ 16 < m := by
                have a := lg_cmp_le (lN m) 16
                rw [show (16 : Int64) = lN 16 from rfl, lN_le2 (by omega) (by decide)] at a
                constructor
                · intro y
                  rcases Nat.lt_or_ge 16 m with z | z
                  · exact z
                  · exact absurd y (Int32.not_lt.mpr (a.mpr z))
                · intro y
                  have : ¬ lg_cmp (lN m) (lN 16) ≤ 0 := fun z => by have := a.mp z; omega
                  exact Int32.not_le.mp this
              by_cases c16 : 16 < m
              · exact br_t (cgt.mpr c16) (loop 0 (Or.inl ⟨rfl, fun y => by have := y.2.1; omega⟩))
              · exact br_f (fun y => c16 (cgt.mp y)) (loop 1 (Or.inr ⟨rfl, by omega, by omega⟩))
end
