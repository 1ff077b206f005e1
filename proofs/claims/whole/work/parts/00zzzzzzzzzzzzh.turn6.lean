/-! query and run -/
section
variable {x x' y y' : St} {κ : Nat → Nat} {l1 l2 l3 l4 l5 : Int32}
theorem AnM.kq {on : Bool} {la : Nat} {H : List SFd} {G : List Nat} {CK : List (List PgW)} {Pl : List PV} {P : Qy} (h : AnM y on la H G CK Pl P) (e1 : ∀ k, k = 119 ∨ k = 121 ∨ k = 161 ∨ k = 163 ∨ k = 164 → fI y' 0 k = fI y 0 k) (e2 : ∀ a, a = 104 ∨ 109 ≤ a ∧ a ≤ 112 → fA y' a = fA y a) (e3 : fL y' 114 = fL y 114) (hk : on = true → KqM y la P → KqM y' la P) : AnM y' on la H G CK Pl P := by
  refine ⟨(e1 121 (by omega)).trans h.1, fun ho => ?_⟩
  obtain ⟨h1, h2, h3, h4, h5, h6⟩ := h.2 ho
  refine ⟨h1, (e1 119 (by omega)).trans h2, hk ho h3, h4, ?_, h6⟩
  unfold RaM at *
  rw [e1 163 (by omega), e1 164 (by omega), e1 161 (by omega), e2 104 (by omega), e2 109 (by omega), e2 110 (by omega), e2 111 (by omega), e2 112 (by omega), e3]
  exact h5
theorem AwP.kc {op on : Bool} {H : List SFd} {G : List Nat} {CK : List (List PgW)} {b : Nat} {Pl : List PV} {P : Qy} {a c la : Nat} (h : AwP x y op H G CK b Pl on P a c la) (r : ∀ k, k = 12 ∨ k = 13 → fR x' 0 k = fR x 0 k) (hI : ∀ k, fI x' a k = fI x a k) (hA : ∀ q, a + 1 ≤ q → q ≤ a + 3 → fA x' q = fA x q) (hl : fL x' (a + 4) = fL x (a + 4)) (h82 : fA x' 82 = fA x 82) (hM : AnM y' on la H G CK Pl P) : AwP x' y' op H G CK b Pl on P a c la := by
  obtain ⟨h1, h2, h3, h4, h5, h6, h7⟩ := h
  exact ⟨h1, (r 12 (by omega)).trans h2, (r 13 (by omega)).trans h3, h4, h5, h6.k hI hA hl h82, hM⟩
theorem QuP.kc {op hq : Bool} {H : List SFd} {Q : Qy} {qo qs kp : Nat} (h : QuP x y op H hq Q qo qs kp) (r : ∀ k, k = 10 ∨ k = 11 → fR x' 0 k = fR x 0 k) (hI : ∀ k, fI x' qo k = fI x qo k) (hA : ∀ q, qo + 1 ≤ q → q ≤ qo + 10 → fA x' q = fA x q) (hl : fL x' (qo + 9) = fL x (qo + 9)) (h120 : fI y' 0 120 = fI y 0 120) (hM : hq = true → fI y' 0 117 = fI y 0 117 ∧ (KqM y kp Q → KqM y' kp Q)) : QuP x' y' op H hq Q qo qs kp := by
  obtain ⟨h1, h2, h3, h4, h5, h6, h7⟩ := h
  refine ⟨h1, (r 10 (by omega)).trans h2, (r 11 (by omega)).trans h3, (hI 0).trans h4, h120.trans h5, h6, fun hh => ?_⟩
  obtain ⟨k1, k2, k3, k4, k5, k6⟩ := h7 hh
  exact ⟨k1, k2.cg hI hA hl, (hI 7).trans k3, k4, (hM hh).1.trans k5, (hM hh).2 k6⟩
theorem J_query (h : Inv κ x y) : wp_V_query (fun r x' => wp_Mod_query (fun r' y' => r = r' ∧ Inv κ x' y') y) 0 x := by
  obtain ⟨b1, b2, ⟨t, i, f, w, cc, n, m, U, T, B, h3⟩, b4, b5, ⟨op, H, G, K, CK, b, dE, Pl, hq, Q, qo, qs, kp, on, P, a, c, la, h6, h7, h8⟩, b7, b8⟩ := h
  have h3' := h3
  obtain ⟨⟨-, ti, -, -⟩, -, ⟨-, c2, -, -⟩, -, -, ⟨d1, d2, q, d3, d4, d5⟩, -, -, -, -, gI, -, -⟩ := h3
  obtain ⟨qr, -, q31⟩ := b1.row ti.s d3
  have h6' := h6
  have h7' := h7
  have h8' := h8
  obtain ⟨p1, p2, p3, p4⟩ := h6
  obtain ⟨u1, u2, u3, u4, u5, u6, u7⟩ := h7
  obtain ⟨v1, v2, v3, v4, v5, v6, v7⟩ := h8
  have n31 : n < 2 ^ 31 := by have := gI.2.1; omega
  have qq : QId qo ∧ QId qs ∧ qo ≠ qs := by unfold QId; omega
  have q2 : (106 ≤ qs ∧ qs ≤ 117) ∧ (106 ≤ qo ∧ qo ≤ 117) ∧ (qo + 11 ≤ qs ∨ qs + 11 ≤ qo) := by omega
  have a2 : (128 ≤ a ∧ a ≤ 137) := by omega
  have tiN := ti
  unfold Tin at tiN
  -- what stays
  have keep : ∀ x' y', FqV i qs x x' → fI x' i 1 = 0 → fI x' i 2 = 0 → FrQy y y' → fI y' 0 4 = 0 → OqJ x' y' → Inv κ x' y' := by
    intro x' y' fx z1 z2 fy y4 jq
    have fm : MkM (fun k => k = 0 ∨ k = 4 ∨ 15 ≤ k ∧ k ≤ 17 ∨ k = 25 ∨ k = 117 ∨ k = 118 ∨ k = 120 ∨ k = 139 ∨ k = 140) (fun a => a = 16 ∨ 79 ≤ a ∧ a ≤ 92 ∨ a = 94 ∨ a = 95) (fun a => a = 93) y y' := fy
    have hsn : ∀ q, skRow q → ¬ (qs + 1 ≤ q ∧ q ≤ qs + 10) := fun q hq => by have := sk_st hq; omega
    exact ⟨b1.fg fx (fun s hs z => by unfold SnkId at hs; omega) (fun s hs z => by unfold SnkId at hs; omega) hsn, b2.k (BaM'.f fm (by omega) (by omega)), ⟨t, i, f, w, cc, 0, m, U, T, B, h3'.use (IoX.f b1 fx (fun k hk z => by omega) (by omega) (fun s hs z => by unfold Tin at hs; omega) (fun s k hs hk z => by unfold Tin at hs; omega) hsn) z1 z2 ⟨fun k hk => fm.ii (by omega), y4, fun a ha => fm.aa (by omega)⟩⟩, b4.k (WrC.f fx (fun k hk z => by omega) (by omega) (fun o k ho hk z => by omega)), b5.k (ScC'.f fx (fun k hk z => by omega) (fun o k ho z => by omega) (fun a l1 l2 z => by omega) (by omega)) (ScM'.f fm (fun k hk z => by omega) (fun a ha z => by omega) (by omega)), jq, b7.k (FtC'.f fx (by omega) (by omega)) (FtM'.f fm (by omega) (by omega)), b8.k (OuC.f b1 fx (by omega) (fun k hk z => by omega) hsn) (OuM.f fm (by omega) (by omega))⟩
  have opn : ∀ {y'}, FrQy y y' → OpN y y' := fun {y'} fy => ⟨fun r => (congrFun fy.2.2.2.2.2 r).trans (b2.1 r), fun k hk => fy.ii (by omega), fun r j l1 l2 _ _ => by rw [fy.aa (by omega)], fun r hr => fy.aa (by omega), fy.ll (by omega)⟩
  have opk : ∀ {x' y'}, FqV i qs x x' → FrQy y y' → OpP x' y' op H G K CK b dE Pl := fun fx fy => h6'.k (fun o k ho => fx.ii (by omega)) (fun r l1 l2 => fx.aa (by omega)) (fun r l1 l2 => fx.ll (by omega)) (opn fy)
  have awk : ∀ {x' y'}, FqV i qs x x' → FrQy y y' → (on = true → KqM y la P → KqM y' la P) → AwP x' y' op H G CK b Pl on P a c la := fun {x' y'} fx fy hk => h8'.kc (fun k hk => f_r fx (by omega)) (fun k => fx.ii (by omega)) (fun r l1 l2 => fx.aa (by omega)) (fx.ll (by omega)) (fx.aa (by omega)) (v7.kq (fun k hk => fy.ii (by omega)) (fun r hr => fy.aa (by omega)) (fy.ll (by omega)) hk)
  have quk : ∀ {x' y'}, FqV i qs x x' → FrQy y y' → fR x' 0 10 = some qo → fR x' 0 11 = some qs → fI y' 0 117 = fI y 0 117 → fI y' 0 120 = fI y 0 120 → (hq = true → KqM y kp Q → KqM y' kp Q) → QuP x' y' op H hq Q qo qs kp := fun {x' y'} fx fy r10 r11 e117 e120 hk => h7'.kc (fun k hk => by rcases hk with rfl | rfl; exact r10.trans u2.symm; exact r11.trans u3.symm) (fun k => fx.ii (by omega)) (fun r l1 l2 => fx.aa (by omega)) (fx.ll (by omega)) e120 (fun hh => ⟨e117, hk hh⟩)
  have same : ∀ {y' : St} {s : Nat} {Z : Qy}, (∀ k, k = 79 ∨ 80 ≤ k → fA y' k = fA y k) → fL y' 93 = fL y 93 → KqM y s Z → KqM y' s Z := fun {y' s Z} e1 e2 h => ⟨SqM.cg h.1 (fun r l1 l2 => e1 r (by omega)) e2, by rw [e1 92 (by omega)]; exact h.2.1, h.2.2⟩
  have h119 : on = true → fI y 0 119 = nI la := fun ho => (v7.2 ho).2.1
  have h117 : hq = true → fI y 0 117 = nI kp := fun hh => (u7 hh).2.2.2.2.1
  have sq := fun {post : Int32 → St → Prop} pN pL pE pO => s_query (post := post) (T := T) (n := n) (F := H) (o := op) (hq := hq) (an := on) (kp := kp) (la := la) b2.1 gI p2 (fun ho => ⟨(p4 ho).1.2.1, (p4 ho).2.2.1.1⟩) h117 h119 u6 v4 u5 v7.1 pN pL pE pO
  refine k_query (T := T) (n := n) (F := H) b1.1 c2 ti.s d1 d3 qr d4 q31 gI.2.1 d5 u2 u3 qq.1 qq.2.1 qq.2.2 p1 (fun ho => ⟨(p4 ho).1.2.1, (p4 ho).1.1⟩) (fun ho x' fx z1 z2 r10 r11 xo => ?_) (fun ho hl x' fx z1 z2 r10 r11 xo => ?_) (fun ho hl he x' fx z1 z2 r10 r11 xo => ?_) (fun ho hl he x' fx z1 z2 r10 r11 xs x7 xo => ?_)
  · refine sq (fun _ y' fy ya yl y0 y4 y117 y120 => ⟨rfl, keep x' y' fx z1 z2 fy y4 ⟨op, H, G, K, CK, b, dE, Pl, hq, Q, qo, qs, kp, on, P, a, c, la, opk fx fy, quk fx fy r10 r11 y117 y120 (fun _ => same ya yl), awk fx fy (fun _ => same ya yl)⟩⟩) (fun ho' => ?_) (fun ho' => ?_) (fun ho' => ?_)
    · rw [ho] at ho'; exact nomatch ho'
    · rw [ho] at ho'; exact nomatch ho'
    · rw [ho] at ho'; exact nomatch ho'
  · refine sq (fun ho' => ?_) (fun _ _ y' fy ya yl y0 y4 y117 y120 => ⟨rfl, keep x' y' fx z1 z2 fy y4 ⟨op, H, G, K, CK, b, dE, Pl, hq, Q, qo, qs, kp, on, P, a, c, la, opk fx fy, quk fx fy r10 r11 y117 y120 (fun _ => same ya yl), awk fx fy (fun _ => same ya yl)⟩⟩) (fun _ hl' => absurd hl' (by omega)) (fun _ hl' => absurd hl' (by omega))
    rw [ho] at ho'; exact nomatch ho'
  · refine sq (fun ho' => ?_) (fun _ hl' => absurd hl' (by omega)) (fun _ _ _ s y' s3 sk sl fy kq y0 y4 y117 y120 => ⟨rfl, keep x' y' fx z1 z2 fy y4 ⟨op, H, G, K, CK, b, dE, Pl, hq, Q, qo, qs, kp, on, P, a, c, la, opk fx fy, quk fx fy r10 r11 y117 y120 (fun hh k => kq kp Q (fun z => sk hh z.symm) u6 k.2.2 k), awk fx fy (fun hh k => kq la P (fun z => sl hh z.symm) v4 k.2.2 k)⟩⟩) (fun _ _ he' => absurd he' he)
    rw [ho] at ho'; exact nomatch ho'
  · refine sq (fun ho' => ?_) (fun _ hl' => absurd hl' (by omega)) (fun _ _ he' => absurd he he') (fun _ _ _ s y' s3 sk sl fy kq y0 y4 yk y117 y120 => ⟨rfl, keep x' y' fx z1 z2 fy y4 ⟨op, H, G, K, CK, b, dE, Pl, true, (qry T n H).2.2, qs, qo, s, on, P, a, c, la, opk fx fy, ⟨by omega, r10, r11, xo, y120, s3, fun _ => ⟨ho, xs, x7, qry_w (p4 ho).1.2.1 n31 he, y117, yk⟩⟩, awk fx fy (fun hh k => kq la P (fun z => sl hh z.symm) v4 k.2.2 k)⟩⟩)
    rw [ho] at ho'; exact nomatch ho'
theorem J_run (h : Inv κ x y) : wp_V_run (fun r x' => wp_Mod_run (fun r' y' => r = r' ∧ Inv κ x' y') y) 0 x := by
  have h0 := h.m0
  obtain ⟨b1, b2, b3, b4, b5, ⟨op, H, G, K, CK, b, dE, Pl, hq, Q, qo, qs, kp, on, P, a, c, la, h6, h7, h8⟩, b7, b8⟩ := h
  obtain ⟨i1, i2, i3⟩ := h8.id
  have h6' := h6
  have h7' := h7
  have h8' := h8
  obtain ⟨p1, p2, p3, p4⟩ := h6
  obtain ⟨u1, u2, u3, u4, u5, u6, u7⟩ := h7
  obtain ⟨v1, v2, v3, v4, v5, v6, v7⟩ := h8
  have q2 : (106 ≤ qo ∧ qo ≤ 117) ∧ QId qo := by unfold QId; omega
  have a2 : (128 ≤ a ∧ a ≤ 137) ∧ (128 ≤ c ∧ c ≤ 137) ∧ (a + 9 ≤ c ∨ c + 9 ≤ a) := by omega
  -- what stays
  have keep : ∀ x' y', FrVr c c x x' → FrRun y y' → OqJ x' y' → Inv κ x' y' := by
    intro x' y' fx fy jq
    have fm : MkM (fun k => k = 0 ∨ k = 119 ∨ k = 121 ∨ 160 ≤ k ∧ k ≤ 166) (fun a => 96 ≤ a ∧ a ≤ 112) (fun a => a = 113 ∨ a = 114) y y' := fy
    have hsn : ∀ q, skRow q → ¬ (c + 1 ≤ q ∧ q ≤ c + 8) := fun q hq => by have := sk_st hq; omega
    exact ⟨b1.fg fx (fun s hs z => by unfold SnkId at hs; omega) (fun s hs z => by unfold SnkId at hs; omega) hsn, b2.k (BaM'.f fm (by omega) (by omega)), b3.k (IoC.f b1 fx (fun k hk z => by omega) (by omega) (fun s hs z => by unfold Tin at hs; omega) (fun s k hs hk z => by unfold Tin at hs; omega) hsn) (IoM.f fm (fun k hk z => by omega) (fun a ha z => by omega)), b4.k (WrC.f fx (fun k hk z => by omega) (by omega) (fun o k ho hk z => by omega)), b5.k (ScC'.f fx (fun k hk z => by omega) (fun o k ho z => by omega) (fun a l1 l2 z => by omega) (by omega)) (ScM'.f fm (fun k hk z => by omega) (fun a ha z => by omega) (by omega)), jq, b7.k (FtC'.f fx (by omega) (by omega)) (FtM'.f fm (by omega) (by omega)), b8.k (OuC.f b1 fx (by omega) (fun k hk z => by omega) hsn) (OuM.f fm (by omega) (by omega))⟩
  have opk : ∀ {x' y'}, FrVr c c x x' → FrRun y y' → OpP x' y' op H G K CK b dE Pl := fun {x' y'} fx fy => h6'.k (fun o k ho => fx.ii (by omega)) (fun r l1 l2 => fx.aa (by omega)) (fun r l1 l2 => fx.ll (by omega)) ⟨fun r => (congrFun fy.2.2.2.2.2 r).trans (b2.1 r), fun k hk => fy.ii (by omega), fun r j l1 l2 _ _ => by rw [fy.aa (by omega)], fun r hr => fy.aa (by omega), fy.ll (by omega)⟩
  have kqk : ∀ {y' : St} {s : Nat} {Z : Qy}, FrRun y y' → KqM y s Z → KqM y' s Z := fun {y' s Z} fy h => h.run fy
  have quk : ∀ {x' y'}, FrVr c c x x' → FrRun y y' → QuP x' y' op H hq Q qo qs kp := fun {x' y'} fx fy => h7'.kc (fun k hk => f_r fx (by omega)) (fun k => fx.ii (by omega)) (fun r l1 l2 => fx.aa (by omega)) (fx.ll (by omega)) (fy.ii (by omega)) (fun hh => ⟨fy.ii (by omega), kqk fy⟩)
  refine k_run (on := hq) (F := H) (G := G) (K := K) (CK := CK) (Q := Q) (b := b) (dE := dE) b1.1 q2.2 i1 i2 i3 u2 v2 v3 u4 (fun hh => ?_) (fun hh => s_run0 (by rw [u5, hh]; rfl) ⟨rfl, h0⟩) (fun hh e x' fx x0 => ?_) (fun hh N e x' fx r12 r13 xA => ?_)
  · obtain ⟨k1, k2, k3, k4, k5, k6⟩ := u7 hh
    obtain ⟨o1, o2, o3, o4, o5, o6, o7⟩ := p4 k1
    exact ⟨⟨b1.1, o5, o1, o2⟩, k2, k3, k4, k6.2.2⟩
  · obtain ⟨k1, k2, k3, k4, k5, k6⟩ := u7 hh
    obtain ⟨o1, o2, o3, o4, o5, o6, o7⟩ := p4 k1
    have hl : CK.length = ncol H * G.length := by rw [Nat.mul_comm]; exact o1.2.2.2.2.2.1
    refine s_run1 o4 o1.2.1 o5 o6 o7 hl (by rw [u5, hh]; decide) u6 k5 k6 k4 (fun _ y' fy => ⟨rfl, ?_⟩) (fun N e' => by rw [e] at e'; exact nomatch e')
    have fx' : FrVr c c x x' := fx.mono (fun _ _ z => Or.inl z) (fun _ _ z => z) (fun _ _ z => Or.inr z) (fun _ z => z) (fun _ z => z)
    refine keep x' y' fx' fy.run ⟨op, H, G, K, CK, b, dE, Pl, hq, Q, qo, qs, kp, on, P, a, c, la, opk fx' fy.run, quk fx' fy.run, h8'.kc (fun k hk => f_r fx (by omega)) (fun k => fx.ii (by omega)) (fun r l1 l2 => fx.aa (by omega)) (fx.ll (by omega)) (fx.aa (by omega)) (v7.kq (fun k hk => fy.ii (by omega)) (fun r hr => fy.aa (by omega)) (fy.ll (by omega)) (fun _ => kqk fy.run))⟩
  · obtain ⟨k1, k2, k3, k4, k5, k6⟩ := u7 hh
    obtain ⟨o1, o2, o3, o4, o5, o6, o7⟩ := p4 k1
    have hl : CK.length = ncol H * G.length := by rw [Nat.mul_comm]; exact o1.2.2.2.2.2.1
    refine s_run1 o4 o1.2.1 o5 o6 o7 hl (by rw [u5, hh]; decide) u6 k5 k6 k4 (fun e' => by rw [e] at e'; exact nomatch e') (fun N' e' y' fy y121 y119 yR => ?_)
    rw [e] at e'
    injection e' with e'
    subst e'
    refine ⟨rfl, keep x' y' fx fy ⟨op, H, G, K, CK, b, dE, Pl, hq, Q, qo, qs, kp, true, Q, c, a, kp, opk fx fy, quk fx fy, ⟨by omega, r12, r13, u6, fun _ => ⟨k1, k4⟩, xA, ⟨y121, fun _ => ⟨u6, y119, kqk fy k6, k4, yR, p3⟩⟩⟩⟩⟩
end
