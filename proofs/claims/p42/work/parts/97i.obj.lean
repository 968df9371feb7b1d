/-! a new object of the class, a new reference -/
def C0 : zC := (8, 8, 0, pxNew, fun _ _ => 0)
def A0 : zW := (C0, (0, fun _ => C0), fun _ => none, (0, fun _ => 0), fun _ => 0, (4, 16, 0, 0, 0, 0))
theorem GC0 : GC C0 := ⟨⟨by decide, by decide⟩, ⟨by decide, by decide⟩, by decide, pxNew_R _ _, fun i hi => absurd hi (Nat.not_lt_zero _)⟩
theorem GA0 : GA A0 0 := ⟨GC0, ⟨by decide, fun i hi => absurd hi (Nat.not_lt_zero _)⟩, fun s _ C e => absurd (show (none : Option zC) = some C from e) (Option.some_ne_none C).symm, ⟨by decide, fun i hi => absurd hi (Nat.not_lt_zero _)⟩, ⟨by decide, by decide⟩, ⟨by decide, by decide⟩, fun _ _ => Nat.le_refl _, fun k _ h => absurd rfl h, Nat.le_refl _⟩
theorem LG0 : LG A0 := by
  unfold LG
  show cnt (fun _ => 0) 512 ≤ 16
  rw [cnt_zero]
  decide
/-- an object's part: made at p, its address laid into the field f of o -/
theorem j_part {σ τ : zS} {o p f c : Nat} (hf : f < 640) (hk : zkd σ o = 8) (ho : o < p) (hx : znx σ = p) (g : zEq (fun a => a < p) (zno σ c) τ) : zEq (fun a => a < p ∧ a ≠ o) σ (zsr τ f o (some p)) ∧ zkd τ o = 8 ∧ zkd (zsr τ f o (some p)) o = 8 ∧ zr (zsr τ f o (some p)) f o = some p ∧ (∀ g, g ≠ f → zr (zsr τ f o (some p)) g o = zr σ g o) ∧ zEq (fun a => a ≠ o) τ (zsr τ f o (some p)) := by
  have g0 : zEq (fun a => a < p) σ (zno σ c) := zEq.no σ c (by omega)
  have g1 := g0.tr g
  have g2 : zEq (fun a => a ≠ o) τ (zsr τ f o (some p)) := zEq.sr τ hf (by omega)
  have k1 : zkd τ o = 8 := (g1.kd ho).trans hk
  refine ⟨(g1.mono (fun a ha => ha.1)).tr (g2.mono (fun a ha => ha.2)), k1, k1, by rw [zr_sr, if_pos ⟨rfl, rfl⟩], fun g hg => by rw [zr_sr, if_neg (by omega)]; exact g1.r ho g, g2⟩
theorem j_all {o : Nat} {σ a a' b b' c c' sd e e' f f' g g' h h' i' : zS} (ja1 : zEq (fun p => p < o + 1 ∧ p ≠ o) σ a') (ja5 : zEq (fun p => p ≠ o) a a') (jb1 : zEq (fun p => p < o + 29 ∧ p ≠ o) a' b') (jb5 : zEq (fun p => p ≠ o) b b') (jc1 : zEq (fun p => p < o + 57 ∧ p ≠ o) b' c') (jc5 : zEq (fun p => p ≠ o) c c') (gd : zEq (fun p => p < o + 227 ∧ p ≠ o) c' sd) (je1 : zEq (fun p => p < o + 228 ∧ p ≠ o) sd e') (je5 : zEq (fun p => p ≠ o) e e') (jf1 : zEq (fun p => p < o + 230 ∧ p ≠ o) e' f') (jf5 : zEq (fun p => p ≠ o) f f') (jg1 : zEq (fun p => p < o + 249 ∧ p ≠ o) f' g') (jg5 : zEq (fun p => p ≠ o) g g') (jh1 : zEq (fun p => p < o + 253 ∧ p ≠ o) g' h') (jh5 : zEq (fun p => p ≠ o) h h') (ji1 : zEq (fun p => p < o + 255 ∧ p ≠ o) h' i') :
    zEq (fun p => p < o + 255 ∧ p ≠ o) h i' ∧ zEq (fun p => p < o + 253 ∧ p ≠ o) g i' ∧ zEq (fun p => p < o + 249 ∧ p ≠ o) f i' ∧ zEq (fun p => p < o + 230 ∧ p ≠ o) e i' ∧ zEq (fun p => p < o + 228 ∧ p ≠ o) sd i' ∧ zEq (fun p => p < o + 227 ∧ p ≠ o) c i' ∧ zEq (fun p => p < o + 57 ∧ p ≠ o) b i' ∧ zEq (fun p => p < o + 29 ∧ p ≠ o) a i' ∧ zEq (fun p => p < o) σ i' := by
  have xg : zEq (fun p => p < o + 253 ∧ p ≠ o) g' i' := jh1.tr (ji1.mono (fun p hp => by omega))
  have xf : zEq (fun p => p < o + 249 ∧ p ≠ o) f' i' := jg1.tr (xg.mono (fun p hp => by omega))
  have xe : zEq (fun p => p < o + 230 ∧ p ≠ o) e' i' := jf1.tr (xf.mono (fun p hp => by omega))
  have xd : zEq (fun p => p < o + 228 ∧ p ≠ o) sd i' := je1.tr (xe.mono (fun p hp => by omega))
  have xc : zEq (fun p => p < o + 227 ∧ p ≠ o) c' i' := gd.tr (xd.mono (fun p hp => by omega))
  have xb : zEq (fun p => p < o + 57 ∧ p ≠ o) b' i' := jc1.tr (xc.mono (fun p hp => by omega))
  have xa : zEq (fun p => p < o + 29 ∧ p ≠ o) a' i' := jb1.tr (xb.mono (fun p hp => by omega))
  exact ⟨(jh5.mono (fun p hp => hp.2)).tr ji1, (jg5.mono (fun p hp => hp.2)).tr xg, (jf5.mono (fun p hp => hp.2)).tr xf, (je5.mono (fun p hp => hp.2)).tr xe, xd, (jc5.mono (fun p hp => hp.2)).tr xc, (jb5.mono (fun p hp => hp.2)).tr xb, (ja5.mono (fun p hp => hp.2)).tr xa, (ja1.mono (fun p hp => by omega)).tr (xa.mono (fun p hp => by omega))⟩
theorem j_arr {σ : zS} {o p f c n : Nat} (hf : f < 640) (hk : zkd σ o = 8) (ho : o < p) (hx : znx σ = p) : zEq (fun a => a < p ∧ a ≠ o) σ (mkA σ f o c n) ∧ zkd (zna σ c n) o = 8 ∧ zkd (mkA σ f o c n) o = 8 ∧ zr (mkA σ f o c n) f o = some p ∧ (∀ g, g ≠ f → zr (mkA σ f o c n) g o = zr σ g o) ∧ zkd (mkA σ f o c n) p = c ∧ zln (mkA σ f o c n) p = n ∧ (∀ s, zar (mkA σ f o c n) p s = none) ∧ znx (mkA σ f o c n) = p + 1 ∧ zsr (zna σ c n) f o (some p) = mkA σ f o c n := by
  have k : zkd (zna σ c n) o = 8 := (na_kd (by omega)).trans hk
  exact ⟨mkA_eq σ hf (by omega) (by omega), k, k, by rw [mkA_r, if_pos ⟨rfl, rfl⟩, hx], fun g hg => by rw [mkA_r, if_neg (by omega)], by rw [← hx]; exact mkA_kd' .., by rw [← hx]; exact mkA_ln' .., fun s => by rw [← hx]; exact mkA_ar .., by rw [mkA_nx, hx], by unfold mkA; rw [hx]⟩
theorem j_of {o : Nat} {a b c d e f g h i : zS} (ki : zkd i o = 8) (ra : zr a 512 o = some (o + 1)) (rb : zr b 513 o = some (o + 29)) (rc : zr c 514 o = some (o + 57)) (rd : zr d 515 o = some (o + 227)) (re : zr e 516 o = some (o + 228)) (rf : zr f 517 o = some (o + 230)) (rg : zr g 518 o = some (o + 249)) (rh : zr h 519 o = some (o + 253)) (ri : zr i 520 o = some (o + 255)) (qb : ∀ x, x ≠ 513 → zr b x o = zr a x o) (qc : ∀ x, x ≠ 514 → zr c x o = zr b x o) (qd : ∀ x, x ≠ 515 → zr d x o = zr c x o) (qe : ∀ x, x ≠ 516 → zr e x o = zr d x o) (qf : ∀ x, x ≠ 517 → zr f x o = zr e x o) (qg : ∀ x, x ≠ 518 → zr g x o = zr f x o) (qh : ∀ x, x ≠ 519 → zr h x o = zr g x o) (qi : ∀ x, x ≠ 520 → zr i x o = zr h x o) : OF i o := by
  refine ⟨ki, ?_, ?_, ?_, ?_, ?_, ?_, ?_, ?_, ri⟩
  · rw [qi _ (by decide), qh _ (by decide), qg _ (by decide), qf _ (by decide), qe _ (by decide), qd _ (by decide), qc _ (by decide), qb _ (by decide)]; exact ra
  · rw [qi _ (by decide), qh _ (by decide), qg _ (by decide), qf _ (by decide), qe _ (by decide), qd _ (by decide), qc _ (by decide)]; exact rb
  · rw [qi _ (by decide), qh _ (by decide), qg _ (by decide), qf _ (by decide), qe _ (by decide), qd _ (by decide)]; exact rc
  · rw [qi _ (by decide), qh _ (by decide), qg _ (by decide), qf _ (by decide), qe _ (by decide)]; exact rd
  · rw [qi _ (by decide), qh _ (by decide), qg _ (by decide), qf _ (by decide)]; exact re
  · rw [qi _ (by decide), qh _ (by decide), qg _ (by decide)]; exact rf
  · rw [qi _ (by decide), qh _ (by decide)]; exact rg
  · rw [qi _ (by decide)]; exact rh
/-- what a new object is -/
def NewO (τ : zS) (o : Nat) : Prop := OS τ o ∧ CmQ τ (o + 1) (fun x => x) ∧ CmQ τ (o + 29) (fun x => x) ∧ HiQ τ (o + 57) (fun x => x) ∧ (∀ j, j < 6 → CmQ τ (o + 57 + 2 + 28 * j) (fun x => x)) ∧ TcQ τ (o + 230) ∧ TcU τ (o + 230) (fun _ => 0) ∧ TcF τ (o + 230) (4, 16, 0, 0, 0, 0) ∧ OutR τ (o + 230) ∧ zi τ 2 (o + 1) = nI 0 ∧ zi τ 65 (o + 57) = nI 0 ∧ zi τ 385 (o + 228) = nI 0 ∧ ∀ s, zar τ (o + 227) s = none
theorem j_os {o : Nat} {a b c d e f g h i τ : zS} (hOF : OF τ o) (a4 : CmS a (o + 1)) (a5 : CmQ a (o + 1) (fun x => x)) (ai : zi a 2 (o + 1) = nI 0) (b4 : CmS b (o + 29)) (b5 : CmQ b (o + 29) (fun x => x)) (c4 : HiS c (o + 57)) (c5 : HiQ c (o + 57) (fun x => x)) (c6 : ∀ j, j < 6 → CmQ c (o + 57 + 2 + 28 * j) (fun x => x)) (ci : zi c 65 (o + 57) = nI 0) (sn : SnS d (o + 227)) (sa : ∀ s, zar d (o + 227) s = none) (e4 : TxS e (o + 228)) (ei : zi e 385 (o + 228) = nI 0) (f4 : TcS f (o + 230)) (f5 : TcQ f (o + 230)) (f6 : TcU f (o + 230) (fun _ => 0)) (f7 : TcF f (o + 230) (4, 16, 0, 0, 0, 0)) (f8 : OutR f (o + 230)) (g4 : RdS g (o + 249)) (h4 : PicS h (o + 253)) (i4 : PicS i (o + 255)) (gi : zEq (fun p => p ≠ o) i τ) (gh : zEq (fun p => p < o + 255 ∧ p ≠ o) h τ) (gg : zEq (fun p => p < o + 253 ∧ p ≠ o) g τ) (gf : zEq (fun p => p < o + 249 ∧ p ≠ o) f τ) (ge : zEq (fun p => p < o + 230 ∧ p ≠ o) e τ) (gd : zEq (fun p => p < o + 228 ∧ p ≠ o) d τ) (gc : zEq (fun p => p < o + 227 ∧ p ≠ o) c τ) (gb : zEq (fun p => p < o + 57 ∧ p ≠ o) b τ) (ga : zEq (fun p => p < o + 29 ∧ p ≠ o) a τ) : NewO τ o :=
  ⟨⟨hOF, a4.eq ga (fun p _ _ => by omega), b4.eq gb (fun p _ _ => by omega), c4.eq gc (fun p _ _ => by omega), ⟨(gd.kd (by omega)).trans sn.1, (gd.ln (by omega)).trans sn.2⟩, ⟨(ge.kd (by omega)).trans e4.1, (ge.r (by omega) _).trans e4.2.1, (ge.kd (by omega)).trans e4.2.2.1, (ge.ln (by omega)).trans e4.2.2.2⟩, f4.eq gf (fun p _ _ => by omega), g4.eq gg (fun p _ _ => by omega), h4.eq gh (fun p _ _ => by omega), i4.eq gi (fun p _ _ => by omega)⟩,
   a5.eq ga (by omega), b5.eq gb (by omega), c5.eq gc (by omega), fun j hj => (c6 j hj).eq gc (by omega), f5.eq gf (show o + 230 + 1 < o + 249 ∧ o + 230 + 1 ≠ o by omega), f6.eq gf (by omega) (by omega), f7.eq gf (by omega), f8.eq gf (fun p _ _ => by omega), (ga.i (by omega) _).trans ai, (gc.i (by omega) _).trans ci, (ge.i (by omega) _).trans ei, fun s => (gd.ar (by omega) s).trans (sa s)⟩
theorem j_run {o : Nat} {E : zE} {σ a b c d e f g h i : zS} (hx : znx σ = o + 1) (k1 : zkd (zno σ 0) (o + 1) = 0) (a1 : E mX0_init [.inr (.inl (some (o + 1)))] (zno σ 0) = some (none, a)) (ka : zkd a o = 8) (na : znx (zsr a 512 o (some (o + 1))) = o + 29)
    (k2 : zkd (zno (zsr a 512 o (some (o + 1))) 0) (o + 29) = 0) (b1 : E mX0_init [.inr (.inl (some (o + 29)))] (zno (zsr a 512 o (some (o + 1))) 0) = some (none, b)) (kb : zkd b o = 8) (nb : znx (zsr b 513 o (some (o + 29))) = o + 57)
    (k3 : zkd (zno (zsr b 513 o (some (o + 29))) 1) (o + 57) = 1) (c1 : E mX1_init [.inr (.inl (some (o + 57)))] (zno (zsr b 513 o (some (o + 29))) 1) = some (none, c)) (kc : zkd c o = 8) (nc : znx (zsr c 514 o (some (o + 57))) = o + 227)
    (kd : zkd (zna (zsr c 514 o (some (o + 57))) 13 2) o = 8) (ed : zsr (zna (zsr c 514 o (some (o + 57))) 13 2) 515 o (some (o + 227)) = d) (nd : znx d = o + 228)
    (k4 : zkd (zno d 6) (o + 228) = 6) (e1 : E mX8_init [.inr (.inl (some (o + 228)))] (zno d 6) = some (none, e)) (ke : zkd e o = 8) (ne : znx (zsr e 516 o (some (o + 228))) = o + 230)
    (k5 : zkd (zno (zsr e 516 o (some (o + 228))) 7) (o + 230) = 7) (f1 : E mX9_init [.inr (.inl (some (o + 230)))] (zno (zsr e 516 o (some (o + 228))) 7) = some (none, f)) (kf : zkd f o = 8) (nf : znx (zsr f 517 o (some (o + 230))) = o + 249)
    (k6 : zkd (zno (zsr f 517 o (some (o + 230))) 5) (o + 249) = 5) (g1 : E mX7_init [.inr (.inl (some (o + 249)))] (zno (zsr f 517 o (some (o + 230))) 5) = some (none, g)) (kg : zkd g o = 8) (ng : znx (zsr g 518 o (some (o + 249))) = o + 253)
    (k7 : zkd (zno (zsr g 518 o (some (o + 249))) 4) (o + 253) = 4) (h1 : E mX6_init [.inr (.inl (some (o + 253)))] (zno (zsr g 518 o (some (o + 249))) 4) = some (none, h)) (kh : zkd h o = 8) (nh : znx (zsr h 519 o (some (o + 253))) = o + 255)
    (k8 : zkd (zno (zsr h 519 o (some (o + 253))) 4) (o + 255) = 4) (i1 : E mX6_init [.inr (.inl (some (o + 255)))] (zno (zsr h 519 o (some (o + 253))) 4) = some (none, i)) (ki : zkd i o = 8)
    (hOS : OS (zsr i 520 o (some (o + 255))) o) : fX10_init E o σ = bnV (E mX6_startAs [.inr (.inl (some (o + 1 + 1))), .inl 8, .inl 8] (zsr i 520 o (some (o + 255)))) (fun s => some (none, s)) := by
  have q1 := hOS.f.1
  have q2 := hOS.f.2.1
  have q3 := hOS.c.1
  have q4 := hOS.c.2.1
  have q5 := hOS.c.2.2.2.1.1
  clear hOS
  unfold fX10_init
  simp only [zlt_e, chk_e, hx, k1, if_true, a1, bnV_s, ka, na, k2, b1, kb, nb, k3, c1, kc, nc, kd, ed]
  simp only [nd, k4, if_true, e1, bnV_s, ke, ne, k5, f1, kf, nf, k6, g1, kg, ng, k7, h1, kh, nh, k8, i1, ki]
  generalize zsr i 520 o (some (o + 255)) = τ at *
  simp only [q1, q2, q3, q4, q5, onR_s, if_true]
theorem lt_a (o k : Nat) (h : 0 < k) : o < o + k := Nat.lt_add_of_pos_right h
theorem c_init1 {σ : zS} {o : Nat} (hk : zkd σ o = 8) (hx : znx σ = o + 1) (d : Nat) : ∃ τ, zEv (d + 5) mX10_init [.inr (.inl (some o))] σ = bnV (zEv (d + 4) mX6_startAs [.inr (.inl (some (o + 1 + 1))), .inl 8, .inl 8] τ) (fun s => some (none, s)) ∧ zEq (fun a => a < o) σ τ ∧ znx τ = o + 257 ∧ NewO τ o := by
  -- stack
  have k1 := kd_no σ 0
  rw [hx] at k1
  obtain ⟨a, a1, a2, a3, a4, a5, a6, a7, a8⟩ := s_i0 (σ := zno σ 0) (c := o + 1) k1 (by rw [nx_no, hx]) (d + 1)
  obtain ⟨ja1, ja0, ja2, ja3, ja4, ja5⟩ := j_part (f := 512) (by decide) hk (lt_a o 1 (by decide)) hx a2
  have na : znx (zsr a 512 o (some (o + 1))) = o + 29 := by rw [znx_sr, a3]
  have ai : zi a 2 (o + 1) = nI 0 := (a6 2).trans (by rw [← hx]; exact i_no σ 0 2)
  -- draft
  have k2 := kd_no (zsr a 512 o (some (o + 1))) 0
  rw [na] at k2
  obtain ⟨b, b1, b2, b3, b4, b5, b6, b7, b8⟩ := s_i0 (σ := zno (zsr a 512 o (some (o + 1))) 0) (c := o + 29) k2 (by rw [nx_no, na]) (d + 1)
  obtain ⟨jb1, jb0, jb2, jb3, jb4, jb5⟩ := j_part (f := 513) (by decide) ja2 (lt_a o 29 (by decide)) na b2
  have nb : znx (zsr b 513 o (some (o + 29))) = o + 57 := by rw [znx_sr, b3]
  -- history
  have k3 := kd_no (zsr b 513 o (some (o + 29))) 1
  rw [nb] at k3
  obtain ⟨c, c1, c2, c3, c4, c5, c6, c7⟩ := s_i1 (σ := zno (zsr b 513 o (some (o + 29))) 1) (H := o + 57) k3 (by rw [nx_no, nb]) d
  obtain ⟨jc1, jc0, jc2, jc3, jc4, jc5⟩ := j_part (f := 514) (by decide) jb2 (lt_a o 57 (by decide)) nb c2
  have nc : znx (zsr c 514 o (some (o + 57))) = o + 227 := by rw [znx_sr, c3]
  have ci : zi c 65 (o + 57) = nI 0 := (c7 65).trans (by rw [← nb]; exact i_no _ 1 65)
  -- snapshots
  obtain ⟨gd, kd0, kd, rd1, rd2, sn1, sn2, sa, nd, ed⟩ := j_arr (f := 515) (c := 13) (n := 2) (by decide) jc2 (lt_a o 227 (by decide)) nc
  generalize mkA (zsr c 514 o (some (o + 57))) 515 o 13 2 = sd at gd kd rd1 rd2 sn1 sn2 sa nd ed
  -- text
  have k4 := kd_no sd 6
  rw [nd] at k4
  obtain ⟨e, e1, e2, e3, e4, e5⟩ := s_i8 (σ := zno sd 6) (x := o + 228) k4 (by rw [nx_no, nd]) (d + 3)
  obtain ⟨je1, je0, je2, je3, je4, je5⟩ := j_part (f := 516) (by decide) kd (lt_a o 228 (by decide)) nd e2
  have ne : znx (zsr e 516 o (some (o + 228))) = o + 230 := by rw [znx_sr, e3]
  have ei : zi e 385 (o + 228) = nI 0 := (e5 385).trans (by have := i_no sd 6 385; rw [nd] at this; exact this)
  -- cache
  have k5 := kd_no (zsr e 516 o (some (o + 228))) 7
  rw [ne] at k5
  obtain ⟨f, f1, f2, f3, f4, f5, f6, f7, f8⟩ := s_i9 (σ := zno (zsr e 516 o (some (o + 228))) 7) (X := o + 230) k5 (by rw [nx_no, ne]) (fun g => by rw [← ne]; exact i_no _ 7 g) (d + 2)
  obtain ⟨jf1, jf0, jf2, jf3, jf4, jf5⟩ := j_part (f := 517) (by decide) je2 (lt_a o 230 (by decide)) ne f2
  have nf : znx (zsr f 517 o (some (o + 230))) = o + 249 := by rw [znx_sr, f3]
  -- renderer
  have k6 := kd_no (zsr f 517 o (some (o + 230))) 5
  rw [nf] at k6
  obtain ⟨g, g1, g2, g3, g4⟩ := s_i7 (σ := zno (zsr f 517 o (some (o + 230))) 5) (R := o + 249) k6 (by rw [nx_no, nf]) (d + 2)
  obtain ⟨jg1, jg0, jg2, jg3, jg4, jg5⟩ := j_part (f := 518) (by decide) jf2 (lt_a o 249 (by decide)) nf g2
  have ng : znx (zsr g 518 o (some (o + 249))) = o + 253 := by rw [znx_sr, g3]
  -- shown, compared
  have k7 := kd_no (zsr g 518 o (some (o + 249))) 4
  rw [ng] at k7
  obtain ⟨h, h1, h2, h3, h4, h5, h6⟩ := s_i6 (σ := zno (zsr g 518 o (some (o + 249))) 4) (p := o + 253) k7 (by rw [nx_no, ng]) (d + 3)
  obtain ⟨jh1, jh0, jh2, jh3, jh4, jh5⟩ := j_part (f := 519) (by decide) jg2 (lt_a o 253 (by decide)) ng h2
  have nh : znx (zsr h 519 o (some (o + 253))) = o + 255 := by rw [znx_sr, h3]
  have k8 := kd_no (zsr h 519 o (some (o + 253))) 4
  rw [nh] at k8
  obtain ⟨i, i1, i2, i3, i4, i5, i6⟩ := s_i6 (σ := zno (zsr h 519 o (some (o + 253))) 4) (p := o + 255) k8 (by rw [nx_no, nh]) (d + 3)
  obtain ⟨ji1, ji0, ji2, ji3, ji4, ji5⟩ := j_part (f := 520) (by decide) jh2 (lt_a o 255 (by decide)) nh i2
  have ni : znx (zsr i 520 o (some (o + 255))) = o + 257 := by rw [znx_sr, i3]
  obtain ⟨gh, gg, gf, ge, gd2, gc, gb, ga, gs⟩ := j_all ja1 ja5 jb1 jb5 jc1 jc5 gd je1 je5 jf1 jf5 jg1 jg5 jh1 jh5 ji1
  have hOF := j_of ji2 ja3 jb3 jc3 rd1 je3 jf3 jg3 jh3 ji3 jb4 jc4 rd2 je4 jf4 jg4 jh4 ji4
  have hN := j_os hOF a4 a5 ai b4 b5 c4 c5 c6 ci ⟨sn1, sn2⟩ sa e4 ei f4 f5 f6 f7 f8 g4 h4 i4 ji5 gh gg gf ge gd2 gc gb ga
  refine ⟨zsr i 520 o (some (o + 255)), ?_, gs, ni, hN⟩
  rw [vX10_init]
  exact j_run (E := zEv (d + 4)) hx k1 a1 ja0 na k2 b1 jb0 nb k3 c1 jc0 nc kd0 ed nd k4 e1 je0 ne k5 f1 jf0 nf k6 g1 jg0 ng k7 h1 jh0 nh k8 i1 ji0 hN.1
theorem c_init {σ : zS} {o : Nat} (hk : zkd σ o = 8) (hx : znx σ = o + 1) (d : Nat) : ∃ τ, zEv (d + 5) mX10_init [.inr (.inl (some o))] σ = some (none, τ) ∧ zEq (fun a => a < o) σ τ ∧ znx τ = o + 257 ∧ ∃ q u P, CIx τ o A0 q u P := by
  obtain ⟨τ, x1, gs, ni, hOS, hqa, hqb, hHQ, hHC, hTQ, hTU, hTF, hOR, i2a, i65, i385, sas⟩ := c_init1 hk hx d
  obtain ⟨ψ, y1, y2, y3⟩ := s_startAs (w := 8) (h := 8) hOS.c.2.2.2.1 (by decide) (by decide) (d + 2)
  have y1' : zEv (d + 4) mX6_startAs [.inr (.inl (some (o + 1 + 1))), .inl 8, .inl 8] τ = some (none, ψ) := y1
  refine ⟨ψ, ?_, gs.tr (y2.eq (fun p hp hq => by unfold inP at hq; omega)), by rw [y2.nx]; exact ni, (fun x => x), (fun x => x), (fun _ => 0), ?_⟩
  · rw [x1, y1']
    rfl
  · have hO' := hOS.fr y2
    have ht0 : cN C0 = 0 := rfl
    refine ⟨⟨hO', hqa.fr y2 (by unfold inP; omega), ⟨y3, (y2.i (by unfold inP; omega) _).trans i2a, fun j hj => absurd hj (Nat.not_lt_zero _)⟩, hTQ.fr y2 (by unfold inP; omega), hTU.fr y2 (by unfold inP; omega) (by unfold inP; omega), hTF.fr y2 (by unfold inP; omega), hOR.fr y2 (fun p _ _ => by unfold inP; omega), fun j _ hz => absurd rfl hz, rfl, fun _ _ => Nat.le_refl _⟩, ⟨_, hqb.fr y2 (by unfold inP; omega)⟩, hHQ.fr y2 (by unfold inP; omega), ⟨(y2.i (by unfold inP; omega) _).trans i65, fun j hj => (hHC j hj).fr y2 (by unfold inP; omega), fun j hj => absurd hj (Nat.not_lt_zero _)⟩, ⟨fun s _ => Or.inl ⟨rfl, (y2.ar (by unfold inP; omega) s).trans (sas s)⟩, fun q => absurd rfl q⟩, ⟨(y2.i (by unfold inP; omega) _).trans i385, fun j hj => absurd hj (Nat.not_lt_zero _)⟩⟩
