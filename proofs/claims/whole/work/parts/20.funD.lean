/-! the methods as functions (by program: wip/whole/emit2.py) -/
noncomputable def LX11_init_13 (E : zE) (l0 : Nat) (σ : zS) : zO := zF tX11_init E 13 (20, 8258) [.inr (.inl (some l0))] [] σ
noncomputable def LX11_init_22 (E : zE) (l0 : Nat) (σ : zS) : zO := zF tX11_init E 22 (19, 5168) [.inr (.inl (some l0))] [] σ
noncomputable def LX11_init_31 (E : zE) (l0 : Nat) (σ : zS) : zO := zF tX11_init E 31 (18, 4138) [.inr (.inl (some l0))] [] σ
noncomputable def LX11_init_38 (E : zE) (l0 : Nat) (σ : zS) : zO := zF tX11_init E 38 (17, 4136) [.inr (.inl (some l0))] [] σ
noncomputable def LX11_init_47 (E : zE) (l0 : Nat) (σ : zS) : zO := zF tX11_init E 47 (16, 3976) [.inr (.inl (some l0))] [] σ
noncomputable def LX11_init_52 (E : zE) (l0 : Nat) (σ : zS) : zO := zF tX11_init E 52 (16, 3976) [.inr (.inl (some l0))] [] σ
noncomputable def LX11_init_58 (E : zE) (l0 : Nat) (σ : zS) : zO := zF tX11_init E 58 (16, 3976) [.inr (.inl (some l0))] [] σ
noncomputable def LX11_init_67 (E : zE) (l0 : Nat) (σ : zS) : zO := zF tX11_init E 67 (15, 3464) [.inr (.inl (some l0))] [] σ
noncomputable def LX11_init_74 (E : zE) (l0 : Nat) (σ : zS) : zO := zF tX11_init E 74 (14, 3461) [.inr (.inl (some l0))] [] σ
noncomputable def LX11_init_82 (E : zE) (l0 : Nat) (σ : zS) : zO := zF tX11_init E 82 (13, 3452) [.inr (.inl (some l0))] [] σ
noncomputable def LX11_init_90 (E : zE) (l0 : Nat) (σ : zS) : zO := zF tX11_init E 90 (12, 3443) [.inr (.inl (some l0))] [] σ
noncomputable def LX11_init_98 (E : zE) (l0 : Nat) (σ : zS) : zO := zF tX11_init E 98 (11, 3434) [.inr (.inl (some l0))] [] σ
noncomputable def LX11_init_106 (E : zE) (l0 : Nat) (σ : zS) : zO := zF tX11_init E 106 (10, 3425) [.inr (.inl (some l0))] [] σ
noncomputable def LX11_init_114 (E : zE) (l0 : Nat) (σ : zS) : zO := zF tX11_init E 114 (9, 3416) [.inr (.inl (some l0))] [] σ
noncomputable def LX11_init_122 (E : zE) (l0 : Nat) (σ : zS) : zO := zF tX11_init E 122 (8, 3407) [.inr (.inl (some l0))] [] σ
noncomputable def LX11_init_130 (E : zE) (l0 : Nat) (σ : zS) : zO := zF tX11_init E 130 (7, 3398) [.inr (.inl (some l0))] [] σ
noncomputable def LX11_init_138 (E : zE) (l0 : Nat) (σ : zS) : zO := zF tX11_init E 138 (6, 3389) [.inr (.inl (some l0))] [] σ
noncomputable def LX11_init_146 (E : zE) (l0 : Nat) (σ : zS) : zO := zF tX11_init E 146 (5, 3380) [.inr (.inl (some l0))] [] σ
noncomputable def LX11_init_155 (E : zE) (l0 : Nat) (σ : zS) : zO := zF tX11_init E 155 (4, 1076) [.inr (.inl (some l0))] [] σ
noncomputable def LX11_init_163 (E : zE) (l0 : Nat) (σ : zS) : zO := zF tX11_init E 163 (3, 1027) [.inr (.inl (some l0))] [] σ
noncomputable def LX11_init_172 (E : zE) (l0 : Nat) (σ : zS) : zO := zF tX11_init E 172 (2, 771) [.inr (.inl (some l0))] [] σ
noncomputable def LX11_init_181 (E : zE) (l0 : Nat) (σ : zS) : zO := zF tX11_init E 181 (1, 515) [.inr (.inl (some l0))] [] σ
noncomputable def LX11_init_190 (E : zE) (l0 : Nat) (σ : zS) : zO := zF tX11_init E 190 (0, 0) [.inr (.inl (some l0))] [] σ
noncomputable def LX11_init_195 (E : zE) (l0 : Nat) (σ : zS) : zO := zF tX11_init E 195 (0, 0) [.inr (.inl (some l0))] [] σ
set_option maxRecDepth 20000 in
theorem uX11_init_13 (E : zE) (l0 : Nat) (σ : zS) : LX11_init_13 E l0 σ =
  (chk (zkd (zna σ 11 3090) l0 = 9) <| zlt (zsr (zna σ 11 3090) 578 l0 (some (znx σ))) fun s1 =>
  LX11_init_22 E l0 s1) :=
  (zun_at (fun pc => (oX11_init pc).1) E (fun q => Nat.beq q 13 || Nat.beq q 22 || Nat.beq q 31 || Nat.beq q 38 || Nat.beq q 47 || Nat.beq q 52 || Nat.beq q 58 || Nat.beq q 67 || Nat.beq q 74 || Nat.beq q 82 || Nat.beq q 90 || Nat.beq q 98 || Nat.beq q 106 || Nat.beq q 114 || Nat.beq q 122 || Nat.beq q 130 || Nat.beq q 138 || Nat.beq q 146 || Nat.beq q 155 || Nat.beq q 163 || Nat.beq q 172 || Nat.beq q 181 || Nat.beq q 190 || Nat.beq q 195) 101 13 (20, 8258) [.inr (.inl (some l0))] [] σ).trans rfl
set_option maxRecDepth 20000 in
theorem uX11_init_22 (E : zE) (l0 : Nat) (σ : zS) : LX11_init_22 E l0 σ =
  (chk (zkd (zna σ 11 1030) l0 = 9) <| zlt (zsr (zna σ 11 1030) 580 l0 (some (znx σ))) fun s1 =>
  LX11_init_31 E l0 s1) :=
  (zun_at (fun pc => (oX11_init pc).1) E (fun q => Nat.beq q 13 || Nat.beq q 22 || Nat.beq q 31 || Nat.beq q 38 || Nat.beq q 47 || Nat.beq q 52 || Nat.beq q 58 || Nat.beq q 67 || Nat.beq q 74 || Nat.beq q 82 || Nat.beq q 90 || Nat.beq q 98 || Nat.beq q 106 || Nat.beq q 114 || Nat.beq q 122 || Nat.beq q 130 || Nat.beq q 138 || Nat.beq q 146 || Nat.beq q 155 || Nat.beq q 163 || Nat.beq q 172 || Nat.beq q 181 || Nat.beq q 190 || Nat.beq q 195) 101 22 (19, 5168) [.inr (.inl (some l0))] [] σ).trans rfl
set_option maxRecDepth 20000 in
theorem uX11_init_31 (E : zE) (l0 : Nat) (σ : zS) : LX11_init_31 E l0 σ =
  (chk (zkd (zna σ 12 2) l0 = 9) <| zlt (zsr (zna σ 12 2) 581 l0 (some (znx σ))) fun s1 =>
  LX11_init_38 E l0 s1) :=
  (zun_at (fun pc => (oX11_init pc).1) E (fun q => Nat.beq q 13 || Nat.beq q 22 || Nat.beq q 31 || Nat.beq q 38 || Nat.beq q 47 || Nat.beq q 52 || Nat.beq q 58 || Nat.beq q 67 || Nat.beq q 74 || Nat.beq q 82 || Nat.beq q 90 || Nat.beq q 98 || Nat.beq q 106 || Nat.beq q 114 || Nat.beq q 122 || Nat.beq q 130 || Nat.beq q 138 || Nat.beq q 146 || Nat.beq q 155 || Nat.beq q 163 || Nat.beq q 172 || Nat.beq q 181 || Nat.beq q 190 || Nat.beq q 195) 101 31 (18, 4138) [.inr (.inl (some l0))] [] σ).trans rfl
set_option maxRecDepth 20000 in
theorem uX11_init_38 (E : zE) (l0 : Nat) (σ : zS) : LX11_init_38 E l0 σ =
  (chk (zkd (zna σ 11 160) l0 = 9) <| zlt (zsr (zna σ 11 160) 582 l0 (some (znx σ))) fun s1 =>
  LX11_init_47 E l0 s1) :=
  (zun_at (fun pc => (oX11_init pc).1) E (fun q => Nat.beq q 13 || Nat.beq q 22 || Nat.beq q 31 || Nat.beq q 38 || Nat.beq q 47 || Nat.beq q 52 || Nat.beq q 58 || Nat.beq q 67 || Nat.beq q 74 || Nat.beq q 82 || Nat.beq q 90 || Nat.beq q 98 || Nat.beq q 106 || Nat.beq q 114 || Nat.beq q 122 || Nat.beq q 130 || Nat.beq q 138 || Nat.beq q 146 || Nat.beq q 155 || Nat.beq q 163 || Nat.beq q 172 || Nat.beq q 181 || Nat.beq q 190 || Nat.beq q 195) 101 38 (17, 4136) [.inr (.inl (some l0))] [] σ).trans rfl
set_option maxRecDepth 20000 in
theorem uX11_init_47 (E : zE) (l0 : Nat) (σ : zS) : LX11_init_47 E l0 σ =
  (chk (zkd σ l0 = 9) <| zlt (zsi σ 584 l0 4) fun s1 =>
  LX11_init_52 E l0 s1) :=
  (zun_at (fun pc => (oX11_init pc).1) E (fun q => Nat.beq q 13 || Nat.beq q 22 || Nat.beq q 31 || Nat.beq q 38 || Nat.beq q 47 || Nat.beq q 52 || Nat.beq q 58 || Nat.beq q 67 || Nat.beq q 74 || Nat.beq q 82 || Nat.beq q 90 || Nat.beq q 98 || Nat.beq q 106 || Nat.beq q 114 || Nat.beq q 122 || Nat.beq q 130 || Nat.beq q 138 || Nat.beq q 146 || Nat.beq q 155 || Nat.beq q 163 || Nat.beq q 172 || Nat.beq q 181 || Nat.beq q 190 || Nat.beq q 195) 101 47 (16, 3976) [.inr (.inl (some l0))] [] σ).trans rfl
set_option maxRecDepth 20000 in
theorem uX11_init_52 (E : zE) (l0 : Nat) (σ : zS) : LX11_init_52 E l0 σ =
  (chk (zkd σ l0 = 9) <| zlt (zsi σ 585 l0 16) fun s1 =>
  LX11_init_58 E l0 s1) :=
  (zun_at (fun pc => (oX11_init pc).1) E (fun q => Nat.beq q 13 || Nat.beq q 22 || Nat.beq q 31 || Nat.beq q 38 || Nat.beq q 47 || Nat.beq q 52 || Nat.beq q 58 || Nat.beq q 67 || Nat.beq q 74 || Nat.beq q 82 || Nat.beq q 90 || Nat.beq q 98 || Nat.beq q 106 || Nat.beq q 114 || Nat.beq q 122 || Nat.beq q 130 || Nat.beq q 138 || Nat.beq q 146 || Nat.beq q 155 || Nat.beq q 163 || Nat.beq q 172 || Nat.beq q 181 || Nat.beq q 190 || Nat.beq q 195) 101 52 (16, 3976) [.inr (.inl (some l0))] [] σ).trans rfl
set_option maxRecDepth 20000 in
theorem uX11_init_58 (E : zE) (l0 : Nat) (σ : zS) : LX11_init_58 E l0 σ =
  (chk (zkd (zna σ 11 512) l0 = 9) <| zlt (zsr (zna σ 11 512) 586 l0 (some (znx σ))) fun s1 =>
  LX11_init_67 E l0 s1) :=
  (zun_at (fun pc => (oX11_init pc).1) E (fun q => Nat.beq q 13 || Nat.beq q 22 || Nat.beq q 31 || Nat.beq q 38 || Nat.beq q 47 || Nat.beq q 52 || Nat.beq q 58 || Nat.beq q 67 || Nat.beq q 74 || Nat.beq q 82 || Nat.beq q 90 || Nat.beq q 98 || Nat.beq q 106 || Nat.beq q 114 || Nat.beq q 122 || Nat.beq q 130 || Nat.beq q 138 || Nat.beq q 146 || Nat.beq q 155 || Nat.beq q 163 || Nat.beq q 172 || Nat.beq q 181 || Nat.beq q 190 || Nat.beq q 195) 101 58 (16, 3976) [.inr (.inl (some l0))] [] σ).trans rfl
set_option maxRecDepth 20000 in
theorem uX11_init_67 (E : zE) (l0 : Nat) (σ : zS) : LX11_init_67 E l0 σ =
  (chk (zkd (zna σ 11 3) l0 = 9) <| zlt (zsr (zna σ 11 3) 588 l0 (some (znx σ))) fun s1 =>
  LX11_init_74 E l0 s1) :=
  (zun_at (fun pc => (oX11_init pc).1) E (fun q => Nat.beq q 13 || Nat.beq q 22 || Nat.beq q 31 || Nat.beq q 38 || Nat.beq q 47 || Nat.beq q 52 || Nat.beq q 58 || Nat.beq q 67 || Nat.beq q 74 || Nat.beq q 82 || Nat.beq q 90 || Nat.beq q 98 || Nat.beq q 106 || Nat.beq q 114 || Nat.beq q 122 || Nat.beq q 130 || Nat.beq q 138 || Nat.beq q 146 || Nat.beq q 155 || Nat.beq q 163 || Nat.beq q 172 || Nat.beq q 181 || Nat.beq q 190 || Nat.beq q 195) 101 67 (15, 3464) [.inr (.inl (some l0))] [] σ).trans rfl
set_option maxRecDepth 20000 in
theorem uX11_init_74 (E : zE) (l0 : Nat) (σ : zS) : LX11_init_74 E l0 σ =
  (chk (zkd (zna σ 11 9) l0 = 9) <| zlt (zsr (zna σ 11 9) 589 l0 (some (znx σ))) fun s1 =>
  LX11_init_82 E l0 s1) :=
  (zun_at (fun pc => (oX11_init pc).1) E (fun q => Nat.beq q 13 || Nat.beq q 22 || Nat.beq q 31 || Nat.beq q 38 || Nat.beq q 47 || Nat.beq q 52 || Nat.beq q 58 || Nat.beq q 67 || Nat.beq q 74 || Nat.beq q 82 || Nat.beq q 90 || Nat.beq q 98 || Nat.beq q 106 || Nat.beq q 114 || Nat.beq q 122 || Nat.beq q 130 || Nat.beq q 138 || Nat.beq q 146 || Nat.beq q 155 || Nat.beq q 163 || Nat.beq q 172 || Nat.beq q 181 || Nat.beq q 190 || Nat.beq q 195) 101 74 (14, 3461) [.inr (.inl (some l0))] [] σ).trans rfl
set_option maxRecDepth 20000 in
theorem uX11_init_82 (E : zE) (l0 : Nat) (σ : zS) : LX11_init_82 E l0 σ =
  (chk (zkd (zna σ 11 9) l0 = 9) <| zlt (zsr (zna σ 11 9) 590 l0 (some (znx σ))) fun s1 =>
  LX11_init_90 E l0 s1) :=
  (zun_at (fun pc => (oX11_init pc).1) E (fun q => Nat.beq q 13 || Nat.beq q 22 || Nat.beq q 31 || Nat.beq q 38 || Nat.beq q 47 || Nat.beq q 52 || Nat.beq q 58 || Nat.beq q 67 || Nat.beq q 74 || Nat.beq q 82 || Nat.beq q 90 || Nat.beq q 98 || Nat.beq q 106 || Nat.beq q 114 || Nat.beq q 122 || Nat.beq q 130 || Nat.beq q 138 || Nat.beq q 146 || Nat.beq q 155 || Nat.beq q 163 || Nat.beq q 172 || Nat.beq q 181 || Nat.beq q 190 || Nat.beq q 195) 101 82 (13, 3452) [.inr (.inl (some l0))] [] σ).trans rfl
set_option maxRecDepth 20000 in
theorem uX11_init_90 (E : zE) (l0 : Nat) (σ : zS) : LX11_init_90 E l0 σ =
  (chk (zkd (zna σ 11 9) l0 = 9) <| zlt (zsr (zna σ 11 9) 591 l0 (some (znx σ))) fun s1 =>
  LX11_init_98 E l0 s1) :=
  (zun_at (fun pc => (oX11_init pc).1) E (fun q => Nat.beq q 13 || Nat.beq q 22 || Nat.beq q 31 || Nat.beq q 38 || Nat.beq q 47 || Nat.beq q 52 || Nat.beq q 58 || Nat.beq q 67 || Nat.beq q 74 || Nat.beq q 82 || Nat.beq q 90 || Nat.beq q 98 || Nat.beq q 106 || Nat.beq q 114 || Nat.beq q 122 || Nat.beq q 130 || Nat.beq q 138 || Nat.beq q 146 || Nat.beq q 155 || Nat.beq q 163 || Nat.beq q 172 || Nat.beq q 181 || Nat.beq q 190 || Nat.beq q 195) 101 90 (12, 3443) [.inr (.inl (some l0))] [] σ).trans rfl
set_option maxRecDepth 20000 in
theorem uX11_init_98 (E : zE) (l0 : Nat) (σ : zS) : LX11_init_98 E l0 σ =
  (chk (zkd (zna σ 11 9) l0 = 9) <| zlt (zsr (zna σ 11 9) 592 l0 (some (znx σ))) fun s1 =>
  LX11_init_106 E l0 s1) :=
  (zun_at (fun pc => (oX11_init pc).1) E (fun q => Nat.beq q 13 || Nat.beq q 22 || Nat.beq q 31 || Nat.beq q 38 || Nat.beq q 47 || Nat.beq q 52 || Nat.beq q 58 || Nat.beq q 67 || Nat.beq q 74 || Nat.beq q 82 || Nat.beq q 90 || Nat.beq q 98 || Nat.beq q 106 || Nat.beq q 114 || Nat.beq q 122 || Nat.beq q 130 || Nat.beq q 138 || Nat.beq q 146 || Nat.beq q 155 || Nat.beq q 163 || Nat.beq q 172 || Nat.beq q 181 || Nat.beq q 190 || Nat.beq q 195) 101 98 (11, 3434) [.inr (.inl (some l0))] [] σ).trans rfl
set_option maxRecDepth 20000 in
theorem uX11_init_106 (E : zE) (l0 : Nat) (σ : zS) : LX11_init_106 E l0 σ =
  (chk (zkd (zna σ 11 9) l0 = 9) <| zlt (zsr (zna σ 11 9) 593 l0 (some (znx σ))) fun s1 =>
  LX11_init_114 E l0 s1) :=
  (zun_at (fun pc => (oX11_init pc).1) E (fun q => Nat.beq q 13 || Nat.beq q 22 || Nat.beq q 31 || Nat.beq q 38 || Nat.beq q 47 || Nat.beq q 52 || Nat.beq q 58 || Nat.beq q 67 || Nat.beq q 74 || Nat.beq q 82 || Nat.beq q 90 || Nat.beq q 98 || Nat.beq q 106 || Nat.beq q 114 || Nat.beq q 122 || Nat.beq q 130 || Nat.beq q 138 || Nat.beq q 146 || Nat.beq q 155 || Nat.beq q 163 || Nat.beq q 172 || Nat.beq q 181 || Nat.beq q 190 || Nat.beq q 195) 101 106 (10, 3425) [.inr (.inl (some l0))] [] σ).trans rfl
set_option maxRecDepth 20000 in
theorem uX11_init_114 (E : zE) (l0 : Nat) (σ : zS) : LX11_init_114 E l0 σ =
  (chk (zkd (zna σ 11 9) l0 = 9) <| zlt (zsr (zna σ 11 9) 594 l0 (some (znx σ))) fun s1 =>
  LX11_init_122 E l0 s1) :=
  (zun_at (fun pc => (oX11_init pc).1) E (fun q => Nat.beq q 13 || Nat.beq q 22 || Nat.beq q 31 || Nat.beq q 38 || Nat.beq q 47 || Nat.beq q 52 || Nat.beq q 58 || Nat.beq q 67 || Nat.beq q 74 || Nat.beq q 82 || Nat.beq q 90 || Nat.beq q 98 || Nat.beq q 106 || Nat.beq q 114 || Nat.beq q 122 || Nat.beq q 130 || Nat.beq q 138 || Nat.beq q 146 || Nat.beq q 155 || Nat.beq q 163 || Nat.beq q 172 || Nat.beq q 181 || Nat.beq q 190 || Nat.beq q 195) 101 114 (9, 3416) [.inr (.inl (some l0))] [] σ).trans rfl
set_option maxRecDepth 20000 in
theorem uX11_init_122 (E : zE) (l0 : Nat) (σ : zS) : LX11_init_122 E l0 σ =
  (chk (zkd (zna σ 11 9) l0 = 9) <| zlt (zsr (zna σ 11 9) 595 l0 (some (znx σ))) fun s1 =>
  LX11_init_130 E l0 s1) :=
  (zun_at (fun pc => (oX11_init pc).1) E (fun q => Nat.beq q 13 || Nat.beq q 22 || Nat.beq q 31 || Nat.beq q 38 || Nat.beq q 47 || Nat.beq q 52 || Nat.beq q 58 || Nat.beq q 67 || Nat.beq q 74 || Nat.beq q 82 || Nat.beq q 90 || Nat.beq q 98 || Nat.beq q 106 || Nat.beq q 114 || Nat.beq q 122 || Nat.beq q 130 || Nat.beq q 138 || Nat.beq q 146 || Nat.beq q 155 || Nat.beq q 163 || Nat.beq q 172 || Nat.beq q 181 || Nat.beq q 190 || Nat.beq q 195) 101 122 (8, 3407) [.inr (.inl (some l0))] [] σ).trans rfl
set_option maxRecDepth 20000 in
theorem uX11_init_130 (E : zE) (l0 : Nat) (σ : zS) : LX11_init_130 E l0 σ =
  (chk (zkd (zna σ 11 9) l0 = 9) <| zlt (zsr (zna σ 11 9) 596 l0 (some (znx σ))) fun s1 =>
  LX11_init_138 E l0 s1) :=
  (zun_at (fun pc => (oX11_init pc).1) E (fun q => Nat.beq q 13 || Nat.beq q 22 || Nat.beq q 31 || Nat.beq q 38 || Nat.beq q 47 || Nat.beq q 52 || Nat.beq q 58 || Nat.beq q 67 || Nat.beq q 74 || Nat.beq q 82 || Nat.beq q 90 || Nat.beq q 98 || Nat.beq q 106 || Nat.beq q 114 || Nat.beq q 122 || Nat.beq q 130 || Nat.beq q 138 || Nat.beq q 146 || Nat.beq q 155 || Nat.beq q 163 || Nat.beq q 172 || Nat.beq q 181 || Nat.beq q 190 || Nat.beq q 195) 101 130 (7, 3398) [.inr (.inl (some l0))] [] σ).trans rfl
set_option maxRecDepth 20000 in
theorem uX11_init_138 (E : zE) (l0 : Nat) (σ : zS) : LX11_init_138 E l0 σ =
  (chk (zkd (zna σ 12 9) l0 = 9) <| zlt (zsr (zna σ 12 9) 597 l0 (some (znx σ))) fun s1 =>
  LX11_init_146 E l0 s1) :=
  (zun_at (fun pc => (oX11_init pc).1) E (fun q => Nat.beq q 13 || Nat.beq q 22 || Nat.beq q 31 || Nat.beq q 38 || Nat.beq q 47 || Nat.beq q 52 || Nat.beq q 58 || Nat.beq q 67 || Nat.beq q 74 || Nat.beq q 82 || Nat.beq q 90 || Nat.beq q 98 || Nat.beq q 106 || Nat.beq q 114 || Nat.beq q 122 || Nat.beq q 130 || Nat.beq q 138 || Nat.beq q 146 || Nat.beq q 155 || Nat.beq q 163 || Nat.beq q 172 || Nat.beq q 181 || Nat.beq q 190 || Nat.beq q 195) 101 138 (6, 3389) [.inr (.inl (some l0))] [] σ).trans rfl
set_option maxRecDepth 20000 in
theorem uX11_init_146 (E : zE) (l0 : Nat) (σ : zS) : LX11_init_146 E l0 σ =
  (chk (zkd (zna σ 11 2304) l0 = 9) <| zlt (zsr (zna σ 11 2304) 599 l0 (some (znx σ))) fun s1 =>
  LX11_init_155 E l0 s1) :=
  (zun_at (fun pc => (oX11_init pc).1) E (fun q => Nat.beq q 13 || Nat.beq q 22 || Nat.beq q 31 || Nat.beq q 38 || Nat.beq q 47 || Nat.beq q 52 || Nat.beq q 58 || Nat.beq q 67 || Nat.beq q 74 || Nat.beq q 82 || Nat.beq q 90 || Nat.beq q 98 || Nat.beq q 106 || Nat.beq q 114 || Nat.beq q 122 || Nat.beq q 130 || Nat.beq q 138 || Nat.beq q 146 || Nat.beq q 155 || Nat.beq q 163 || Nat.beq q 172 || Nat.beq q 181 || Nat.beq q 190 || Nat.beq q 195) 101 146 (5, 3380) [.inr (.inl (some l0))] [] σ).trans rfl
set_option maxRecDepth 20000 in
theorem uX11_init_155 (E : zE) (l0 : Nat) (σ : zS) : LX11_init_155 E l0 σ =
  (chk (zkd (zna σ 11 49) l0 = 9) <| zlt (zsr (zna σ 11 49) 600 l0 (some (znx σ))) fun s1 =>
  LX11_init_163 E l0 s1) :=
  (zun_at (fun pc => (oX11_init pc).1) E (fun q => Nat.beq q 13 || Nat.beq q 22 || Nat.beq q 31 || Nat.beq q 38 || Nat.beq q 47 || Nat.beq q 52 || Nat.beq q 58 || Nat.beq q 67 || Nat.beq q 74 || Nat.beq q 82 || Nat.beq q 90 || Nat.beq q 98 || Nat.beq q 106 || Nat.beq q 114 || Nat.beq q 122 || Nat.beq q 130 || Nat.beq q 138 || Nat.beq q 146 || Nat.beq q 155 || Nat.beq q 163 || Nat.beq q 172 || Nat.beq q 181 || Nat.beq q 190 || Nat.beq q 195) 101 155 (4, 1076) [.inr (.inl (some l0))] [] σ).trans rfl
set_option maxRecDepth 20000 in
theorem uX11_init_163 (E : zE) (l0 : Nat) (σ : zS) : LX11_init_163 E l0 σ =
  (chk (zkd (zna σ 11 256) l0 = 9) <| zlt (zsr (zna σ 11 256) 609 l0 (some (znx σ))) fun s1 =>
  LX11_init_172 E l0 s1) :=
  (zun_at (fun pc => (oX11_init pc).1) E (fun q => Nat.beq q 13 || Nat.beq q 22 || Nat.beq q 31 || Nat.beq q 38 || Nat.beq q 47 || Nat.beq q 52 || Nat.beq q 58 || Nat.beq q 67 || Nat.beq q 74 || Nat.beq q 82 || Nat.beq q 90 || Nat.beq q 98 || Nat.beq q 106 || Nat.beq q 114 || Nat.beq q 122 || Nat.beq q 130 || Nat.beq q 138 || Nat.beq q 146 || Nat.beq q 155 || Nat.beq q 163 || Nat.beq q 172 || Nat.beq q 181 || Nat.beq q 190 || Nat.beq q 195) 101 163 (3, 1027) [.inr (.inl (some l0))] [] σ).trans rfl
set_option maxRecDepth 20000 in
theorem uX11_init_172 (E : zE) (l0 : Nat) (σ : zS) : LX11_init_172 E l0 σ =
  (chk (zkd (zna σ 11 256) l0 = 9) <| zlt (zsr (zna σ 11 256) 614 l0 (some (znx σ))) fun s1 =>
  LX11_init_181 E l0 s1) :=
  (zun_at (fun pc => (oX11_init pc).1) E (fun q => Nat.beq q 13 || Nat.beq q 22 || Nat.beq q 31 || Nat.beq q 38 || Nat.beq q 47 || Nat.beq q 52 || Nat.beq q 58 || Nat.beq q 67 || Nat.beq q 74 || Nat.beq q 82 || Nat.beq q 90 || Nat.beq q 98 || Nat.beq q 106 || Nat.beq q 114 || Nat.beq q 122 || Nat.beq q 130 || Nat.beq q 138 || Nat.beq q 146 || Nat.beq q 155 || Nat.beq q 163 || Nat.beq q 172 || Nat.beq q 181 || Nat.beq q 190 || Nat.beq q 195) 101 172 (2, 771) [.inr (.inl (some l0))] [] σ).trans rfl
set_option maxRecDepth 20000 in
theorem uX11_init_181 (E : zE) (l0 : Nat) (σ : zS) : LX11_init_181 E l0 σ =
  (chk (zkd (zna σ 11 515) l0 = 9) <| zlt (zsr (zna σ 11 515) 615 l0 (some (znx σ))) fun s1 =>
  LX11_init_190 E l0 s1) :=
  (zun_at (fun pc => (oX11_init pc).1) E (fun q => Nat.beq q 13 || Nat.beq q 22 || Nat.beq q 31 || Nat.beq q 38 || Nat.beq q 47 || Nat.beq q 52 || Nat.beq q 58 || Nat.beq q 67 || Nat.beq q 74 || Nat.beq q 82 || Nat.beq q 90 || Nat.beq q 98 || Nat.beq q 106 || Nat.beq q 114 || Nat.beq q 122 || Nat.beq q 130 || Nat.beq q 138 || Nat.beq q 146 || Nat.beq q 155 || Nat.beq q 163 || Nat.beq q 172 || Nat.beq q 181 || Nat.beq q 190 || Nat.beq q 195) 101 181 (1, 515) [.inr (.inl (some l0))] [] σ).trans rfl
set_option maxRecDepth 20000 in
theorem uX11_init_190 (E : zE) (l0 : Nat) (σ : zS) : LX11_init_190 E l0 σ =
  (chk (zkd σ l0 = 9) <| zlt (zsi σ 576 l0 0) fun s1 =>
  LX11_init_195 E l0 s1) :=
  (zun_at (fun pc => (oX11_init pc).1) E (fun q => Nat.beq q 13 || Nat.beq q 22 || Nat.beq q 31 || Nat.beq q 38 || Nat.beq q 47 || Nat.beq q 52 || Nat.beq q 58 || Nat.beq q 67 || Nat.beq q 74 || Nat.beq q 82 || Nat.beq q 90 || Nat.beq q 98 || Nat.beq q 106 || Nat.beq q 114 || Nat.beq q 122 || Nat.beq q 130 || Nat.beq q 138 || Nat.beq q 146 || Nat.beq q 155 || Nat.beq q 163 || Nat.beq q 172 || Nat.beq q 181 || Nat.beq q 190 || Nat.beq q 195) 101 190 (0, 0) [.inr (.inl (some l0))] [] σ).trans rfl
set_option maxRecDepth 20000 in
theorem uX11_init_195 (E : zE) (l0 : Nat) (σ : zS) : LX11_init_195 E l0 σ =
  (chk (zkd σ l0 = 9) <|
  bnV (E mX11_makeImage [.inr (.inl (some l0)), .inl 8, .inl 8] σ) fun s1 =>
  some (none, s1)) :=
  (zun_at (fun pc => (oX11_init pc).1) E (fun q => Nat.beq q 13 || Nat.beq q 22 || Nat.beq q 31 || Nat.beq q 38 || Nat.beq q 47 || Nat.beq q 52 || Nat.beq q 58 || Nat.beq q 67 || Nat.beq q 74 || Nat.beq q 82 || Nat.beq q 90 || Nat.beq q 98 || Nat.beq q 106 || Nat.beq q 114 || Nat.beq q 122 || Nat.beq q 130 || Nat.beq q 138 || Nat.beq q 146 || Nat.beq q 155 || Nat.beq q 163 || Nat.beq q 172 || Nat.beq q 181 || Nat.beq q 190 || Nat.beq q 195) 101 195 (0, 0) [.inr (.inl (some l0))] [] σ).trans rfl
noncomputable def fX11_init (E : zE) (p0 : Nat) (σ : zS) : zO :=
  chk (zkd (zna σ 11 515) p0 = 9) <| zlt (zsr (zna σ 11 515) 577 p0 (some (znx σ))) fun s1 =>
  LX11_init_13 E p0 s1
set_option maxRecDepth 20000 in
theorem eX11_init (E : zE) (p0 : Nat) (σ : zS) : zM tX11_init 1 (21, 8773) E [.inr (.inl (some p0))] σ = fX11_init E p0 σ :=
  (zun_at (fun pc => (oX11_init pc).1) E (fun q => Nat.beq q 13 || Nat.beq q 22 || Nat.beq q 31 || Nat.beq q 38 || Nat.beq q 47 || Nat.beq q 52 || Nat.beq q 58 || Nat.beq q 67 || Nat.beq q 74 || Nat.beq q 82 || Nat.beq q 90 || Nat.beq q 98 || Nat.beq q 106 || Nat.beq q 114 || Nat.beq q 122 || Nat.beq q 130 || Nat.beq q 138 || Nat.beq q 146 || Nat.beq q 155 || Nat.beq q 163 || Nat.beq q 172 || Nat.beq q 181 || Nat.beq q 190 || Nat.beq q 195) 101 0 (21, 8773) (zls0 [.inr (.inl (some p0))] 1) [] σ).trans rfl
noncomputable def fX11_in (E : zE) (p0 : Int32) (p1 : Int32) (p2 : Int32) (σ : zS) : zO :=
  if (p0 : Int32) < p1 then
    chk (zB 0) (some (some (.inl 0), σ))
  else
    if (p0 : Int32) ≤ p2 then
      chk (zB 1) (some (some (.inl 1), σ))
    else
      chk (zB 0) (some (some (.inl 0), σ))
set_option maxRecDepth 20000 in
theorem eX11_in (E : zE) (p0 : Int32) (p1 : Int32) (p2 : Int32) (σ : zS) : zM tX11_in 3 (0, 0) E [.inl p0, .inl p1, .inl p2] σ = fX11_in E p0 p1 p2 σ :=
  (zun_at (fun pc => (oX11_in pc).1) E (fun _ => false) 11 0 (0, 0) (zls0 [.inl p0, .inl p1, .inl p2] 3) [] σ).trans rfl
noncomputable def fX11_floor (E : zE) (p0 : Int32) (p1 : Int32) (σ : zS) : zO :=
  if (p0 : Int32) < 0 then
    if (p1 : Int32) = 0 then none else
    some (some (.inl (-(((p1 - 1) - p0) / p1))), σ)
  else
    if (p1 : Int32) = 0 then none else
    some (some (.inl (p0 / p1)), σ)
set_option maxRecDepth 20000 in
theorem eX11_floor (E : zE) (p0 : Int32) (p1 : Int32) (σ : zS) : zM tX11_floor 2 (0, 0) E [.inl p0, .inl p1] σ = fX11_floor E p0 p1 σ :=
  (zun_at (fun pc => (oX11_floor pc).1) E (fun _ => false) 16 0 (0, 0) (zls0 [.inl p0, .inl p1] 2) [] σ).trans rfl
noncomputable def fX11_clamp (E : zE) (p0 : Int32) (σ : zS) : zO :=
  if (p0 : Int32) < 0 then
    some (some (.inl 0), σ)
  else
    if (p0 : Int32) ≤ 255 then
      some (some (.inl p0), σ)
    else
      some (some (.inl 255), σ)
set_option maxRecDepth 20000 in
theorem eX11_clamp (E : zE) (p0 : Int32) (σ : zS) : zM tX11_clamp 1 (0, 0) E [.inl p0] σ = fX11_clamp E p0 σ :=
  (zun_at (fun pc => (oX11_clamp pc).1) E (fun _ => false) 12 0 (0, 0) (zls0 [.inl p0] 1) [] σ).trans rfl
noncomputable def fX11_abs (E : zE) (p0 : Int32) (σ : zS) : zO :=
  if (p0 : Int32) < 0 then
    some (some (.inl (-p0)), σ)
  else
    some (some (.inl p0), σ)
set_option maxRecDepth 20000 in
theorem eX11_abs (E : zE) (p0 : Int32) (σ : zS) : zM tX11_abs 1 (0, 0) E [.inl p0] σ = fX11_abs E p0 σ :=
  (zun_at (fun pc => (oX11_abs pc).1) E (fun _ => false) 8 0 (0, 0) (zls0 [.inl p0] 1) [] σ).trans rfl
noncomputable def LX11_makeImage_16 (E : zE) (l0 : Nat) (l1 : Int32) (l2 : Int32) (l3 : Int32) (σ : zS) : zO := zF tX11_makeImage E 16 (0, 0) [.inr (.inl (some l0)), .inl l1, .inl l2, .inl l3] [] σ
set_option maxRecDepth 20000 in
theorem uX11_makeImage_16 (E : zE) (l0 : Nat) (l1 : Int32) (l2 : Int32) (l3 : Int32) (σ : zS) : LX11_makeImage_16 E l0 l1 l2 l3 σ =
  (if (l3 : Int32) < 256 then
    chk (zkd σ l0 = 9) <|
    bnI (E mX11_in [.inl l3, .inl 0, .inl ((l1 * l2) - 1)] σ) fun v2 s1 =>
    if (v2 : Int32) = 0 then
      onR (zr σ 577 l0) fun a3 =>
      chk (zkd s1 a3 = 11 ∧ zin (2 + l3) (zln s1 a3)) <| zlt (zsa s1 a3 (Int32.toNatClampNeg (2 + l3)) 0) fun s4 =>
      zlt (α := Int32) (l3 + 1) fun v5 =>
      LX11_makeImage_16 E l0 l1 l2 v5 s4
    else
      if (l1 : Int32) = 0 then none else
      if (l1 : Int32) = 0 then none else
      if (256 : Int32) = 0 then none else
      onR (zr σ 577 l0) fun a6 =>
      chk (zkd s1 a6 = 11 ∧ zin (2 + l3) (zln s1 a6)) <| zlt (zsa s1 a6 (Int32.toNatClampNeg (2 + l3)) (((17 * (l3 - l3 / l1 * l1)) + (29 * (l3 / l1))) - ((17 * (l3 - l3 / l1 * l1)) + (29 * (l3 / l1))) / 256 * 256)) fun s7 =>
      zlt (α := Int32) (l3 + 1) fun v8 =>
      LX11_makeImage_16 E l0 l1 l2 v8 s7
  else
    some (none, σ)) :=
  (zun_at (fun pc => (oX11_makeImage pc).1) E (fun q => Nat.beq q 16) 49 16 (0, 0) [.inr (.inl (some l0)), .inl l1, .inl l2, .inl l3] [] σ).trans rfl
noncomputable def fX11_makeImage (E : zE) (p0 : Nat) (p1 : Int32) (p2 : Int32) (σ : zS) : zO :=
  chk (zkd σ p0 = 9) <|
  onR (zr σ 577 p0) fun a1 =>
  chk (zkd σ a1 = 11 ∧ zin 0 (zln σ a1)) <| zlt (zsa σ a1 (Int32.toNatClampNeg 0) p1) fun s2 =>
  chk (zkd s2 p0 = 9) <|
  onR (zr s2 577 p0) fun a3 =>
  chk (zkd s2 a3 = 11 ∧ zin 1 (zln s2 a3)) <| zlt (zsa s2 a3 (Int32.toNatClampNeg 1) p2) fun s4 =>
  zlt (α := Int32) 0 fun v5 =>
  LX11_makeImage_16 E p0 p1 p2 v5 s4
set_option maxRecDepth 20000 in
theorem eX11_makeImage (E : zE) (p0 : Nat) (p1 : Int32) (p2 : Int32) (σ : zS) : zM tX11_makeImage 4 (0, 0) E [.inr (.inl (some p0)), .inl p1, .inl p2] σ = fX11_makeImage E p0 p1 p2 σ :=
  (zun_at (fun pc => (oX11_makeImage pc).1) E (fun q => Nat.beq q 16) 49 0 (0, 0) (zls0 [.inr (.inl (some p0)), .inl p1, .inl p2] 4) [] σ).trans rfl
noncomputable def LX11_keep_11 (E : zE) (l0 : Nat) (l1 : Int32) (σ : zS) : zO := zF tX11_keep E 11 (0, 0) [.inr (.inl (some l0)), .inl l1] [] σ
noncomputable def LX11_keep_52 (E : zE) (l0 : Nat) (l1 : Int32) (σ : zS) : zO := zF tX11_keep E 52 (0, 0) [.inr (.inl (some l0)), .inl l1] [] σ
set_option maxRecDepth 20000 in
theorem uX11_keep_11 (E : zE) (l0 : Nat) (l1 : Int32) (σ : zS) : LX11_keep_11 E l0 l1 σ =
  (if (l1 : Int32) < 2575 then
    chk (zkd σ l0 = 9) <|
    chk (zkd σ l0 = 9) <|
    onR (zr σ 578 l0) fun a1 =>
    chk (zkd σ a1 = 11 ∧ zin (515 + l1) (zln σ a1)) <|
    onR (zr σ 578 l0) fun a2 =>
    chk (zkd σ a2 = 11 ∧ zin l1 (zln σ a2)) <| zlt (zsa σ a2 (Int32.toNatClampNeg l1) (zai σ a1 (Int32.toNatClampNeg (515 + l1)))) fun s3 =>
    zlt (α := Int32) (l1 + 1) fun v4 =>
    LX11_keep_11 E l0 v4 s3
  else
    chk (zkd σ l0 = 9) <|
    chk (zkd σ l0 = 9) <| zlt (zsi σ 579 l0 ((zi σ 579 l0) - 1)) fun s5 =>
    zlt (α := Int32) 0 fun v6 =>
    LX11_keep_52 E l0 v6 s5) :=
  (zun_at (fun pc => (oX11_keep pc).1) E (fun q => Nat.beq q 11 || Nat.beq q 52) 55 11 (0, 0) [.inr (.inl (some l0)), .inl l1] [] σ).trans rfl
set_option maxRecDepth 20000 in
theorem uX11_keep_52 (E : zE) (l0 : Nat) (l1 : Int32) (σ : zS) : LX11_keep_52 E l0 l1 σ =
  (if (l1 : Int32) < 515 then
    chk (zkd σ l0 = 9) <|
    chk (zkd σ l0 = 9) <|
    chk (zkd σ l0 = 9) <|
    onR (zr σ 577 l0) fun a1 =>
    chk (zkd σ a1 = 11 ∧ zin l1 (zln σ a1)) <|
    onR (zr σ 578 l0) fun a2 =>
    chk (zkd σ a2 = 11 ∧ zin ((515 * (zi σ 579 l0)) + l1) (zln σ a2)) <| zlt (zsa σ a2 (Int32.toNatClampNeg ((515 * (zi σ 579 l0)) + l1)) (zai σ a1 (Int32.toNatClampNeg l1))) fun s3 =>
    zlt (α := Int32) (l1 + 1) fun v4 =>
    LX11_keep_52 E l0 v4 s3
  else
    chk (zkd σ l0 = 9) <|
    chk (zkd σ l0 = 9) <| zlt (zsi σ 579 l0 ((zi σ 579 l0) + 1)) fun s5 =>
    some (none, s5)) :=
  (zun_at (fun pc => (oX11_keep pc).1) E (fun q => Nat.beq q 11 || Nat.beq q 52) 55 52 (0, 0) [.inr (.inl (some l0)), .inl l1] [] σ).trans rfl
noncomputable def fX11_keep (E : zE) (p0 : Nat) (σ : zS) : zO :=
  chk (zkd σ p0 = 9) <|
  if ((zi σ 579 p0) : Int32) = 6 then
    zlt (α := Int32) 0 fun v1 =>
    LX11_keep_11 E p0 v1 σ
  else
    zlt (α := Int32) 0 fun v2 =>
    LX11_keep_52 E p0 v2 σ
set_option maxRecDepth 20000 in
theorem eX11_keep (E : zE) (p0 : Nat) (σ : zS) : zM tX11_keep 2 (0, 0) E [.inr (.inl (some p0))] σ = fX11_keep E p0 σ :=
  (zun_at (fun pc => (oX11_keep pc).1) E (fun q => Nat.beq q 11 || Nat.beq q 52) 55 0 (0, 0) (zls0 [.inr (.inl (some p0))] 2) [] σ).trans rfl
noncomputable def fX11_at (E : zE) (p0 : Int32) (σ : zS) : zO :=
  some (some (.inl (259 + (32 * p0))), σ)
set_option maxRecDepth 20000 in
theorem eX11_at (E : zE) (p0 : Int32) (σ : zS) : zM tX11_at 1 (0, 0) E [.inl p0] σ = fX11_at E p0 σ :=
  (zun_at (fun pc => (oX11_at pc).1) E (fun _ => false) 7 0 (0, 0) (zls0 [.inl p0] 1) [] σ).trans rfl
noncomputable def fX11_isLayer (E : zE) (p0 : Nat) (p1 : Int32) (σ : zS) : zO :=
  chk (zkd σ p0 = 9) <|
  onR (zr σ 577 p0) fun a1 =>
  chk (zkd σ a1 = 11 ∧ zin 258 (zln σ a1)) <|
  bnI (E mX11_in [.inl p1, .inl 0, .inl ((zai σ a1 (Int32.toNatClampNeg 258)) - 1)] σ) fun v3 s2 =>
  chk (zB v3) (some (some (.inl v3), s2))
set_option maxRecDepth 20000 in
theorem eX11_isLayer (E : zE) (p0 : Nat) (p1 : Int32) (σ : zS) : zM tX11_isLayer 2 (0, 0) E [.inr (.inl (some p0)), .inl p1] σ = fX11_isLayer E p0 p1 σ :=
  (zun_at (fun pc => (oX11_isLayer pc).1) E (fun _ => false) 11 0 (0, 0) (zls0 [.inr (.inl (some p0)), .inl p1] 2) [] σ).trans rfl
noncomputable def fX11_isPixel (E : zE) (p0 : Nat) (p1 : Int32) (p2 : Int32) (σ : zS) : zO :=
  chk (zkd σ p0 = 9) <|
  onR (zr σ 577 p0) fun a1 =>
  chk (zkd σ a1 = 11 ∧ zin 0 (zln σ a1)) <|
  bnI (E mX11_in [.inl p1, .inl 0, .inl ((zai σ a1 (Int32.toNatClampNeg 0)) - 1)] σ) fun v3 s2 =>
  if (v3 : Int32) = 0 then
    chk (zB 0) (some (some (.inl 0), s2))
  else
    chk (zkd s2 p0 = 9) <|
    onR (zr s2 577 p0) fun a4 =>
    chk (zkd s2 a4 = 11 ∧ zin 1 (zln s2 a4)) <|
    bnI (E mX11_in [.inl p2, .inl 0, .inl ((zai s2 a4 (Int32.toNatClampNeg 1)) - 1)] s2) fun v6 s5 =>
    if (v6 : Int32) = 0 then
      chk (zB 0) (some (some (.inl 0), s5))
    else
      chk (zB 1) (some (some (.inl 1), s5))
set_option maxRecDepth 20000 in
theorem eX11_isPixel (E : zE) (p0 : Nat) (p1 : Int32) (p2 : Int32) (σ : zS) : zM tX11_isPixel 3 (0, 0) E [.inr (.inl (some p0)), .inl p1, .inl p2] σ = fX11_isPixel E p0 p1 p2 σ :=
  (zun_at (fun pc => (oX11_isPixel pc).1) E (fun _ => false) 25 0 (0, 0) (zls0 [.inr (.inl (some p0)), .inl p1, .inl p2] 3) [] σ).trans rfl
noncomputable def fX11_isOn (E : zE) (p0 : Nat) (p1 : Int32) (σ : zS) : zO :=
  chk (zkd σ p0 = 9) <|
  bnI (E mX11_at [.inl p1] σ) fun v2 s1 =>
  onR (zr σ 577 p0) fun a3 =>
  chk (zkd s1 a3 = 11 ∧ zin (v2 + 5) (zln s1 a3)) <|
  if ((zai s1 a3 (Int32.toNatClampNeg (v2 + 5))) : Int32) = 1 then
    chk (zB 1) (some (some (.inl 1), s1))
  else
    chk (zB 0) (some (some (.inl 0), s1))
set_option maxRecDepth 20000 in
theorem eX11_isOn (E : zE) (p0 : Nat) (p1 : Int32) (σ : zS) : zM tX11_isOn 2 (0, 0) E [.inr (.inl (some p0)), .inl p1] σ = fX11_isOn E p0 p1 σ :=
  (zun_at (fun pc => (oX11_isOn pc).1) E (fun _ => false) 14 0 (0, 0) (zls0 [.inr (.inl (some p0)), .inl p1] 2) [] σ).trans rfl
noncomputable def fX11_columns (E : zE) (p0 : Nat) (σ : zS) : zO :=
  chk (zkd σ p0 = 9) <|
  onR (zr σ 577 p0) fun a1 =>
  chk (zkd σ a1 = 11 ∧ zin 0 (zln σ a1)) <|
  chk (zkd σ p0 = 9) <|
  chk (zkd σ p0 = 9) <|
  if ((zi σ 584 p0) : Int32) = 0 then none else
  some (some (.inl ((((zai σ a1 (Int32.toNatClampNeg 0)) + (zi σ 584 p0)) - 1) / (zi σ 584 p0))), σ)
set_option maxRecDepth 20000 in
theorem eX11_columns (E : zE) (p0 : Nat) (σ : zS) : zM tX11_columns 1 (0, 0) E [.inr (.inl (some p0))] σ = fX11_columns E p0 σ :=
  (zun_at (fun pc => (oX11_columns pc).1) E (fun _ => false) 14 0 (0, 0) (zls0 [.inr (.inl (some p0))] 1) [] σ).trans rfl
noncomputable def fX11_rows (E : zE) (p0 : Nat) (σ : zS) : zO :=
  chk (zkd σ p0 = 9) <|
  onR (zr σ 577 p0) fun a1 =>
  chk (zkd σ a1 = 11 ∧ zin 1 (zln σ a1)) <|
  chk (zkd σ p0 = 9) <|
  chk (zkd σ p0 = 9) <|
  if ((zi σ 584 p0) : Int32) = 0 then none else
  some (some (.inl ((((zai σ a1 (Int32.toNatClampNeg 1)) + (zi σ 584 p0)) - 1) / (zi σ 584 p0))), σ)
set_option maxRecDepth 20000 in
theorem eX11_rows (E : zE) (p0 : Nat) (σ : zS) : zM tX11_rows 1 (0, 0) E [.inr (.inl (some p0))] σ = fX11_rows E p0 σ :=
  (zun_at (fun pc => (oX11_rows pc).1) E (fun _ => false) 14 0 (0, 0) (zls0 [.inr (.inl (some p0))] 1) [] σ).trans rfl
noncomputable def LX11_cached_4 (E : zE) (l0 : Nat) (l1 : Int32) (l2 : Int32) (σ : zS) : zO := zF tX11_cached E 4 (0, 0) [.inr (.inl (some l0)), .inl l1, .inl l2] [] σ
set_option maxRecDepth 20000 in
theorem uX11_cached_4 (E : zE) (l0 : Nat) (l1 : Int32) (l2 : Int32) (σ : zS) : LX11_cached_4 E l0 l1 l2 σ =
  (if (l2 : Int32) < 512 then
    chk (zkd σ l0 = 9) <|
    onR (zr σ 586 l0) fun a1 =>
    chk (zkd σ a1 = 11 ∧ zin l2 (zln σ a1)) <|
    if ((zai σ a1 (Int32.toNatClampNeg l2)) : Int32) ≤ 0 then
      zlt (α := Int32) (l1 + 0) fun v2 =>
      zlt (α := Int32) (l2 + 1) fun v3 =>
      LX11_cached_4 E l0 v2 v3 σ
    else
      zlt (α := Int32) (l1 + 1) fun v4 =>
      zlt (α := Int32) (l2 + 1) fun v5 =>
      LX11_cached_4 E l0 v4 v5 σ
  else
    some (some (.inl l1), σ)) :=
  (zun_at (fun pc => (oX11_cached pc).1) E (fun q => Nat.beq q 4) 23 4 (0, 0) [.inr (.inl (some l0)), .inl l1, .inl l2] [] σ).trans rfl
noncomputable def fX11_cached (E : zE) (p0 : Nat) (σ : zS) : zO :=
  zlt (α := Int32) 0 fun v1 =>
  zlt (α := Int32) 0 fun v2 =>
  LX11_cached_4 E p0 v1 v2 σ
set_option maxRecDepth 20000 in
theorem eX11_cached (E : zE) (p0 : Nat) (σ : zS) : zM tX11_cached 3 (0, 0) E [.inr (.inl (some p0))] σ = fX11_cached E p0 σ :=
  (zun_at (fun pc => (oX11_cached pc).1) E (fun q => Nat.beq q 4) 23 0 (0, 0) (zls0 [.inr (.inl (some p0))] 3) [] σ).trans rfl
noncomputable def LX11_removeTiles_8 (E : zE) (l0 : Nat) (l1 : zV) (l2 : Int32) (l3 : Int32) (l4 : Int32) (σ : zS) : zO := zF tX11_removeTiles E 8 (0, 0) [.inr (.inl (some l0)), l1, .inl l2, .inl l3, .inl l4] [] σ
set_option maxRecDepth 20000 in
theorem uX11_removeTiles_8 (E : zE) (l0 : Nat) (l1 : zV) (l2 : Int32) (l3 : Int32) (l4 : Int32) (σ : zS) : LX11_removeTiles_8 E l0 l1 l2 l3 l4 σ =
  (if (l4 : Int32) < (64 * (l2 + 1)) then
    chk (zkd σ l0 = 9) <|
    onR (zr σ 586 l0) fun a1 =>
    chk (zkd σ a1 = 11 ∧ zin l4 (zln σ a1)) <|
    if ((zai σ a1 (Int32.toNatClampNeg l4)) : Int32) ≤ 0 then
      zlt (α := Int32) (l3 + 0) fun v2 =>
      chk (zkd σ l0 = 9) <|
      onR (zr σ 586 l0) fun a3 =>
      chk (zkd σ a3 = 11 ∧ zin l4 (zln σ a3)) <| zlt (zsa σ a3 (Int32.toNatClampNeg l4) 0) fun s4 =>
      zlt (α := Int32) (l4 + 1) fun v5 =>
      LX11_removeTiles_8 E l0 (l1) l2 v2 v5 s4
    else
      zlt (α := Int32) (l3 + 1) fun v6 =>
      chk (zkd σ l0 = 9) <|
      onR (zr σ 586 l0) fun a7 =>
      chk (zkd σ a7 = 11 ∧ zin l4 (zln σ a7)) <| zlt (zsa σ a7 (Int32.toNatClampNeg l4) 0) fun s8 =>
      zlt (α := Int32) (l4 + 1) fun v9 =>
      LX11_removeTiles_8 E l0 (l1) l2 v6 v9 s8
  else
    some (some (.inl l3), σ)) :=
  (zun_at (fun pc => (oX11_removeTiles pc).1) E (fun q => Nat.beq q 8) 34 8 (0, 0) [.inr (.inl (some l0)), l1, .inl l2, .inl l3, .inl l4] [] σ).trans rfl
noncomputable def fX11_removeTiles (E : zE) (p0 : Nat) (p1 : Int32) (p2 : Int32) (σ : zS) : zO :=
  zlt (α := Int32) 0 fun v1 =>
  zlt (α := Int32) (64 * p1) fun v2 =>
  LX11_removeTiles_8 E p0 (.inl p1) p2 v1 v2 σ
set_option maxRecDepth 20000 in
theorem eX11_removeTiles (E : zE) (p0 : Nat) (p1 : Int32) (p2 : Int32) (σ : zS) : zM tX11_removeTiles 5 (0, 0) E [.inr (.inl (some p0)), .inl p1, .inl p2] σ = fX11_removeTiles E p0 p1 p2 σ :=
  (zun_at (fun pc => (oX11_removeTiles pc).1) E (fun q => Nat.beq q 8) 34 0 (0, 0) (zls0 [.inr (.inl (some p0)), .inl p1, .inl p2] 5) [] σ).trans rfl
noncomputable def fX11_reach (E : zE) (p0 : Nat) (p1 : Int32) (σ : zS) : zO :=
  chk (zkd σ p0 = 9) <|
  bnI (E mX11_at [.inl p1] σ) fun v2 s1 =>
  onR (zr σ 577 p0) fun a3 =>
  chk (zkd s1 a3 = 11 ∧ zin (v2 + 0) (zln s1 a3)) <|
  zlt (α := Int32) (zai s1 a3 (Int32.toNatClampNeg (v2 + 0))) fun v4 =>
  chk (zkd s1 p0 = 9) <|
  bnI (E mX11_at [.inl p1] s1) fun v6 s5 =>
  onR (zr s1 577 p0) fun a7 =>
  chk (zkd s5 a7 = 11 ∧ zin (v6 + 1) (zln s5 a7)) <|
  zlt (α := Int32) (zai s5 a7 (Int32.toNatClampNeg (v6 + 1))) fun v8 =>
  chk (zkd s5 p0 = 9) <|
  bnI (E mX11_at [.inl p1] s5) fun v10 s9 =>
  onR (zr s5 577 p0) fun a11 =>
  chk (zkd s9 a11 = 11 ∧ zin (v10 + 2) (zln s9 a11)) <|
  zlt (α := Int32) (zai s9 a11 (Int32.toNatClampNeg (v10 + 2))) fun v12 =>
  if (v4 : Int32) = 11 then
    bnI (E mX11_abs [.inl v8] s9) fun v14 s13 =>
    bnI (E mX11_abs [.inl v12] s13) fun v16 s15 =>
    if (v14 : Int32) ≤ v16 then
      bnI (E mX11_abs [.inl v12] s15) fun v18 s17 =>
      some (some (.inl v18), s17)
    else
      bnI (E mX11_abs [.inl v8] s15) fun v20 s19 =>
      some (some (.inl v20), s19)
  else
    if (v4 : Int32) = 13 then
      some (some (.inl 16), s9)
    else
      bnI (E mX11_in [.inl v4, .inl 6, .inl 10] s9) fun v22 s21 =>
      if (v22 : Int32) = 0 then
        some (some (.inl 0), s21)
      else
        some (some (.inl v8), s21)
set_option maxRecDepth 20000 in
theorem eX11_reach (E : zE) (p0 : Nat) (p1 : Int32) (σ : zS) : zM tX11_reach 5 (0, 0) E [.inr (.inl (some p0)), .inl p1] σ = fX11_reach E p0 p1 σ :=
  (zun_at (fun pc => (oX11_reach pc).1) E (fun _ => false) 53 0 (0, 0) (zls0 [.inr (.inl (some p0)), .inl p1] 5) [] σ).trans rfl
noncomputable def LX11_removeAfter_27 (E : zE) (l0 : Nat) (l1 : zV) (l2 : zV) (l3 : zV) (l4 : zV) (l5 : Int32) (l6 : Int32) (l7 : Int32) (l8 : Int32) (l9 : Int32) (l10 : Int32) (l11 : zV) (l12 : zV) (l13 : zV) (l14 : zV) (σ : zS) : zO := zF tX11_removeAfter E 27 (0, 0) [.inr (.inl (some l0)), l1, l2, l3, l4, .inl l5, .inl l6, .inl l7, .inl l8, .inl l9, .inl l10, l11, l12, l13, l14] [] σ
noncomputable def LX11_removeAfter_74 (E : zE) (l0 : Nat) (l1 : zV) (l2 : zV) (l3 : zV) (l4 : zV) (l5 : Int32) (l6 : zV) (l7 : Int32) (l8 : Int32) (l9 : Int32) (l10 : Int32) (l11 : Int32) (l12 : zV) (l13 : zV) (l14 : zV) (k0 : Int32) (σ : zS) : zO := zF tX11_removeAfter E 74 (0, 0) [.inr (.inl (some l0)), l1, l2, l3, l4, .inl l5, l6, .inl l7, .inl l8, .inl l9, .inl l10, .inl l11, l12, l13, l14] [.inl k0] σ
noncomputable def LX11_removeAfter_93 (E : zE) (l0 : Nat) (l1 : zV) (l2 : zV) (l3 : zV) (l4 : zV) (l5 : Int32) (l6 : Int32) (l7 : Int32) (l8 : zV) (l9 : Int32) (l10 : Int32) (l11 : Int32) (l12 : zV) (l13 : zV) (l14 : zV) (k0 : Int32) (σ : zS) : zO := zF tX11_removeAfter E 93 (0, 0) [.inr (.inl (some l0)), l1, l2, l3, l4, .inl l5, .inl l6, .inl l7, l8, .inl l9, .inl l10, .inl l11, l12, l13, l14] [.inl k0] σ
noncomputable def LX11_removeAfter_125 (E : zE) (l0 : Nat) (l1 : zV) (l2 : zV) (l3 : zV) (l4 : zV) (l5 : Int32) (l6 : Int32) (l7 : zV) (l8 : Int32) (l9 : Int32) (l10 : Int32) (l11 : Int32) (l12 : zV) (l13 : zV) (l14 : zV) (k0 : Int32) (σ : zS) : zO := zF tX11_removeAfter E 125 (0, 0) [.inr (.inl (some l0)), l1, l2, l3, l4, .inl l5, .inl l6, l7, .inl l8, .inl l9, .inl l10, .inl l11, l12, l13, l14] [.inl k0] σ
noncomputable def LX11_removeAfter_168 (E : zE) (l0 : Nat) (l1 : zV) (l2 : zV) (l3 : zV) (l4 : zV) (l5 : Int32) (l6 : Int32) (l7 : Int32) (l8 : Int32) (l9 : Int32) (l10 : Int32) (l11 : zV) (l12 : Int32) (l13 : zV) (l14 : zV) (σ : zS) : zO := zF tX11_removeAfter E 168 (0, 0) [.inr (.inl (some l0)), l1, l2, l3, l4, .inl l5, .inl l6, .inl l7, .inl l8, .inl l9, .inl l10, l11, .inl l12, l13, l14] [] σ
noncomputable def LX11_removeAfter_189 (E : zE) (l0 : Nat) (l1 : zV) (l2 : zV) (l3 : zV) (l4 : zV) (l5 : Int32) (l6 : Int32) (l7 : Int32) (l8 : Int32) (l9 : Int32) (l10 : Int32) (l11 : zV) (l12 : Int32) (l13 : Int32) (l14 : zV) (σ : zS) : zO := zF tX11_removeAfter E 189 (0, 0) [.inr (.inl (some l0)), l1, l2, l3, l4, .inl l5, .inl l6, .inl l7, .inl l8, .inl l9, .inl l10, l11, .inl l12, .inl l13, l14] [] σ
set_option maxRecDepth 20000 in
theorem uX11_removeAfter_27 (E : zE) (l0 : Nat) (l1 : zV) (l2 : zV) (l3 : zV) (l4 : zV) (l5 : Int32) (l6 : Int32) (l7 : Int32) (l8 : Int32) (l9 : Int32) (l10 : Int32) (l11 : zV) (l12 : zV) (l13 : zV) (l14 : zV) (σ : zS) : LX11_removeAfter_27 E l0 l1 l2 l3 l4 l5 l6 l7 l8 l9 l10 l11 l12 l13 l14 σ =
  (chk (zkd σ l0 = 9) <|
  onR (zr σ 577 l0) fun a1 =>
  chk (zkd σ a1 = 11 ∧ zin 258 (zln σ a1)) <|
  if (l10 : Int32) < (zai σ a1 (Int32.toNatClampNeg 258)) then
    chk (zkd σ l0 = 9) <|
    bnI (E mX11_isOn [.inr (.inl (some l0)), .inl l10] σ) fun v3 s2 =>
    if (v3 : Int32) = 0 then
      zlt (α := Int32) (l10 + 1) fun v4 =>
      LX11_removeAfter_27 E l0 (l1) (l2) (l3) (l4) l5 l6 l7 l8 l9 v4 (l11) (l12) (l13) (l14) s2
    else
      chk (zkd s2 l0 = 9) <|
      bnI (E mX11_reach [.inr (.inl (some l0)), .inl l10] s2) fun v6 s5 =>
      zlt (α := Int32) v6 fun v7 =>
      if ((l6 - v7) : Int32) < 0 then
        LX11_removeAfter_74 E l0 (l1) (l2) (l3) (l4) l5 (.inl l6) l7 l8 l9 l10 v7 (l12) (l13) (l14) 0 s5
      else
        LX11_removeAfter_74 E l0 (l1) (l2) (l3) (l4) l5 (.inl l6) l7 l8 l9 l10 v7 (l12) (l13) (l14) (l6 - v7) s5
  else
    some (some (.inl l5), σ)) :=
  (zun_at (fun pc => (oX11_removeAfter pc).1) E (fun q => Nat.beq q 27 || Nat.beq q 74 || Nat.beq q 93 || Nat.beq q 125 || Nat.beq q 168 || Nat.beq q 189) 149 27 (0, 0) [.inr (.inl (some l0)), l1, l2, l3, l4, .inl l5, .inl l6, .inl l7, .inl l8, .inl l9, .inl l10, l11, l12, l13, l14] [] σ).trans rfl
set_option maxRecDepth 20000 in
theorem uX11_removeAfter_74 (E : zE) (l0 : Nat) (l1 : zV) (l2 : zV) (l3 : zV) (l4 : zV) (l5 : Int32) (l6 : zV) (l7 : Int32) (l8 : Int32) (l9 : Int32) (l10 : Int32) (l11 : Int32) (l12 : zV) (l13 : zV) (l14 : zV) (k0 : Int32) (σ : zS) : LX11_removeAfter_74 E l0 l1 l2 l3 l4 l5 l6 l7 l8 l9 l10 l11 l12 l13 l14 k0 σ =
  (zlt (α := Int32) k0 fun v1 =>
  if ((l8 - l11) : Int32) < 0 then
    LX11_removeAfter_93 E l0 (l1) (l2) (l3) (l4) l5 v1 l7 (.inl l8) l9 l10 l11 (l12) (l13) (l14) 0 σ
  else
    LX11_removeAfter_93 E l0 (l1) (l2) (l3) (l4) l5 v1 l7 (.inl l8) l9 l10 l11 (l12) (l13) (l14) (l8 - l11) σ) :=
  (zun_at (fun pc => (oX11_removeAfter pc).1) E (fun q => Nat.beq q 27 || Nat.beq q 74 || Nat.beq q 93 || Nat.beq q 125 || Nat.beq q 168 || Nat.beq q 189) 149 74 (0, 0) [.inr (.inl (some l0)), l1, l2, l3, l4, .inl l5, l6, .inl l7, .inl l8, .inl l9, .inl l10, .inl l11, l12, l13, l14] [.inl k0] σ).trans rfl
set_option maxRecDepth 20000 in
theorem uX11_removeAfter_93 (E : zE) (l0 : Nat) (l1 : zV) (l2 : zV) (l3 : zV) (l4 : zV) (l5 : Int32) (l6 : Int32) (l7 : Int32) (l8 : zV) (l9 : Int32) (l10 : Int32) (l11 : Int32) (l12 : zV) (l13 : zV) (l14 : zV) (k0 : Int32) (σ : zS) : LX11_removeAfter_93 E l0 l1 l2 l3 l4 l5 l6 l7 l8 l9 l10 l11 l12 l13 l14 k0 σ =
  (zlt (α := Int32) k0 fun v1 =>
  chk (zkd σ l0 = 9) <|
  onR (zr σ 577 l0) fun a2 =>
  chk (zkd σ a2 = 11 ∧ zin 0 (zln σ a2)) <|
  if ((l7 + l11) : Int32) < (zai σ a2 (Int32.toNatClampNeg 0)) then
    LX11_removeAfter_125 E l0 (l1) (l2) (l3) (l4) l5 l6 (.inl l7) v1 l9 l10 l11 (l12) (l13) (l14) (l7 + l11) σ
  else
    chk (zkd σ l0 = 9) <|
    onR (zr σ 577 l0) fun a3 =>
    chk (zkd σ a3 = 11 ∧ zin 0 (zln σ a3)) <|
    LX11_removeAfter_125 E l0 (l1) (l2) (l3) (l4) l5 l6 (.inl l7) v1 l9 l10 l11 (l12) (l13) (l14) ((zai σ a3 (Int32.toNatClampNeg 0)) - 1) σ) :=
  (zun_at (fun pc => (oX11_removeAfter pc).1) E (fun q => Nat.beq q 27 || Nat.beq q 74 || Nat.beq q 93 || Nat.beq q 125 || Nat.beq q 168 || Nat.beq q 189) 149 93 (0, 0) [.inr (.inl (some l0)), l1, l2, l3, l4, .inl l5, .inl l6, .inl l7, l8, .inl l9, .inl l10, .inl l11, l12, l13, l14] [.inl k0] σ).trans rfl
set_option maxRecDepth 20000 in
theorem uX11_removeAfter_125 (E : zE) (l0 : Nat) (l1 : zV) (l2 : zV) (l3 : zV) (l4 : zV) (l5 : Int32) (l6 : Int32) (l7 : zV) (l8 : Int32) (l9 : Int32) (l10 : Int32) (l11 : Int32) (l12 : zV) (l13 : zV) (l14 : zV) (k0 : Int32) (σ : zS) : LX11_removeAfter_125 E l0 l1 l2 l3 l4 l5 l6 l7 l8 l9 l10 l11 l12 l13 l14 k0 σ =
  (zlt (α := Int32) k0 fun v1 =>
  chk (zkd σ l0 = 9) <|
  onR (zr σ 577 l0) fun a2 =>
  chk (zkd σ a2 = 11 ∧ zin 1 (zln σ a2)) <|
  if ((l9 + l11) : Int32) < (zai σ a2 (Int32.toNatClampNeg 1)) then
    zlt (α := Int32) (l9 + l11) fun v3 =>
    chk (zkd σ l0 = 9) <|
    if ((zi σ 584 l0) : Int32) = 0 then none else
    zlt (α := Int32) (l8 / (zi σ 584 l0)) fun v4 =>
    LX11_removeAfter_168 E l0 (l1) (l2) (l3) (l4) l5 l6 v1 l8 v3 l10 (.inl l11) v4 (l13) (l14) σ
  else
    chk (zkd σ l0 = 9) <|
    onR (zr σ 577 l0) fun a5 =>
    chk (zkd σ a5 = 11 ∧ zin 1 (zln σ a5)) <|
    zlt (α := Int32) ((zai σ a5 (Int32.toNatClampNeg 1)) - 1) fun v6 =>
    chk (zkd σ l0 = 9) <|
    if ((zi σ 584 l0) : Int32) = 0 then none else
    zlt (α := Int32) (l8 / (zi σ 584 l0)) fun v7 =>
    LX11_removeAfter_168 E l0 (l1) (l2) (l3) (l4) l5 l6 v1 l8 v6 l10 (.inl l11) v7 (l13) (l14) σ) :=
  (zun_at (fun pc => (oX11_removeAfter pc).1) E (fun q => Nat.beq q 27 || Nat.beq q 74 || Nat.beq q 93 || Nat.beq q 125 || Nat.beq q 168 || Nat.beq q 189) 149 125 (0, 0) [.inr (.inl (some l0)), l1, l2, l3, l4, .inl l5, .inl l6, l7, .inl l8, .inl l9, .inl l10, .inl l11, l12, l13, l14] [.inl k0] σ).trans rfl
set_option maxRecDepth 20000 in
theorem uX11_removeAfter_168 (E : zE) (l0 : Nat) (l1 : zV) (l2 : zV) (l3 : zV) (l4 : zV) (l5 : Int32) (l6 : Int32) (l7 : Int32) (l8 : Int32) (l9 : Int32) (l10 : Int32) (l11 : zV) (l12 : Int32) (l13 : zV) (l14 : zV) (σ : zS) : LX11_removeAfter_168 E l0 l1 l2 l3 l4 l5 l6 l7 l8 l9 l10 l11 l12 l13 l14 σ =
  (chk (zkd σ l0 = 9) <|
  if ((zi σ 584 l0) : Int32) = 0 then none else
  if (l12 : Int32) ≤ (l9 / (zi σ 584 l0)) then
    chk (zkd σ l0 = 9) <|
    if ((zi σ 584 l0) : Int32) = 0 then none else
    zlt (α := Int32) (l6 / (zi σ 584 l0)) fun v1 =>
    LX11_removeAfter_189 E l0 (l1) (l2) (l3) (l4) l5 l6 l7 l8 l9 l10 (l11) l12 v1 (l14) σ
  else
    zlt (α := Int32) (l10 + 1) fun v2 =>
    LX11_removeAfter_27 E l0 (l1) (l2) (l3) (l4) l5 l6 l7 l8 l9 v2 (l11) (.inl l12) (l13) (l14) σ) :=
  (zun_at (fun pc => (oX11_removeAfter pc).1) E (fun q => Nat.beq q 27 || Nat.beq q 74 || Nat.beq q 93 || Nat.beq q 125 || Nat.beq q 168 || Nat.beq q 189) 149 168 (0, 0) [.inr (.inl (some l0)), l1, l2, l3, l4, .inl l5, .inl l6, .inl l7, .inl l8, .inl l9, .inl l10, l11, .inl l12, l13, l14] [] σ).trans rfl
set_option maxRecDepth 20000 in
theorem uX11_removeAfter_189 (E : zE) (l0 : Nat) (l1 : zV) (l2 : zV) (l3 : zV) (l4 : zV) (l5 : Int32) (l6 : Int32) (l7 : Int32) (l8 : Int32) (l9 : Int32) (l10 : Int32) (l11 : zV) (l12 : Int32) (l13 : Int32) (l14 : zV) (σ : zS) : LX11_removeAfter_189 E l0 l1 l2 l3 l4 l5 l6 l7 l8 l9 l10 l11 l12 l13 l14 σ =
  (chk (zkd σ l0 = 9) <|
  if ((zi σ 584 l0) : Int32) = 0 then none else
  if (l13 : Int32) ≤ (l7 / (zi σ 584 l0)) then
    zlt (α := Int32) (((64 * l10) + (8 * l12)) + l13) fun v1 =>
    chk (zkd σ l0 = 9) <|
    onR (zr σ 586 l0) fun a2 =>
    chk (zkd σ a2 = 11 ∧ zin v1 (zln σ a2)) <|
    if ((zai σ a2 (Int32.toNatClampNeg v1)) : Int32) ≤ 0 then
      zlt (α := Int32) (l5 + 0) fun v3 =>
      chk (zkd σ l0 = 9) <|
      onR (zr σ 586 l0) fun a4 =>
      chk (zkd σ a4 = 11 ∧ zin v1 (zln σ a4)) <| zlt (zsa σ a4 (Int32.toNatClampNeg v1) 0) fun s5 =>
      zlt (α := Int32) (l13 + 1) fun v6 =>
      LX11_removeAfter_189 E l0 (l1) (l2) (l3) (l4) v3 l6 l7 l8 l9 l10 (l11) l12 v6 (.inl v1) s5
    else
      zlt (α := Int32) (l5 + 1) fun v7 =>
      chk (zkd σ l0 = 9) <|
      onR (zr σ 586 l0) fun a8 =>
      chk (zkd σ a8 = 11 ∧ zin v1 (zln σ a8)) <| zlt (zsa σ a8 (Int32.toNatClampNeg v1) 0) fun s9 =>
      zlt (α := Int32) (l13 + 1) fun v10 =>
      LX11_removeAfter_189 E l0 (l1) (l2) (l3) (l4) v7 l6 l7 l8 l9 l10 (l11) l12 v10 (.inl v1) s9
  else
    zlt (α := Int32) (l12 + 1) fun v11 =>
    LX11_removeAfter_168 E l0 (l1) (l2) (l3) (l4) l5 l6 l7 l8 l9 l10 (l11) v11 (.inl l13) (l14) σ) :=
  (zun_at (fun pc => (oX11_removeAfter pc).1) E (fun q => Nat.beq q 27 || Nat.beq q 74 || Nat.beq q 93 || Nat.beq q 125 || Nat.beq q 168 || Nat.beq q 189) 149 189 (0, 0) [.inr (.inl (some l0)), l1, l2, l3, l4, .inl l5, .inl l6, .inl l7, .inl l8, .inl l9, .inl l10, l11, .inl l12, .inl l13, l14] [] σ).trans rfl
noncomputable def fX11_removeAfter (E : zE) (p0 : Nat) (p1 : Int32) (p2 : Int32) (p3 : Int32) (p4 : Int32) (σ : zS) : zO :=
  zlt (α := Int32) 0 fun v1 =>
  zlt (α := Int32) p1 fun v2 =>
  zlt (α := Int32) ((p1 + p3) - 1) fun v3 =>
  zlt (α := Int32) p2 fun v4 =>
  zlt (α := Int32) ((p2 + p4) - 1) fun v5 =>
  zlt (α := Int32) 0 fun v6 =>
  LX11_removeAfter_27 E p0 (.inl p1) (.inl p2) (.inl p3) (.inl p4) v1 v2 v3 v4 v5 v6 (.inr (.inr 0)) (.inr (.inr 0)) (.inr (.inr 0)) (.inr (.inr 0)) σ
set_option maxRecDepth 20000 in
theorem eX11_removeAfter (E : zE) (p0 : Nat) (p1 : Int32) (p2 : Int32) (p3 : Int32) (p4 : Int32) (σ : zS) : zM tX11_removeAfter 15 (0, 0) E [.inr (.inl (some p0)), .inl p1, .inl p2, .inl p3, .inl p4] σ = fX11_removeAfter E p0 p1 p2 p3 p4 σ :=
  (zun_at (fun pc => (oX11_removeAfter pc).1) E (fun q => Nat.beq q 27 || Nat.beq q 74 || Nat.beq q 93 || Nat.beq q 125 || Nat.beq q 168 || Nat.beq q 189) 149 0 (0, 0) (zls0 [.inr (.inl (some p0)), .inl p1, .inl p2, .inl p3, .inl p4] 15) [] σ).trans rfl
noncomputable def LX11_oldest_6 (E : zE) (l0 : Nat) (l1 : Int32) (l2 : Int32) (σ : zS) : zO := zF tX11_oldest E 6 (0, 0) [.inr (.inl (some l0)), .inl l1, .inl l2] [] σ
set_option maxRecDepth 20000 in
theorem uX11_oldest_6 (E : zE) (l0 : Nat) (l1 : Int32) (l2 : Int32) (σ : zS) : LX11_oldest_6 E l0 l1 l2 σ =
  (if (l2 : Int32) < 512 then
    chk (zkd σ l0 = 9) <|
    onR (zr σ 586 l0) fun a1 =>
    chk (zkd σ a1 = 11 ∧ zin l2 (zln σ a1)) <|
    if ((zai σ a1 (Int32.toNatClampNeg l2)) : Int32) ≤ 0 then
      zlt (α := Int32) l1 fun v2 =>
      zlt (α := Int32) (l2 + 1) fun v3 =>
      LX11_oldest_6 E l0 v2 v3 σ
    else
      if (l1 : Int32) = (-1009) then
        zlt (α := Int32) l2 fun v4 =>
        zlt (α := Int32) (l2 + 1) fun v5 =>
        LX11_oldest_6 E l0 v4 v5 σ
      else
        chk (zkd σ l0 = 9) <|
        onR (zr σ 586 l0) fun a6 =>
        chk (zkd σ a6 = 11 ∧ zin l2 (zln σ a6)) <|
        chk (zkd σ l0 = 9) <|
        onR (zr σ 586 l0) fun a7 =>
        chk (zkd σ a7 = 11 ∧ zin l1 (zln σ a7)) <|
        if ((zai σ a6 (Int32.toNatClampNeg l2)) : Int32) < (zai σ a7 (Int32.toNatClampNeg l1)) then
          zlt (α := Int32) l2 fun v8 =>
          zlt (α := Int32) (l2 + 1) fun v9 =>
          LX11_oldest_6 E l0 v8 v9 σ
        else
          zlt (α := Int32) l1 fun v10 =>
          zlt (α := Int32) (l2 + 1) fun v11 =>
          LX11_oldest_6 E l0 v10 v11 σ
  else
    some (some (.inl l1), σ)) :=
  (zun_at (fun pc => (oX11_oldest pc).1) E (fun q => Nat.beq q 6) 33 6 (0, 0) [.inr (.inl (some l0)), .inl l1, .inl l2] [] σ).trans rfl
noncomputable def fX11_oldest (E : zE) (p0 : Nat) (σ : zS) : zO :=
  zlt (α := Int32) (-1009) fun v1 =>
  zlt (α := Int32) 0 fun v2 =>
  LX11_oldest_6 E p0 v1 v2 σ
set_option maxRecDepth 20000 in
theorem eX11_oldest (E : zE) (p0 : Nat) (σ : zS) : zM tX11_oldest 3 (0, 0) E [.inr (.inl (some p0))] σ = fX11_oldest E p0 σ :=
  (zun_at (fun pc => (oX11_oldest pc).1) E (fun q => Nat.beq q 6) 33 0 (0, 0) (zls0 [.inr (.inl (some p0))] 3) [] σ).trans rfl
noncomputable def LX11_trim_12 (E : zE) (l0 : Nat) (l1 : Int32) (l2 : Int32) (σ : zS) : zO := zF tX11_trim E 12 (0, 0) [.inr (.inl (some l0)), .inl l1, .inl l2] [] σ
set_option maxRecDepth 20000 in
theorem uX11_trim_12 (E : zE) (l0 : Nat) (l1 : Int32) (l2 : Int32) (σ : zS) : LX11_trim_12 E l0 l1 l2 σ =
  (if (l2 : Int32) ≤ 0 then
    some (some (.inl l1), σ)
  else
    chk (zkd σ l0 = 9) <|
    chk (zkd σ l0 = 9) <|
    bnI (E mX11_oldest [.inr (.inl (some l0))] σ) fun v2 s1 =>
    onR (zr σ 586 l0) fun a3 =>
    chk (zkd s1 a3 = 11 ∧ zin v2 (zln s1 a3)) <| zlt (zsa s1 a3 (Int32.toNatClampNeg v2) 0) fun s4 =>
    chk (zkd s4 l0 = 9) <|
    onR (zr s4 588 l0) fun a5 =>
    chk (zkd s4 a5 = 11 ∧ zin 2 (zln s4 a5)) <|
    onR (zr s4 588 l0) fun a6 =>
    chk (zkd s4 a6 = 11 ∧ zin 2 (zln s4 a6)) <| zlt (zsa s4 a6 (Int32.toNatClampNeg 2) ((zai s4 a5 (Int32.toNatClampNeg 2)) + 1)) fun s7 =>
    zlt (α := Int32) (l1 + 1) fun v8 =>
    zlt (α := Int32) (l2 + (-1)) fun v9 =>
    LX11_trim_12 E l0 v8 v9 s7) :=
  (zun_at (fun pc => (oX11_trim pc).1) E (fun q => Nat.beq q 12) 30 12 (0, 0) [.inr (.inl (some l0)), .inl l1, .inl l2] [] σ).trans rfl
noncomputable def fX11_trim (E : zE) (p0 : Nat) (σ : zS) : zO :=
  zlt (α := Int32) 0 fun v1 =>
  chk (zkd σ p0 = 9) <|
  bnI (E mX11_cached [.inr (.inl (some p0))] σ) fun v3 s2 =>
  chk (zkd s2 p0 = 9) <|
  zlt (α := Int32) (v3 - (zi s2 585 p0)) fun v4 =>
  LX11_trim_12 E p0 v1 v4 s2
set_option maxRecDepth 20000 in
theorem eX11_trim (E : zE) (p0 : Nat) (σ : zS) : zM tX11_trim 3 (0, 0) E [.inr (.inl (some p0))] σ = fX11_trim E p0 σ :=
  (zun_at (fun pc => (oX11_trim pc).1) E (fun q => Nat.beq q 12) 30 0 (0, 0) (zls0 [.inr (.inl (some p0))] 3) [] σ).trans rfl
noncomputable def LX11_enabledFrom_2 (E : zE) (l0 : Nat) (l1 : zV) (l2 : Int32) (σ : zS) : zO := zF tX11_enabledFrom E 2 (0, 0) [.inr (.inl (some l0)), l1, .inl l2] [] σ
set_option maxRecDepth 20000 in
theorem uX11_enabledFrom_2 (E : zE) (l0 : Nat) (l1 : zV) (l2 : Int32) (σ : zS) : LX11_enabledFrom_2 E l0 l1 l2 σ =
  (if (l2 : Int32) < 0 then
    some (some (.inl l2), σ)
  else
    chk (zkd σ l0 = 9) <|
    bnI (E mX11_isOn [.inr (.inl (some l0)), .inl l2] σ) fun v2 s1 =>
    if (v2 : Int32) = 0 then
      zlt (α := Int32) (l2 + (-1)) fun v3 =>
      LX11_enabledFrom_2 E l0 (l1) v3 s1
    else
      some (some (.inl l2), s1)) :=
  (zun_at (fun pc => (oX11_enabledFrom pc).1) E (fun q => Nat.beq q 2) 13 2 (0, 0) [.inr (.inl (some l0)), l1, .inl l2] [] σ).trans rfl
noncomputable def fX11_enabledFrom (E : zE) (p0 : Nat) (p1 : Int32) (σ : zS) : zO :=
  zlt (α := Int32) p1 fun v1 =>
  LX11_enabledFrom_2 E p0 (.inl p1) v1 σ
set_option maxRecDepth 20000 in
theorem eX11_enabledFrom (E : zE) (p0 : Nat) (p1 : Int32) (σ : zS) : zM tX11_enabledFrom 3 (0, 0) E [.inr (.inl (some p0)), .inl p1] σ = fX11_enabledFrom E p0 p1 σ :=
  (zun_at (fun pc => (oX11_enabledFrom pc).1) E (fun q => Nat.beq q 2) 13 0 (0, 0) (zls0 [.inr (.inl (some p0)), .inl p1] 3) [] σ).trans rfl
noncomputable def fX11_push (E : zE) (p0 : Nat) (p1 : Int32) (p2 : Int32) (σ : zS) : zO :=
  chk (zkd σ p0 = 9) <|
  chk (zkd σ p0 = 9) <|
  onR (zr σ 589 p0) fun a1 =>
  chk (zkd σ a1 = 11 ∧ zin (zi σ 598 p0) (zln σ a1)) <| zlt (zsa σ a1 (Int32.toNatClampNeg (zi σ 598 p0)) p1) fun s2 =>
  chk (zkd s2 p0 = 9) <|
  chk (zkd s2 p0 = 9) <|
  onR (zr s2 590 p0) fun a3 =>
  chk (zkd s2 a3 = 11 ∧ zin (zi s2 598 p0) (zln s2 a3)) <| zlt (zsa s2 a3 (Int32.toNatClampNeg (zi s2 598 p0)) p2) fun s4 =>
  chk (zkd s4 p0 = 9) <|
  chk (zkd s4 p0 = 9) <|
  onR (zr s4 597 p0) fun a5 =>
  chk ((zkd s4 a5 = 12 ∧ zin (zi s4 598 p0) (zln s4 a5)) ∧ vp_nar .boolean 0 = 0) <| zlt (zsa s4 a5 (Int32.toNatClampNeg (zi s4 598 p0)) 0) fun s6 =>
  chk (zkd s6 p0 = 9) <|
  chk (zkd s6 p0 = 9) <| zlt (zsi s6 598 p0 ((zi s6 598 p0) + 1)) fun s7 =>
  some (none, s7)
set_option maxRecDepth 20000 in
theorem eX11_push (E : zE) (p0 : Nat) (p1 : Int32) (p2 : Int32) (σ : zS) : zM tX11_push 3 (0, 0) E [.inr (.inl (some p0)), .inl p1, .inl p2] σ = fX11_push E p0 p1 p2 σ :=
  (zun_at (fun pc => (oX11_push pc).1) E (fun _ => false) 26 0 (0, 0) (zls0 [.inr (.inl (some p0)), .inl p1, .inl p2] 3) [] σ).trans rfl
noncomputable def LX11_begin_133 (E : zE) (l0 : Nat) (l1 : Int32) (l2 : Int32) (l3 : zV) (l4 : zV) (l5 : Int32) (l6 : Int32) (l7 : zV) (l8 : Int32) (k0 : Int32) (σ : zS) : zO := zF tX11_begin E 133 (0, 0) [.inr (.inl (some l0)), .inl l1, .inl l2, l3, l4, .inl l5, .inl l6, l7, .inl l8] [.inl k0] σ
noncomputable def LX11_begin_161 (E : zE) (l0 : Nat) (l1 : Int32) (l2 : Int32) (l3 : zV) (l4 : zV) (l5 : Int32) (l6 : Int32) (l7 : Int32) (l8 : zV) (k0 : Int32) (σ : zS) : zO := zF tX11_begin E 161 (0, 0) [.inr (.inl (some l0)), .inl l1, .inl l2, l3, l4, .inl l5, .inl l6, .inl l7, l8] [.inl k0] σ
noncomputable def LX11_begin_181 (E : zE) (l0 : Nat) (l1 : Int32) (l2 : zV) (l3 : zV) (l4 : zV) (l5 : zV) (l6 : Int32) (l7 : Int32) (l8 : Int32) (k0 : Option Nat) (k1 : Int32) (k2 : Int32) (σ : zS) : zO := zF tX11_begin E 181 (0, 0) [.inr (.inl (some l0)), .inl l1, l2, l3, l4, l5, .inl l6, .inl l7, .inl l8] [.inl k2, .inl k1, .inr (.inl k0)] σ
noncomputable def LX11_begin_215 (E : zE) (l0 : Nat) (l1 : Int32) (l2 : zV) (l3 : zV) (l4 : zV) (l5 : zV) (l6 : zV) (l7 : Int32) (l8 : Int32) (k0 : Option Nat) (k1 : Int32) (k2 : Int32) (σ : zS) : zO := zF tX11_begin E 215 (0, 0) [.inr (.inl (some l0)), .inl l1, l2, l3, l4, l5, l6, .inl l7, .inl l8] [.inl k2, .inl k1, .inr (.inl k0)] σ
noncomputable def LX11_begin_250 (E : zE) (l0 : Nat) (l1 : Int32) (l2 : zV) (l3 : zV) (l4 : zV) (l5 : zV) (l6 : zV) (l7 : zV) (l8 : Int32) (k0 : Option Nat) (k1 : Int32) (k2 : Int32) (σ : zS) : zO := zF tX11_begin E 250 (0, 0) [.inr (.inl (some l0)), .inl l1, l2, l3, l4, l5, l6, l7, .inl l8] [.inl k2, .inl k1, .inr (.inl k0)] σ
set_option maxRecDepth 20000 in
theorem uX11_begin_133 (E : zE) (l0 : Nat) (l1 : Int32) (l2 : Int32) (l3 : zV) (l4 : zV) (l5 : Int32) (l6 : Int32) (l7 : zV) (l8 : Int32) (k0 : Int32) (σ : zS) : LX11_begin_133 E l0 l1 l2 l3 l4 l5 l6 l7 l8 k0 σ =
  (zlt (α := Int32) (k0 + l2) fun v1 =>
  chk (zkd σ l0 = 9) <|
  onR (zr σ 577 l0) fun a2 =>
  chk (zkd σ a2 = 11 ∧ zin 1 (zln σ a2)) <|
  if (l8 : Int32) < (zai σ a2 (Int32.toNatClampNeg 1)) then
    LX11_begin_161 E l0 l1 l2 (l3) (l4) l5 l6 v1 (.inl l8) l8 σ
  else
    chk (zkd σ l0 = 9) <|
    onR (zr σ 577 l0) fun a3 =>
    chk (zkd σ a3 = 11 ∧ zin 1 (zln σ a3)) <|
    LX11_begin_161 E l0 l1 l2 (l3) (l4) l5 l6 v1 (.inl l8) ((zai σ a3 (Int32.toNatClampNeg 1)) - 1) σ) :=
  (zun_at (fun pc => (oX11_begin pc).1) E (fun q => Nat.beq q 133 || Nat.beq q 161 || Nat.beq q 181 || Nat.beq q 215 || Nat.beq q 250) 182 133 (0, 0) [.inr (.inl (some l0)), .inl l1, .inl l2, l3, l4, .inl l5, .inl l6, l7, .inl l8] [.inl k0] σ).trans rfl
set_option maxRecDepth 20000 in
theorem uX11_begin_161 (E : zE) (l0 : Nat) (l1 : Int32) (l2 : Int32) (l3 : zV) (l4 : zV) (l5 : Int32) (l6 : Int32) (l7 : Int32) (l8 : zV) (k0 : Int32) (σ : zS) : LX11_begin_161 E l0 l1 l2 l3 l4 l5 l6 l7 l8 k0 σ =
  (zlt (α := Int32) (k0 + l2) fun v1 =>
  chk (zkd σ l0 = 9) <|
  if (l5 : Int32) < 0 then
    LX11_begin_181 E l0 l1 (.inl l2) (l3) (l4) (.inl l5) l6 l7 v1 (zr σ 592 l0) l1 0 σ
  else
    LX11_begin_181 E l0 l1 (.inl l2) (l3) (l4) (.inl l5) l6 l7 v1 (zr σ 592 l0) l1 l5 σ) :=
  (zun_at (fun pc => (oX11_begin pc).1) E (fun q => Nat.beq q 133 || Nat.beq q 161 || Nat.beq q 181 || Nat.beq q 215 || Nat.beq q 250) 182 161 (0, 0) [.inr (.inl (some l0)), .inl l1, .inl l2, l3, l4, .inl l5, .inl l6, .inl l7, l8] [.inl k0] σ).trans rfl
set_option maxRecDepth 20000 in
theorem uX11_begin_181 (E : zE) (l0 : Nat) (l1 : Int32) (l2 : zV) (l3 : zV) (l4 : zV) (l5 : zV) (l6 : Int32) (l7 : Int32) (l8 : Int32) (k0 : Option Nat) (k1 : Int32) (k2 : Int32) (σ : zS) : LX11_begin_181 E l0 l1 l2 l3 l4 l5 l6 l7 l8 k0 k1 k2 σ =
  (chk (zkd σ l0 = 9) <|
  if ((zi σ 584 l0) : Int32) = 0 then none else
  onR k0 fun a1 =>
  chk (zkd σ a1 = 11 ∧ zin k1 (zln σ a1)) <| zlt (zsa σ a1 (Int32.toNatClampNeg k1) (k2 / (zi σ 584 l0))) fun s2 =>
  chk (zkd s2 l0 = 9) <|
  chk (zkd s2 l0 = 9) <|
  onR (zr s2 592 l0) fun a3 =>
  chk (zkd s2 a3 = 11 ∧ zin l1 (zln s2 a3)) <|
  onR (zr s2 595 l0) fun a4 =>
  chk (zkd s2 a4 = 11 ∧ zin l1 (zln s2 a4)) <| zlt (zsa s2 a4 (Int32.toNatClampNeg l1) (zai s2 a3 (Int32.toNatClampNeg l1))) fun s5 =>
  chk (zkd s5 l0 = 9) <|
  if (l6 : Int32) < 0 then
    LX11_begin_215 E l0 l1 (l2) (l3) (l4) (l5) (.inl l6) l7 l8 (zr s5 596 l0) l1 0 s5
  else
    LX11_begin_215 E l0 l1 (l2) (l3) (l4) (l5) (.inl l6) l7 l8 (zr s5 596 l0) l1 l6 s5) :=
  (zun_at (fun pc => (oX11_begin pc).1) E (fun q => Nat.beq q 133 || Nat.beq q 161 || Nat.beq q 181 || Nat.beq q 215 || Nat.beq q 250) 182 181 (0, 0) [.inr (.inl (some l0)), .inl l1, l2, l3, l4, l5, .inl l6, .inl l7, .inl l8] [.inl k2, .inl k1, .inr (.inl k0)] σ).trans rfl
set_option maxRecDepth 20000 in
theorem uX11_begin_215 (E : zE) (l0 : Nat) (l1 : Int32) (l2 : zV) (l3 : zV) (l4 : zV) (l5 : zV) (l6 : zV) (l7 : Int32) (l8 : Int32) (k0 : Option Nat) (k1 : Int32) (k2 : Int32) (σ : zS) : LX11_begin_215 E l0 l1 l2 l3 l4 l5 l6 l7 l8 k0 k1 k2 σ =
  (chk (zkd σ l0 = 9) <|
  if ((zi σ 584 l0) : Int32) = 0 then none else
  onR k0 fun a1 =>
  chk (zkd σ a1 = 11 ∧ zin k1 (zln σ a1)) <| zlt (zsa σ a1 (Int32.toNatClampNeg k1) (k2 / (zi σ 584 l0))) fun s2 =>
  chk (zkd s2 l0 = 9) <|
  chk (zkd s2 l0 = 9) <|
  onR (zr s2 577 l0) fun a3 =>
  chk (zkd s2 a3 = 11 ∧ zin 0 (zln s2 a3)) <|
  if (l7 : Int32) < (zai s2 a3 (Int32.toNatClampNeg 0)) then
    LX11_begin_250 E l0 l1 (l2) (l3) (l4) (l5) (l6) (.inl l7) l8 (zr s2 593 l0) l1 l7 s2
  else
    chk (zkd s2 l0 = 9) <|
    onR (zr s2 577 l0) fun a4 =>
    chk (zkd s2 a4 = 11 ∧ zin 0 (zln s2 a4)) <|
    LX11_begin_250 E l0 l1 (l2) (l3) (l4) (l5) (l6) (.inl l7) l8 (zr s2 593 l0) l1 ((zai s2 a4 (Int32.toNatClampNeg 0)) - 1) s2) :=
  (zun_at (fun pc => (oX11_begin pc).1) E (fun q => Nat.beq q 133 || Nat.beq q 161 || Nat.beq q 181 || Nat.beq q 215 || Nat.beq q 250) 182 215 (0, 0) [.inr (.inl (some l0)), .inl l1, l2, l3, l4, l5, l6, .inl l7, .inl l8] [.inl k2, .inl k1, .inr (.inl k0)] σ).trans rfl
set_option maxRecDepth 20000 in
theorem uX11_begin_250 (E : zE) (l0 : Nat) (l1 : Int32) (l2 : zV) (l3 : zV) (l4 : zV) (l5 : zV) (l6 : zV) (l7 : zV) (l8 : Int32) (k0 : Option Nat) (k1 : Int32) (k2 : Int32) (σ : zS) : LX11_begin_250 E l0 l1 l2 l3 l4 l5 l6 l7 l8 k0 k1 k2 σ =
  (chk (zkd σ l0 = 9) <|
  if ((zi σ 584 l0) : Int32) = 0 then none else
  onR k0 fun a1 =>
  chk (zkd σ a1 = 11 ∧ zin k1 (zln σ a1)) <| zlt (zsa σ a1 (Int32.toNatClampNeg k1) (k2 / (zi σ 584 l0))) fun s2 =>
  chk (zkd s2 l0 = 9) <|
  chk (zkd s2 l0 = 9) <|
  onR (zr s2 577 l0) fun a3 =>
  chk (zkd s2 a3 = 11 ∧ zin 1 (zln s2 a3)) <|
  if (l8 : Int32) < (zai s2 a3 (Int32.toNatClampNeg 1)) then
    chk (zkd s2 l0 = 9) <|
    if ((zi s2 584 l0) : Int32) = 0 then none else
    onR (zr s2 594 l0) fun a4 =>
    chk (zkd s2 a4 = 11 ∧ zin l1 (zln s2 a4)) <| zlt (zsa s2 a4 (Int32.toNatClampNeg l1) (l8 / (zi s2 584 l0))) fun s5 =>
    some (none, s5)
  else
    chk (zkd s2 l0 = 9) <|
    onR (zr s2 577 l0) fun a6 =>
    chk (zkd s2 a6 = 11 ∧ zin 1 (zln s2 a6)) <|
    chk (zkd s2 l0 = 9) <|
    if ((zi s2 584 l0) : Int32) = 0 then none else
    onR (zr s2 594 l0) fun a7 =>
    chk (zkd s2 a7 = 11 ∧ zin l1 (zln s2 a7)) <| zlt (zsa s2 a7 (Int32.toNatClampNeg l1) (((zai s2 a6 (Int32.toNatClampNeg 1)) - 1) / (zi s2 584 l0))) fun s8 =>
    some (none, s8)) :=
  (zun_at (fun pc => (oX11_begin pc).1) E (fun q => Nat.beq q 133 || Nat.beq q 161 || Nat.beq q 181 || Nat.beq q 215 || Nat.beq q 250) 182 250 (0, 0) [.inr (.inl (some l0)), .inl l1, l2, l3, l4, l5, l6, l7, .inl l8] [.inl k2, .inl k1, .inr (.inl k0)] σ).trans rfl
noncomputable def fX11_begin (E : zE) (p0 : Nat) (p1 : Int32) (σ : zS) : zO :=
  chk (zkd σ p0 = 9) <|
  onR (zr σ 597 p0) fun a1 =>
  chk ((zkd σ a1 = 12 ∧ zin p1 (zln σ a1)) ∧ vp_nar .boolean 1 = 1) <| zlt (zsa σ a1 (Int32.toNatClampNeg p1) 1) fun s2 =>
  chk (zkd s2 p0 = 9) <|
  chk (zkd s2 p0 = 9) <|
  onR (zr s2 589 p0) fun a3 =>
  chk (zkd s2 a3 = 11 ∧ zin p1 (zln s2 a3)) <|
  chk (zkd s2 p0 = 9) <|
  bnI (E mX11_enabledFrom [.inr (.inl (some p0)), .inl ((zai s2 a3 (Int32.toNatClampNeg p1)) - 1)] s2) fun v5 s4 =>
  onR (zr s2 591 p0) fun a6 =>
  chk (zkd s4 a6 = 11 ∧ zin p1 (zln s4 a6)) <| zlt (zsa s4 a6 (Int32.toNatClampNeg p1) v5) fun s7 =>
  chk (zkd s7 p0 = 9) <|
  onR (zr s7 589 p0) fun a8 =>
  chk (zkd s7 a8 = 11 ∧ zin p1 (zln s7 a8)) <|
  chk (zkd s7 p0 = 9) <|
  bnI (E mX11_reach [.inr (.inl (some p0)), .inl (zai s7 a8 (Int32.toNatClampNeg p1))] s7) fun v10 s9 =>
  zlt (α := Int32) v10 fun v11 =>
  chk (zkd s9 p0 = 9) <|
  onR (zr s9 590 p0) fun a12 =>
  chk (zkd s9 a12 = 11 ∧ zin p1 (zln s9 a12)) <|
  if (8 : Int32) = 0 then none else
  zlt (α := Int32) ((zai s9 a12 (Int32.toNatClampNeg p1)) - (zai s9 a12 (Int32.toNatClampNeg p1)) / 8 * 8) fun v13 =>
  chk (zkd s9 p0 = 9) <|
  onR (zr s9 590 p0) fun a14 =>
  chk (zkd s9 a14 = 11 ∧ zin p1 (zln s9 a14)) <|
  if (8 : Int32) = 0 then none else
  zlt (α := Int32) ((zai s9 a14 (Int32.toNatClampNeg p1)) / 8) fun v15 =>
  chk (zkd s9 p0 = 9) <|
  zlt (α := Int32) ((v13 * (zi s9 584 p0)) - v11) fun v16 =>
  chk (zkd s9 p0 = 9) <|
  zlt (α := Int32) ((v15 * (zi s9 584 p0)) - v11) fun v17 =>
  chk (zkd s9 p0 = 9) <|
  chk (zkd s9 p0 = 9) <|
  zlt (α := Int32) (((v13 * (zi s9 584 p0)) + (zi s9 584 p0)) - 1) fun v18 =>
  chk (zkd s9 p0 = 9) <|
  chk (zkd s9 p0 = 9) <|
  zlt (α := Int32) (((v15 * (zi s9 584 p0)) + (zi s9 584 p0)) - 1) fun v19 =>
  chk (zkd s9 p0 = 9) <|
  onR (zr s9 577 p0) fun a20 =>
  chk (zkd s9 a20 = 11 ∧ zin 0 (zln s9 a20)) <|
  if (v18 : Int32) < (zai s9 a20 (Int32.toNatClampNeg 0)) then
    LX11_begin_133 E p0 p1 v11 (.inl v13) (.inl v15) v16 v17 (.inl v18) v19 v18 s9
  else
    chk (zkd s9 p0 = 9) <|
    onR (zr s9 577 p0) fun a21 =>
    chk (zkd s9 a21 = 11 ∧ zin 0 (zln s9 a21)) <|
    LX11_begin_133 E p0 p1 v11 (.inl v13) (.inl v15) v16 v17 (.inl v18) v19 ((zai s9 a21 (Int32.toNatClampNeg 0)) - 1) s9
set_option maxRecDepth 20000 in
theorem eX11_begin (E : zE) (p0 : Nat) (p1 : Int32) (σ : zS) : zM tX11_begin 9 (0, 0) E [.inr (.inl (some p0)), .inl p1] σ = fX11_begin E p0 p1 σ :=
  (zun_at (fun pc => (oX11_begin pc).1) E (fun q => Nat.beq q 133 || Nat.beq q 161 || Nat.beq q 181 || Nat.beq q 215 || Nat.beq q 250) 182 0 (0, 0) (zls0 [.inr (.inl (some p0)), .inl p1] 9) [] σ).trans rfl
noncomputable def fX11_use (E : zE) (p0 : Nat) (p1 : Int32) (p2 : Int32) (σ : zS) : zO :=
  chk (zkd σ p0 = 9) <|
  chk (zkd σ p0 = 9) <| zlt (zsi σ 587 p0 ((zi σ 587 p0) + 1)) fun s1 =>
  chk (zkd s1 p0 = 9) <|
  chk (zkd s1 p0 = 9) <|
  onR (zr s1 586 p0) fun a2 =>
  chk (zkd s1 a2 = 11 ∧ zin ((64 * p1) + p2) (zln s1 a2)) <| zlt (zsa s1 a2 (Int32.toNatClampNeg ((64 * p1) + p2)) (zi s1 587 p0)) fun s3 =>
  some (none, s3)
set_option maxRecDepth 20000 in
theorem eX11_use (E : zE) (p0 : Nat) (p1 : Int32) (p2 : Int32) (σ : zS) : zM tX11_use 3 (0, 0) E [.inr (.inl (some p0)), .inl p1, .inl p2] σ = fX11_use E p0 p1 p2 σ :=
  (zun_at (fun pc => (oX11_use pc).1) E (fun _ => false) 18 0 (0, 0) (zls0 [.inr (.inl (some p0)), .inl p1, .inl p2] 3) [] σ).trans rfl
noncomputable def LX11_request_21 (E : zE) (l0 : Nat) (l1 : zV) (l2 : zV) (l3 : zV) (l4 : zV) (σ : zS) : zO := zF tX11_request E 21 (0, 0) [.inr (.inl (some l0)), l1, l2, l3, l4] [] σ
set_option maxRecDepth 20000 in
theorem uX11_request_21 (E : zE) (l0 : Nat) (l1 : zV) (l2 : zV) (l3 : zV) (l4 : zV) (σ : zS) : LX11_request_21 E l0 l1 l2 l3 l4 σ =
  (chk (zkd σ l0 = 9) <|
  if ((zi σ 598 l0) : Int32) ≤ 0 then
    some (none, σ)
  else
    chk (zkd σ l0 = 9) <|
    zlt (α := Int32) ((zi σ 598 l0) - 1) fun v1 =>
    chk (zkd σ l0 = 9) <|
    onR (zr σ 597 l0) fun a2 =>
    chk (zkd σ a2 = 12 ∧ zin v1 (zln σ a2)) <|
    if ((zai σ a2 (Int32.toNatClampNeg v1)) : Int32) = 0 then
      chk (zkd σ l0 = 9) <|
      chk (zkd σ l0 = 9) <|
      onR (zr σ 589 l0) fun a3 =>
      chk (zkd σ a3 = 11 ∧ zin v1 (zln σ a3)) <|
      chk (zkd σ l0 = 9) <|
      onR (zr σ 590 l0) fun a4 =>
      chk (zkd σ a4 = 11 ∧ zin v1 (zln σ a4)) <|
      onR (zr σ 586 l0) fun a5 =>
      chk (zkd σ a5 = 11 ∧ zin ((64 * (zai σ a3 (Int32.toNatClampNeg v1))) + (zai σ a4 (Int32.toNatClampNeg v1))) (zln σ a5)) <|
      if ((zai σ a5 (Int32.toNatClampNeg ((64 * (zai σ a3 (Int32.toNatClampNeg v1))) + (zai σ a4 (Int32.toNatClampNeg v1))))) : Int32) ≤ 0 then
        chk (zkd σ l0 = 9) <|
        bnV (E mX11_goOn [.inr (.inl (some l0)), .inl v1] σ) fun s6 =>
        LX11_request_21 E l0 (l1) (l2) (l3) (.inl v1) s6
      else
        chk (zkd σ l0 = 9) <|
        onR (zr σ 588 l0) fun a7 =>
        chk (zkd σ a7 = 11 ∧ zin 1 (zln σ a7)) <|
        onR (zr σ 588 l0) fun a8 =>
        chk (zkd σ a8 = 11 ∧ zin 1 (zln σ a8)) <| zlt (zsa σ a8 (Int32.toNatClampNeg 1) ((zai σ a7 (Int32.toNatClampNeg 1)) + 1)) fun s9 =>
        chk (zkd s9 l0 = 9) <|
        onR (zr s9 589 l0) fun a10 =>
        chk (zkd s9 a10 = 11 ∧ zin v1 (zln s9 a10)) <|
        chk (zkd s9 l0 = 9) <|
        onR (zr s9 590 l0) fun a11 =>
        chk (zkd s9 a11 = 11 ∧ zin v1 (zln s9 a11)) <|
        chk (zkd s9 l0 = 9) <|
        bnV (E mX11_use [.inr (.inl (some l0)), .inl (zai s9 a10 (Int32.toNatClampNeg v1)), .inl (zai s9 a11 (Int32.toNatClampNeg v1))] s9) fun s12 =>
        chk (zkd s12 l0 = 9) <|
        chk (zkd s12 l0 = 9) <| zlt (zsi s12 598 l0 ((zi s12 598 l0) - 1)) fun s13 =>
        LX11_request_21 E l0 (l1) (l2) (l3) (.inl v1) s13
    else
      chk (zkd σ l0 = 9) <|
      bnV (E mX11_goOn [.inr (.inl (some l0)), .inl v1] σ) fun s14 =>
      LX11_request_21 E l0 (l1) (l2) (l3) (.inl v1) s14) :=
  (zun_at (fun pc => (oX11_request pc).1) E (fun q => Nat.beq q 21) 72 21 (0, 0) [.inr (.inl (some l0)), l1, l2, l3, l4] [] σ).trans rfl
noncomputable def fX11_request (E : zE) (p0 : Nat) (p1 : Int32) (p2 : Int32) (σ : zS) : zO :=
  chk (zkd σ p0 = 9) <|
  bnI (E mX11_enabledFrom [.inr (.inl (some p0)), .inl p1] σ) fun v2 s1 =>
  zlt (α := Int32) v2 fun v3 =>
  chk (zkd s1 p0 = 9) <| zlt (zsi s1 598 p0 0) fun s4 =>
  if (v3 : Int32) < 0 then
    LX11_request_21 E p0 (.inl p1) (.inl p2) (.inl v3) (.inr (.inr 0)) s4
  else
    chk (zkd s4 p0 = 9) <|
    bnV (E mX11_push [.inr (.inl (some p0)), .inl v3, .inl p2] s4) fun s5 =>
    LX11_request_21 E p0 (.inl p1) (.inl p2) (.inl v3) (.inr (.inr 0)) s5
set_option maxRecDepth 20000 in
theorem eX11_request (E : zE) (p0 : Nat) (p1 : Int32) (p2 : Int32) (σ : zS) : zM tX11_request 5 (0, 0) E [.inr (.inl (some p0)), .inl p1, .inl p2] σ = fX11_request E p0 p1 p2 σ :=
  (zun_at (fun pc => (oX11_request pc).1) E (fun q => Nat.beq q 21) 72 0 (0, 0) (zls0 [.inr (.inl (some p0)), .inl p1, .inl p2] 5) [] σ).trans rfl
noncomputable def LX11_goOn_14 (E : zE) (l0 : Nat) (l1 : Int32) (σ : zS) : zO := zF tX11_goOn E 14 (0, 0) [.inr (.inl (some l0)), .inl l1] [] σ
noncomputable def LX11_goOn_38 (E : zE) (l0 : Nat) (l1 : Int32) (σ : zS) : zO := zF tX11_goOn E 38 (0, 0) [.inr (.inl (some l0)), .inl l1] [] σ
set_option maxRecDepth 20000 in
theorem uX11_goOn_14 (E : zE) (l0 : Nat) (l1 : Int32) (σ : zS) : LX11_goOn_14 E l0 l1 σ =
  (chk (zkd σ l0 = 9) <|
  onR (zr σ 591 l0) fun a1 =>
  chk (zkd σ a1 = 11 ∧ zin l1 (zln σ a1)) <|
  if ((zai σ a1 (Int32.toNatClampNeg l1)) : Int32) < 0 then
    LX11_goOn_38 E l0 l1 σ
  else
    chk (zkd σ l0 = 9) <|
    onR (zr σ 596 l0) fun a2 =>
    chk (zkd σ a2 = 11 ∧ zin l1 (zln σ a2)) <|
    chk (zkd σ l0 = 9) <|
    onR (zr σ 594 l0) fun a3 =>
    chk (zkd σ a3 = 11 ∧ zin l1 (zln σ a3)) <|
    if ((zai σ a2 (Int32.toNatClampNeg l1)) : Int32) ≤ (zai σ a3 (Int32.toNatClampNeg l1)) then
      chk (zkd σ l0 = 9) <|
      onR (zr σ 591 l0) fun a4 =>
      chk (zkd σ a4 = 11 ∧ zin l1 (zln σ a4)) <|
      chk (zkd σ l0 = 9) <|
      onR (zr σ 596 l0) fun a5 =>
      chk (zkd σ a5 = 11 ∧ zin l1 (zln σ a5)) <|
      chk (zkd σ l0 = 9) <|
      onR (zr σ 595 l0) fun a6 =>
      chk (zkd σ a6 = 11 ∧ zin l1 (zln σ a6)) <|
      chk (zkd σ l0 = 9) <|
      bnV (E mX11_push [.inr (.inl (some l0)), .inl (zai σ a4 (Int32.toNatClampNeg l1)), .inl ((8 * (zai σ a5 (Int32.toNatClampNeg l1))) + (zai σ a6 (Int32.toNatClampNeg l1)))] σ) fun s7 =>
      chk (zkd s7 l0 = 9) <|
      onR (zr s7 595 l0) fun a8 =>
      chk (zkd s7 a8 = 11 ∧ zin l1 (zln s7 a8)) <|
      onR (zr s7 595 l0) fun a9 =>
      chk (zkd s7 a9 = 11 ∧ zin l1 (zln s7 a9)) <| zlt (zsa s7 a9 (Int32.toNatClampNeg l1) ((zai s7 a8 (Int32.toNatClampNeg l1)) + 1)) fun s10 =>
      chk (zkd s10 l0 = 9) <|
      onR (zr s10 595 l0) fun a11 =>
      chk (zkd s10 a11 = 11 ∧ zin l1 (zln s10 a11)) <|
      chk (zkd s10 l0 = 9) <|
      onR (zr s10 593 l0) fun a12 =>
      chk (zkd s10 a12 = 11 ∧ zin l1 (zln s10 a12)) <|
      if ((zai s10 a11 (Int32.toNatClampNeg l1)) : Int32) ≤ (zai s10 a12 (Int32.toNatClampNeg l1)) then
        some (none, s10)
      else
        chk (zkd s10 l0 = 9) <|
        chk (zkd s10 l0 = 9) <|
        onR (zr s10 592 l0) fun a13 =>
        chk (zkd s10 a13 = 11 ∧ zin l1 (zln s10 a13)) <|
        onR (zr s10 595 l0) fun a14 =>
        chk (zkd s10 a14 = 11 ∧ zin l1 (zln s10 a14)) <| zlt (zsa s10 a14 (Int32.toNatClampNeg l1) (zai s10 a13 (Int32.toNatClampNeg l1))) fun s15 =>
        chk (zkd s15 l0 = 9) <|
        onR (zr s15 596 l0) fun a16 =>
        chk (zkd s15 a16 = 11 ∧ zin l1 (zln s15 a16)) <|
        onR (zr s15 596 l0) fun a17 =>
        chk (zkd s15 a17 = 11 ∧ zin l1 (zln s15 a17)) <| zlt (zsa s15 a17 (Int32.toNatClampNeg l1) ((zai s15 a16 (Int32.toNatClampNeg l1)) + 1)) fun s18 =>
        some (none, s18)
    else
      LX11_goOn_38 E l0 l1 σ) :=
  (zun_at (fun pc => (oX11_goOn pc).1) E (fun q => Nat.beq q 14 || Nat.beq q 38) 99 14 (0, 0) [.inr (.inl (some l0)), .inl l1] [] σ).trans rfl
set_option maxRecDepth 20000 in
theorem uX11_goOn_38 (E : zE) (l0 : Nat) (l1 : Int32) (σ : zS) : LX11_goOn_38 E l0 l1 σ =
  (chk (zkd σ l0 = 9) <|
  onR (zr σ 588 l0) fun a1 =>
  chk (zkd σ a1 = 11 ∧ zin 0 (zln σ a1)) <|
  onR (zr σ 588 l0) fun a2 =>
  chk (zkd σ a2 = 11 ∧ zin 0 (zln σ a2)) <| zlt (zsa σ a2 (Int32.toNatClampNeg 0) ((zai σ a1 (Int32.toNatClampNeg 0)) + 1)) fun s3 =>
  chk (zkd s3 l0 = 9) <|
  onR (zr s3 589 l0) fun a4 =>
  chk (zkd s3 a4 = 11 ∧ zin l1 (zln s3 a4)) <|
  chk (zkd s3 l0 = 9) <|
  onR (zr s3 590 l0) fun a5 =>
  chk (zkd s3 a5 = 11 ∧ zin l1 (zln s3 a5)) <|
  chk (zkd s3 l0 = 9) <|
  bnV (E mX11_use [.inr (.inl (some l0)), .inl (zai s3 a4 (Int32.toNatClampNeg l1)), .inl (zai s3 a5 (Int32.toNatClampNeg l1))] s3) fun s6 =>
  chk (zkd s6 l0 = 9) <|
  chk (zkd s6 l0 = 9) <| zlt (zsi s6 598 l0 ((zi s6 598 l0) - 1)) fun s7 =>
  some (none, s7)) :=
  (zun_at (fun pc => (oX11_goOn pc).1) E (fun q => Nat.beq q 14 || Nat.beq q 38) 99 38 (0, 0) [.inr (.inl (some l0)), .inl l1] [] σ).trans rfl
noncomputable def fX11_goOn (E : zE) (p0 : Nat) (p1 : Int32) (σ : zS) : zO :=
  chk (zkd σ p0 = 9) <|
  onR (zr σ 597 p0) fun a1 =>
  chk (zkd σ a1 = 12 ∧ zin p1 (zln σ a1)) <|
  if ((zai σ a1 (Int32.toNatClampNeg p1)) : Int32) = 0 then
    chk (zkd σ p0 = 9) <|
    bnV (E mX11_begin [.inr (.inl (some p0)), .inl p1] σ) fun s2 =>
    LX11_goOn_14 E p0 p1 s2
  else
    LX11_goOn_14 E p0 p1 σ
set_option maxRecDepth 20000 in
theorem eX11_goOn (E : zE) (p0 : Nat) (p1 : Int32) (σ : zS) : zM tX11_goOn 2 (0, 0) E [.inr (.inl (some p0)), .inl p1] σ = fX11_goOn E p0 p1 σ :=
  (zun_at (fun pc => (oX11_goOn pc).1) E (fun q => Nat.beq q 14 || Nat.beq q 38) 99 0 (0, 0) (zls0 [.inr (.inl (some p0)), .inl p1] 2) [] σ).trans rfl
noncomputable def fX11_inputAt (E : zE) (p0 : Nat) (p1 : Int32) (p2 : Int32) (p3 : Int32) (σ : zS) : zO :=
  chk (zkd σ p0 = 9) <|
  chk (zkd σ p0 = 9) <|
  onR (zr σ 577 p0) fun a1 =>
  chk (zkd σ a1 = 11 ∧ zin 0 (zln σ a1)) <|
  onR (zr σ 599 p0) fun a2 =>
  chk (zkd σ a2 = 11 ∧ zin ((p1 + (p3 * (zai σ a1 (Int32.toNatClampNeg 0)))) + p2) (zln σ a2)) <|
  some (some (.inl (zai σ a2 (Int32.toNatClampNeg ((p1 + (p3 * (zai σ a1 (Int32.toNatClampNeg 0)))) + p2)))), σ)
set_option maxRecDepth 20000 in
theorem eX11_inputAt (E : zE) (p0 : Nat) (p1 : Int32) (p2 : Int32) (p3 : Int32) (σ : zS) : zM tX11_inputAt 4 (0, 0) E [.inr (.inl (some p0)), .inl p1, .inl p2, .inl p3] σ = fX11_inputAt E p0 p1 p2 p3 σ :=
  (zun_at (fun pc => (oX11_inputAt pc).1) E (fun _ => false) 15 0 (0, 0) (zls0 [.inr (.inl (some p0)), .inl p1, .inl p2, .inl p3] 4) [] σ).trans rfl
noncomputable def fX11_nearest (E : zE) (p0 : Int32) (p1 : Int32) (σ : zS) : zO :=
  if (p0 : Int32) < 0 then
    some (some (.inl 0), σ)
  else
    if (p0 : Int32) < p1 then
      some (some (.inl p0), σ)
    else
      some (some (.inl (p1 - 1)), σ)
set_option maxRecDepth 20000 in
theorem eX11_nearest (E : zE) (p0 : Int32) (p1 : Int32) (σ : zS) : zM tX11_nearest 2 (0, 0) E [.inl p0, .inl p1] σ = fX11_nearest E p0 p1 σ :=
  (zun_at (fun pc => (oX11_nearest pc).1) E (fun _ => false) 14 0 (0, 0) (zls0 [.inl p0, .inl p1] 2) [] σ).trans rfl
noncomputable def LX11_gather_9 (E : zE) (l0 : Nat) (l1 : Int32) (l2 : Int32) (l3 : Int32) (l4 : Int32) (l5 : Int32) (l6 : Int32) (l7 : zV) (l8 : zV) (l9 : zV) (σ : zS) : zO := zF tX11_gather E 9 (0, 0) [.inr (.inl (some l0)), .inl l1, .inl l2, .inl l3, .inl l4, .inl l5, .inl l6, l7, l8, l9] [] σ
noncomputable def LX11_gather_24 (E : zE) (l0 : Nat) (l1 : Int32) (l2 : Int32) (l3 : Int32) (l4 : Int32) (l5 : Int32) (l6 : Int32) (l7 : Int32) (l8 : zV) (l9 : zV) (σ : zS) : zO := zF tX11_gather E 24 (0, 0) [.inr (.inl (some l0)), .inl l1, .inl l2, .inl l3, .inl l4, .inl l5, .inl l6, .inl l7, l8, l9] [] σ
noncomputable def LX11_gather_59 (E : zE) (l0 : Nat) (l1 : Int32) (l2 : Int32) (l3 : Int32) (l4 : Int32) (l5 : Int32) (l6 : Int32) (l7 : Int32) (l8 : Int32) (l9 : Int32) (σ : zS) : zO := zF tX11_gather E 59 (0, 0) [.inr (.inl (some l0)), .inl l1, .inl l2, .inl l3, .inl l4, .inl l5, .inl l6, .inl l7, .inl l8, .inl l9] [] σ
set_option maxRecDepth 20000 in
theorem uX11_gather_9 (E : zE) (l0 : Nat) (l1 : Int32) (l2 : Int32) (l3 : Int32) (l4 : Int32) (l5 : Int32) (l6 : Int32) (l7 : zV) (l8 : zV) (l9 : zV) (σ : zS) : LX11_gather_9 E l0 l1 l2 l3 l4 l5 l6 l7 l8 l9 σ =
  (if (l6 : Int32) ≤ (l3 + l4) then
    zlt (α := Int32) (l2 - l4) fun v1 =>
    LX11_gather_24 E l0 l1 l2 l3 l4 l5 l6 v1 (l8) (l9) σ
  else
    some (some (.inl l5), σ)) :=
  (zun_at (fun pc => (oX11_gather pc).1) E (fun q => Nat.beq q 9 || Nat.beq q 24 || Nat.beq q 59) 68 9 (0, 0) [.inr (.inl (some l0)), .inl l1, .inl l2, .inl l3, .inl l4, .inl l5, .inl l6, l7, l8, l9] [] σ).trans rfl
set_option maxRecDepth 20000 in
theorem uX11_gather_24 (E : zE) (l0 : Nat) (l1 : Int32) (l2 : Int32) (l3 : Int32) (l4 : Int32) (l5 : Int32) (l6 : Int32) (l7 : Int32) (l8 : zV) (l9 : zV) (σ : zS) : LX11_gather_24 E l0 l1 l2 l3 l4 l5 l6 l7 l8 l9 σ =
  (if (l7 : Int32) ≤ (l2 + l4) then
    chk (zkd σ l0 = 9) <|
    bnI (E mX11_isPixel [.inr (.inl (some l0)), .inl l7, .inl l6] σ) fun v2 s1 =>
    if (v2 : Int32) = 0 then
      zlt (α := Int32) (l7 + 1) fun v3 =>
      LX11_gather_24 E l0 l1 l2 l3 l4 l5 l6 v3 (l8) (l9) s1
    else
      chk (zkd s1 l0 = 9) <|
      bnI (E mX11_inputAt [.inr (.inl (some l0)), .inl l1, .inl l7, .inl l6] s1) fun v5 s4 =>
      zlt (α := Int32) v5 fun v6 =>
      zlt (α := Int32) l5 fun v7 =>
      LX11_gather_59 E l0 l1 l2 l3 l4 l5 l6 l7 v6 v7 s4
  else
    zlt (α := Int32) (l6 + 1) fun v8 =>
    LX11_gather_9 E l0 l1 l2 l3 l4 l5 v8 (.inl l7) (l8) (l9) σ) :=
  (zun_at (fun pc => (oX11_gather pc).1) E (fun q => Nat.beq q 9 || Nat.beq q 24 || Nat.beq q 59) 68 24 (0, 0) [.inr (.inl (some l0)), .inl l1, .inl l2, .inl l3, .inl l4, .inl l5, .inl l6, .inl l7, l8, l9] [] σ).trans rfl
set_option maxRecDepth 20000 in
theorem uX11_gather_59 (E : zE) (l0 : Nat) (l1 : Int32) (l2 : Int32) (l3 : Int32) (l4 : Int32) (l5 : Int32) (l6 : Int32) (l7 : Int32) (l8 : Int32) (l9 : Int32) (σ : zS) : LX11_gather_59 E l0 l1 l2 l3 l4 l5 l6 l7 l8 l9 σ =
  (if (l9 : Int32) ≤ 0 then
    chk (zkd σ l0 = 9) <|
    onR (zr σ 600 l0) fun a1 =>
    chk (zkd σ a1 = 11 ∧ zin l9 (zln σ a1)) <| zlt (zsa σ a1 (Int32.toNatClampNeg l9) l8) fun s2 =>
    zlt (α := Int32) (l5 + 1) fun v3 =>
    zlt (α := Int32) (l7 + 1) fun v4 =>
    LX11_gather_24 E l0 l1 l2 l3 l4 v3 l6 v4 (.inl l8) (.inl l9) s2
  else
    chk (zkd σ l0 = 9) <|
    onR (zr σ 600 l0) fun a5 =>
    chk (zkd σ a5 = 11 ∧ zin (l9 - 1) (zln σ a5)) <|
    if ((zai σ a5 (Int32.toNatClampNeg (l9 - 1))) : Int32) ≤ l8 then
      chk (zkd σ l0 = 9) <|
      onR (zr σ 600 l0) fun a6 =>
      chk (zkd σ a6 = 11 ∧ zin l9 (zln σ a6)) <| zlt (zsa σ a6 (Int32.toNatClampNeg l9) l8) fun s7 =>
      zlt (α := Int32) (l5 + 1) fun v8 =>
      zlt (α := Int32) (l7 + 1) fun v9 =>
      LX11_gather_24 E l0 l1 l2 l3 l4 v8 l6 v9 (.inl l8) (.inl l9) s7
    else
      chk (zkd σ l0 = 9) <|
      chk (zkd σ l0 = 9) <|
      onR (zr σ 600 l0) fun a10 =>
      chk (zkd σ a10 = 11 ∧ zin (l9 - 1) (zln σ a10)) <|
      onR (zr σ 600 l0) fun a11 =>
      chk (zkd σ a11 = 11 ∧ zin l9 (zln σ a11)) <| zlt (zsa σ a11 (Int32.toNatClampNeg l9) (zai σ a10 (Int32.toNatClampNeg (l9 - 1)))) fun s12 =>
      zlt (α := Int32) (l9 + (-1)) fun v13 =>
      LX11_gather_59 E l0 l1 l2 l3 l4 l5 l6 l7 l8 v13 s12) :=
  (zun_at (fun pc => (oX11_gather pc).1) E (fun q => Nat.beq q 9 || Nat.beq q 24 || Nat.beq q 59) 68 59 (0, 0) [.inr (.inl (some l0)), .inl l1, .inl l2, .inl l3, .inl l4, .inl l5, .inl l6, .inl l7, .inl l8, .inl l9] [] σ).trans rfl
noncomputable def fX11_gather (E : zE) (p0 : Nat) (p1 : Int32) (p2 : Int32) (p3 : Int32) (p4 : Int32) (σ : zS) : zO :=
  zlt (α := Int32) 0 fun v1 =>
  zlt (α := Int32) (p3 - p4) fun v2 =>
  LX11_gather_9 E p0 p1 p2 p3 p4 v1 v2 (.inr (.inr 0)) (.inr (.inr 0)) (.inr (.inr 0)) σ
set_option maxRecDepth 20000 in
theorem eX11_gather (E : zE) (p0 : Nat) (p1 : Int32) (p2 : Int32) (p3 : Int32) (p4 : Int32) (σ : zS) : zM tX11_gather 10 (0, 0) E [.inr (.inl (some p0)), .inl p1, .inl p2, .inl p3, .inl p4] σ = fX11_gather E p0 p1 p2 p3 p4 σ :=
  (zun_at (fun pc => (oX11_gather pc).1) E (fun q => Nat.beq q 9 || Nat.beq q 24 || Nat.beq q 59) 68 0 (0, 0) (zls0 [.inr (.inl (some p0)), .inl p1, .inl p2, .inl p3, .inl p4] 10) [] σ).trans rfl
noncomputable def LX11_blur_12 (E : zE) (l0 : Nat) (l1 : Int32) (l2 : Int32) (l3 : Int32) (l4 : Int32) (l5 : Int32) (l6 : Int32) (l7 : Int32) (l8 : zV) (σ : zS) : zO := zF tX11_blur E 12 (0, 0) [.inr (.inl (some l0)), .inl l1, .inl l2, .inl l3, .inl l4, .inl l5, .inl l6, .inl l7, l8] [] σ
noncomputable def LX11_blur_27 (E : zE) (l0 : Nat) (l1 : Int32) (l2 : Int32) (l3 : Int32) (l4 : Int32) (l5 : Int32) (l6 : Int32) (l7 : Int32) (l8 : Int32) (σ : zS) : zO := zF tX11_blur E 27 (0, 0) [.inr (.inl (some l0)), .inl l1, .inl l2, .inl l3, .inl l4, .inl l5, .inl l6, .inl l7, .inl l8] [] σ
set_option maxRecDepth 20000 in
theorem uX11_blur_12 (E : zE) (l0 : Nat) (l1 : Int32) (l2 : Int32) (l3 : Int32) (l4 : Int32) (l5 : Int32) (l6 : Int32) (l7 : Int32) (l8 : zV) (σ : zS) : LX11_blur_12 E l0 l1 l2 l3 l4 l5 l6 l7 l8 σ =
  (if (l7 : Int32) ≤ (l3 + l4) then
    zlt (α := Int32) (l2 - l4) fun v1 =>
    LX11_blur_27 E l0 l1 l2 l3 l4 l5 l6 l7 v1 σ
  else
    if (l5 : Int32) = 0 then none else
    some (some (.inl (l6 / l5)), σ)) :=
  (zun_at (fun pc => (oX11_blur pc).1) E (fun q => Nat.beq q 12 || Nat.beq q 27) 45 12 (0, 0) [.inr (.inl (some l0)), .inl l1, .inl l2, .inl l3, .inl l4, .inl l5, .inl l6, .inl l7, l8] [] σ).trans rfl
set_option maxRecDepth 20000 in
theorem uX11_blur_27 (E : zE) (l0 : Nat) (l1 : Int32) (l2 : Int32) (l3 : Int32) (l4 : Int32) (l5 : Int32) (l6 : Int32) (l7 : Int32) (l8 : Int32) (σ : zS) : LX11_blur_27 E l0 l1 l2 l3 l4 l5 l6 l7 l8 σ =
  (if (l8 : Int32) ≤ (l2 + l4) then
    chk (zkd σ l0 = 9) <|
    bnI (E mX11_isPixel [.inr (.inl (some l0)), .inl l8, .inl l7] σ) fun v2 s1 =>
    if (v2 : Int32) = 0 then
      zlt (α := Int32) (l8 + 1) fun v3 =>
      LX11_blur_27 E l0 l1 l2 l3 l4 l5 l6 l7 v3 s1
    else
      chk (zkd s1 l0 = 9) <|
      bnI (E mX11_inputAt [.inr (.inl (some l0)), .inl l1, .inl l8, .inl l7] s1) fun v5 s4 =>
      zlt (α := Int32) (l6 + v5) fun v6 =>
      zlt (α := Int32) (l5 + 1) fun v7 =>
      zlt (α := Int32) (l8 + 1) fun v8 =>
      LX11_blur_27 E l0 l1 l2 l3 l4 v7 v6 l7 v8 s4
  else
    zlt (α := Int32) (l7 + 1) fun v9 =>
    LX11_blur_12 E l0 l1 l2 l3 l4 l5 l6 v9 (.inl l8) σ) :=
  (zun_at (fun pc => (oX11_blur pc).1) E (fun q => Nat.beq q 12 || Nat.beq q 27) 45 27 (0, 0) [.inr (.inl (some l0)), .inl l1, .inl l2, .inl l3, .inl l4, .inl l5, .inl l6, .inl l7, .inl l8] [] σ).trans rfl
noncomputable def fX11_blur (E : zE) (p0 : Nat) (p1 : Int32) (p2 : Int32) (p3 : Int32) (p4 : Int32) (σ : zS) : zO :=
  zlt (α := Int32) 0 fun v1 =>
  zlt (α := Int32) 0 fun v2 =>
  zlt (α := Int32) (p3 - p4) fun v3 =>
  LX11_blur_12 E p0 p1 p2 p3 p4 v1 v2 v3 (.inr (.inr 0)) σ
set_option maxRecDepth 20000 in
theorem eX11_blur (E : zE) (p0 : Nat) (p1 : Int32) (p2 : Int32) (p3 : Int32) (p4 : Int32) (σ : zS) : zM tX11_blur 9 (0, 0) E [.inr (.inl (some p0)), .inl p1, .inl p2, .inl p3, .inl p4] σ = fX11_blur E p0 p1 p2 p3 p4 σ :=
  (zun_at (fun pc => (oX11_blur pc).1) E (fun q => Nat.beq q 12 || Nat.beq q 27) 45 0 (0, 0) (zls0 [.inr (.inl (some p0)), .inl p1, .inl p2, .inl p3, .inl p4] 9) [] σ).trans rfl
noncomputable def fX11_point (E : zE) (p0 : Nat) (p1 : Int32) (p2 : Int32) (p3 : Int32) (p4 : Int32) (σ : zS) : zO :=
  if (p1 : Int32) = 0 then
    if (p4 : Int32) ≤ p2 then
      some (some (.inl 0), σ)
    else
      if (p4 : Int32) < p3 then
        if ((p3 - p2) : Int32) = 0 then none else
        some (some (.inl (((p4 - p2) * 255) / (p3 - p2))), σ)
      else
        some (some (.inl 255), σ)
  else if (p1 : Int32) = 1 then
    bnI (E mX11_clamp [.inl (p4 + p2)] σ) fun v2 s1 =>
    some (some (.inl v2), s1)
  else if (p1 : Int32) = 2 then
    bnI (E mX11_floor [.inl ((p4 - 128) * p2), .inl 100] σ) fun v4 s3 =>
    bnI (E mX11_clamp [.inl (128 + v4)] s3) fun v6 s5 =>
    some (some (.inl v6), s5)
  else if (p1 : Int32) = 3 then
    if (256 : Int32) = 0 then none else
    if ((p2 - 1) : Int32) = 0 then none else
    some (some (.inl ((((p4 * p2) / 256) * 255) / (p2 - 1))), σ)
  else if (p1 : Int32) = 4 then
    some (some (.inl (255 - p4)), σ)
  else if (p1 : Int32) = 5 then
    if (p4 : Int32) < p2 then
      some (some (.inl 0), σ)
    else
      some (some (.inl 255), σ)
  else 
    some (some (.inl p2), σ)
set_option maxRecDepth 20000 in
theorem eX11_point (E : zE) (p0 : Nat) (p1 : Int32) (p2 : Int32) (p3 : Int32) (p4 : Int32) (σ : zS) : zM tX11_point 5 (0, 0) E [.inr (.inl (some p0)), .inl p1, .inl p2, .inl p3, .inl p4] σ = fX11_point E p0 p1 p2 p3 p4 σ :=
  (zun_at (fun pc => (oX11_point pc).1) E (fun _ => false) 64 0 (0, 0) (zls0 [.inr (.inl (some p0)), .inl p1, .inl p2, .inl p3, .inl p4] 5) [] σ).trans rfl
noncomputable def LX11_findRange_14 (E : zE) (l0 : Nat) (l1 : Int32) (l2 : Int32) (σ : zS) : zO := zF tX11_findRange E 14 (0, 0) [.inr (.inl (some l0)), .inl l1, .inl l2] [] σ
noncomputable def LX11_findRange_62 (E : zE) (l0 : Nat) (l1 : Int32) (l2 : Int32) (k0 : Option Nat) (k1 : Int32) (σ : zS) : zO := zF tX11_findRange E 62 (0, 0) [.inr (.inl (some l0)), .inl l1, .inl l2] [.inl k1, .inr (.inl k0)] σ
set_option maxRecDepth 20000 in
theorem uX11_findRange_14 (E : zE) (l0 : Nat) (l1 : Int32) (l2 : Int32) (σ : zS) : LX11_findRange_14 E l0 l1 l2 σ =
  (chk (zkd σ l0 = 9) <|
  onR (zr σ 577 l0) fun a1 =>
  chk (zkd σ a1 = 11 ∧ zin 0 (zln σ a1)) <|
  chk (zkd σ l0 = 9) <|
  onR (zr σ 577 l0) fun a2 =>
  chk (zkd σ a2 = 11 ∧ zin 1 (zln σ a2)) <|
  if (l2 : Int32) < ((zai σ a1 (Int32.toNatClampNeg 0)) * (zai σ a2 (Int32.toNatClampNeg 1))) then
    chk (zkd σ l0 = 9) <|
    onR (zr σ 599 l0) fun a3 =>
    chk (zkd σ a3 = 11 ∧ zin (l1 + l2) (zln σ a3)) <|
    chk (zkd σ l0 = 9) <|
    if ((zai σ a3 (Int32.toNatClampNeg (l1 + l2))) : Int32) < (zi σ 601 l0) then
      chk (zkd σ l0 = 9) <|
      onR (zr σ 599 l0) fun a4 =>
      chk (zkd σ a4 = 11 ∧ zin (l1 + l2) (zln σ a4)) <|
      LX11_findRange_62 E l0 l1 l2 (some l0) (zai σ a4 (Int32.toNatClampNeg (l1 + l2))) σ
    else
      chk (zkd σ l0 = 9) <|
      LX11_findRange_62 E l0 l1 l2 (some l0) (zi σ 601 l0) σ
  else
    some (none, σ)) :=
  (zun_at (fun pc => (oX11_findRange pc).1) E (fun q => Nat.beq q 14 || Nat.beq q 62) 63 14 (0, 0) [.inr (.inl (some l0)), .inl l1, .inl l2] [] σ).trans rfl
set_option maxRecDepth 20000 in
theorem uX11_findRange_62 (E : zE) (l0 : Nat) (l1 : Int32) (l2 : Int32) (k0 : Option Nat) (k1 : Int32) (σ : zS) : LX11_findRange_62 E l0 l1 l2 k0 k1 σ =
  (onR k0 fun a1 =>
  chk (zkd σ a1 = 9) <| zlt (zsi σ 601 a1 k1) fun s2 =>
  chk (zkd s2 l0 = 9) <|
  onR (zr s2 599 l0) fun a3 =>
  chk (zkd s2 a3 = 11 ∧ zin (l1 + l2) (zln s2 a3)) <|
  chk (zkd s2 l0 = 9) <|
  if ((zai s2 a3 (Int32.toNatClampNeg (l1 + l2))) : Int32) ≤ (zi s2 602 l0) then
    chk (zkd s2 l0 = 9) <|
    chk (zkd s2 l0 = 9) <| zlt (zsi s2 602 l0 (zi s2 602 l0)) fun s4 =>
    zlt (α := Int32) (l2 + 1) fun v5 =>
    LX11_findRange_14 E l0 l1 v5 s4
  else
    chk (zkd s2 l0 = 9) <|
    onR (zr s2 599 l0) fun a6 =>
    chk (zkd s2 a6 = 11 ∧ zin (l1 + l2) (zln s2 a6)) <|
    chk (zkd s2 l0 = 9) <| zlt (zsi s2 602 l0 (zai s2 a6 (Int32.toNatClampNeg (l1 + l2)))) fun s7 =>
    zlt (α := Int32) (l2 + 1) fun v8 =>
    LX11_findRange_14 E l0 l1 v8 s7) :=
  (zun_at (fun pc => (oX11_findRange pc).1) E (fun q => Nat.beq q 14 || Nat.beq q 62) 63 62 (0, 0) [.inr (.inl (some l0)), .inl l1, .inl l2] [.inl k1, .inr (.inl k0)] σ).trans rfl
noncomputable def fX11_findRange (E : zE) (p0 : Nat) (p1 : Int32) (σ : zS) : zO :=
  chk (zkd σ p0 = 9) <| zlt (zsi σ 601 p0 255) fun s1 =>
  chk (zkd s1 p0 = 9) <| zlt (zsi s1 602 p0 0) fun s2 =>
  zlt (α := Int32) 0 fun v3 =>
  LX11_findRange_14 E p0 p1 v3 s2
set_option maxRecDepth 20000 in
theorem eX11_findRange (E : zE) (p0 : Nat) (p1 : Int32) (σ : zS) : zM tX11_findRange 3 (0, 0) E [.inr (.inl (some p0)), .inl p1] σ = fX11_findRange E p0 p1 σ :=
  (zun_at (fun pc => (oX11_findRange pc).1) E (fun q => Nat.beq q 14 || Nat.beq q 62) 63 0 (0, 0) (zls0 [.inr (.inl (some p0)), .inl p1] 3) [] σ).trans rfl
noncomputable def fX11_adjusted (E : zE) (p0 : Nat) (p1 : Int32) (p2 : Int32) (p3 : Int32) (p4 : Int32) (σ : zS) : zO :=
  chk (zkd σ p0 = 9) <|
  onR (zr σ 577 p0) fun a1 =>
  chk (zkd σ a1 = 11 ∧ zin (p1 + 0) (zln σ a1)) <|
  zlt (α := Int32) (zai σ a1 (Int32.toNatClampNeg (p1 + 0))) fun v2 =>
  chk (zkd σ p0 = 9) <|
  onR (zr σ 577 p0) fun a3 =>
  chk (zkd σ a3 = 11 ∧ zin (p1 + 1) (zln σ a3)) <|
  zlt (α := Int32) (zai σ a3 (Int32.toNatClampNeg (p1 + 1))) fun v4 =>
  chk (zkd σ p0 = 9) <|
  onR (zr σ 577 p0) fun a5 =>
  chk (zkd σ a5 = 11 ∧ zin (p1 + 2) (zln σ a5)) <|
  zlt (α := Int32) (zai σ a5 (Int32.toNatClampNeg (p1 + 2))) fun v6 =>
  chk (zkd σ p0 = 9) <|
  bnI (E mX11_inputAt [.inr (.inl (some p0)), .inl p2, .inl p3, .inl p4] σ) fun v8 s7 =>
  zlt (α := Int32) v8 fun v9 =>
  if (v2 : Int32) = 6 then
    chk (zkd s7 p0 = 9) <|
    bnI (E mX11_blur [.inr (.inl (some p0)), .inl p2, .inl p3, .inl p4, .inl v4] s7) fun v11 s10 =>
    some (some (.inl v11), s10)
  else if (v2 : Int32) = 7 then
    chk (zkd s7 p0 = 9) <|
    chk (zkd s7 p0 = 9) <|
    bnI (E mX11_gather [.inr (.inl (some p0)), .inl p2, .inl p3, .inl p4, .inl v4] s7) fun v13 s12 =>
    if (2 : Int32) = 0 then none else
    onR (zr s7 600 p0) fun a14 =>
    chk (zkd s12 a14 = 11 ∧ zin ((v13 - 1) / 2) (zln s12 a14)) <|
    some (some (.inl (zai s12 a14 (Int32.toNatClampNeg ((v13 - 1) / 2)))), s12)
  else if (v2 : Int32) = 8 then
    chk (zkd s7 p0 = 9) <|
    chk (zkd s7 p0 = 9) <|
    bnI (E mX11_gather [.inr (.inl (some p0)), .inl p2, .inl p3, .inl p4, .inl v4] s7) fun v16 s15 =>
    onR (zr s7 600 p0) fun a17 =>
    chk (zkd s15 a17 = 11 ∧ zin (v16 - 1) (zln s15 a17)) <|
    some (some (.inl (zai s15 a17 (Int32.toNatClampNeg (v16 - 1)))), s15)
  else if (v2 : Int32) = 9 then
    chk (zkd s7 p0 = 9) <|
    bnI (E mX11_gather [.inr (.inl (some p0)), .inl p2, .inl p3, .inl p4, .inl v4] s7) fun v19 s18 =>
    if (v19 : Int32) ≤ 0 then
      some (some (.inl 0), s18)
    else
      chk (zkd s18 p0 = 9) <|
      onR (zr s18 600 p0) fun a20 =>
      chk (zkd s18 a20 = 11 ∧ zin 0 (zln s18 a20)) <|
      some (some (.inl (zai s18 a20 (Int32.toNatClampNeg 0))), s18)
  else if (v2 : Int32) = 10 then
    chk (zkd s7 p0 = 9) <|
    bnI (E mX11_blur [.inr (.inl (some p0)), .inl p2, .inl p3, .inl p4, .inl v4] s7) fun v22 s21 =>
    bnI (E mX11_floor [.inl ((v9 - v22) * v6), .inl 100] s21) fun v24 s23 =>
    bnI (E mX11_clamp [.inl (v9 + v24)] s23) fun v26 s25 =>
    some (some (.inl v26), s25)
  else if (v2 : Int32) = 11 then
    chk (zkd s7 p0 = 9) <|
    onR (zr s7 577 p0) fun a27 =>
    chk (zkd s7 a27 = 11 ∧ zin 0 (zln s7 a27)) <|
    bnI (E mX11_nearest [.inl (p3 - v4), .inl (zai s7 a27 (Int32.toNatClampNeg 0))] s7) fun v29 s28 =>
    chk (zkd s28 p0 = 9) <|
    onR (zr s28 577 p0) fun a30 =>
    chk (zkd s28 a30 = 11 ∧ zin 1 (zln s28 a30)) <|
    bnI (E mX11_nearest [.inl (p4 - v6), .inl (zai s28 a30 (Int32.toNatClampNeg 1))] s28) fun v32 s31 =>
    chk (zkd s31 p0 = 9) <|
    bnI (E mX11_inputAt [.inr (.inl (some p0)), .inl p2, .inl v29, .inl v32] s31) fun v34 s33 =>
    some (some (.inl v34), s33)
  else if (v2 : Int32) = 12 then
    chk (zkd s7 p0 = 9) <|
    bnI (E mX11_point [.inr (.inl (some p0)), .inl v2, .inl v4, .inl v6, .inl v9] s7) fun v36 s35 =>
    some (some (.inl v36), s35)
  else if (v2 : Int32) = 13 then
    chk (zkd s7 p0 = 9) <|
    chk (zkd s7 p0 = 9) <|
    if ((zi s7 602 p0) : Int32) = (zi s7 601 p0) then
      some (some (.inl v9), s7)
    else
      chk (zkd s7 p0 = 9) <|
      chk (zkd s7 p0 = 9) <|
      chk (zkd s7 p0 = 9) <|
      if (((zi s7 602 p0) - (zi s7 601 p0)) : Int32) = 0 then none else
      some (some (.inl (((v9 - (zi s7 601 p0)) * 255) / ((zi s7 602 p0) - (zi s7 601 p0)))), s7)
  else 
    chk (zkd s7 p0 = 9) <|
    bnI (E mX11_point [.inr (.inl (some p0)), .inl v2, .inl v4, .inl v6, .inl v9] s7) fun v38 s37 =>
    some (some (.inl v38), s37)
set_option maxRecDepth 20000 in
theorem eX11_adjusted (E : zE) (p0 : Nat) (p1 : Int32) (p2 : Int32) (p3 : Int32) (p4 : Int32) (σ : zS) : zM tX11_adjusted 9 (0, 0) E [.inr (.inl (some p0)), .inl p1, .inl p2, .inl p3, .inl p4] σ = fX11_adjusted E p0 p1 p2 p3 p4 σ :=
  (zun_at (fun pc => (oX11_adjusted pc).1) E (fun _ => false) 140 0 (0, 0) (zls0 [.inr (.inl (some p0)), .inl p1, .inl p2, .inl p3, .inl p4] 9) [] σ).trans rfl
noncomputable def fX11_blend (E : zE) (p0 : Int32) (p1 : Int32) (p2 : Int32) (σ : zS) : zO :=
  if (p0 : Int32) = 0 then
    some (some (.inl p2), σ)
  else if (p0 : Int32) = 1 then
    if (255 : Int32) = 0 then none else
    some (some (.inl ((p1 * p2) / 255)), σ)
  else if (p0 : Int32) = 2 then
    if (255 : Int32) = 0 then none else
    some (some (.inl (255 - (((255 - p1) * (255 - p2)) / 255))), σ)
  else if (p0 : Int32) = 3 then
    if (p1 : Int32) ≤ p2 then
      some (some (.inl p2), σ)
    else
      some (some (.inl p1), σ)
  else if (p0 : Int32) = 4 then
    if (p1 : Int32) < p2 then
      some (some (.inl p1), σ)
    else
      some (some (.inl p2), σ)
  else if (p0 : Int32) = 5 then
    bnI (E mX11_abs [.inl (p1 - p2)] σ) fun v2 s1 =>
    some (some (.inl v2), s1)
  else if (p0 : Int32) = 6 then
    bnI (E mX11_clamp [.inl (p1 + p2)] σ) fun v4 s3 =>
    some (some (.inl v4), s3)
  else 
    bnI (E mX11_clamp [.inl (p1 - p2)] σ) fun v6 s5 =>
    some (some (.inl v6), s5)
set_option maxRecDepth 20000 in
theorem eX11_blend (E : zE) (p0 : Int32) (p1 : Int32) (p2 : Int32) (σ : zS) : zM tX11_blend 3 (0, 0) E [.inl p0, .inl p1, .inl p2] σ = fX11_blend E p0 p1 p2 σ :=
  (zun_at (fun pc => (oX11_blend pc).1) E (fun _ => false) 52 0 (0, 0) (zls0 [.inl p0, .inl p1, .inl p2] 3) [] σ).trans rfl
noncomputable def fX11_beyond (E : zE) (p0 : Int32) (p1 : Int32) (p2 : Int32) (σ : zS) : zO :=
  if (p0 : Int32) < p1 then
    some (some (.inl (p1 - p0)), σ)
  else
    if (p0 : Int32) ≤ p2 then
      some (some (.inl 0), σ)
    else
      some (some (.inl (p0 - p2)), σ)
set_option maxRecDepth 20000 in
theorem eX11_beyond (E : zE) (p0 : Int32) (p1 : Int32) (p2 : Int32) (σ : zS) : zM tX11_beyond 3 (0, 0) E [.inl p0, .inl p1, .inl p2] σ = fX11_beyond E p0 p1 p2 σ :=
  (zun_at (fun pc => (oX11_beyond pc).1) E (fun _ => false) 17 0 (0, 0) (zls0 [.inl p0, .inl p1, .inl p2] 3) [] σ).trans rfl
noncomputable def LX11_isDabbed_6 (E : zE) (l0 : Nat) (l1 : Int32) (l2 : Int32) (l3 : Int32) (l4 : Int32) (l5 : Int32) (l6 : zV) (l7 : zV) (l8 : zV) (σ : zS) : zO := zF tX11_isDabbed E 6 (0, 0) [.inr (.inl (some l0)), .inl l1, .inl l2, .inl l3, .inl l4, .inl l5, l6, l7, l8] [] σ
set_option maxRecDepth 20000 in
theorem uX11_isDabbed_6 (E : zE) (l0 : Nat) (l1 : Int32) (l2 : Int32) (l3 : Int32) (l4 : Int32) (l5 : Int32) (l6 : zV) (l7 : zV) (l8 : zV) (σ : zS) : LX11_isDabbed_6 E l0 l1 l2 l3 l4 l5 l6 l7 l8 σ =
  (chk (zkd σ l0 = 9) <|
  onR (zr σ 577 l0) fun a1 =>
  chk (zkd σ a1 = 11 ∧ zin (l1 + 13) (zln σ a1)) <|
  if (l5 : Int32) < (zai σ a1 (Int32.toNatClampNeg (l1 + 13))) then
    chk (zkd σ l0 = 9) <|
    onR (zr σ 577 l0) fun a2 =>
    chk (zkd σ a2 = 11 ∧ zin ((l1 + 14) + (3 * l5)) (zln σ a2)) <|
    zlt (α := Int32) (l2 - (zai σ a2 (Int32.toNatClampNeg ((l1 + 14) + (3 * l5))))) fun v3 =>
    chk (zkd σ l0 = 9) <|
    onR (zr σ 577 l0) fun a4 =>
    chk (zkd σ a4 = 11 ∧ zin (((l1 + 14) + (3 * l5)) + 1) (zln σ a4)) <|
    zlt (α := Int32) (l3 - (zai σ a4 (Int32.toNatClampNeg (((l1 + 14) + (3 * l5)) + 1)))) fun v5 =>
    chk (zkd σ l0 = 9) <|
    onR (zr σ 577 l0) fun a6 =>
    chk (zkd σ a6 = 11 ∧ zin (((l1 + 14) + (3 * l5)) + 2) (zln σ a6)) <|
    zlt (α := Int32) (zai σ a6 (Int32.toNatClampNeg (((l1 + 14) + (3 * l5)) + 2))) fun v7 =>
    if (l4 : Int32) = 0 then
      if (((v3 * v3) + (v5 * v5)) : Int32) ≤ (v7 * v7) then
        zlt (α := Int32) 1 fun v8 =>
        zlt (α := Int32) (l5 + 1) fun v9 =>
        LX11_isDabbed_6 E l0 l1 l2 l3 v8 v9 (.inl v3) (.inl v5) (.inl v7) σ
      else
        zlt (α := Int32) 0 fun v10 =>
        zlt (α := Int32) (l5 + 1) fun v11 =>
        LX11_isDabbed_6 E l0 l1 l2 l3 v10 v11 (.inl v3) (.inl v5) (.inl v7) σ
    else
      zlt (α := Int32) 1 fun v12 =>
      zlt (α := Int32) (l5 + 1) fun v13 =>
      LX11_isDabbed_6 E l0 l1 l2 l3 v12 v13 (.inl v3) (.inl v5) (.inl v7) σ
  else
    chk (zB l4) (some (some (.inl l4), σ))) :=
  (zun_at (fun pc => (oX11_isDabbed pc).1) E (fun q => Nat.beq q 6) 75 6 (0, 0) [.inr (.inl (some l0)), .inl l1, .inl l2, .inl l3, .inl l4, .inl l5, l6, l7, l8] [] σ).trans rfl
noncomputable def fX11_isDabbed (E : zE) (p0 : Nat) (p1 : Int32) (p2 : Int32) (p3 : Int32) (σ : zS) : zO :=
  zlt (α := Int32) 0 fun v1 =>
  zlt (α := Int32) 0 fun v2 =>
  LX11_isDabbed_6 E p0 p1 p2 p3 v1 v2 (.inr (.inr 0)) (.inr (.inr 0)) (.inr (.inr 0)) σ
set_option maxRecDepth 20000 in
theorem eX11_isDabbed (E : zE) (p0 : Nat) (p1 : Int32) (p2 : Int32) (p3 : Int32) (σ : zS) : zM tX11_isDabbed 9 (0, 0) E [.inr (.inl (some p0)), .inl p1, .inl p2, .inl p3] σ = fX11_isDabbed E p0 p1 p2 p3 σ :=
  (zun_at (fun pc => (oX11_isDabbed pc).1) E (fun q => Nat.beq q 6) 75 0 (0, 0) (zls0 [.inr (.inl (some p0)), .inl p1, .inl p2, .inl p3] 9) [] σ).trans rfl
noncomputable def LX11_plainMask_126 (E : zE) (l0 : Nat) (l1 : Int32) (l2 : zV) (l3 : zV) (l4 : zV) (l5 : zV) (l6 : zV) (l7 : zV) (l8 : zV) (l9 : zV) (l10 : zV) (k0 : Int32) (σ : zS) : zO := zF tX11_plainMask E 126 (0, 0) [.inr (.inl (some l0)), .inl l1, l2, l3, l4, l5, l6, l7, l8, l9, l10, .inr (.inr 0), .inr (.inr 0)] [.inl k0] σ
set_option maxRecDepth 20000 in
theorem uX11_plainMask_126 (E : zE) (l0 : Nat) (l1 : Int32) (l2 : zV) (l3 : zV) (l4 : zV) (l5 : zV) (l6 : zV) (l7 : zV) (l8 : zV) (l9 : zV) (l10 : zV) (k0 : Int32) (σ : zS) : LX11_plainMask_126 E l0 l1 l2 l3 l4 l5 l6 l7 l8 l9 l10 k0 σ =
  (zlt (α := Int32) k0 fun v1 =>
  chk (zkd σ l0 = 9) <|
  onR (zr σ 577 l0) fun a2 =>
  chk (zkd σ a2 = 11 ∧ zin (l1 + 11) (zln σ a2)) <|
  zlt (α := Int32) (zai σ a2 (Int32.toNatClampNeg (l1 + 11))) fun v3 =>
  if (v1 : Int32) = 0 then
    some (some (.inl 255), σ)
  else
    if (v1 : Int32) ≤ v3 then
      if ((v3 + 1) : Int32) = 0 then none else
      some (some (.inl ((255 * ((v3 + 1) - v1)) / (v3 + 1))), σ)
    else
      some (some (.inl 0), σ)) :=
  (zun_at (fun pc => (oX11_plainMask pc).1) E (fun q => Nat.beq q 126) 121 126 (0, 0) [.inr (.inl (some l0)), .inl l1, l2, l3, l4, l5, l6, l7, l8, l9, l10, .inr (.inr 0), .inr (.inr 0)] [.inl k0] σ).trans rfl
noncomputable def fX11_plainMask (E : zE) (p0 : Nat) (p1 : Int32) (p2 : Int32) (p3 : Int32) (p4 : Int32) (σ : zS) : zO :=
  chk (zkd σ p0 = 9) <|
  onR (zr σ 577 p0) fun a1 =>
  chk (zkd σ a1 = 11 ∧ zin (p1 + 7) (zln σ a1)) <|
  zlt (α := Int32) (zai σ a1 (Int32.toNatClampNeg (p1 + 7))) fun v2 =>
  chk (zkd σ p0 = 9) <|
  onR (zr σ 577 p0) fun a3 =>
  chk (zkd σ a3 = 11 ∧ zin ((p1 + 7) + 1) (zln σ a3)) <|
  zlt (α := Int32) (zai σ a3 (Int32.toNatClampNeg ((p1 + 7) + 1))) fun v4 =>
  chk (zkd σ p0 = 9) <|
  onR (zr σ 577 p0) fun a5 =>
  chk (zkd σ a5 = 11 ∧ zin ((p1 + 7) + 2) (zln σ a5)) <|
  zlt (α := Int32) (zai σ a5 (Int32.toNatClampNeg ((p1 + 7) + 2))) fun v6 =>
  chk (zkd σ p0 = 9) <|
  onR (zr σ 577 p0) fun a7 =>
  chk (zkd σ a7 = 11 ∧ zin ((p1 + 7) + 3) (zln σ a7)) <|
  zlt (α := Int32) (zai σ a7 (Int32.toNatClampNeg ((p1 + 7) + 3))) fun v8 =>
  chk (zkd σ p0 = 9) <|
  onR (zr σ 577 p0) fun a9 =>
  chk (zkd σ a9 = 11 ∧ zin (p1 + 6) (zln σ a9)) <|
  if ((zai σ a9 (Int32.toNatClampNeg (p1 + 6))) : Int32) = 0 then
    some (some (.inl 255), σ)
  else if ((zai σ a9 (Int32.toNatClampNeg (p1 + 6))) : Int32) = 1 then
    bnI (E mX11_beyond [.inl p2, .inl v2, .inl v6] σ) fun v11 s10 =>
    zlt (α := Int32) v11 fun v12 =>
    bnI (E mX11_beyond [.inl p3, .inl v4, .inl v8] s10) fun v14 s13 =>
    zlt (α := Int32) v14 fun v15 =>
    if (v12 : Int32) ≤ v15 then
      LX11_plainMask_126 E p0 p1 (.inl p2) (.inl p3) (.inl p4) (.inl v2) (.inl v4) (.inl v6) (.inl v8) (.inl v12) (.inl v15) v15 s13
    else
      LX11_plainMask_126 E p0 p1 (.inl p2) (.inl p3) (.inl p4) (.inl v2) (.inl v4) (.inl v6) (.inl v8) (.inl v12) (.inl v15) v12 s13
  else if ((zai σ a9 (Int32.toNatClampNeg (p1 + 6))) : Int32) = 2 then
    if (p2 : Int32) ≤ v2 then
      some (some (.inl 0), σ)
    else
      if (p2 : Int32) < v6 then
        if ((v6 - v2) : Int32) = 0 then none else
        some (some (.inl ((255 * (p2 - v2)) / (v6 - v2))), σ)
      else
        some (some (.inl 255), σ)
  else if ((zai σ a9 (Int32.toNatClampNeg (p1 + 6))) : Int32) = 3 then
    some (some (.inl p4), σ)
  else 
    chk (zkd σ p0 = 9) <|
    bnI (E mX11_isDabbed [.inr (.inl (some p0)), .inl p1, .inl p2, .inl p3] σ) fun v17 s16 =>
    if (v17 : Int32) = 0 then
      some (some (.inl 0), s16)
    else
      some (some (.inl 255), s16)
set_option maxRecDepth 20000 in
theorem eX11_plainMask (E : zE) (p0 : Nat) (p1 : Int32) (p2 : Int32) (p3 : Int32) (p4 : Int32) (σ : zS) : zM tX11_plainMask 13 (0, 0) E [.inr (.inl (some p0)), .inl p1, .inl p2, .inl p3, .inl p4] σ = fX11_plainMask E p0 p1 p2 p3 p4 σ :=
  (zun_at (fun pc => (oX11_plainMask pc).1) E (fun q => Nat.beq q 126) 121 0 (0, 0) (zls0 [.inr (.inl (some p0)), .inl p1, .inl p2, .inl p3, .inl p4] 13) [] σ).trans rfl
noncomputable def fX11_maskAt (E : zE) (p0 : Nat) (p1 : Int32) (p2 : Int32) (p3 : Int32) (p4 : Int32) (σ : zS) : zO :=
  chk (zkd σ p0 = 9) <|
  bnI (E mX11_plainMask [.inr (.inl (some p0)), .inl p1, .inl p2, .inl p3, .inl p4] σ) fun v2 s1 =>
  zlt (α := Int32) v2 fun v3 =>
  chk (zkd s1 p0 = 9) <|
  onR (zr s1 577 p0) fun a4 =>
  chk (zkd s1 a4 = 11 ∧ zin (p1 + 12) (zln s1 a4)) <|
  if ((zai s1 a4 (Int32.toNatClampNeg (p1 + 12))) : Int32) = 1 then
    some (some (.inl (255 - v3)), s1)
  else
    some (some (.inl v3), s1)
set_option maxRecDepth 20000 in
theorem eX11_maskAt (E : zE) (p0 : Nat) (p1 : Int32) (p2 : Int32) (p3 : Int32) (p4 : Int32) (σ : zS) : zM tX11_maskAt 6 (0, 0) E [.inr (.inl (some p0)), .inl p1, .inl p2, .inl p3, .inl p4] σ = fX11_maskAt E p0 p1 p2 p3 p4 σ :=
  (zun_at (fun pc => (oX11_maskAt pc).1) E (fun _ => false) 22 0 (0, 0) (zls0 [.inr (.inl (some p0)), .inl p1, .inl p2, .inl p3, .inl p4] 6) [] σ).trans rfl
noncomputable def LX11_computeLayer_19 (E : zE) (l0 : Nat) (l1 : Int32) (l2 : Int32) (l3 : Int32) (l4 : Int32) (l5 : zV) (l6 : zV) (l7 : zV) (l8 : zV) (σ : zS) : zO := zF tX11_computeLayer E 19 (0, 0) [.inr (.inl (some l0)), .inl l1, .inl l2, .inl l3, .inl l4, l5, l6, l7, l8] [] σ
noncomputable def LX11_computeLayer_33 (E : zE) (l0 : Nat) (l1 : Int32) (l2 : Int32) (l3 : Int32) (l4 : Int32) (l5 : Int32) (l6 : zV) (l7 : zV) (l8 : zV) (σ : zS) : zO := zF tX11_computeLayer E 33 (0, 0) [.inr (.inl (some l0)), .inl l1, .inl l2, .inl l3, .inl l4, .inl l5, l6, l7, l8] [] σ
set_option maxRecDepth 20000 in
theorem uX11_computeLayer_19 (E : zE) (l0 : Nat) (l1 : Int32) (l2 : Int32) (l3 : Int32) (l4 : Int32) (l5 : zV) (l6 : zV) (l7 : zV) (l8 : zV) (σ : zS) : LX11_computeLayer_19 E l0 l1 l2 l3 l4 l5 l6 l7 l8 σ =
  (chk (zkd σ l0 = 9) <|
  onR (zr σ 577 l0) fun a1 =>
  chk (zkd σ a1 = 11 ∧ zin 1 (zln σ a1)) <|
  if (l4 : Int32) < (zai σ a1 (Int32.toNatClampNeg 1)) then
    zlt (α := Int32) 0 fun v2 =>
    LX11_computeLayer_33 E l0 l1 l2 l3 l4 v2 (l6) (l7) (l8) σ
  else
    some (none, σ)) :=
  (zun_at (fun pc => (oX11_computeLayer pc).1) E (fun q => Nat.beq q 19 || Nat.beq q 33) 97 19 (0, 0) [.inr (.inl (some l0)), .inl l1, .inl l2, .inl l3, .inl l4, l5, l6, l7, l8] [] σ).trans rfl
set_option maxRecDepth 20000 in
theorem uX11_computeLayer_33 (E : zE) (l0 : Nat) (l1 : Int32) (l2 : Int32) (l3 : Int32) (l4 : Int32) (l5 : Int32) (l6 : zV) (l7 : zV) (l8 : zV) (σ : zS) : LX11_computeLayer_33 E l0 l1 l2 l3 l4 l5 l6 l7 l8 σ =
  (chk (zkd σ l0 = 9) <|
  onR (zr σ 577 l0) fun a1 =>
  chk (zkd σ a1 = 11 ∧ zin 0 (zln σ a1)) <|
  if (l5 : Int32) < (zai σ a1 (Int32.toNatClampNeg 0)) then
    chk (zkd σ l0 = 9) <|
    bnI (E mX11_inputAt [.inr (.inl (some l0)), .inl l3, .inl l5, .inl l4] σ) fun v3 s2 =>
    zlt (α := Int32) v3 fun v4 =>
    chk (zkd s2 l0 = 9) <|
    onR (zr s2 577 l0) fun a5 =>
    chk (zkd s2 a5 = 11 ∧ zin (l2 + 3) (zln s2 a5)) <|
    chk (zkd s2 l0 = 9) <|
    bnI (E mX11_adjusted [.inr (.inl (some l0)), .inl l2, .inl l3, .inl l5, .inl l4] s2) fun v7 s6 =>
    bnI (E mX11_blend [.inl (zai s2 a5 (Int32.toNatClampNeg (l2 + 3))), .inl v4, .inl v7] s6) fun v9 s8 =>
    zlt (α := Int32) v9 fun v10 =>
    chk (zkd s8 l0 = 9) <|
    onR (zr s8 577 l0) fun a11 =>
    chk (zkd s8 a11 = 11 ∧ zin (l2 + 4) (zln s8 a11)) <|
    chk (zkd s8 l0 = 9) <|
    bnI (E mX11_maskAt [.inr (.inl (some l0)), .inl l2, .inl l5, .inl l4, .inl v4] s8) fun v13 s12 =>
    bnI (E mX11_floor [.inl (((v10 - v4) * (zai s8 a11 (Int32.toNatClampNeg (l2 + 4)))) * v13), .inl 25500] s12) fun v15 s14 =>
    zlt (α := Int32) (v4 + v15) fun v16 =>
    chk (zkd s14 l0 = 9) <|
    chk (zkd s14 l0 = 9) <|
    onR (zr s14 577 l0) fun a17 =>
    chk (zkd s14 a17 = 11 ∧ zin 0 (zln s14 a17)) <|
    chk (zkd s14 l0 = 9) <|
    bnI (E mX11_isOn [.inr (.inl (some l0)), .inl l1] s14) fun v19 s18 =>
    if (v19 : Int32) = 0 then
      onR (zr s14 599 l0) fun a20 =>
      chk (zkd s18 a20 = 11 ∧ zin (((l3 + 256) + (l4 * (zai s14 a17 (Int32.toNatClampNeg 0)))) + l5) (zln s18 a20)) <| zlt (zsa s18 a20 (Int32.toNatClampNeg (((l3 + 256) + (l4 * (zai s14 a17 (Int32.toNatClampNeg 0)))) + l5)) v4) fun s21 =>
      zlt (α := Int32) (l5 + 1) fun v22 =>
      LX11_computeLayer_33 E l0 l1 l2 l3 l4 v22 (.inl v4) (.inl v10) (.inl v16) s21
    else
      onR (zr s14 599 l0) fun a23 =>
      chk (zkd s18 a23 = 11 ∧ zin (((l3 + 256) + (l4 * (zai s14 a17 (Int32.toNatClampNeg 0)))) + l5) (zln s18 a23)) <| zlt (zsa s18 a23 (Int32.toNatClampNeg (((l3 + 256) + (l4 * (zai s14 a17 (Int32.toNatClampNeg 0)))) + l5)) v16) fun s24 =>
      zlt (α := Int32) (l5 + 1) fun v25 =>
      LX11_computeLayer_33 E l0 l1 l2 l3 l4 v25 (.inl v4) (.inl v10) (.inl v16) s24
  else
    zlt (α := Int32) (l4 + 1) fun v26 =>
    LX11_computeLayer_19 E l0 l1 l2 l3 v26 (.inl l5) (l6) (l7) (l8) σ) :=
  (zun_at (fun pc => (oX11_computeLayer pc).1) E (fun q => Nat.beq q 19 || Nat.beq q 33) 97 33 (0, 0) [.inr (.inl (some l0)), .inl l1, .inl l2, .inl l3, .inl l4, .inl l5, l6, l7, l8] [] σ).trans rfl
noncomputable def fX11_computeLayer (E : zE) (p0 : Nat) (p1 : Int32) (σ : zS) : zO :=
  bnI (E mX11_at [.inl p1] σ) fun v2 s1 =>
  zlt (α := Int32) v2 fun v3 =>
  zlt (α := Int32) (256 * p1) fun v4 =>
  chk (zkd s1 p0 = 9) <|
  bnV (E mX11_findRange [.inr (.inl (some p0)), .inl v4] s1) fun s5 =>
  zlt (α := Int32) 0 fun v6 =>
  LX11_computeLayer_19 E p0 p1 v3 v4 v6 (.inr (.inr 0)) (.inr (.inr 0)) (.inr (.inr 0)) (.inr (.inr 0)) s5
set_option maxRecDepth 20000 in
theorem eX11_computeLayer (E : zE) (p0 : Nat) (p1 : Int32) (σ : zS) : zM tX11_computeLayer 9 (0, 0) E [.inr (.inl (some p0)), .inl p1] σ = fX11_computeLayer E p0 p1 σ :=
  (zun_at (fun pc => (oX11_computeLayer pc).1) E (fun q => Nat.beq q 19 || Nat.beq q 33) 97 0 (0, 0) (zls0 [.inr (.inl (some p0)), .inl p1] 9) [] σ).trans rfl
noncomputable def LX11_compute_2 (E : zE) (l0 : Nat) (l1 : Int32) (l2 : Int32) (σ : zS) : zO := zF tX11_compute E 2 (0, 0) [.inr (.inl (some l0)), .inl l1, .inl l2] [] σ
noncomputable def LX11_compute_31 (E : zE) (l0 : Nat) (l1 : Int32) (l2 : Int32) (σ : zS) : zO := zF tX11_compute E 31 (0, 0) [.inr (.inl (some l0)), .inl l1, .inl l2] [] σ
set_option maxRecDepth 20000 in
theorem uX11_compute_2 (E : zE) (l0 : Nat) (l1 : Int32) (l2 : Int32) (σ : zS) : LX11_compute_2 E l0 l1 l2 σ =
  (if (l2 : Int32) < 256 then
    chk (zkd σ l0 = 9) <|
    chk (zkd σ l0 = 9) <|
    onR (zr σ 577 l0) fun a1 =>
    chk (zkd σ a1 = 11 ∧ zin (2 + l2) (zln σ a1)) <|
    onR (zr σ 599 l0) fun a2 =>
    chk (zkd σ a2 = 11 ∧ zin l2 (zln σ a2)) <| zlt (zsa σ a2 (Int32.toNatClampNeg l2) (zai σ a1 (Int32.toNatClampNeg (2 + l2)))) fun s3 =>
    zlt (α := Int32) (l2 + 1) fun v4 =>
    LX11_compute_2 E l0 l1 v4 s3
  else
    zlt (α := Int32) 0 fun v5 =>
    LX11_compute_31 E l0 l1 v5 σ) :=
  (zun_at (fun pc => (oX11_compute pc).1) E (fun q => Nat.beq q 2 || Nat.beq q 31) 34 2 (0, 0) [.inr (.inl (some l0)), .inl l1, .inl l2] [] σ).trans rfl
set_option maxRecDepth 20000 in
theorem uX11_compute_31 (E : zE) (l0 : Nat) (l1 : Int32) (l2 : Int32) (σ : zS) : LX11_compute_31 E l0 l1 l2 σ =
  (if (l2 : Int32) ≤ l1 then
    chk (zkd σ l0 = 9) <|
    bnV (E mX11_computeLayer [.inr (.inl (some l0)), .inl l2] σ) fun s1 =>
    zlt (α := Int32) (l2 + 1) fun v2 =>
    LX11_compute_31 E l0 l1 v2 s1
  else
    some (some (.inl (256 * (l1 + 1))), σ)) :=
  (zun_at (fun pc => (oX11_compute pc).1) E (fun q => Nat.beq q 2 || Nat.beq q 31) 34 31 (0, 0) [.inr (.inl (some l0)), .inl l1, .inl l2] [] σ).trans rfl
noncomputable def fX11_compute (E : zE) (p0 : Nat) (p1 : Int32) (σ : zS) : zO :=
  zlt (α := Int32) 0 fun v1 =>
  LX11_compute_2 E p0 p1 v1 σ
set_option maxRecDepth 20000 in
theorem eX11_compute (E : zE) (p0 : Nat) (p1 : Int32) (σ : zS) : zM tX11_compute 3 (0, 0) E [.inr (.inl (some p0)), .inl p1] σ = fX11_compute E p0 p1 σ :=
  (zun_at (fun pc => (oX11_compute pc).1) E (fun q => Nat.beq q 2 || Nat.beq q 31) 34 0 (0, 0) (zls0 [.inr (.inl (some p0)), .inl p1] 3) [] σ).trans rfl
noncomputable def fX11_top (E : zE) (p0 : Nat) (σ : zS) : zO :=
  chk (zkd σ p0 = 9) <|
  onR (zr σ 577 p0) fun a1 =>
  chk (zkd σ a1 = 11 ∧ zin 258 (zln σ a1)) <|
  some (some (.inl ((zai σ a1 (Int32.toNatClampNeg 258)) - 1)), σ)
set_option maxRecDepth 20000 in
theorem eX11_top (E : zE) (p0 : Nat) (σ : zS) : zM tX11_top 1 (0, 0) E [.inr (.inl (some p0))] σ = fX11_top E p0 σ :=
  (zun_at (fun pc => (oX11_top pc).1) E (fun _ => false) 8 0 (0, 0) (zls0 [.inr (.inl (some p0))] 1) [] σ).trans rfl
noncomputable def fX11_pixels (E : zE) (p0 : Nat) (σ : zS) : zO :=
  chk (zkd σ p0 = 9) <|
  onR (zr σ 577 p0) fun a1 =>
  chk (zkd σ a1 = 11 ∧ zin 0 (zln σ a1)) <|
  chk (zkd σ p0 = 9) <|
  onR (zr σ 577 p0) fun a2 =>
  chk (zkd σ a2 = 11 ∧ zin 1 (zln σ a2)) <|
  some (some (.inl ((zai σ a1 (Int32.toNatClampNeg 0)) * (zai σ a2 (Int32.toNatClampNeg 1)))), σ)
set_option maxRecDepth 20000 in
theorem eX11_pixels (E : zE) (p0 : Nat) (σ : zS) : zM tX11_pixels 1 (0, 0) E [.inr (.inl (some p0))] σ = fX11_pixels E p0 σ :=
  (zun_at (fun pc => (oX11_pixels pc).1) E (fun _ => false) 11 0 (0, 0) (zls0 [.inr (.inl (some p0))] 1) [] σ).trans rfl
noncomputable def fX11_removeAll (E : zE) (p0 : Nat) (σ : zS) : zO :=
  chk (zkd σ p0 = 9) <|
  bnI (E mX11_removeTiles [.inr (.inl (some p0)), .inl 0, .inl 7] σ) fun v2 s1 =>
  some (some (.inl v2), s1)
set_option maxRecDepth 20000 in
theorem eX11_removeAll (E : zE) (p0 : Nat) (σ : zS) : zM tX11_removeAll 1 (0, 0) E [.inr (.inl (some p0))] σ = fX11_removeAll E p0 σ :=
  (zun_at (fun pc => (oX11_removeAll pc).1) E (fun _ => false) 6 0 (0, 0) (zls0 [.inr (.inl (some p0))] 1) [] σ).trans rfl
noncomputable def fX11_newImage (E : zE) (p0 : Nat) (p1 : Int32) (p2 : Int32) (σ : zS) : zO :=
  chk (zkd σ p0 = 9) <| zlt (zsi σ 576 p0 0) fun s1 =>
  bnI (E mX11_in [.inl p1, .inl 4, .inl 16] s1) fun v3 s2 =>
  if (v3 : Int32) = 0 then
    some (some (.inl (-1001)), s2)
  else
    bnI (E mX11_in [.inl p2, .inl 4, .inl 16] s2) fun v5 s4 =>
    if (v5 : Int32) = 0 then
      some (some (.inl (-1001)), s4)
    else
      chk (zkd s4 p0 = 9) <|
      bnV (E mX11_keep [.inr (.inl (some p0))] s4) fun s6 =>
      chk (zkd s6 p0 = 9) <|
      bnV (E mX11_makeImage [.inr (.inl (some p0)), .inl p1, .inl p2] s6) fun s7 =>
      chk (zkd s7 p0 = 9) <|
      bnI (E mX11_removeAll [.inr (.inl (some p0))] s7) fun v9 s8 =>
      some (some (.inl (p1 * p2)), s8)
set_option maxRecDepth 20000 in
theorem eX11_newImage (E : zE) (p0 : Nat) (p1 : Int32) (p2 : Int32) (σ : zS) : zM tX11_newImage 3 (0, 0) E [.inr (.inl (some p0)), .inl p1, .inl p2] σ = fX11_newImage E p0 p1 p2 σ :=
  (zun_at (fun pc => (oX11_newImage pc).1) E (fun _ => false) 29 0 (0, 0) (zls0 [.inr (.inl (some p0)), .inl p1, .inl p2] 3) [] σ).trans rfl
noncomputable def fX11_setPixel (E : zE) (p0 : Nat) (p1 : Int32) (p2 : Int32) (p3 : Int32) (σ : zS) : zO :=
  chk (zkd σ p0 = 9) <| zlt (zsi σ 576 p0 0) fun s1 =>
  chk (zkd s1 p0 = 9) <|
  bnI (E mX11_isPixel [.inr (.inl (some p0)), .inl p1, .inl p2] s1) fun v3 s2 =>
  if (v3 : Int32) = 0 then
    some (some (.inl (-1001)), s2)
  else
    bnI (E mX11_in [.inl p3, .inl 0, .inl 255] s2) fun v5 s4 =>
    if (v5 : Int32) = 0 then
      some (some (.inl (-1001)), s4)
    else
      chk (zkd s4 p0 = 9) <|
      bnV (E mX11_keep [.inr (.inl (some p0))] s4) fun s6 =>
      chk (zkd s6 p0 = 9) <|
      chk (zkd s6 p0 = 9) <|
      onR (zr s6 577 p0) fun a7 =>
      chk (zkd s6 a7 = 11 ∧ zin 0 (zln s6 a7)) <|
      onR (zr s6 577 p0) fun a8 =>
      chk (zkd s6 a8 = 11 ∧ zin ((2 + (p2 * (zai s6 a7 (Int32.toNatClampNeg 0)))) + p1) (zln s6 a8)) <| zlt (zsa s6 a8 (Int32.toNatClampNeg ((2 + (p2 * (zai s6 a7 (Int32.toNatClampNeg 0)))) + p1)) p3) fun s9 =>
      chk (zkd s9 p0 = 9) <|
      bnI (E mX11_removeAfter [.inr (.inl (some p0)), .inl p1, .inl p2, .inl 1, .inl 1] s9) fun v11 s10 =>
      some (some (.inl v11), s10)
set_option maxRecDepth 20000 in
theorem eX11_setPixel (E : zE) (p0 : Nat) (p1 : Int32) (p2 : Int32) (p3 : Int32) (σ : zS) : zM tX11_setPixel 4 (0, 0) E [.inr (.inl (some p0)), .inl p1, .inl p2, .inl p3] σ = fX11_setPixel E p0 p1 p2 p3 σ :=
  (zun_at (fun pc => (oX11_setPixel pc).1) E (fun _ => false) 39 0 (0, 0) (zls0 [.inr (.inl (some p0)), .inl p1, .inl p2, .inl p3] 4) [] σ).trans rfl
noncomputable def LX11_fillRectangle_52 (E : zE) (l0 : Nat) (l1 : Int32) (l2 : Int32) (l3 : Int32) (l4 : Int32) (l5 : Int32) (k0 : Int32) (σ : zS) : zO := zF tX11_fillRectangle E 52 (0, 0) [.inr (.inl (some l0)), .inl l1, .inl l2, .inl l3, .inl l4, .inl l5, .inr (.inr 0), .inr (.inr 0), .inr (.inr 0)] [.inl k0] σ
noncomputable def LX11_fillRectangle_88 (E : zE) (l0 : Nat) (l1 : Int32) (l2 : Int32) (l3 : Int32) (l4 : Int32) (l5 : Int32) (l6 : zV) (l7 : Int32) (l8 : zV) (σ : zS) : zO := zF tX11_fillRectangle E 88 (0, 0) [.inr (.inl (some l0)), .inl l1, .inl l2, .inl l3, .inl l4, .inl l5, l6, .inl l7, l8] [] σ
noncomputable def LX11_fillRectangle_100 (E : zE) (l0 : Nat) (l1 : Int32) (l2 : Int32) (l3 : Int32) (l4 : Int32) (l5 : Int32) (l6 : zV) (l7 : Int32) (l8 : Int32) (σ : zS) : zO := zF tX11_fillRectangle E 100 (0, 0) [.inr (.inl (some l0)), .inl l1, .inl l2, .inl l3, .inl l4, .inl l5, l6, .inl l7, .inl l8] [] σ
set_option maxRecDepth 20000 in
theorem uX11_fillRectangle_52 (E : zE) (l0 : Nat) (l1 : Int32) (l2 : Int32) (l3 : Int32) (l4 : Int32) (l5 : Int32) (k0 : Int32) (σ : zS) : LX11_fillRectangle_52 E l0 l1 l2 l3 l4 l5 k0 σ =
  (zlt (α := Int32) k0 fun v1 =>
  if (v1 : Int32) = 0 then
    some (some (.inl (-1001)), σ)
  else
    chk (zkd σ l0 = 9) <|
    bnI (E mX11_isPixel [.inr (.inl (some l0)), .inl ((l1 + l3) - 1), .inl ((l2 + l4) - 1)] σ) fun v3 s2 =>
    if (v3 : Int32) = 0 then
      some (some (.inl (-1001)), s2)
    else
      chk (zkd s2 l0 = 9) <|
      bnV (E mX11_keep [.inr (.inl (some l0))] s2) fun s4 =>
      zlt (α := Int32) l2 fun v5 =>
      LX11_fillRectangle_88 E l0 l1 l2 l3 l4 l5 (.inl v1) v5 (.inr (.inr 0)) s4) :=
  (zun_at (fun pc => (oX11_fillRectangle pc).1) E (fun q => Nat.beq q 52 || Nat.beq q 88 || Nat.beq q 100) 86 52 (0, 0) [.inr (.inl (some l0)), .inl l1, .inl l2, .inl l3, .inl l4, .inl l5, .inr (.inr 0), .inr (.inr 0), .inr (.inr 0)] [.inl k0] σ).trans rfl
set_option maxRecDepth 20000 in
theorem uX11_fillRectangle_88 (E : zE) (l0 : Nat) (l1 : Int32) (l2 : Int32) (l3 : Int32) (l4 : Int32) (l5 : Int32) (l6 : zV) (l7 : Int32) (l8 : zV) (σ : zS) : LX11_fillRectangle_88 E l0 l1 l2 l3 l4 l5 l6 l7 l8 σ =
  (if (l7 : Int32) < (l2 + l4) then
    zlt (α := Int32) l1 fun v1 =>
    LX11_fillRectangle_100 E l0 l1 l2 l3 l4 l5 (l6) l7 v1 σ
  else
    chk (zkd σ l0 = 9) <|
    bnI (E mX11_removeAfter [.inr (.inl (some l0)), .inl l1, .inl l2, .inl l3, .inl l4] σ) fun v3 s2 =>
    some (some (.inl v3), s2)) :=
  (zun_at (fun pc => (oX11_fillRectangle pc).1) E (fun q => Nat.beq q 52 || Nat.beq q 88 || Nat.beq q 100) 86 88 (0, 0) [.inr (.inl (some l0)), .inl l1, .inl l2, .inl l3, .inl l4, .inl l5, l6, .inl l7, l8] [] σ).trans rfl
set_option maxRecDepth 20000 in
theorem uX11_fillRectangle_100 (E : zE) (l0 : Nat) (l1 : Int32) (l2 : Int32) (l3 : Int32) (l4 : Int32) (l5 : Int32) (l6 : zV) (l7 : Int32) (l8 : Int32) (σ : zS) : LX11_fillRectangle_100 E l0 l1 l2 l3 l4 l5 l6 l7 l8 σ =
  (if (l8 : Int32) < (l1 + l3) then
    chk (zkd σ l0 = 9) <|
    chk (zkd σ l0 = 9) <|
    onR (zr σ 577 l0) fun a1 =>
    chk (zkd σ a1 = 11 ∧ zin 0 (zln σ a1)) <|
    onR (zr σ 577 l0) fun a2 =>
    chk (zkd σ a2 = 11 ∧ zin ((2 + (l7 * (zai σ a1 (Int32.toNatClampNeg 0)))) + l8) (zln σ a2)) <| zlt (zsa σ a2 (Int32.toNatClampNeg ((2 + (l7 * (zai σ a1 (Int32.toNatClampNeg 0)))) + l8)) l5) fun s3 =>
    zlt (α := Int32) (l8 + 1) fun v4 =>
    LX11_fillRectangle_100 E l0 l1 l2 l3 l4 l5 (l6) l7 v4 s3
  else
    zlt (α := Int32) (l7 + 1) fun v5 =>
    LX11_fillRectangle_88 E l0 l1 l2 l3 l4 l5 (l6) v5 (.inl l8) σ) :=
  (zun_at (fun pc => (oX11_fillRectangle pc).1) E (fun q => Nat.beq q 52 || Nat.beq q 88 || Nat.beq q 100) 86 100 (0, 0) [.inr (.inl (some l0)), .inl l1, .inl l2, .inl l3, .inl l4, .inl l5, l6, .inl l7, .inl l8] [] σ).trans rfl
noncomputable def fX11_fillRectangle (E : zE) (p0 : Nat) (p1 : Int32) (p2 : Int32) (p3 : Int32) (p4 : Int32) (p5 : Int32) (σ : zS) : zO :=
  chk (zkd σ p0 = 9) <| zlt (zsi σ 576 p0 0) fun s1 =>
  chk (zkd s1 p0 = 9) <|
  bnI (E mX11_isPixel [.inr (.inl (some p0)), .inl p1, .inl p2] s1) fun v3 s2 =>
  if (v3 : Int32) = 0 then
    LX11_fillRectangle_52 E p0 p1 p2 p3 p4 p5 0 s2
  else
    bnI (E mX11_in [.inl p3, .inl 1, .inl 16] s2) fun v5 s4 =>
    if (v5 : Int32) = 0 then
      LX11_fillRectangle_52 E p0 p1 p2 p3 p4 p5 0 s4
    else
      bnI (E mX11_in [.inl p4, .inl 1, .inl 16] s4) fun v7 s6 =>
      if (v7 : Int32) = 0 then
        LX11_fillRectangle_52 E p0 p1 p2 p3 p4 p5 0 s6
      else
        bnI (E mX11_in [.inl p5, .inl 0, .inl 255] s6) fun v9 s8 =>
        if (v9 : Int32) = 0 then
          LX11_fillRectangle_52 E p0 p1 p2 p3 p4 p5 0 s8
        else
          LX11_fillRectangle_52 E p0 p1 p2 p3 p4 p5 1 s8
set_option maxRecDepth 20000 in
theorem eX11_fillRectangle (E : zE) (p0 : Nat) (p1 : Int32) (p2 : Int32) (p3 : Int32) (p4 : Int32) (p5 : Int32) (σ : zS) : zM tX11_fillRectangle 9 (0, 0) E [.inr (.inl (some p0)), .inl p1, .inl p2, .inl p3, .inl p4, .inl p5] σ = fX11_fillRectangle E p0 p1 p2 p3 p4 p5 σ :=
  (zun_at (fun pc => (oX11_fillRectangle pc).1) E (fun q => Nat.beq q 52 || Nat.beq q 88 || Nat.beq q 100) 86 0 (0, 0) (zls0 [.inr (.inl (some p0)), .inl p1, .inl p2, .inl p3, .inl p4, .inl p5] 9) [] σ).trans rfl
noncomputable def fX11_size (E : zE) (p0 : Nat) (p1 : Int32) (σ : zS) : zO :=
  chk (zkd σ p0 = 9) <| zlt (zsi σ 576 p0 0) fun s1 =>
  if (p1 : Int32) = 0 then
    chk (zkd s1 p0 = 9) <|
    onR (zr s1 577 p0) fun a2 =>
    chk (zkd s1 a2 = 11 ∧ zin 0 (zln s1 a2)) <|
    some (some (.inl (zai s1 a2 (Int32.toNatClampNeg 0))), s1)
  else if (p1 : Int32) = 1 then
    chk (zkd s1 p0 = 9) <|
    onR (zr s1 577 p0) fun a3 =>
    chk (zkd s1 a3 = 11 ∧ zin 1 (zln s1 a3)) <|
    some (some (.inl (zai s1 a3 (Int32.toNatClampNeg 1))), s1)
  else if (p1 : Int32) = 2 then
    chk (zkd s1 p0 = 9) <|
    onR (zr s1 577 p0) fun a4 =>
    chk (zkd s1 a4 = 11 ∧ zin 258 (zln s1 a4)) <|
    some (some (.inl (zai s1 a4 (Int32.toNatClampNeg 258))), s1)
  else if (p1 : Int32) = 3 then
    chk (zkd s1 p0 = 9) <|
    some (some (.inl (zi s1 584 p0)), s1)
  else if (p1 : Int32) = 4 then
    chk (zkd s1 p0 = 9) <|
    bnI (E mX11_columns [.inr (.inl (some p0))] s1) fun v6 s5 =>
    chk (zkd s5 p0 = 9) <|
    bnI (E mX11_rows [.inr (.inl (some p0))] s5) fun v8 s7 =>
    some (some (.inl (v6 * v8)), s7)
  else if (p1 : Int32) = 5 then
    chk (zkd s1 p0 = 9) <|
    some (some (.inl (zi s1 585 p0)), s1)
  else 
    some (some (.inl (-1001)), s1)
set_option maxRecDepth 20000 in
theorem eX11_size (E : zE) (p0 : Nat) (p1 : Int32) (σ : zS) : zM tX11_size 2 (0, 0) E [.inr (.inl (some p0)), .inl p1] σ = fX11_size E p0 p1 σ :=
  (zun_at (fun pc => (oX11_size pc).1) E (fun _ => false) 35 0 (0, 0) (zls0 [.inr (.inl (some p0)), .inl p1] 2) [] σ).trans rfl
noncomputable def fX11_leastA (E : zE) (p0 : Int32) (σ : zS) : zO :=
  if (p0 : Int32) = 1 then
    some (some (.inl (-255)), σ)
  else
    if (p0 : Int32) = 3 then
      some (some (.inl 2), σ)
    else
      if (p0 : Int32) = 11 then
        some (some (.inl (-3)), σ)
      else
        bnI (E mX11_in [.inl p0, .inl 6, .inl 10] σ) fun v2 s1 =>
        if (v2 : Int32) = 0 then
          some (some (.inl 0), s1)
        else
          some (some (.inl 1), s1)
set_option maxRecDepth 20000 in
theorem eX11_leastA (E : zE) (p0 : Int32) (σ : zS) : zM tX11_leastA 1 (0, 0) E [.inl p0] σ = fX11_leastA E p0 σ :=
  (zun_at (fun pc => (oX11_leastA pc).1) E (fun _ => false) 25 0 (0, 0) (zls0 [.inl p0] 1) [] σ).trans rfl
noncomputable def fX11_mostA (E : zE) (p0 : Int32) (σ : zS) : zO :=
  if (p0 : Int32) = 0 then
    some (some (.inl 254), σ)
  else if (p0 : Int32) = 1 then
    some (some (.inl 255), σ)
  else if (p0 : Int32) = 2 then
    some (some (.inl 400), σ)
  else if (p0 : Int32) = 3 then
    some (some (.inl 16), σ)
  else if (p0 : Int32) = 4 then
    some (some (.inl 0), σ)
  else if (p0 : Int32) = 5 then
    some (some (.inl 256), σ)
  else if (p0 : Int32) = 6 then
    some (some (.inl 3), σ)
  else if (p0 : Int32) = 7 then
    some (some (.inl 2), σ)
  else if (p0 : Int32) = 8 then
    some (some (.inl 3), σ)
  else if (p0 : Int32) = 9 then
    some (some (.inl 3), σ)
  else if (p0 : Int32) = 10 then
    some (some (.inl 3), σ)
  else if (p0 : Int32) = 11 then
    some (some (.inl 3), σ)
  else if (p0 : Int32) = 12 then
    some (some (.inl 255), σ)
  else if (p0 : Int32) = 13 then
    some (some (.inl 0), σ)
  else 
    some (some (.inl 3), σ)
set_option maxRecDepth 20000 in
theorem eX11_mostA (E : zE) (p0 : Int32) (σ : zS) : zM tX11_mostA 1 (0, 0) E [.inl p0] σ = fX11_mostA E p0 σ :=
  (zun_at (fun pc => (oX11_mostA pc).1) E (fun _ => false) 19 0 (0, 0) (zls0 [.inl p0] 1) [] σ).trans rfl
noncomputable def fX11_leastB (E : zE) (p0 : Int32) (p1 : Int32) (σ : zS) : zO :=
  if (p0 : Int32) = 0 then
    some (some (.inl (p1 + 1)), σ)
  else
    if (p0 : Int32) = 11 then
      some (some (.inl (-3)), σ)
    else
      some (some (.inl 0), σ)
set_option maxRecDepth 20000 in
theorem eX11_leastB (E : zE) (p0 : Int32) (p1 : Int32) (σ : zS) : zM tX11_leastB 2 (0, 0) E [.inl p0, .inl p1] σ = fX11_leastB E p0 p1 σ :=
  (zun_at (fun pc => (oX11_leastB pc).1) E (fun _ => false) 14 0 (0, 0) (zls0 [.inl p0, .inl p1] 2) [] σ).trans rfl
noncomputable def fX11_mostB (E : zE) (p0 : Int32) (σ : zS) : zO :=
  if (p0 : Int32) = 0 then
    some (some (.inl 255), σ)
  else
    if (p0 : Int32) = 10 then
      some (some (.inl 300), σ)
    else
      if (p0 : Int32) = 11 then
        some (some (.inl 3), σ)
      else
        some (some (.inl 0), σ)
set_option maxRecDepth 20000 in
theorem eX11_mostB (E : zE) (p0 : Int32) (σ : zS) : zM tX11_mostB 1 (0, 0) E [.inl p0] σ = fX11_mostB E p0 σ :=
  (zun_at (fun pc => (oX11_mostB pc).1) E (fun _ => false) 17 0 (0, 0) (zls0 [.inl p0] 1) [] σ).trans rfl
noncomputable def fX11_isPossible (E : zE) (p0 : Int32) (p1 : Int32) (p2 : Int32) (σ : zS) : zO :=
  bnI (E mX11_leastA [.inl p0] σ) fun v2 s1 =>
  bnI (E mX11_mostA [.inl p0] s1) fun v4 s3 =>
  bnI (E mX11_in [.inl p1, .inl v2, .inl v4] s3) fun v6 s5 =>
  if (v6 : Int32) = 0 then
    chk (zB 0) (some (some (.inl 0), s5))
  else
    bnI (E mX11_leastB [.inl p0, .inl p1] s5) fun v8 s7 =>
    bnI (E mX11_mostB [.inl p0] s7) fun v10 s9 =>
    bnI (E mX11_in [.inl p2, .inl v8, .inl v10] s9) fun v12 s11 =>
    if (v12 : Int32) = 0 then
      chk (zB 0) (some (some (.inl 0), s11))
    else
      chk (zB 1) (some (some (.inl 1), s11))
set_option maxRecDepth 20000 in
theorem eX11_isPossible (E : zE) (p0 : Int32) (p1 : Int32) (p2 : Int32) (σ : zS) : zM tX11_isPossible 3 (0, 0) E [.inl p0, .inl p1, .inl p2] σ = fX11_isPossible E p0 p1 p2 σ :=
  (zun_at (fun pc => (oX11_isPossible pc).1) E (fun _ => false) 20 0 (0, 0) (zls0 [.inl p0, .inl p1, .inl p2] 3) [] σ).trans rfl
noncomputable def LX11_layLayer_3 (E : zE) (l0 : Nat) (l1 : Option Nat) (l2 : Int32) (l3 : Int32) (l4 : Int32) (l5 : Int32) (l6 : Int32) (σ : zS) : zO := zF tX11_layLayer E 3 (0, 0) [.inr (.inl (some l0)), .inr (.inl l1), .inl l2, .inl l3, .inl l4, .inl l5, .inl l6] [] σ
set_option maxRecDepth 20000 in
theorem uX11_layLayer_3 (E : zE) (l0 : Nat) (l1 : Option Nat) (l2 : Int32) (l3 : Int32) (l4 : Int32) (l5 : Int32) (l6 : Int32) (σ : zS) : LX11_layLayer_3 E l0 l1 l2 l3 l4 l5 l6 σ =
  (if (l6 : Int32) < 32 then
    onR l1 fun a1 =>
    chk (zkd σ a1 = 11 ∧ zin (l2 + l6) (zln σ a1)) <| zlt (zsa σ a1 (Int32.toNatClampNeg (l2 + l6)) 0) fun s2 =>
    zlt (α := Int32) (l6 + 1) fun v3 =>
    LX11_layLayer_3 E l0 l1 l2 l3 l4 l5 v3 s2
  else
    onR l1 fun a4 =>
    chk (zkd σ a4 = 11 ∧ zin (l2 + 0) (zln σ a4)) <| zlt (zsa σ a4 (Int32.toNatClampNeg (l2 + 0)) l3) fun s5 =>
    onR l1 fun a6 =>
    chk (zkd s5 a6 = 11 ∧ zin (l2 + 1) (zln s5 a6)) <| zlt (zsa s5 a6 (Int32.toNatClampNeg (l2 + 1)) l4) fun s7 =>
    onR l1 fun a8 =>
    chk (zkd s7 a8 = 11 ∧ zin (l2 + 2) (zln s7 a8)) <| zlt (zsa s7 a8 (Int32.toNatClampNeg (l2 + 2)) l5) fun s9 =>
    onR l1 fun a10 =>
    chk (zkd s9 a10 = 11 ∧ zin (l2 + 4) (zln s9 a10)) <| zlt (zsa s9 a10 (Int32.toNatClampNeg (l2 + 4)) 100) fun s11 =>
    onR l1 fun a12 =>
    chk (zkd s11 a12 = 11 ∧ zin (l2 + 5) (zln s11 a12)) <| zlt (zsa s11 a12 (Int32.toNatClampNeg (l2 + 5)) 1) fun s13 =>
    some (none, s13)) :=
  (zun_at (fun pc => (oX11_layLayer pc).1) E (fun q => Nat.beq q 3) 45 3 (0, 0) [.inr (.inl (some l0)), .inr (.inl l1), .inl l2, .inl l3, .inl l4, .inl l5, .inl l6] [] σ).trans rfl
noncomputable def fX11_layLayer (E : zE) (p0 : Nat) (p1 : Option Nat) (p2 : Int32) (p3 : Int32) (p4 : Int32) (p5 : Int32) (σ : zS) : zO :=
  zlt (α := Int32) 0 fun v1 =>
  LX11_layLayer_3 E p0 p1 p2 p3 p4 p5 v1 σ
set_option maxRecDepth 20000 in
theorem eX11_layLayer (E : zE) (p0 : Nat) (p1 : Option Nat) (p2 : Int32) (p3 : Int32) (p4 : Int32) (p5 : Int32) (σ : zS) : zM tX11_layLayer 7 (0, 0) E [.inr (.inl (some p0)), .inr (.inl p1), .inl p2, .inl p3, .inl p4, .inl p5] σ = fX11_layLayer E p0 p1 p2 p3 p4 p5 σ :=
  (zun_at (fun pc => (oX11_layLayer pc).1) E (fun q => Nat.beq q 3) 45 0 (0, 0) (zls0 [.inr (.inl (some p0)), .inr (.inl p1), .inl p2, .inl p3, .inl p4, .inl p5] 7) [] σ).trans rfl
noncomputable def fX11_addLayer (E : zE) (p0 : Nat) (p1 : Int32) (p2 : Int32) (p3 : Int32) (σ : zS) : zO :=
  chk (zkd σ p0 = 9) <| zlt (zsi σ 576 p0 0) fun s1 =>
  bnI (E mX11_in [.inl p1, .inl 0, .inl 13] s1) fun v3 s2 =>
  if (v3 : Int32) = 0 then
    some (some (.inl (-1001)), s2)
  else
    bnI (E mX11_isPossible [.inl p1, .inl p2, .inl p3] s2) fun v5 s4 =>
    if (v5 : Int32) = 0 then
      some (some (.inl (-1001)), s4)
    else
      chk (zkd s4 p0 = 9) <|
      onR (zr s4 577 p0) fun a6 =>
      chk (zkd s4 a6 = 11 ∧ zin 258 (zln s4 a6)) <|
      if ((zai s4 a6 (Int32.toNatClampNeg 258)) : Int32) = 8 then
        some (some (.inl (-1003)), s4)
      else
        chk (zkd s4 p0 = 9) <|
        bnV (E mX11_keep [.inr (.inl (some p0))] s4) fun s7 =>
        chk (zkd s7 p0 = 9) <|
        chk (zkd s7 p0 = 9) <|
        onR (zr s7 577 p0) fun a8 =>
        chk (zkd s7 a8 = 11 ∧ zin 258 (zln s7 a8)) <|
        bnI (E mX11_at [.inl (zai s7 a8 (Int32.toNatClampNeg 258))] s7) fun v10 s9 =>
        chk (zkd s9 p0 = 9) <|
        bnV (E mX11_layLayer [.inr (.inl (some p0)), .inr (.inl (zr s7 577 p0)), .inl v10, .inl p1, .inl p2, .inl p3] s9) fun s11 =>
        chk (zkd s11 p0 = 9) <|
        onR (zr s11 577 p0) fun a12 =>
        chk (zkd s11 a12 = 11 ∧ zin 258 (zln s11 a12)) <|
        onR (zr s11 577 p0) fun a13 =>
        chk (zkd s11 a13 = 11 ∧ zin 258 (zln s11 a13)) <| zlt (zsa s11 a13 (Int32.toNatClampNeg 258) ((zai s11 a12 (Int32.toNatClampNeg 258)) + 1)) fun s14 =>
        chk (zkd s14 p0 = 9) <|
        onR (zr s14 577 p0) fun a15 =>
        chk (zkd s14 a15 = 11 ∧ zin 258 (zln s14 a15)) <|
        some (some (.inl ((zai s14 a15 (Int32.toNatClampNeg 258)) - 1)), s14)
set_option maxRecDepth 20000 in
theorem eX11_addLayer (E : zE) (p0 : Nat) (p1 : Int32) (p2 : Int32) (p3 : Int32) (σ : zS) : zM tX11_addLayer 4 (0, 0) E [.inr (.inl (some p0)), .inl p1, .inl p2, .inl p3] σ = fX11_addLayer E p0 p1 p2 p3 σ :=
  (zun_at (fun pc => (oX11_addLayer pc).1) E (fun _ => false) 53 0 (0, 0) (zls0 [.inr (.inl (some p0)), .inl p1, .inl p2, .inl p3] 4) [] σ).trans rfl
noncomputable def fX11_setParameters (E : zE) (p0 : Nat) (p1 : Int32) (p2 : Int32) (p3 : Int32) (σ : zS) : zO :=
  chk (zkd σ p0 = 9) <| zlt (zsi σ 576 p0 0) fun s1 =>
  chk (zkd s1 p0 = 9) <|
  bnI (E mX11_isLayer [.inr (.inl (some p0)), .inl p1] s1) fun v3 s2 =>
  if (v3 : Int32) = 0 then
    some (some (.inl (-1001)), s2)
  else
    chk (zkd s2 p0 = 9) <|
    bnI (E mX11_at [.inl p1] s2) fun v5 s4 =>
    onR (zr s2 577 p0) fun a6 =>
    chk (zkd s4 a6 = 11 ∧ zin (v5 + 0) (zln s4 a6)) <|
    bnI (E mX11_isPossible [.inl (zai s4 a6 (Int32.toNatClampNeg (v5 + 0))), .inl p2, .inl p3] s4) fun v8 s7 =>
    if (v8 : Int32) = 0 then
      some (some (.inl (-1001)), s7)
    else
      chk (zkd s7 p0 = 9) <|
      bnV (E mX11_keep [.inr (.inl (some p0))] s7) fun s9 =>
      chk (zkd s9 p0 = 9) <|
      bnI (E mX11_at [.inl p1] s9) fun v11 s10 =>
      onR (zr s9 577 p0) fun a12 =>
      chk (zkd s10 a12 = 11 ∧ zin (v11 + 1) (zln s10 a12)) <|
      zlt (α := Int32) (zai s10 a12 (Int32.toNatClampNeg (v11 + 1))) fun v13 =>
      chk (zkd s10 p0 = 9) <|
      bnI (E mX11_at [.inl p1] s10) fun v15 s14 =>
      onR (zr s10 577 p0) fun a16 =>
      chk (zkd s14 a16 = 11 ∧ zin (v15 + 1) (zln s14 a16)) <| zlt (zsa s14 a16 (Int32.toNatClampNeg (v15 + 1)) p2) fun s17 =>
      chk (zkd s17 p0 = 9) <|
      bnI (E mX11_at [.inl p1] s17) fun v19 s18 =>
      onR (zr s17 577 p0) fun a20 =>
      chk (zkd s18 a20 = 11 ∧ zin (v19 + 2) (zln s18 a20)) <| zlt (zsa s18 a20 (Int32.toNatClampNeg (v19 + 2)) p3) fun s21 =>
      chk (zkd s21 p0 = 9) <|
      bnI (E mX11_removeTiles [.inr (.inl (some p0)), .inl p1, .inl 7] s21) fun v23 s22 =>
      some (some (.inl (v13 + 1000)), s22)
set_option maxRecDepth 20000 in
theorem eX11_setParameters (E : zE) (p0 : Nat) (p1 : Int32) (p2 : Int32) (p3 : Int32) (σ : zS) : zM tX11_setParameters 5 (0, 0) E [.inr (.inl (some p0)), .inl p1, .inl p2, .inl p3] σ = fX11_setParameters E p0 p1 p2 p3 σ :=
  (zun_at (fun pc => (oX11_setParameters pc).1) E (fun _ => false) 56 0 (0, 0) (zls0 [.inr (.inl (some p0)), .inl p1, .inl p2, .inl p3] 5) [] σ).trans rfl
noncomputable def fX11_setBlend (E : zE) (p0 : Nat) (p1 : Int32) (p2 : Int32) (p3 : Int32) (σ : zS) : zO :=
  chk (zkd σ p0 = 9) <| zlt (zsi σ 576 p0 0) fun s1 =>
  chk (zkd s1 p0 = 9) <|
  bnI (E mX11_isLayer [.inr (.inl (some p0)), .inl p1] s1) fun v3 s2 =>
  if (v3 : Int32) = 0 then
    some (some (.inl (-1001)), s2)
  else
    bnI (E mX11_in [.inl p2, .inl 0, .inl 7] s2) fun v5 s4 =>
    if (v5 : Int32) = 0 then
      some (some (.inl (-1001)), s4)
    else
      bnI (E mX11_in [.inl p3, .inl 0, .inl 100] s4) fun v7 s6 =>
      if (v7 : Int32) = 0 then
        some (some (.inl (-1001)), s6)
      else
        chk (zkd s6 p0 = 9) <|
        bnV (E mX11_keep [.inr (.inl (some p0))] s6) fun s8 =>
        chk (zkd s8 p0 = 9) <|
        bnI (E mX11_at [.inl p1] s8) fun v10 s9 =>
        onR (zr s8 577 p0) fun a11 =>
        chk (zkd s9 a11 = 11 ∧ zin (v10 + 4) (zln s9 a11)) <|
        zlt (α := Int32) (zai s9 a11 (Int32.toNatClampNeg (v10 + 4))) fun v12 =>
        chk (zkd s9 p0 = 9) <|
        bnI (E mX11_at [.inl p1] s9) fun v14 s13 =>
        onR (zr s9 577 p0) fun a15 =>
        chk (zkd s13 a15 = 11 ∧ zin (v14 + 3) (zln s13 a15)) <| zlt (zsa s13 a15 (Int32.toNatClampNeg (v14 + 3)) p2) fun s16 =>
        chk (zkd s16 p0 = 9) <|
        bnI (E mX11_at [.inl p1] s16) fun v18 s17 =>
        onR (zr s16 577 p0) fun a19 =>
        chk (zkd s17 a19 = 11 ∧ zin (v18 + 4) (zln s17 a19)) <| zlt (zsa s17 a19 (Int32.toNatClampNeg (v18 + 4)) p3) fun s20 =>
        chk (zkd s20 p0 = 9) <|
        bnI (E mX11_removeTiles [.inr (.inl (some p0)), .inl p1, .inl 7] s20) fun v22 s21 =>
        some (some (.inl v12), s21)
set_option maxRecDepth 20000 in
theorem eX11_setBlend (E : zE) (p0 : Nat) (p1 : Int32) (p2 : Int32) (p3 : Int32) (σ : zS) : zM tX11_setBlend 5 (0, 0) E [.inr (.inl (some p0)), .inl p1, .inl p2, .inl p3] σ = fX11_setBlend E p0 p1 p2 p3 σ :=
  (zun_at (fun pc => (oX11_setBlend pc).1) E (fun _ => false) 53 0 (0, 0) (zls0 [.inr (.inl (some p0)), .inl p1, .inl p2, .inl p3] 5) [] σ).trans rfl
noncomputable def LX11_setEnabled_74 (E : zE) (l0 : Nat) (l1 : zV) (l2 : zV) (l3 : Int32) (l4 : Int32) (σ : zS) : zO := zF tX11_setEnabled E 74 (0, 0) [.inr (.inl (some l0)), l1, l2, .inl l3, .inl l4] [] σ
set_option maxRecDepth 20000 in
theorem uX11_setEnabled_74 (E : zE) (l0 : Nat) (l1 : zV) (l2 : zV) (l3 : Int32) (l4 : Int32) (σ : zS) : LX11_setEnabled_74 E l0 l1 l2 l3 l4 σ =
  (chk (zkd σ l0 = 9) <|
  onR (zr σ 577 l0) fun a1 =>
  chk (zkd σ a1 = 11 ∧ zin 258 (zln σ a1)) <|
  if (l4 : Int32) < (zai σ a1 (Int32.toNatClampNeg 258)) then
    chk (zkd σ l0 = 9) <|
    bnI (E mX11_isOn [.inr (.inl (some l0)), .inl l4] σ) fun v3 s2 =>
    if (v3 : Int32) = 0 then
      zlt (α := Int32) (l3 + 0) fun v4 =>
      zlt (α := Int32) (l4 + 1) fun v5 =>
      LX11_setEnabled_74 E l0 (l1) (l2) v4 v5 s2
    else
      zlt (α := Int32) (l3 + 1) fun v6 =>
      zlt (α := Int32) (l4 + 1) fun v7 =>
      LX11_setEnabled_74 E l0 (l1) (l2) v6 v7 s2
  else
    some (some (.inl l3), σ)) :=
  (zun_at (fun pc => (oX11_setEnabled pc).1) E (fun q => Nat.beq q 74) 65 74 (0, 0) [.inr (.inl (some l0)), l1, l2, .inl l3, .inl l4] [] σ).trans rfl
noncomputable def fX11_setEnabled (E : zE) (p0 : Nat) (p1 : Int32) (p2 : Int32) (σ : zS) : zO :=
  chk (zkd σ p0 = 9) <| zlt (zsi σ 576 p0 0) fun s1 =>
  chk (zkd s1 p0 = 9) <|
  bnI (E mX11_isLayer [.inr (.inl (some p0)), .inl p1] s1) fun v3 s2 =>
  if (v3 : Int32) = 0 then
    some (some (.inl (-1001)), s2)
  else
    bnI (E mX11_in [.inl p2, .inl 0, .inl 1] s2) fun v5 s4 =>
    if (v5 : Int32) = 0 then
      some (some (.inl (-1001)), s4)
    else
      chk (zkd s4 p0 = 9) <|
      bnI (E mX11_at [.inl p1] s4) fun v7 s6 =>
      onR (zr s4 577 p0) fun a8 =>
      chk (zkd s6 a8 = 11 ∧ zin (v7 + 5) (zln s6 a8)) <|
      if ((zai s6 a8 (Int32.toNatClampNeg (v7 + 5))) : Int32) = p2 then
        some (some (.inl (-1002)), s6)
      else
        chk (zkd s6 p0 = 9) <|
        bnV (E mX11_keep [.inr (.inl (some p0))] s6) fun s9 =>
        chk (zkd s9 p0 = 9) <|
        bnI (E mX11_at [.inl p1] s9) fun v11 s10 =>
        onR (zr s9 577 p0) fun a12 =>
        chk (zkd s10 a12 = 11 ∧ zin (v11 + 5) (zln s10 a12)) <| zlt (zsa s10 a12 (Int32.toNatClampNeg (v11 + 5)) p2) fun s13 =>
        chk (zkd s13 p0 = 9) <|
        bnI (E mX11_removeTiles [.inr (.inl (some p0)), .inl p1, .inl 7] s13) fun v15 s14 =>
        zlt (α := Int32) 0 fun v16 =>
        zlt (α := Int32) 0 fun v17 =>
        LX11_setEnabled_74 E p0 (.inl p1) (.inl p2) v16 v17 s14
set_option maxRecDepth 20000 in
theorem eX11_setEnabled (E : zE) (p0 : Nat) (p1 : Int32) (p2 : Int32) (σ : zS) : zM tX11_setEnabled 5 (0, 0) E [.inr (.inl (some p0)), .inl p1, .inl p2] σ = fX11_setEnabled E p0 p1 p2 σ :=
  (zun_at (fun pc => (oX11_setEnabled pc).1) E (fun q => Nat.beq q 74) 65 0 (0, 0) (zls0 [.inr (.inl (some p0)), .inl p1, .inl p2] 5) [] σ).trans rfl
noncomputable def LX11_exchange_2 (E : zE) (l0 : Nat) (l1 : Int32) (l2 : Int32) (l3 : Int32) (l4 : zV) (σ : zS) : zO := zF tX11_exchange E 2 (0, 0) [.inr (.inl (some l0)), .inl l1, .inl l2, .inl l3, l4] [] σ
set_option maxRecDepth 20000 in
theorem uX11_exchange_2 (E : zE) (l0 : Nat) (l1 : Int32) (l2 : Int32) (l3 : Int32) (l4 : zV) (σ : zS) : LX11_exchange_2 E l0 l1 l2 l3 l4 σ =
  (if (l3 : Int32) < 32 then
    chk (zkd σ l0 = 9) <|
    bnI (E mX11_at [.inl l1] σ) fun v2 s1 =>
    onR (zr σ 577 l0) fun a3 =>
    chk (zkd s1 a3 = 11 ∧ zin (v2 + l3) (zln s1 a3)) <|
    zlt (α := Int32) (zai s1 a3 (Int32.toNatClampNeg (v2 + l3))) fun v4 =>
    chk (zkd s1 l0 = 9) <|
    bnI (E mX11_at [.inl l1] s1) fun v6 s5 =>
    chk (zkd s5 l0 = 9) <|
    bnI (E mX11_at [.inl l2] s5) fun v8 s7 =>
    onR (zr s5 577 l0) fun a9 =>
    chk (zkd s7 a9 = 11 ∧ zin (v8 + l3) (zln s7 a9)) <|
    onR (zr s1 577 l0) fun a10 =>
    chk (zkd s7 a10 = 11 ∧ zin (v6 + l3) (zln s7 a10)) <| zlt (zsa s7 a10 (Int32.toNatClampNeg (v6 + l3)) (zai s7 a9 (Int32.toNatClampNeg (v8 + l3)))) fun s11 =>
    chk (zkd s11 l0 = 9) <|
    bnI (E mX11_at [.inl l2] s11) fun v13 s12 =>
    onR (zr s11 577 l0) fun a14 =>
    chk (zkd s12 a14 = 11 ∧ zin (v13 + l3) (zln s12 a14)) <| zlt (zsa s12 a14 (Int32.toNatClampNeg (v13 + l3)) v4) fun s15 =>
    zlt (α := Int32) (l3 + 1) fun v16 =>
    LX11_exchange_2 E l0 l1 l2 v16 (.inl v4) s15
  else
    some (none, σ)) :=
  (zun_at (fun pc => (oX11_exchange pc).1) E (fun q => Nat.beq q 2) 39 2 (0, 0) [.inr (.inl (some l0)), .inl l1, .inl l2, .inl l3, l4] [] σ).trans rfl
noncomputable def fX11_exchange (E : zE) (p0 : Nat) (p1 : Int32) (p2 : Int32) (σ : zS) : zO :=
  zlt (α := Int32) 0 fun v1 =>
  LX11_exchange_2 E p0 p1 p2 v1 (.inr (.inr 0)) σ
set_option maxRecDepth 20000 in
theorem eX11_exchange (E : zE) (p0 : Nat) (p1 : Int32) (p2 : Int32) (σ : zS) : zM tX11_exchange 5 (0, 0) E [.inr (.inl (some p0)), .inl p1, .inl p2] σ = fX11_exchange E p0 p1 p2 σ :=
  (zun_at (fun pc => (oX11_exchange pc).1) E (fun q => Nat.beq q 2) 39 0 (0, 0) (zls0 [.inr (.inl (some p0)), .inl p1, .inl p2] 5) [] σ).trans rfl
noncomputable def LX11_moveLayer_49 (E : zE) (l0 : Nat) (l1 : Int32) (l2 : Int32) (l3 : Int32) (l4 : Int32) (σ : zS) : zO := zF tX11_moveLayer E 49 (0, 0) [.inr (.inl (some l0)), .inl l1, .inl l2, .inl l3, .inl l4] [] σ
noncomputable def LX11_moveLayer_74 (E : zE) (l0 : Nat) (l1 : Int32) (l2 : Int32) (l3 : Int32) (l4 : Int32) (σ : zS) : zO := zF tX11_moveLayer E 74 (0, 0) [.inr (.inl (some l0)), .inl l1, .inl l2, .inl l3, .inl l4] [] σ
set_option maxRecDepth 20000 in
theorem uX11_moveLayer_49 (E : zE) (l0 : Nat) (l1 : Int32) (l2 : Int32) (l3 : Int32) (l4 : Int32) (σ : zS) : LX11_moveLayer_49 E l0 l1 l2 l3 l4 σ =
  (if (l4 : Int32) < l2 then
    chk (zkd σ l0 = 9) <|
    bnV (E mX11_exchange [.inr (.inl (some l0)), .inl l4, .inl (l4 + 1)] σ) fun s1 =>
    zlt (α := Int32) (l4 + 1) fun v2 =>
    LX11_moveLayer_49 E l0 l1 l2 l3 v2 s1
  else
    zlt (α := Int32) l1 fun v3 =>
    LX11_moveLayer_74 E l0 l1 l2 l3 v3 σ) :=
  (zun_at (fun pc => (oX11_moveLayer pc).1) E (fun q => Nat.beq q 49 || Nat.beq q 74) 65 49 (0, 0) [.inr (.inl (some l0)), .inl l1, .inl l2, .inl l3, .inl l4] [] σ).trans rfl
set_option maxRecDepth 20000 in
theorem uX11_moveLayer_74 (E : zE) (l0 : Nat) (l1 : Int32) (l2 : Int32) (l3 : Int32) (l4 : Int32) (σ : zS) : LX11_moveLayer_74 E l0 l1 l2 l3 l4 σ =
  (if (l4 : Int32) ≤ l2 then
    if (l1 : Int32) < l2 then
      chk (zkd σ l0 = 9) <|
      bnI (E mX11_removeTiles [.inr (.inl (some l0)), .inl l1, .inl 7] σ) fun v2 s1 =>
      some (some (.inl l3), s1)
    else
      chk (zkd σ l0 = 9) <|
      bnI (E mX11_removeTiles [.inr (.inl (some l0)), .inl l2, .inl 7] σ) fun v4 s3 =>
      some (some (.inl l3), s3)
  else
    chk (zkd σ l0 = 9) <|
    bnV (E mX11_exchange [.inr (.inl (some l0)), .inl l4, .inl (l4 - 1)] σ) fun s5 =>
    zlt (α := Int32) (l4 + (-1)) fun v6 =>
    LX11_moveLayer_74 E l0 l1 l2 l3 v6 s5) :=
  (zun_at (fun pc => (oX11_moveLayer pc).1) E (fun q => Nat.beq q 49 || Nat.beq q 74) 65 74 (0, 0) [.inr (.inl (some l0)), .inl l1, .inl l2, .inl l3, .inl l4] [] σ).trans rfl
noncomputable def fX11_moveLayer (E : zE) (p0 : Nat) (p1 : Int32) (p2 : Int32) (σ : zS) : zO :=
  chk (zkd σ p0 = 9) <| zlt (zsi σ 576 p0 0) fun s1 =>
  chk (zkd s1 p0 = 9) <|
  bnI (E mX11_isLayer [.inr (.inl (some p0)), .inl p1] s1) fun v3 s2 =>
  if (v3 : Int32) = 0 then
    some (some (.inl (-1001)), s2)
  else
    chk (zkd s2 p0 = 9) <|
    bnI (E mX11_isLayer [.inr (.inl (some p0)), .inl p2] s2) fun v5 s4 =>
    if (v5 : Int32) = 0 then
      some (some (.inl (-1001)), s4)
    else
      if (p1 : Int32) = p2 then
        some (some (.inl (-1001)), s4)
      else
        chk (zkd s4 p0 = 9) <|
        bnV (E mX11_keep [.inr (.inl (some p0))] s4) fun s6 =>
        chk (zkd s6 p0 = 9) <|
        bnI (E mX11_at [.inl p1] s6) fun v8 s7 =>
        onR (zr s6 577 p0) fun a9 =>
        chk (zkd s7 a9 = 11 ∧ zin (v8 + 0) (zln s7 a9)) <|
        zlt (α := Int32) (zai s7 a9 (Int32.toNatClampNeg (v8 + 0))) fun v10 =>
        zlt (α := Int32) p1 fun v11 =>
        LX11_moveLayer_49 E p0 p1 p2 v10 v11 s7
set_option maxRecDepth 20000 in
theorem eX11_moveLayer (E : zE) (p0 : Nat) (p1 : Int32) (p2 : Int32) (σ : zS) : zM tX11_moveLayer 5 (0, 0) E [.inr (.inl (some p0)), .inl p1, .inl p2] σ = fX11_moveLayer E p0 p1 p2 σ :=
  (zun_at (fun pc => (oX11_moveLayer pc).1) E (fun q => Nat.beq q 49 || Nat.beq q 74) 65 0 (0, 0) (zls0 [.inr (.inl (some p0)), .inl p1, .inl p2] 5) [] σ).trans rfl
noncomputable def LX11_duplicateLayer_52 (E : zE) (l0 : Nat) (l1 : Int32) (l2 : Int32) (σ : zS) : zO := zF tX11_duplicateLayer E 52 (0, 0) [.inr (.inl (some l0)), .inl l1, .inl l2] [] σ
set_option maxRecDepth 20000 in
theorem uX11_duplicateLayer_52 (E : zE) (l0 : Nat) (l1 : Int32) (l2 : Int32) (σ : zS) : LX11_duplicateLayer_52 E l0 l1 l2 σ =
  (bnI (E mX11_at [.inl l1] σ) fun v2 s1 =>
  if (l2 : Int32) < v2 then
    chk (zkd s1 l0 = 9) <|
    onR (zr s1 577 l0) fun a3 =>
    chk (zkd s1 a3 = 11 ∧ zin 258 (zln s1 a3)) <|
    onR (zr s1 577 l0) fun a4 =>
    chk (zkd s1 a4 = 11 ∧ zin 258 (zln s1 a4)) <| zlt (zsa s1 a4 (Int32.toNatClampNeg 258) ((zai s1 a3 (Int32.toNatClampNeg 258)) + 1)) fun s5 =>
    chk (zkd s5 l0 = 9) <|
    bnI (E mX11_removeTiles [.inr (.inl (some l0)), .inl (l1 + 1), .inl 7] s5) fun v7 s6 =>
    some (some (.inl (l1 + 1)), s6)
  else
    chk (zkd s1 l0 = 9) <|
    chk (zkd s1 l0 = 9) <|
    onR (zr s1 577 l0) fun a8 =>
    chk (zkd s1 a8 = 11 ∧ zin l2 (zln s1 a8)) <|
    onR (zr s1 577 l0) fun a9 =>
    chk (zkd s1 a9 = 11 ∧ zin (l2 + 32) (zln s1 a9)) <| zlt (zsa s1 a9 (Int32.toNatClampNeg (l2 + 32)) (zai s1 a8 (Int32.toNatClampNeg l2))) fun s10 =>
    zlt (α := Int32) (l2 + (-1)) fun v11 =>
    LX11_duplicateLayer_52 E l0 l1 v11 s10) :=
  (zun_at (fun pc => (oX11_duplicateLayer pc).1) E (fun q => Nat.beq q 52) 63 52 (0, 0) [.inr (.inl (some l0)), .inl l1, .inl l2] [] σ).trans rfl
noncomputable def fX11_duplicateLayer (E : zE) (p0 : Nat) (p1 : Int32) (σ : zS) : zO :=
  chk (zkd σ p0 = 9) <| zlt (zsi σ 576 p0 0) fun s1 =>
  chk (zkd s1 p0 = 9) <|
  bnI (E mX11_isLayer [.inr (.inl (some p0)), .inl p1] s1) fun v3 s2 =>
  if (v3 : Int32) = 0 then
    some (some (.inl (-1001)), s2)
  else
    chk (zkd s2 p0 = 9) <|
    onR (zr s2 577 p0) fun a4 =>
    chk (zkd s2 a4 = 11 ∧ zin 258 (zln s2 a4)) <|
    if ((zai s2 a4 (Int32.toNatClampNeg 258)) : Int32) = 8 then
      some (some (.inl (-1003)), s2)
    else
      chk (zkd s2 p0 = 9) <|
      bnV (E mX11_keep [.inr (.inl (some p0))] s2) fun s5 =>
      chk (zkd s5 p0 = 9) <|
      onR (zr s5 577 p0) fun a6 =>
      chk (zkd s5 a6 = 11 ∧ zin 258 (zln s5 a6)) <|
      bnI (E mX11_at [.inl (zai s5 a6 (Int32.toNatClampNeg 258))] s5) fun v8 s7 =>
      zlt (α := Int32) (v8 - 1) fun v9 =>
      LX11_duplicateLayer_52 E p0 p1 v9 s7
set_option maxRecDepth 20000 in
theorem eX11_duplicateLayer (E : zE) (p0 : Nat) (p1 : Int32) (σ : zS) : zM tX11_duplicateLayer 3 (0, 0) E [.inr (.inl (some p0)), .inl p1] σ = fX11_duplicateLayer E p0 p1 σ :=
  (zun_at (fun pc => (oX11_duplicateLayer pc).1) E (fun q => Nat.beq q 52) 63 0 (0, 0) (zls0 [.inr (.inl (some p0)), .inl p1] 3) [] σ).trans rfl
noncomputable def LX11_cutLayers_7 (E : zE) (l0 : Nat) (l1 : zV) (l2 : Int32) (l3 : Int32) (σ : zS) : zO := zF tX11_cutLayers E 7 (0, 0) [.inr (.inl (some l0)), l1, .inl l2, .inl l3] [] σ
noncomputable def LX11_cutLayers_69 (E : zE) (l0 : Nat) (l1 : zV) (l2 : zV) (l3 : Int32) (σ : zS) : zO := zF tX11_cutLayers E 69 (0, 0) [.inr (.inl (some l0)), l1, l2, .inl l3] [] σ
set_option maxRecDepth 20000 in
theorem uX11_cutLayers_7 (E : zE) (l0 : Nat) (l1 : zV) (l2 : Int32) (l3 : Int32) (σ : zS) : LX11_cutLayers_7 E l0 l1 l2 l3 σ =
  (chk (zkd σ l0 = 9) <|
  onR (zr σ 577 l0) fun a1 =>
  chk (zkd σ a1 = 11 ∧ zin 258 (zln σ a1)) <|
  bnI (E mX11_at [.inl (zai σ a1 (Int32.toNatClampNeg 258))] σ) fun v3 s2 =>
  if (l3 : Int32) < v3 then
    chk (zkd s2 l0 = 9) <|
    chk (zkd s2 l0 = 9) <|
    onR (zr s2 577 l0) fun a4 =>
    chk (zkd s2 a4 = 11 ∧ zin l3 (zln s2 a4)) <|
    onR (zr s2 577 l0) fun a5 =>
    chk (zkd s2 a5 = 11 ∧ zin (l3 - (32 * l2)) (zln s2 a5)) <| zlt (zsa s2 a5 (Int32.toNatClampNeg (l3 - (32 * l2))) (zai s2 a4 (Int32.toNatClampNeg l3))) fun s6 =>
    zlt (α := Int32) (l3 + 1) fun v7 =>
    LX11_cutLayers_7 E l0 (l1) l2 v7 s6
  else
    chk (zkd s2 l0 = 9) <|
    onR (zr s2 577 l0) fun a8 =>
    chk (zkd s2 a8 = 11 ∧ zin 258 (zln s2 a8)) <|
    onR (zr s2 577 l0) fun a9 =>
    chk (zkd s2 a9 = 11 ∧ zin 258 (zln s2 a9)) <| zlt (zsa s2 a9 (Int32.toNatClampNeg 258) ((zai s2 a8 (Int32.toNatClampNeg 258)) - l2)) fun s10 =>
    chk (zkd s10 l0 = 9) <|
    onR (zr s10 577 l0) fun a11 =>
    chk (zkd s10 a11 = 11 ∧ zin 258 (zln s10 a11)) <|
    bnI (E mX11_at [.inl (zai s10 a11 (Int32.toNatClampNeg 258))] s10) fun v13 s12 =>
    zlt (α := Int32) v13 fun v14 =>
    LX11_cutLayers_69 E l0 (l1) (.inl l2) v14 s12) :=
  (zun_at (fun pc => (oX11_cutLayers pc).1) E (fun q => Nat.beq q 7 || Nat.beq q 69) 52 7 (0, 0) [.inr (.inl (some l0)), l1, .inl l2, .inl l3] [] σ).trans rfl
set_option maxRecDepth 20000 in
theorem uX11_cutLayers_69 (E : zE) (l0 : Nat) (l1 : zV) (l2 : zV) (l3 : Int32) (σ : zS) : LX11_cutLayers_69 E l0 l1 l2 l3 σ =
  (if (l3 : Int32) < 515 then
    chk (zkd σ l0 = 9) <|
    onR (zr σ 577 l0) fun a1 =>
    chk (zkd σ a1 = 11 ∧ zin l3 (zln σ a1)) <| zlt (zsa σ a1 (Int32.toNatClampNeg l3) 0) fun s2 =>
    zlt (α := Int32) (l3 + 1) fun v3 =>
    LX11_cutLayers_69 E l0 (l1) (l2) v3 s2
  else
    some (none, σ)) :=
  (zun_at (fun pc => (oX11_cutLayers pc).1) E (fun q => Nat.beq q 7 || Nat.beq q 69) 52 69 (0, 0) [.inr (.inl (some l0)), l1, l2, .inl l3] [] σ).trans rfl
noncomputable def fX11_cutLayers (E : zE) (p0 : Nat) (p1 : Int32) (p2 : Int32) (σ : zS) : zO :=
  bnI (E mX11_at [.inl (p1 + p2)] σ) fun v2 s1 =>
  zlt (α := Int32) v2 fun v3 =>
  LX11_cutLayers_7 E p0 (.inl p1) p2 v3 s1
set_option maxRecDepth 20000 in
theorem eX11_cutLayers (E : zE) (p0 : Nat) (p1 : Int32) (p2 : Int32) (σ : zS) : zM tX11_cutLayers 4 (0, 0) E [.inr (.inl (some p0)), .inl p1, .inl p2] σ = fX11_cutLayers E p0 p1 p2 σ :=
  (zun_at (fun pc => (oX11_cutLayers pc).1) E (fun q => Nat.beq q 7 || Nat.beq q 69) 52 0 (0, 0) (zls0 [.inr (.inl (some p0)), .inl p1, .inl p2] 4) [] σ).trans rfl
noncomputable def fX11_removeLayer (E : zE) (p0 : Nat) (p1 : Int32) (σ : zS) : zO :=
  chk (zkd σ p0 = 9) <| zlt (zsi σ 576 p0 0) fun s1 =>
  chk (zkd s1 p0 = 9) <|
  bnI (E mX11_isLayer [.inr (.inl (some p0)), .inl p1] s1) fun v3 s2 =>
  if (v3 : Int32) = 0 then
    some (some (.inl (-1001)), s2)
  else
    chk (zkd s2 p0 = 9) <|
    bnV (E mX11_keep [.inr (.inl (some p0))] s2) fun s4 =>
    chk (zkd s4 p0 = 9) <|
    bnV (E mX11_cutLayers [.inr (.inl (some p0)), .inl p1, .inl 1] s4) fun s5 =>
    chk (zkd s5 p0 = 9) <|
    bnI (E mX11_removeTiles [.inr (.inl (some p0)), .inl p1, .inl 7] s5) fun v7 s6 =>
    chk (zkd s6 p0 = 9) <|
    onR (zr s6 577 p0) fun a8 =>
    chk (zkd s6 a8 = 11 ∧ zin 258 (zln s6 a8)) <|
    some (some (.inl (zai s6 a8 (Int32.toNatClampNeg 258))), s6)
set_option maxRecDepth 20000 in
theorem eX11_removeLayer (E : zE) (p0 : Nat) (p1 : Int32) (σ : zS) : zM tX11_removeLayer 2 (0, 0) E [.inr (.inl (some p0)), .inl p1] σ = fX11_removeLayer E p0 p1 σ :=
  (zun_at (fun pc => (oX11_removeLayer pc).1) E (fun _ => false) 26 0 (0, 0) (zls0 [.inr (.inl (some p0)), .inl p1] 2) [] σ).trans rfl
noncomputable def LX11_flatten_29 (E : zE) (l0 : Nat) (l1 : Int32) (l2 : Int32) (l3 : Int32) (σ : zS) : zO := zF tX11_flatten E 29 (0, 0) [.inr (.inl (some l0)), .inl l1, .inl l2, .inl l3, .inr (.inr 0)] [] σ
noncomputable def LX11_flatten_69 (E : zE) (l0 : Nat) (l1 : Int32) (l2 : zV) (l3 : Int32) (l4 : zV) (σ : zS) : zO := zF tX11_flatten E 69 (0, 0) [.inr (.inl (some l0)), .inl l1, l2, .inl l3, l4] [] σ
set_option maxRecDepth 20000 in
theorem uX11_flatten_29 (E : zE) (l0 : Nat) (l1 : Int32) (l2 : Int32) (l3 : Int32) (σ : zS) : LX11_flatten_29 E l0 l1 l2 l3 σ =
  (chk (zkd σ l0 = 9) <|
  bnI (E mX11_pixels [.inr (.inl (some l0))] σ) fun v2 s1 =>
  if (l3 : Int32) < v2 then
    chk (zkd s1 l0 = 9) <|
    chk (zkd s1 l0 = 9) <|
    onR (zr s1 599 l0) fun a3 =>
    chk (zkd s1 a3 = 11 ∧ zin (l2 + l3) (zln s1 a3)) <|
    onR (zr s1 577 l0) fun a4 =>
    chk (zkd s1 a4 = 11 ∧ zin (2 + l3) (zln s1 a4)) <| zlt (zsa s1 a4 (Int32.toNatClampNeg (2 + l3)) (zai s1 a3 (Int32.toNatClampNeg (l2 + l3)))) fun s5 =>
    zlt (α := Int32) (l3 + 1) fun v6 =>
    LX11_flatten_29 E l0 l1 l2 v6 s5
  else
    chk (zkd s1 l0 = 9) <|
    bnV (E mX11_cutLayers [.inr (.inl (some l0)), .inl 0, .inl (l1 + 1)] s1) fun s7 =>
    zlt (α := Int32) 0 fun v8 =>
    LX11_flatten_69 E l0 l1 (.inl l2) v8 (.inr (.inr 0)) s7) :=
  (zun_at (fun pc => (oX11_flatten pc).1) E (fun q => Nat.beq q 29 || Nat.beq q 69) 75 29 (0, 0) [.inr (.inl (some l0)), .inl l1, .inl l2, .inl l3, .inr (.inr 0)] [] σ).trans rfl
set_option maxRecDepth 20000 in
theorem uX11_flatten_69 (E : zE) (l0 : Nat) (l1 : Int32) (l2 : zV) (l3 : Int32) (l4 : zV) (σ : zS) : LX11_flatten_69 E l0 l1 l2 l3 l4 σ =
  (if (l3 : Int32) < 512 then
    zlt (α := Int32) (l3 + (64 * (l1 + 1))) fun v1 =>
    chk (zkd σ l0 = 9) <|
    if (v1 : Int32) < 512 then
      chk (zkd σ l0 = 9) <|
      onR (zr σ 586 l0) fun a2 =>
      chk (zkd σ a2 = 11 ∧ zin v1 (zln σ a2)) <|
      onR (zr σ 586 l0) fun a3 =>
      chk (zkd σ a3 = 11 ∧ zin l3 (zln σ a3)) <| zlt (zsa σ a3 (Int32.toNatClampNeg l3) (zai σ a2 (Int32.toNatClampNeg v1))) fun s4 =>
      zlt (α := Int32) (l3 + 1) fun v5 =>
      LX11_flatten_69 E l0 l1 (l2) v5 (.inl v1) s4
    else
      onR (zr σ 586 l0) fun a6 =>
      chk (zkd σ a6 = 11 ∧ zin l3 (zln σ a6)) <| zlt (zsa σ a6 (Int32.toNatClampNeg l3) 0) fun s7 =>
      zlt (α := Int32) (l3 + 1) fun v8 =>
      LX11_flatten_69 E l0 l1 (l2) v8 (.inl v1) s7
  else
    chk (zkd σ l0 = 9) <|
    onR (zr σ 577 l0) fun a9 =>
    chk (zkd σ a9 = 11 ∧ zin 258 (zln σ a9)) <|
    some (some (.inl (zai σ a9 (Int32.toNatClampNeg 258))), σ)) :=
  (zun_at (fun pc => (oX11_flatten pc).1) E (fun q => Nat.beq q 29 || Nat.beq q 69) 75 69 (0, 0) [.inr (.inl (some l0)), .inl l1, l2, .inl l3, l4] [] σ).trans rfl
noncomputable def fX11_flatten (E : zE) (p0 : Nat) (p1 : Int32) (σ : zS) : zO :=
  chk (zkd σ p0 = 9) <| zlt (zsi σ 576 p0 0) fun s1 =>
  chk (zkd s1 p0 = 9) <|
  bnI (E mX11_isLayer [.inr (.inl (some p0)), .inl p1] s1) fun v3 s2 =>
  if (v3 : Int32) = 0 then
    some (some (.inl (-1001)), s2)
  else
    chk (zkd s2 p0 = 9) <|
    bnV (E mX11_keep [.inr (.inl (some p0))] s2) fun s4 =>
    chk (zkd s4 p0 = 9) <|
    bnI (E mX11_compute [.inr (.inl (some p0)), .inl p1] s4) fun v6 s5 =>
    zlt (α := Int32) v6 fun v7 =>
    zlt (α := Int32) 0 fun v8 =>
    LX11_flatten_29 E p0 p1 v7 v8 s5
set_option maxRecDepth 20000 in
theorem eX11_flatten (E : zE) (p0 : Nat) (p1 : Int32) (σ : zS) : zM tX11_flatten 5 (0, 0) E [.inr (.inl (some p0)), .inl p1] σ = fX11_flatten E p0 p1 σ :=
  (zun_at (fun pc => (oX11_flatten pc).1) E (fun q => Nat.beq q 29 || Nat.beq q 69) 75 0 (0, 0) (zls0 [.inr (.inl (some p0)), .inl p1] 5) [] σ).trans rfl
noncomputable def fX11_layer (E : zE) (p0 : Nat) (p1 : Int32) (p2 : Int32) (σ : zS) : zO :=
  chk (zkd σ p0 = 9) <| zlt (zsi σ 576 p0 0) fun s1 =>
  chk (zkd s1 p0 = 9) <|
  bnI (E mX11_isLayer [.inr (.inl (some p0)), .inl p1] s1) fun v3 s2 =>
  if (v3 : Int32) = 0 then
    some (some (.inl (-1001)), s2)
  else
    bnI (E mX11_in [.inl p2, .inl 0, .inl 8] s2) fun v5 s4 =>
    if (v5 : Int32) = 0 then
      some (some (.inl (-1001)), s4)
    else
      bnI (E mX11_at [.inl p1] s4) fun v7 s6 =>
      zlt (α := Int32) v7 fun v8 =>
      if (p2 : Int32) = 1 then
        chk (zkd s6 p0 = 9) <|
        onR (zr s6 577 p0) fun a9 =>
        chk (zkd s6 a9 = 11 ∧ zin (v8 + 1) (zln s6 a9)) <|
        some (some (.inl ((zai s6 a9 (Int32.toNatClampNeg (v8 + 1))) + 1000)), s6)
      else if (p2 : Int32) = 2 then
        chk (zkd s6 p0 = 9) <|
        onR (zr s6 577 p0) fun a10 =>
        chk (zkd s6 a10 = 11 ∧ zin (v8 + 2) (zln s6 a10)) <|
        some (some (.inl ((zai s6 a10 (Int32.toNatClampNeg (v8 + 2))) + 1000)), s6)
      else if (p2 : Int32) = 3 then
        chk (zkd s6 p0 = 9) <|
        onR (zr s6 577 p0) fun a11 =>
        chk (zkd s6 a11 = 11 ∧ zin (v8 + p2) (zln s6 a11)) <|
        some (some (.inl (zai s6 a11 (Int32.toNatClampNeg (v8 + p2)))), s6)
      else if (p2 : Int32) = 4 then
        chk (zkd s6 p0 = 9) <|
        onR (zr s6 577 p0) fun a12 =>
        chk (zkd s6 a12 = 11 ∧ zin (v8 + p2) (zln s6 a12)) <|
        some (some (.inl (zai s6 a12 (Int32.toNatClampNeg (v8 + p2)))), s6)
      else if (p2 : Int32) = 5 then
        chk (zkd s6 p0 = 9) <|
        onR (zr s6 577 p0) fun a13 =>
        chk (zkd s6 a13 = 11 ∧ zin (v8 + p2) (zln s6 a13)) <|
        some (some (.inl (zai s6 a13 (Int32.toNatClampNeg (v8 + p2)))), s6)
      else if (p2 : Int32) = 6 then
        chk (zkd s6 p0 = 9) <|
        bnI (E mX11_reach [.inr (.inl (some p0)), .inl p1] s6) fun v15 s14 =>
        some (some (.inl v15), s14)
      else if (p2 : Int32) = 7 then
        chk (zkd s6 p0 = 9) <|
        onR (zr s6 577 p0) fun a16 =>
        chk (zkd s6 a16 = 11 ∧ zin (v8 + 6) (zln s6 a16)) <|
        some (some (.inl (zai s6 a16 (Int32.toNatClampNeg (v8 + 6)))), s6)
      else if (p2 : Int32) = 8 then
        chk (zkd s6 p0 = 9) <|
        onR (zr s6 577 p0) fun a17 =>
        chk (zkd s6 a17 = 11 ∧ zin (v8 + 13) (zln s6 a17)) <|
        some (some (.inl (zai s6 a17 (Int32.toNatClampNeg (v8 + 13)))), s6)
      else 
        chk (zkd s6 p0 = 9) <|
        onR (zr s6 577 p0) fun a18 =>
        chk (zkd s6 a18 = 11 ∧ zin (v8 + p2) (zln s6 a18)) <|
        some (some (.inl (zai s6 a18 (Int32.toNatClampNeg (v8 + p2)))), s6)
set_option maxRecDepth 20000 in
theorem eX11_layer (E : zE) (p0 : Nat) (p1 : Int32) (p2 : Int32) (σ : zS) : zM tX11_layer 4 (0, 0) E [.inr (.inl (some p0)), .inl p1, .inl p2] σ = fX11_layer E p0 p1 p2 σ :=
  (zun_at (fun pc => (oX11_layer pc).1) E (fun _ => false) 63 0 (0, 0) (zls0 [.inr (.inl (some p0)), .inl p1, .inl p2] 4) [] σ).trans rfl
noncomputable def fX11_isNothing (E : zE) (p0 : Int32) (p1 : Int32) (p2 : Int32) (p3 : Int32) (σ : zS) : zO :=
  if (p0 : Int32) = 0 then
    if (p1 : Int32) = 0 then
      if (p2 : Int32) = 0 then
        if (p3 : Int32) = 0 then
          chk (zB 1) (some (some (.inl 1), σ))
        else
          chk (zB 0) (some (some (.inl 0), σ))
      else
        chk (zB 0) (some (some (.inl 0), σ))
    else
      chk (zB 0) (some (some (.inl 0), σ))
  else
    chk (zB 0) (some (some (.inl 0), σ))
set_option maxRecDepth 20000 in
theorem eX11_isNothing (E : zE) (p0 : Int32) (p1 : Int32) (p2 : Int32) (p3 : Int32) (σ : zS) : zM tX11_isNothing 4 (0, 0) E [.inl p0, .inl p1, .inl p2, .inl p3] σ = fX11_isNothing E p0 p1 p2 p3 σ :=
  (zun_at (fun pc => (oX11_isNothing pc).1) E (fun _ => false) 13 0 (0, 0) (zls0 [.inl p0, .inl p1, .inl p2, .inl p3] 4) [] σ).trans rfl
noncomputable def fX11_isMask (E : zE) (p0 : Int32) (p1 : Int32) (p2 : Int32) (p3 : Int32) (p4 : Int32) (σ : zS) : zO :=
  if (p0 : Int32) = 1 then
    bnI (E mX11_in [.inl p1, .inl 0, .inl 15] σ) fun v2 s1 =>
    if (v2 : Int32) = 0 then
      chk (zB 0) (some (some (.inl 0), s1))
    else
      bnI (E mX11_in [.inl p3, .inl p1, .inl 15] s1) fun v4 s3 =>
      if (v4 : Int32) = 0 then
        chk (zB 0) (some (some (.inl 0), s3))
      else
        bnI (E mX11_in [.inl p2, .inl 0, .inl 15] s3) fun v6 s5 =>
        if (v6 : Int32) = 0 then
          chk (zB 0) (some (some (.inl 0), s5))
        else
          bnI (E mX11_in [.inl p4, .inl p2, .inl 15] s5) fun v8 s7 =>
          if (v8 : Int32) = 0 then
            chk (zB 0) (some (some (.inl 0), s7))
          else
            chk (zB 1) (some (some (.inl 1), s7))
  else
    if (p0 : Int32) = 2 then
      bnI (E mX11_in [.inl p1, .inl 0, .inl 14] σ) fun v10 s9 =>
      if (v10 : Int32) = 0 then
        chk (zB 0) (some (some (.inl 0), s9))
      else
        bnI (E mX11_in [.inl p3, .inl (p1 + 1), .inl 15] s9) fun v12 s11 =>
        if (v12 : Int32) = 0 then
          chk (zB 0) (some (some (.inl 0), s11))
        else
          if (p2 : Int32) = 0 then
            if (p4 : Int32) = 0 then
              chk (zB 1) (some (some (.inl 1), s11))
            else
              chk (zB 0) (some (some (.inl 0), s11))
          else
            chk (zB 0) (some (some (.inl 0), s11))
    else
      bnI (E mX11_isNothing [.inl p1, .inl p2, .inl p3, .inl p4] σ) fun v14 s13 =>
      chk (zB v14) (some (some (.inl v14), s13))
set_option maxRecDepth 20000 in
theorem eX11_isMask (E : zE) (p0 : Int32) (p1 : Int32) (p2 : Int32) (p3 : Int32) (p4 : Int32) (σ : zS) : zM tX11_isMask 5 (0, 0) E [.inl p0, .inl p1, .inl p2, .inl p3, .inl p4] σ = fX11_isMask E p0 p1 p2 p3 p4 σ :=
  (zun_at (fun pc => (oX11_isMask pc).1) E (fun _ => false) 57 0 (0, 0) (zls0 [.inl p0, .inl p1, .inl p2, .inl p3, .inl p4] 5) [] σ).trans rfl
noncomputable def fX11_setMaskOf (E : zE) (p0 : Nat) (p1 : Int32) (p2 : Int32) (p3 : Int32) (p4 : Int32) (p5 : Int32) (p6 : Int32) (σ : zS) : zO :=
  chk (zkd σ p0 = 9) <|
  onR (zr σ 577 p0) fun a1 =>
  chk (zkd σ a1 = 11 ∧ zin (p1 + 6) (zln σ a1)) <| zlt (zsa σ a1 (Int32.toNatClampNeg (p1 + 6)) p2) fun s2 =>
  chk (zkd s2 p0 = 9) <|
  onR (zr s2 577 p0) fun a3 =>
  chk (zkd s2 a3 = 11 ∧ zin (p1 + 7) (zln s2 a3)) <| zlt (zsa s2 a3 (Int32.toNatClampNeg (p1 + 7)) p3) fun s4 =>
  chk (zkd s4 p0 = 9) <|
  onR (zr s4 577 p0) fun a5 =>
  chk (zkd s4 a5 = 11 ∧ zin ((p1 + 7) + 1) (zln s4 a5)) <| zlt (zsa s4 a5 (Int32.toNatClampNeg ((p1 + 7) + 1)) p4) fun s6 =>
  chk (zkd s6 p0 = 9) <|
  onR (zr s6 577 p0) fun a7 =>
  chk (zkd s6 a7 = 11 ∧ zin ((p1 + 7) + 2) (zln s6 a7)) <| zlt (zsa s6 a7 (Int32.toNatClampNeg ((p1 + 7) + 2)) p5) fun s8 =>
  chk (zkd s8 p0 = 9) <|
  onR (zr s8 577 p0) fun a9 =>
  chk (zkd s8 a9 = 11 ∧ zin ((p1 + 7) + 3) (zln s8 a9)) <| zlt (zsa s8 a9 (Int32.toNatClampNeg ((p1 + 7) + 3)) p6) fun s10 =>
  some (none, s10)
set_option maxRecDepth 20000 in
theorem eX11_setMaskOf (E : zE) (p0 : Nat) (p1 : Int32) (p2 : Int32) (p3 : Int32) (p4 : Int32) (p5 : Int32) (p6 : Int32) (σ : zS) : zM tX11_setMaskOf 7 (0, 0) E [.inr (.inl (some p0)), .inl p1, .inl p2, .inl p3, .inl p4, .inl p5, .inl p6] σ = fX11_setMaskOf E p0 p1 p2 p3 p4 p5 p6 σ :=
  (zun_at (fun pc => (oX11_setMaskOf pc).1) E (fun _ => false) 43 0 (0, 0) (zls0 [.inr (.inl (some p0)), .inl p1, .inl p2, .inl p3, .inl p4, .inl p5, .inl p6] 7) [] σ).trans rfl
noncomputable def fX11_setMask (E : zE) (p0 : Nat) (p1 : Int32) (p2 : Int32) (p3 : Int32) (p4 : Int32) (p5 : Int32) (p6 : Int32) (σ : zS) : zO :=
  chk (zkd σ p0 = 9) <| zlt (zsi σ 576 p0 0) fun s1 =>
  chk (zkd s1 p0 = 9) <|
  bnI (E mX11_isLayer [.inr (.inl (some p0)), .inl p1] s1) fun v3 s2 =>
  if (v3 : Int32) = 0 then
    some (some (.inl (-1001)), s2)
  else
    bnI (E mX11_in [.inl p2, .inl 0, .inl 4] s2) fun v5 s4 =>
    if (v5 : Int32) = 0 then
      some (some (.inl (-1001)), s4)
    else
      bnI (E mX11_isMask [.inl p2, .inl p3, .inl p4, .inl p5, .inl p6] s4) fun v7 s6 =>
      if (v7 : Int32) = 0 then
        some (some (.inl (-1001)), s6)
      else
        chk (zkd s6 p0 = 9) <|
        bnV (E mX11_keep [.inr (.inl (some p0))] s6) fun s8 =>
        chk (zkd s8 p0 = 9) <|
        bnI (E mX11_at [.inl p1] s8) fun v10 s9 =>
        onR (zr s8 577 p0) fun a11 =>
        chk (zkd s9 a11 = 11 ∧ zin (v10 + 6) (zln s9 a11)) <|
        zlt (α := Int32) (zai s9 a11 (Int32.toNatClampNeg (v10 + 6))) fun v12 =>
        bnI (E mX11_at [.inl p1] s9) fun v14 s13 =>
        chk (zkd s13 p0 = 9) <|
        bnV (E mX11_setMaskOf [.inr (.inl (some p0)), .inl v14, .inl p2, .inl p3, .inl p4, .inl p5, .inl p6] s13) fun s15 =>
        chk (zkd s15 p0 = 9) <|
        bnI (E mX11_removeTiles [.inr (.inl (some p0)), .inl p1, .inl 7] s15) fun v17 s16 =>
        some (some (.inl v12), s16)
set_option maxRecDepth 20000 in
theorem eX11_setMask (E : zE) (p0 : Nat) (p1 : Int32) (p2 : Int32) (p3 : Int32) (p4 : Int32) (p5 : Int32) (p6 : Int32) (σ : zS) : zM tX11_setMask 8 (0, 0) E [.inr (.inl (some p0)), .inl p1, .inl p2, .inl p3, .inl p4, .inl p5, .inl p6] σ = fX11_setMask E p0 p1 p2 p3 p4 p5 p6 σ :=
  (zun_at (fun pc => (oX11_setMask pc).1) E (fun _ => false) 48 0 (0, 0) (zls0 [.inr (.inl (some p0)), .inl p1, .inl p2, .inl p3, .inl p4, .inl p5, .inl p6] 8) [] σ).trans rfl
noncomputable def fX11_setFeather (E : zE) (p0 : Nat) (p1 : Int32) (p2 : Int32) (σ : zS) : zO :=
  chk (zkd σ p0 = 9) <| zlt (zsi σ 576 p0 0) fun s1 =>
  chk (zkd s1 p0 = 9) <|
  bnI (E mX11_isLayer [.inr (.inl (some p0)), .inl p1] s1) fun v3 s2 =>
  if (v3 : Int32) = 0 then
    some (some (.inl (-1001)), s2)
  else
    bnI (E mX11_in [.inl p2, .inl 0, .inl 5] s2) fun v5 s4 =>
    if (v5 : Int32) = 0 then
      some (some (.inl (-1001)), s4)
    else
      chk (zkd s4 p0 = 9) <|
      bnV (E mX11_keep [.inr (.inl (some p0))] s4) fun s6 =>
      chk (zkd s6 p0 = 9) <|
      bnI (E mX11_at [.inl p1] s6) fun v8 s7 =>
      onR (zr s6 577 p0) fun a9 =>
      chk (zkd s7 a9 = 11 ∧ zin (v8 + 11) (zln s7 a9)) <|
      zlt (α := Int32) (zai s7 a9 (Int32.toNatClampNeg (v8 + 11))) fun v10 =>
      chk (zkd s7 p0 = 9) <|
      bnI (E mX11_at [.inl p1] s7) fun v12 s11 =>
      onR (zr s7 577 p0) fun a13 =>
      chk (zkd s11 a13 = 11 ∧ zin (v12 + 11) (zln s11 a13)) <| zlt (zsa s11 a13 (Int32.toNatClampNeg (v12 + 11)) p2) fun s14 =>
      chk (zkd s14 p0 = 9) <|
      bnI (E mX11_removeTiles [.inr (.inl (some p0)), .inl p1, .inl 7] s14) fun v16 s15 =>
      some (some (.inl v10), s15)
set_option maxRecDepth 20000 in
theorem eX11_setFeather (E : zE) (p0 : Nat) (p1 : Int32) (p2 : Int32) (σ : zS) : zM tX11_setFeather 4 (0, 0) E [.inr (.inl (some p0)), .inl p1, .inl p2] σ = fX11_setFeather E p0 p1 p2 σ :=
  (zun_at (fun pc => (oX11_setFeather pc).1) E (fun _ => false) 40 0 (0, 0) (zls0 [.inr (.inl (some p0)), .inl p1, .inl p2] 4) [] σ).trans rfl
noncomputable def fX11_invertMask (E : zE) (p0 : Nat) (p1 : Int32) (σ : zS) : zO :=
  chk (zkd σ p0 = 9) <| zlt (zsi σ 576 p0 0) fun s1 =>
  chk (zkd s1 p0 = 9) <|
  bnI (E mX11_isLayer [.inr (.inl (some p0)), .inl p1] s1) fun v3 s2 =>
  if (v3 : Int32) = 0 then
    some (some (.inl (-1001)), s2)
  else
    chk (zkd s2 p0 = 9) <|
    bnV (E mX11_keep [.inr (.inl (some p0))] s2) fun s4 =>
    chk (zkd s4 p0 = 9) <|
    bnI (E mX11_at [.inl p1] s4) fun v6 s5 =>
    chk (zkd s5 p0 = 9) <|
    bnI (E mX11_at [.inl p1] s5) fun v8 s7 =>
    onR (zr s5 577 p0) fun a9 =>
    chk (zkd s7 a9 = 11 ∧ zin (v8 + 12) (zln s7 a9)) <|
    onR (zr s4 577 p0) fun a10 =>
    chk (zkd s7 a10 = 11 ∧ zin (v6 + 12) (zln s7 a10)) <| zlt (zsa s7 a10 (Int32.toNatClampNeg (v6 + 12)) (1 - (zai s7 a9 (Int32.toNatClampNeg (v8 + 12))))) fun s11 =>
    chk (zkd s11 p0 = 9) <|
    bnI (E mX11_removeTiles [.inr (.inl (some p0)), .inl p1, .inl 7] s11) fun v13 s12 =>
    chk (zkd s12 p0 = 9) <|
    bnI (E mX11_at [.inl p1] s12) fun v15 s14 =>
    onR (zr s12 577 p0) fun a16 =>
    chk (zkd s14 a16 = 11 ∧ zin (v15 + 12) (zln s14 a16)) <|
    some (some (.inl (zai s14 a16 (Int32.toNatClampNeg (v15 + 12)))), s14)
set_option maxRecDepth 20000 in
theorem eX11_invertMask (E : zE) (p0 : Nat) (p1 : Int32) (σ : zS) : zM tX11_invertMask 2 (0, 0) E [.inr (.inl (some p0)), .inl p1] σ = fX11_invertMask E p0 p1 σ :=
  (zun_at (fun pc => (oX11_invertMask pc).1) E (fun _ => false) 41 0 (0, 0) (zls0 [.inr (.inl (some p0)), .inl p1] 2) [] σ).trans rfl
noncomputable def fX11_dab (E : zE) (p0 : Nat) (p1 : Int32) (p2 : Int32) (p3 : Int32) (p4 : Int32) (σ : zS) : zO :=
  chk (zkd σ p0 = 9) <| zlt (zsi σ 576 p0 0) fun s1 =>
  chk (zkd s1 p0 = 9) <|
  bnI (E mX11_isLayer [.inr (.inl (some p0)), .inl p1] s1) fun v3 s2 =>
  if (v3 : Int32) = 0 then
    some (some (.inl (-1001)), s2)
  else
    bnI (E mX11_in [.inl p2, .inl 0, .inl 15] s2) fun v5 s4 =>
    if (v5 : Int32) = 0 then
      some (some (.inl (-1001)), s4)
    else
      bnI (E mX11_in [.inl p3, .inl 0, .inl 15] s4) fun v7 s6 =>
      if (v7 : Int32) = 0 then
        some (some (.inl (-1001)), s6)
      else
        bnI (E mX11_in [.inl p4, .inl 0, .inl 8] s6) fun v9 s8 =>
        if (v9 : Int32) = 0 then
          some (some (.inl (-1001)), s8)
        else
          bnI (E mX11_at [.inl p1] s8) fun v11 s10 =>
          zlt (α := Int32) v11 fun v12 =>
          chk (zkd s10 p0 = 9) <|
          onR (zr s10 577 p0) fun a13 =>
          chk (zkd s10 a13 = 11 ∧ zin (v12 + 13) (zln s10 a13)) <|
          if ((zai s10 a13 (Int32.toNatClampNeg (v12 + 13))) : Int32) = 6 then
            some (some (.inl (-1003)), s10)
          else
            chk (zkd s10 p0 = 9) <|
            bnV (E mX11_keep [.inr (.inl (some p0))] s10) fun s14 =>
            chk (zkd s14 p0 = 9) <|
            onR (zr s14 577 p0) fun a15 =>
            chk (zkd s14 a15 = 11 ∧ zin (v12 + 13) (zln s14 a15)) <|
            zlt (α := Int32) ((v12 + 14) + (3 * (zai s14 a15 (Int32.toNatClampNeg (v12 + 13))))) fun v16 =>
            chk (zkd s14 p0 = 9) <|
            onR (zr s14 577 p0) fun a17 =>
            chk (zkd s14 a17 = 11 ∧ zin v16 (zln s14 a17)) <| zlt (zsa s14 a17 (Int32.toNatClampNeg v16) p2) fun s18 =>
            chk (zkd s18 p0 = 9) <|
            onR (zr s18 577 p0) fun a19 =>
            chk (zkd s18 a19 = 11 ∧ zin (v16 + 1) (zln s18 a19)) <| zlt (zsa s18 a19 (Int32.toNatClampNeg (v16 + 1)) p3) fun s20 =>
            chk (zkd s20 p0 = 9) <|
            onR (zr s20 577 p0) fun a21 =>
            chk (zkd s20 a21 = 11 ∧ zin (v16 + 2) (zln s20 a21)) <| zlt (zsa s20 a21 (Int32.toNatClampNeg (v16 + 2)) p4) fun s22 =>
            chk (zkd s22 p0 = 9) <|
            onR (zr s22 577 p0) fun a23 =>
            chk (zkd s22 a23 = 11 ∧ zin (v12 + 13) (zln s22 a23)) <|
            onR (zr s22 577 p0) fun a24 =>
            chk (zkd s22 a24 = 11 ∧ zin (v12 + 13) (zln s22 a24)) <| zlt (zsa s22 a24 (Int32.toNatClampNeg (v12 + 13)) ((zai s22 a23 (Int32.toNatClampNeg (v12 + 13))) + 1)) fun s25 =>
            chk (zkd s25 p0 = 9) <|
            bnV (E mX11_setMaskOf [.inr (.inl (some p0)), .inl v12, .inl 4, .inl 0, .inl 0, .inl 0, .inl 0] s25) fun s26 =>
            chk (zkd s26 p0 = 9) <|
            bnI (E mX11_removeTiles [.inr (.inl (some p0)), .inl p1, .inl 7] s26) fun v28 s27 =>
            chk (zkd s27 p0 = 9) <|
            onR (zr s27 577 p0) fun a29 =>
            chk (zkd s27 a29 = 11 ∧ zin (v12 + 13) (zln s27 a29)) <|
            some (some (.inl (zai s27 a29 (Int32.toNatClampNeg (v12 + 13)))), s27)
set_option maxRecDepth 20000 in
theorem eX11_dab (E : zE) (p0 : Nat) (p1 : Int32) (p2 : Int32) (p3 : Int32) (p4 : Int32) (σ : zS) : zM tX11_dab 7 (0, 0) E [.inr (.inl (some p0)), .inl p1, .inl p2, .inl p3, .inl p4] σ = fX11_dab E p0 p1 p2 p3 p4 σ :=
  (zun_at (fun pc => (oX11_dab pc).1) E (fun _ => false) 102 0 (0, 0) (zls0 [.inr (.inl (some p0)), .inl p1, .inl p2, .inl p3, .inl p4] 7) [] σ).trans rfl
noncomputable def fX11_maskValue (E : zE) (p0 : Nat) (p1 : Int32) (p2 : Int32) (p3 : Int32) (σ : zS) : zO :=
  chk (zkd σ p0 = 9) <| zlt (zsi σ 576 p0 0) fun s1 =>
  chk (zkd s1 p0 = 9) <|
  bnI (E mX11_isLayer [.inr (.inl (some p0)), .inl p1] s1) fun v3 s2 =>
  if (v3 : Int32) = 0 then
    some (some (.inl (-1001)), s2)
  else
    chk (zkd s2 p0 = 9) <|
    bnI (E mX11_isPixel [.inr (.inl (some p0)), .inl p2, .inl p3] s2) fun v5 s4 =>
    if (v5 : Int32) = 0 then
      some (some (.inl (-1001)), s4)
    else
      chk (zkd s4 p0 = 9) <|
      bnI (E mX11_compute [.inr (.inl (some p0)), .inl (p1 - 1)] s4) fun v7 s6 =>
      zlt (α := Int32) v7 fun v8 =>
      bnI (E mX11_at [.inl p1] s6) fun v10 s9 =>
      chk (zkd s9 p0 = 9) <|
      bnI (E mX11_inputAt [.inr (.inl (some p0)), .inl v8, .inl p2, .inl p3] s9) fun v12 s11 =>
      chk (zkd s11 p0 = 9) <|
      bnI (E mX11_maskAt [.inr (.inl (some p0)), .inl v10, .inl p2, .inl p3, .inl v12] s11) fun v14 s13 =>
      some (some (.inl v14), s13)
set_option maxRecDepth 20000 in
theorem eX11_maskValue (E : zE) (p0 : Nat) (p1 : Int32) (p2 : Int32) (p3 : Int32) (σ : zS) : zM tX11_maskValue 5 (0, 0) E [.inr (.inl (some p0)), .inl p1, .inl p2, .inl p3] σ = fX11_maskValue E p0 p1 p2 p3 σ :=
  (zun_at (fun pc => (oX11_maskValue pc).1) E (fun _ => false) 33 0 (0, 0) (zls0 [.inr (.inl (some p0)), .inl p1, .inl p2, .inl p3] 5) [] σ).trans rfl
noncomputable def fX11_append (E : zE) (p0 : Nat) (p1 : Int32) (σ : zS) : zO :=
  chk (zkd σ p0 = 9) <| zlt (zsi σ 576 p0 0) fun s1 =>
  bnI (E mX11_in [.inl p1, .inl 1, .inl 255] s1) fun v3 s2 =>
  if (v3 : Int32) = 0 then
    some (some (.inl (-1001)), s2)
  else
    chk (zkd s2 p0 = 9) <|
    if ((zi s2 583 p0) : Int32) = 160 then
      some (some (.inl (-1003)), s2)
    else
      chk (zkd s2 p0 = 9) <|
      chk (zkd s2 p0 = 9) <|
      onR (zr s2 582 p0) fun a4 =>
      chk (zkd s2 a4 = 11 ∧ zin (zi s2 583 p0) (zln s2 a4)) <| zlt (zsa s2 a4 (Int32.toNatClampNeg (zi s2 583 p0)) p1) fun s5 =>
      chk (zkd s5 p0 = 9) <|
      chk (zkd s5 p0 = 9) <| zlt (zsi s5 583 p0 ((zi s5 583 p0) + 1)) fun s6 =>
      chk (zkd s6 p0 = 9) <|
      some (some (.inl (zi s6 583 p0)), s6)
set_option maxRecDepth 20000 in
theorem eX11_append (E : zE) (p0 : Nat) (p1 : Int32) (σ : zS) : zM tX11_append 2 (0, 0) E [.inr (.inl (some p0)), .inl p1] σ = fX11_append E p0 p1 σ :=
  (zun_at (fun pc => (oX11_append pc).1) E (fun _ => false) 32 0 (0, 0) (zls0 [.inr (.inl (some p0)), .inl p1] 2) [] σ).trans rfl
noncomputable def fX11_clearText (E : zE) (p0 : Nat) (σ : zS) : zO :=
  chk (zkd σ p0 = 9) <| zlt (zsi σ 576 p0 0) fun s1 =>
  chk (zkd s1 p0 = 9) <|
  zlt (α := Int32) (zi s1 583 p0) fun v2 =>
  chk (zkd s1 p0 = 9) <| zlt (zsi s1 583 p0 0) fun s3 =>
  some (some (.inl v2), s3)
set_option maxRecDepth 20000 in
theorem eX11_clearText (E : zE) (p0 : Nat) (σ : zS) : zM tX11_clearText 2 (0, 0) E [.inr (.inl (some p0))] σ = fX11_clearText E p0 σ :=
  (zun_at (fun pc => (oX11_clearText pc).1) E (fun _ => false) 12 0 (0, 0) (zls0 [.inr (.inl (some p0))] 2) [] σ).trans rfl
noncomputable def fX11_here (E : zE) (p0 : Nat) (σ : zS) : zO :=
  chk (zkd σ p0 = 9) <|
  chk (zkd σ p0 = 9) <|
  if ((zi σ 603 p0) : Int32) < (zi σ 583 p0) then
    chk (zkd σ p0 = 9) <|
    chk (zkd σ p0 = 9) <|
    onR (zr σ 582 p0) fun a1 =>
    chk (zkd σ a1 = 11 ∧ zin (zi σ 603 p0) (zln σ a1)) <|
    some (some (.inl (zai σ a1 (Int32.toNatClampNeg (zi σ 603 p0)))), σ)
  else
    some (some (.inl (-1)), σ)
set_option maxRecDepth 20000 in
theorem eX11_here (E : zE) (p0 : Nat) (σ : zS) : zM tX11_here 1 (0, 0) E [.inr (.inl (some p0))] σ = fX11_here E p0 σ :=
  (zun_at (fun pc => (oX11_here pc).1) E (fun _ => false) 14 0 (0, 0) (zls0 [.inr (.inl (some p0))] 1) [] σ).trans rfl
noncomputable def LX11_readWord_10 (E : zE) (l0 : Nat) (σ : zS) : zO := zF tX11_readWord E 10 (0, 0) [.inr (.inl (some l0))] [] σ
set_option maxRecDepth 20000 in
theorem uX11_readWord_10 (E : zE) (l0 : Nat) (σ : zS) : LX11_readWord_10 E l0 σ =
  (chk (zkd σ l0 = 9) <|
  bnI (E mX11_here [.inr (.inl (some l0))] σ) fun v2 s1 =>
  bnI (E mX11_in [.inl v2, .inl 97, .inl 122] s1) fun v4 s3 =>
  if (v4 : Int32) = 0 then
    some (none, s3)
  else
    chk (zkd s3 l0 = 9) <|
    chk (zkd s3 l0 = 9) <|
    if (((zi s3 603 l0) - (zi s3 604 l0)) : Int32) ≤ 11 then
      chk (zkd s3 l0 = 9) <|
      chk (zkd s3 l0 = 9) <|
      bnI (E mX11_here [.inr (.inl (some l0))] s3) fun v6 s5 =>
      chk (zkd s5 l0 = 9) <| zlt (zsl s5 606 l0 ((((27 * (zl s3 606 l0)) + (Int32.toInt64 v6)) - 97) + 1)) fun s7 =>
      chk (zkd s7 l0 = 9) <|
      chk (zkd s7 l0 = 9) <| zlt (zsi s7 603 l0 ((zi s7 603 l0) + 1)) fun s8 =>
      LX11_readWord_10 E l0 s8
    else
      chk (zkd s3 l0 = 9) <| zlt (zsl s3 606 l0 (-1)) fun s9 =>
      chk (zkd s9 l0 = 9) <|
      chk (zkd s9 l0 = 9) <| zlt (zsi s9 603 l0 ((zi s9 603 l0) + 1)) fun s10 =>
      LX11_readWord_10 E l0 s10) :=
  (zun_at (fun pc => (oX11_readWord pc).1) E (fun q => Nat.beq q 10) 44 10 (0, 0) [.inr (.inl (some l0))] [] σ).trans rfl
noncomputable def fX11_readWord (E : zE) (p0 : Nat) (σ : zS) : zO :=
  chk (zkd σ p0 = 9) <| zlt (zsi σ 605 p0 1) fun s1 =>
  chk (zkd s1 p0 = 9) <| zlt (zsl s1 606 p0 0) fun s2 =>
  LX11_readWord_10 E p0 s2
set_option maxRecDepth 20000 in
theorem eX11_readWord (E : zE) (p0 : Nat) (σ : zS) : zM tX11_readWord 1 (0, 0) E [.inr (.inl (some p0))] σ = fX11_readWord E p0 σ :=
  (zun_at (fun pc => (oX11_readWord pc).1) E (fun q => Nat.beq q 10) 44 0 (0, 0) (zls0 [.inr (.inl (some p0))] 1) [] σ).trans rfl
noncomputable def LX11_readDigits_5 (E : zE) (l0 : Nat) (σ : zS) : zO := zF tX11_readDigits E 5 (0, 0) [.inr (.inl (some l0)), .inr (.inr 0)] [] σ
set_option maxRecDepth 20000 in
theorem uX11_readDigits_5 (E : zE) (l0 : Nat) (σ : zS) : LX11_readDigits_5 E l0 σ =
  (chk (zkd σ l0 = 9) <|
  bnI (E mX11_here [.inr (.inl (some l0))] σ) fun v2 s1 =>
  bnI (E mX11_in [.inl v2, .inl 48, .inl 57] s1) fun v4 s3 =>
  if (v4 : Int32) = 0 then
    chk (zkd s3 l0 = 9) <|
    chk (zkd s3 l0 = 9) <|
    zlt (α := Int32) ((zi s3 603 l0) - (zi s3 604 l0)) fun v5 =>
    if (v5 : Int32) = 1 then
      chk (zkd s3 l0 = 9) <| zlt (zsi s3 605 l0 2) fun s6 =>
      some (none, s6)
    else
      if (v5 : Int32) < 4 then
        chk (zkd s3 l0 = 9) <|
        chk (zkd s3 l0 = 9) <|
        onR (zr s3 582 l0) fun a7 =>
        chk (zkd s3 a7 = 11 ∧ zin (zi s3 604 l0) (zln s3 a7)) <|
        if ((zai s3 a7 (Int32.toNatClampNeg (zi s3 604 l0))) : Int32) = 48 then
          chk (zkd s3 l0 = 9) <| zlt (zsi s3 605 l0 5) fun s8 =>
          some (none, s8)
        else
          chk (zkd s3 l0 = 9) <| zlt (zsi s3 605 l0 2) fun s9 =>
          some (none, s9)
      else
        chk (zkd s3 l0 = 9) <| zlt (zsi s3 605 l0 5) fun s10 =>
        some (none, s10)
  else
    chk (zkd s3 l0 = 9) <|
    if ((zi s3 607 l0) : Int32) ≤ 999 then
      chk (zkd s3 l0 = 9) <|
      chk (zkd s3 l0 = 9) <|
      bnI (E mX11_here [.inr (.inl (some l0))] s3) fun v12 s11 =>
      chk (zkd s11 l0 = 9) <| zlt (zsi s11 607 l0 (((10 * (zi s3 607 l0)) + v12) - 48)) fun s13 =>
      chk (zkd s13 l0 = 9) <|
      chk (zkd s13 l0 = 9) <| zlt (zsi s13 603 l0 ((zi s13 603 l0) + 1)) fun s14 =>
      LX11_readDigits_5 E l0 s14
    else
      chk (zkd s3 l0 = 9) <|
      chk (zkd s3 l0 = 9) <| zlt (zsi s3 607 l0 (zi s3 607 l0)) fun s15 =>
      chk (zkd s15 l0 = 9) <|
      chk (zkd s15 l0 = 9) <| zlt (zsi s15 603 l0 ((zi s15 603 l0) + 1)) fun s16 =>
      LX11_readDigits_5 E l0 s16) :=
  (zun_at (fun pc => (oX11_readDigits pc).1) E (fun q => Nat.beq q 5) 60 5 (0, 0) [.inr (.inl (some l0)), .inr (.inr 0)] [] σ).trans rfl
noncomputable def fX11_readDigits (E : zE) (p0 : Nat) (σ : zS) : zO :=
  chk (zkd σ p0 = 9) <| zlt (zsi σ 607 p0 0) fun s1 =>
  LX11_readDigits_5 E p0 s1
set_option maxRecDepth 20000 in
theorem eX11_readDigits (E : zE) (p0 : Nat) (σ : zS) : zM tX11_readDigits 2 (0, 0) E [.inr (.inl (some p0))] σ = fX11_readDigits E p0 σ :=
  (zun_at (fun pc => (oX11_readDigits pc).1) E (fun q => Nat.beq q 5) 60 0 (0, 0) (zls0 [.inr (.inl (some p0))] 2) [] σ).trans rfl
noncomputable def LX11_advance_0 (E : zE) (l0 : Nat) (σ : zS) : zO := zF tX11_advance E 0 (0, 0) [.inr (.inl (some l0)), .inr (.inr 0)] [] σ
set_option maxRecDepth 20000 in
theorem uX11_advance_0 (E : zE) (l0 : Nat) (σ : zS) : LX11_advance_0 E l0 σ =
  (chk (zkd σ l0 = 9) <|
  bnI (E mX11_here [.inr (.inl (some l0))] σ) fun v2 s1 =>
  if (v2 : Int32) = 32 then
    chk (zkd s1 l0 = 9) <|
    chk (zkd s1 l0 = 9) <| zlt (zsi s1 603 l0 ((zi s1 603 l0) + 1)) fun s3 =>
    LX11_advance_0 E l0 s3
  else
    chk (zkd s1 l0 = 9) <|
    chk (zkd s1 l0 = 9) <| zlt (zsi s1 604 l0 (zi s1 603 l0)) fun s4 =>
    chk (zkd s4 l0 = 9) <|
    bnI (E mX11_here [.inr (.inl (some l0))] s4) fun v6 s5 =>
    zlt (α := Int32) v6 fun v7 =>
    if (v7 : Int32) < 0 then
      chk (zkd s5 l0 = 9) <| zlt (zsi s5 605 l0 0) fun s8 =>
      some (none, s8)
    else
      bnI (E mX11_in [.inl v7, .inl 97, .inl 122] s5) fun v10 s9 =>
      if (v10 : Int32) = 0 then
        bnI (E mX11_in [.inl v7, .inl 48, .inl 57] s9) fun v12 s11 =>
        if (v12 : Int32) = 0 then
          if (v7 : Int32) = 45 then
            chk (zkd s11 l0 = 9) <| zlt (zsi s11 605 l0 3) fun s13 =>
            chk (zkd s13 l0 = 9) <|
            chk (zkd s13 l0 = 9) <| zlt (zsi s13 603 l0 ((zi s13 603 l0) + 1)) fun s14 =>
            some (none, s14)
          else
            if (v7 : Int32) = 59 then
              chk (zkd s11 l0 = 9) <| zlt (zsi s11 605 l0 4) fun s15 =>
              chk (zkd s15 l0 = 9) <|
              chk (zkd s15 l0 = 9) <| zlt (zsi s15 603 l0 ((zi s15 603 l0) + 1)) fun s16 =>
              some (none, s16)
            else
              chk (zkd s11 l0 = 9) <| zlt (zsi s11 605 l0 5) fun s17 =>
              chk (zkd s17 l0 = 9) <|
              chk (zkd s17 l0 = 9) <| zlt (zsi s17 603 l0 ((zi s17 603 l0) + 1)) fun s18 =>
              some (none, s18)
        else
          chk (zkd s11 l0 = 9) <|
          bnV (E mX11_readDigits [.inr (.inl (some l0))] s11) fun s19 =>
          some (none, s19)
      else
        chk (zkd s9 l0 = 9) <|
        bnV (E mX11_readWord [.inr (.inl (some l0))] s9) fun s20 =>
        some (none, s20)) :=
  (zun_at (fun pc => (oX11_advance pc).1) E (fun q => Nat.beq q 0) 61 0 (0, 0) [.inr (.inl (some l0)), .inr (.inr 0)] [] σ).trans rfl
noncomputable def fX11_advance (E : zE) (p0 : Nat) (σ : zS) : zO :=
  LX11_advance_0 E p0 σ
theorem eX11_advance (E : zE) (p0 : Nat) (σ : zS) : zM tX11_advance 2 (0, 0) E [.inr (.inl (some p0))] σ = fX11_advance E p0 σ := rfl
noncomputable def fX11_isFine (E : zE) (p0 : Nat) (σ : zS) : zO :=
  chk (zkd σ p0 = 9) <|
  if ((zi σ 608 p0) : Int32) = (-1009) then
    chk (zB 1) (some (some (.inl 1), σ))
  else
    chk (zB 0) (some (some (.inl 0), σ))
set_option maxRecDepth 20000 in
theorem eX11_isFine (E : zE) (p0 : Nat) (σ : zS) : zM tX11_isFine 1 (0, 0) E [.inr (.inl (some p0))] σ = fX11_isFine E p0 σ :=
  (zun_at (fun pc => (oX11_isFine pc).1) E (fun _ => false) 9 0 (0, 0) (zls0 [.inr (.inl (some p0))] 1) [] σ).trans rfl
noncomputable def fX11_take (E : zE) (p0 : Nat) (p1 : Int32) (σ : zS) : zO :=
  chk (zkd σ p0 = 9) <|
  bnI (E mX11_isFine [.inr (.inl (some p0))] σ) fun v2 s1 =>
  if (v2 : Int32) = 0 then
    chk (zkd s1 p0 = 9) <|
    bnI (E mX11_isFine [.inr (.inl (some p0))] s1) fun v4 s3 =>
    if (v4 : Int32) = 0 then
      some (none, s3)
    else
      chk (zkd s3 p0 = 9) <|
      bnV (E mX11_advance [.inr (.inl (some p0))] s3) fun s5 =>
      some (none, s5)
  else
    if (p1 : Int32) = 0 then
      chk (zkd s1 p0 = 9) <|
      chk (zkd s1 p0 = 9) <| zlt (zsi s1 608 p0 (zi s1 604 p0)) fun s6 =>
      chk (zkd s6 p0 = 9) <|
      bnI (E mX11_isFine [.inr (.inl (some p0))] s6) fun v8 s7 =>
      if (v8 : Int32) = 0 then
        some (none, s7)
      else
        chk (zkd s7 p0 = 9) <|
        bnV (E mX11_advance [.inr (.inl (some p0))] s7) fun s9 =>
        some (none, s9)
    else
      chk (zkd s1 p0 = 9) <|
      bnI (E mX11_isFine [.inr (.inl (some p0))] s1) fun v11 s10 =>
      if (v11 : Int32) = 0 then
        some (none, s10)
      else
        chk (zkd s10 p0 = 9) <|
        bnV (E mX11_advance [.inr (.inl (some p0))] s10) fun s12 =>
        some (none, s12)
set_option maxRecDepth 20000 in
theorem eX11_take (E : zE) (p0 : Nat) (p1 : Int32) (σ : zS) : zM tX11_take 2 (0, 0) E [.inr (.inl (some p0)), .inl p1] σ = fX11_take E p0 p1 σ :=
  (zun_at (fun pc => (oX11_take pc).1) E (fun _ => false) 16 0 (0, 0) (zls0 [.inr (.inl (some p0)), .inl p1] 2) [] σ).trans rfl
noncomputable def fX11_kindOf (E : zE) (p0 : Nat) (σ : zS) : zO :=
  chk (zkd σ p0 = 9) <|
  if ((lg_cmp (zl σ 606 p0) 175281103) : Int32) = 0 then
    some (some (.inl 0), σ)
  else
    chk (zkd σ p0 = 9) <|
    if ((lg_cmp (zl σ 606 p0) 20431907448697) : Int32) = 0 then
      some (some (.inl 1), σ)
    else
      chk (zkd σ p0 = 9) <|
      if ((lg_cmp (zl σ 606 p0) 37404236018) : Int32) = 0 then
        some (some (.inl 2), σ)
      else
        chk (zkd σ p0 = 9) <|
        if ((lg_cmp (zl σ 606 p0) 4683428867939) : Int32) = 0 then
          some (some (.inl 3), σ)
        else
          chk (zkd σ p0 = 9) <|
          if ((lg_cmp (zl σ 606 p0) 137017514) : Int32) = 0 then
            some (some (.inl 4), σ)
          else
            chk (zkd σ p0 = 9) <|
            if ((lg_cmp (zl σ 606 p0) 5739329134687) : Int32) = 0 then
              some (some (.inl 5), σ)
            else
              chk (zkd σ p0 = 9) <|
              if ((lg_cmp (zl σ 606 p0) 48699) : Int32) = 0 then
                some (some (.inl 6), σ)
              else
                chk (zkd σ p0 = 9) <|
                if ((lg_cmp (zl σ 606 p0) 189278330) : Int32) = 0 then
                  some (some (.inl 7), σ)
                else
                  chk (zkd σ p0 = 9) <|
                  if ((lg_cmp (zl σ 606 p0) 62416067) : Int32) = 0 then
                    some (some (.inl 8), σ)
                  else
                    chk (zkd σ p0 = 9) <|
                    if ((lg_cmp (zl σ 606 p0) 3022547) : Int32) = 0 then
                      some (some (.inl 9), σ)
                    else
                      chk (zkd σ p0 = 9) <|
                      if ((lg_cmp (zl σ 606 p0) 7476678095) : Int32) = 0 then
                        some (some (.inl 10), σ)
                      else
                        chk (zkd σ p0 = 9) <|
                        if ((lg_cmp (zl σ 606 p0) 218554355) : Int32) = 0 then
                          some (some (.inl 11), σ)
                        else
                          chk (zkd σ p0 = 9) <|
                          if ((lg_cmp (zl σ 606 p0) 124995) : Int32) = 0 then
                            some (some (.inl 12), σ)
                          else
                            chk (zkd σ p0 = 9) <|
                            if ((lg_cmp (zl σ 606 p0) 7657646453) : Int32) = 0 then
                              some (some (.inl 13), σ)
                            else
                              some (some (.inl (-1009)), σ)
set_option maxRecDepth 20000 in
theorem eX11_kindOf (E : zE) (p0 : Nat) (σ : zS) : zM tX11_kindOf 1 (0, 0) E [.inr (.inl (some p0))] σ = fX11_kindOf E p0 σ :=
  (zun_at (fun pc => (oX11_kindOf pc).1) E (fun _ => false) 101 0 (0, 0) (zls0 [.inr (.inl (some p0))] 1) [] σ).trans rfl
noncomputable def fX11_modeOf (E : zE) (p0 : Nat) (σ : zS) : zO :=
  chk (zkd σ p0 = 9) <|
  if ((lg_cmp (zl σ 606 p0) 209220123) : Int32) = 0 then
    some (some (.inl 0), σ)
  else
    chk (zkd σ p0 = 9) <|
    if ((lg_cmp (zl σ 606 p0) 144303426772) : Int32) = 0 then
      some (some (.inl 1), σ)
    else
      chk (zkd σ p0 = 9) <|
      if ((lg_cmp (zl σ 606 p0) 274581644) : Int32) = 0 then
        some (some (.inl 2), σ)
      else
        chk (zkd σ p0 = 9) <|
        if ((lg_cmp (zl σ 606 p0) 4782078311) : Int32) = 0 then
          some (some (.inl 3), σ)
        else
          chk (zkd σ p0 = 9) <|
          if ((lg_cmp (zl σ 606 p0) 58289531) : Int32) = 0 then
            some (some (.inl 4), σ)
          else
            chk (zkd σ p0 = 9) <|
            if ((lg_cmp (zl σ 606 p0) 33109423829609) : Int32) = 0 then
              some (some (.inl 5), σ)
            else
              chk (zkd σ p0 = 9) <|
              if ((lg_cmp (zl σ 606 p0) 841) : Int32) = 0 then
                some (some (.inl 6), σ)
              else
                chk (zkd σ p0 = 9) <|
                if ((lg_cmp (zl σ 606 p0) 206922222884) : Int32) = 0 then
                  some (some (.inl 7), σ)
                else
                  some (some (.inl (-1009)), σ)
set_option maxRecDepth 20000 in
theorem eX11_modeOf (E : zE) (p0 : Nat) (σ : zS) : zM tX11_modeOf 1 (0, 0) E [.inr (.inl (some p0))] σ = fX11_modeOf E p0 σ :=
  (zun_at (fun pc => (oX11_modeOf pc).1) E (fun _ => false) 59 0 (0, 0) (zls0 [.inr (.inl (some p0))] 1) [] σ).trans rfl
noncomputable def LX11_readNumber_20 (E : zE) (l0 : Nat) (l1 : Int32) (l2 : Int32) (k0 : Int32) (σ : zS) : zO := zF tX11_readNumber E 20 (0, 0) [.inr (.inl (some l0)), .inl l1, .inl l2, .inr (.inr 0), .inr (.inr 0)] [.inl k0] σ
noncomputable def LX11_readNumber_35 (E : zE) (l0 : Nat) (l1 : Int32) (l2 : Int32) (l3 : Int32) (k0 : Option Nat) (k1 : Int32) (σ : zS) : zO := zF tX11_readNumber E 35 (0, 0) [.inr (.inl (some l0)), .inl l1, .inl l2, .inl l3, .inr (.inr 0)] [.inl k1, .inr (.inl k0)] σ
noncomputable def LX11_readNumber_54 (E : zE) (l0 : Nat) (l1 : Int32) (l2 : Int32) (l3 : Int32) (k0 : Int32) (σ : zS) : zO := zF tX11_readNumber E 54 (0, 0) [.inr (.inl (some l0)), .inl l1, .inl l2, .inl l3, .inr (.inr 0)] [.inl k0] σ
noncomputable def LX11_readNumber_81 (E : zE) (l0 : Nat) (l1 : Int32) (l2 : Int32) (l3 : zV) (l4 : Int32) (k0 : Option Nat) (k1 : Int32) (σ : zS) : zO := zF tX11_readNumber E 81 (0, 0) [.inr (.inl (some l0)), .inl l1, .inl l2, l3, .inl l4] [.inl k1, .inr (.inl k0)] σ
set_option maxRecDepth 20000 in
theorem uX11_readNumber_20 (E : zE) (l0 : Nat) (l1 : Int32) (l2 : Int32) (k0 : Int32) (σ : zS) : LX11_readNumber_20 E l0 l1 l2 k0 σ =
  (zlt (α := Int32) k0 fun v1 =>
  if (v1 : Int32) = 0 then
    if (v1 : Int32) = 0 then
      chk (zkd σ l0 = 9) <|
      LX11_readNumber_54 E l0 l1 l2 v1 (zi σ 607 l0) σ
    else
      chk (zkd σ l0 = 9) <|
      LX11_readNumber_54 E l0 l1 l2 v1 (-(zi σ 607 l0)) σ
  else
    if (l1 : Int32) < 0 then
      LX11_readNumber_35 E l0 l1 l2 v1 (some l0) 1 σ
    else
      LX11_readNumber_35 E l0 l1 l2 v1 (some l0) 0 σ) :=
  (zun_at (fun pc => (oX11_readNumber pc).1) E (fun q => Nat.beq q 20 || Nat.beq q 35 || Nat.beq q 54 || Nat.beq q 81) 53 20 (0, 0) [.inr (.inl (some l0)), .inl l1, .inl l2, .inr (.inr 0), .inr (.inr 0)] [.inl k0] σ).trans rfl
set_option maxRecDepth 20000 in
theorem uX11_readNumber_35 (E : zE) (l0 : Nat) (l1 : Int32) (l2 : Int32) (l3 : Int32) (k0 : Option Nat) (k1 : Int32) (σ : zS) : LX11_readNumber_35 E l0 l1 l2 l3 k0 k1 σ =
  (onR k0 fun a1 =>
  chk (zkd σ a1 = 9) <|
  bnV (E mX11_take [.inr (.inl k0), .inl k1] σ) fun s2 =>
  if (l3 : Int32) = 0 then
    chk (zkd s2 l0 = 9) <|
    LX11_readNumber_54 E l0 l1 l2 l3 (zi s2 607 l0) s2
  else
    chk (zkd s2 l0 = 9) <|
    LX11_readNumber_54 E l0 l1 l2 l3 (-(zi s2 607 l0)) s2) :=
  (zun_at (fun pc => (oX11_readNumber pc).1) E (fun q => Nat.beq q 20 || Nat.beq q 35 || Nat.beq q 54 || Nat.beq q 81) 53 35 (0, 0) [.inr (.inl (some l0)), .inl l1, .inl l2, .inl l3, .inr (.inr 0)] [.inl k1, .inr (.inl k0)] σ).trans rfl
set_option maxRecDepth 20000 in
theorem uX11_readNumber_54 (E : zE) (l0 : Nat) (l1 : Int32) (l2 : Int32) (l3 : Int32) (k0 : Int32) (σ : zS) : LX11_readNumber_54 E l0 l1 l2 l3 k0 σ =
  (zlt (α := Int32) k0 fun v1 =>
  chk (zkd σ l0 = 9) <|
  if ((zi σ 605 l0) : Int32) = 2 then
    if (l3 : Int32) = 0 then
      chk (zkd σ l0 = 9) <|
      LX11_readNumber_81 E l0 l1 l2 (.inl l3) v1 (some l0) (zi σ 607 l0) σ
    else
      chk (zkd σ l0 = 9) <|
      LX11_readNumber_81 E l0 l1 l2 (.inl l3) v1 (some l0) (-(zi σ 607 l0)) σ
  else
    chk (zkd σ l0 = 9) <|
    bnV (E mX11_take [.inr (.inl (some l0)), .inl 0] σ) fun s2 =>
    some (some (.inl v1), s2)) :=
  (zun_at (fun pc => (oX11_readNumber pc).1) E (fun q => Nat.beq q 20 || Nat.beq q 35 || Nat.beq q 54 || Nat.beq q 81) 53 54 (0, 0) [.inr (.inl (some l0)), .inl l1, .inl l2, .inl l3, .inr (.inr 0)] [.inl k0] σ).trans rfl
set_option maxRecDepth 20000 in
theorem uX11_readNumber_81 (E : zE) (l0 : Nat) (l1 : Int32) (l2 : Int32) (l3 : zV) (l4 : Int32) (k0 : Option Nat) (k1 : Int32) (σ : zS) : LX11_readNumber_81 E l0 l1 l2 l3 l4 k0 k1 σ =
  (bnI (E mX11_in [.inl k1, .inl l1, .inl l2] σ) fun v2 s1 =>
  if (v2 : Int32) = 0 then
    onR k0 fun a3 =>
    chk (zkd s1 a3 = 9) <|
    bnV (E mX11_take [.inr (.inl k0), .inl 0] s1) fun s4 =>
    some (some (.inl l4), s4)
  else
    onR k0 fun a5 =>
    chk (zkd s1 a5 = 9) <|
    bnV (E mX11_take [.inr (.inl k0), .inl 1] s1) fun s6 =>
    some (some (.inl l4), s6)) :=
  (zun_at (fun pc => (oX11_readNumber pc).1) E (fun q => Nat.beq q 20 || Nat.beq q 35 || Nat.beq q 54 || Nat.beq q 81) 53 81 (0, 0) [.inr (.inl (some l0)), .inl l1, .inl l2, l3, .inl l4] [.inl k1, .inr (.inl k0)] σ).trans rfl
noncomputable def fX11_readNumber (E : zE) (p0 : Nat) (p1 : Int32) (p2 : Int32) (σ : zS) : zO :=
  chk (zkd σ p0 = 9) <|
  bnI (E mX11_isFine [.inr (.inl (some p0))] σ) fun v2 s1 =>
  if (v2 : Int32) = 0 then
    LX11_readNumber_20 E p0 p1 p2 0 s1
  else
    chk (zkd s1 p0 = 9) <|
    if ((zi s1 605 p0) : Int32) = 3 then
      LX11_readNumber_20 E p0 p1 p2 1 s1
    else
      LX11_readNumber_20 E p0 p1 p2 0 s1
set_option maxRecDepth 20000 in
theorem eX11_readNumber (E : zE) (p0 : Nat) (p1 : Int32) (p2 : Int32) (σ : zS) : zM tX11_readNumber 5 (0, 0) E [.inr (.inl (some p0)), .inl p1, .inl p2] σ = fX11_readNumber E p0 p1 p2 σ :=
  (zun_at (fun pc => (oX11_readNumber pc).1) E (fun q => Nat.beq q 20 || Nat.beq q 35 || Nat.beq q 54 || Nat.beq q 81) 53 0 (0, 0) (zls0 [.inr (.inl (some p0)), .inl p1, .inl p2] 5) [] σ).trans rfl
noncomputable def fX11_hasA (E : zE) (p0 : Int32) (σ : zS) : zO :=
  if (p0 : Int32) = 4 then
    chk (zB 0) (some (some (.inl 0), σ))
  else
    if (p0 : Int32) = 13 then
      chk (zB 0) (some (some (.inl 0), σ))
    else
      chk (zB 1) (some (some (.inl 1), σ))
set_option maxRecDepth 20000 in
theorem eX11_hasA (E : zE) (p0 : Int32) (σ : zS) : zM tX11_hasA 1 (0, 0) E [.inl p0] σ = fX11_hasA E p0 σ :=
  (zun_at (fun pc => (oX11_hasA pc).1) E (fun _ => false) 11 0 (0, 0) (zls0 [.inl p0] 1) [] σ).trans rfl
noncomputable def fX11_hasB (E : zE) (p0 : Int32) (σ : zS) : zO :=
  if (p0 : Int32) = 0 then
    chk (zB 1) (some (some (.inl 1), σ))
  else
    if (p0 : Int32) = 10 then
      chk (zB 1) (some (some (.inl 1), σ))
    else
      if (p0 : Int32) = 11 then
        chk (zB 1) (some (some (.inl 1), σ))
      else
        chk (zB 0) (some (some (.inl 0), σ))
set_option maxRecDepth 20000 in
theorem eX11_hasB (E : zE) (p0 : Int32) (σ : zS) : zM tX11_hasB 1 (0, 0) E [.inl p0] σ = fX11_hasB E p0 σ :=
  (zun_at (fun pc => (oX11_hasB pc).1) E (fun _ => false) 13 0 (0, 0) (zls0 [.inl p0] 1) [] σ).trans rfl
noncomputable def LX11_readOption_46 (E : zE) (l0 : Nat) (l1 : Int32) (σ : zS) : zO := zF tX11_readOption E 46 (0, 0) [.inr (.inl (some l0)), .inl l1, .inr (.inr 0)] [] σ
noncomputable def LX11_readOption_99 (E : zE) (l0 : Nat) (l1 : Int32) (l2 : Int32) (k0 : Option Nat) (σ : zS) : zO := zF tX11_readOption E 99 (0, 0) [.inr (.inl (some l0)), .inl l1, .inl l2] [.inr (.inl k0)] σ
noncomputable def LX11_readOption_115 (E : zE) (l0 : Nat) (l1 : Int32) (σ : zS) : zO := zF tX11_readOption E 115 (0, 0) [.inr (.inl (some l0)), .inl l1, .inr (.inr 0)] [] σ
noncomputable def LX11_readOption_139 (E : zE) (l0 : Nat) (l1 : Int32) (k0 : Option Nat) (k1 : Int32) (σ : zS) : zO := zF tX11_readOption E 139 (0, 0) [.inr (.inl (some l0)), .inl l1, .inr (.inr 0)] [.inl k1, .inr (.inl k0)] σ
set_option maxRecDepth 20000 in
theorem uX11_readOption_46 (E : zE) (l0 : Nat) (l1 : Int32) (σ : zS) : LX11_readOption_46 E l0 l1 σ =
  (chk (zkd σ l0 = 9) <|
  if ((lg_cmp (zl σ 606 l0) 266927) : Int32) = 0 then
    chk (zkd σ l0 = 9) <|
    if ((zi σ 612 l0) : Int32) = 0 then
      chk (zkd σ l0 = 9 ∧ zB 1) <| zlt (zsi σ 612 l0 1) fun s1 =>
      chk (zkd s1 l0 = 9) <|
      bnV (E mX11_take [.inr (.inl (some l0)), .inl 1] s1) fun s2 =>
      chk (zkd s2 l0 = 9) <|
      bnI (E mX11_modeOf [.inr (.inl (some l0))] s2) fun v4 s3 =>
      zlt (α := Int32) v4 fun v5 =>
      chk (zkd s3 l0 = 9) <|
      if ((zi s3 605 l0) : Int32) = 1 then
        if (v5 : Int32) = (-1009) then
          LX11_readOption_99 E l0 l1 v5 (some l0) s3
        else
          chk (zkd s3 l0 = 9) <|
          bnV (E mX11_take [.inr (.inl (some l0)), .inl 1] s3) fun s6 =>
          chk (zkd s6 l0 = 9) <|
          onR (zr s6 609 l0) fun a7 =>
          chk (zkd s6 a7 = 11 ∧ zin (l1 + 3) (zln s6 a7)) <| zlt (zsa s6 a7 (Int32.toNatClampNeg (l1 + 3)) v5) fun s8 =>
          some (none, s8)
      else
        LX11_readOption_99 E l0 l1 v5 (some l0) s3
    else
      LX11_readOption_115 E l0 l1 σ
  else
    LX11_readOption_115 E l0 l1 σ) :=
  (zun_at (fun pc => (oX11_readOption pc).1) E (fun q => Nat.beq q 46 || Nat.beq q 99 || Nat.beq q 115 || Nat.beq q 139) 87 46 (0, 0) [.inr (.inl (some l0)), .inl l1, .inr (.inr 0)] [] σ).trans rfl
set_option maxRecDepth 20000 in
theorem uX11_readOption_99 (E : zE) (l0 : Nat) (l1 : Int32) (l2 : Int32) (k0 : Option Nat) (σ : zS) : LX11_readOption_99 E l0 l1 l2 k0 σ =
  (onR k0 fun a1 =>
  chk (zkd σ a1 = 9) <|
  bnV (E mX11_take [.inr (.inl k0), .inl 0] σ) fun s2 =>
  chk (zkd s2 l0 = 9) <|
  onR (zr s2 609 l0) fun a3 =>
  chk (zkd s2 a3 = 11 ∧ zin (l1 + 3) (zln s2 a3)) <| zlt (zsa s2 a3 (Int32.toNatClampNeg (l1 + 3)) l2) fun s4 =>
  some (none, s4)) :=
  (zun_at (fun pc => (oX11_readOption pc).1) E (fun q => Nat.beq q 46 || Nat.beq q 99 || Nat.beq q 115 || Nat.beq q 139) 87 99 (0, 0) [.inr (.inl (some l0)), .inl l1, .inl l2] [.inr (.inl k0)] σ).trans rfl
set_option maxRecDepth 20000 in
theorem uX11_readOption_115 (E : zE) (l0 : Nat) (l1 : Int32) (σ : zS) : LX11_readOption_115 E l0 l1 σ =
  (chk (zkd σ l0 = 9) <|
  if ((lg_cmp (zl σ 606 l0) 11103) : Int32) = 0 then
    chk (zkd σ l0 = 9) <|
    if ((zi σ 613 l0) : Int32) = 0 then
      LX11_readOption_139 E l0 l1 (some l0) 1 σ
    else
      LX11_readOption_139 E l0 l1 (some l0) 0 σ
  else
    LX11_readOption_139 E l0 l1 (some l0) 0 σ) :=
  (zun_at (fun pc => (oX11_readOption pc).1) E (fun q => Nat.beq q 46 || Nat.beq q 99 || Nat.beq q 115 || Nat.beq q 139) 87 115 (0, 0) [.inr (.inl (some l0)), .inl l1, .inr (.inr 0)] [] σ).trans rfl
set_option maxRecDepth 20000 in
theorem uX11_readOption_139 (E : zE) (l0 : Nat) (l1 : Int32) (k0 : Option Nat) (k1 : Int32) (σ : zS) : LX11_readOption_139 E l0 l1 k0 k1 σ =
  (onR k0 fun a1 =>
  chk (zkd σ a1 = 9) <|
  bnV (E mX11_take [.inr (.inl k0), .inl k1] σ) fun s2 =>
  chk (zkd s2 l0 = 9 ∧ zB 1) <| zlt (zsi s2 613 l0 1) fun s3 =>
  chk (zkd s3 l0 = 9) <|
  onR (zr s3 609 l0) fun a4 =>
  chk (zkd s3 a4 = 11 ∧ zin (l1 + 5) (zln s3 a4)) <| zlt (zsa s3 a4 (Int32.toNatClampNeg (l1 + 5)) 0) fun s5 =>
  some (none, s5)) :=
  (zun_at (fun pc => (oX11_readOption pc).1) E (fun q => Nat.beq q 46 || Nat.beq q 99 || Nat.beq q 115 || Nat.beq q 139) 87 139 (0, 0) [.inr (.inl (some l0)), .inl l1, .inr (.inr 0)] [.inl k1, .inr (.inl k0)] σ).trans rfl
noncomputable def fX11_readOption (E : zE) (p0 : Nat) (p1 : Int32) (σ : zS) : zO :=
  chk (zkd σ p0 = 9) <|
  if ((lg_cmp (zl σ 606 p0) 6041487463) : Int32) = 0 then
    chk (zkd σ p0 = 9) <|
    if ((zi σ 611 p0) : Int32) = 0 then
      chk (zkd σ p0 = 9 ∧ zB 1) <| zlt (zsi σ 611 p0 1) fun s1 =>
      chk (zkd s1 p0 = 9) <|
      bnV (E mX11_take [.inr (.inl (some p0)), .inl 1] s1) fun s2 =>
      chk (zkd s2 p0 = 9) <|
      chk (zkd s2 p0 = 9) <|
      bnI (E mX11_readNumber [.inr (.inl (some p0)), .inl 0, .inl 100] s2) fun v4 s3 =>
      onR (zr s2 609 p0) fun a5 =>
      chk (zkd s3 a5 = 11 ∧ zin (p1 + 4) (zln s3 a5)) <| zlt (zsa s3 a5 (Int32.toNatClampNeg (p1 + 4)) v4) fun s6 =>
      some (none, s6)
    else
      LX11_readOption_46 E p0 p1 σ
  else
    LX11_readOption_46 E p0 p1 σ
set_option maxRecDepth 20000 in
theorem eX11_readOption (E : zE) (p0 : Nat) (p1 : Int32) (σ : zS) : zM tX11_readOption 3 (0, 0) E [.inr (.inl (some p0)), .inl p1] σ = fX11_readOption E p0 p1 σ :=
  (zun_at (fun pc => (oX11_readOption pc).1) E (fun q => Nat.beq q 46 || Nat.beq q 99 || Nat.beq q 115 || Nat.beq q 139) 87 0 (0, 0) (zls0 [.inr (.inl (some p0)), .inl p1] 3) [] σ).trans rfl
noncomputable def LX11_readLayer_35 (E : zE) (l0 : Nat) (l1 : Int32) (k0 : Option Nat) (k1 : Int32) (σ : zS) : zO := zF tX11_readLayer E 35 (0, 0) [.inr (.inl (some l0)), .inl l1, .inr (.inr 0), .inr (.inr 0), .inr (.inr 0)] [.inl k1, .inr (.inl k0)] σ
noncomputable def LX11_readLayer_77 (E : zE) (l0 : Nat) (l1 : Int32) (l2 : Int32) (k0 : Int32) (σ : zS) : zO := zF tX11_readLayer E 77 (0, 0) [.inr (.inl (some l0)), .inl l1, .inl l2, .inr (.inr 0), .inr (.inr 0)] [.inl k0] σ
noncomputable def LX11_readLayer_102 (E : zE) (l0 : Nat) (l1 : Int32) (l2 : Int32) (l3 : Int32) (k0 : Int32) (σ : zS) : zO := zF tX11_readLayer E 102 (0, 0) [.inr (.inl (some l0)), .inl l1, .inl l2, .inl l3, .inr (.inr 0)] [.inl k0] σ
noncomputable def LX11_readLayer_132 (E : zE) (l0 : Nat) (l1 : zV) (l2 : Int32) (l3 : zV) (l4 : zV) (σ : zS) : zO := zF tX11_readLayer E 132 (0, 0) [.inr (.inl (some l0)), l1, .inl l2, l3, l4] [] σ
noncomputable def LX11_readLayer_155 (E : zE) (l0 : Nat) (l1 : zV) (l2 : zV) (l3 : zV) (l4 : zV) (σ : zS) : zO := zF tX11_readLayer E 155 (0, 0) [.inr (.inl (some l0)), l1, l2, l3, l4] [] σ
set_option maxRecDepth 20000 in
theorem uX11_readLayer_35 (E : zE) (l0 : Nat) (l1 : Int32) (k0 : Option Nat) (k1 : Int32) (σ : zS) : LX11_readLayer_35 E l0 l1 k0 k1 σ =
  (onR k0 fun a1 =>
  chk (zkd σ a1 = 9) <|
  bnV (E mX11_take [.inr (.inl k0), .inl k1] σ) fun s2 =>
  chk (zkd s2 l0 = 9) <|
  bnI (E mX11_isFine [.inr (.inl (some l0))] s2) fun v4 s3 =>
  if (v4 : Int32) = 0 then
    some (none, s3)
  else
    chk (zkd s3 l0 = 9) <|
    zlt (α := Int32) (32 * (zi s3 610 l0)) fun v5 =>
    bnI (E mX11_hasA [.inl l1] s3) fun v7 s6 =>
    if (v7 : Int32) = 0 then
      LX11_readLayer_77 E l0 l1 v5 0 s6
    else
      bnI (E mX11_leastA [.inl l1] s6) fun v9 s8 =>
      bnI (E mX11_mostA [.inl l1] s8) fun v11 s10 =>
      chk (zkd s10 l0 = 9) <|
      bnI (E mX11_readNumber [.inr (.inl (some l0)), .inl v9, .inl v11] s10) fun v13 s12 =>
      LX11_readLayer_77 E l0 l1 v5 v13 s12) :=
  (zun_at (fun pc => (oX11_readLayer pc).1) E (fun q => Nat.beq q 35 || Nat.beq q 77 || Nat.beq q 102 || Nat.beq q 132 || Nat.beq q 155) 98 35 (0, 0) [.inr (.inl (some l0)), .inl l1, .inr (.inr 0), .inr (.inr 0), .inr (.inr 0)] [.inl k1, .inr (.inl k0)] σ).trans rfl
set_option maxRecDepth 20000 in
theorem uX11_readLayer_77 (E : zE) (l0 : Nat) (l1 : Int32) (l2 : Int32) (k0 : Int32) (σ : zS) : LX11_readLayer_77 E l0 l1 l2 k0 σ =
  (zlt (α := Int32) k0 fun v1 =>
  bnI (E mX11_hasB [.inl l1] σ) fun v3 s2 =>
  if (v3 : Int32) = 0 then
    LX11_readLayer_102 E l0 l1 l2 v1 0 s2
  else
    bnI (E mX11_leastB [.inl l1, .inl v1] s2) fun v5 s4 =>
    bnI (E mX11_mostB [.inl l1] s4) fun v7 s6 =>
    chk (zkd s6 l0 = 9) <|
    bnI (E mX11_readNumber [.inr (.inl (some l0)), .inl v5, .inl v7] s6) fun v9 s8 =>
    LX11_readLayer_102 E l0 l1 l2 v1 v9 s8) :=
  (zun_at (fun pc => (oX11_readLayer pc).1) E (fun q => Nat.beq q 35 || Nat.beq q 77 || Nat.beq q 102 || Nat.beq q 132 || Nat.beq q 155) 98 77 (0, 0) [.inr (.inl (some l0)), .inl l1, .inl l2, .inr (.inr 0), .inr (.inr 0)] [.inl k0] σ).trans rfl
set_option maxRecDepth 20000 in
theorem uX11_readLayer_102 (E : zE) (l0 : Nat) (l1 : Int32) (l2 : Int32) (l3 : Int32) (k0 : Int32) (σ : zS) : LX11_readLayer_102 E l0 l1 l2 l3 k0 σ =
  (zlt (α := Int32) k0 fun v1 =>
  chk (zkd σ l0 = 9) <|
  chk (zkd σ l0 = 9) <|
  bnV (E mX11_layLayer [.inr (.inl (some l0)), .inr (.inl (zr σ 609 l0)), .inl l2, .inl l1, .inl l3, .inl v1] σ) fun s2 =>
  chk (zkd s2 l0 = 9 ∧ zB 0) <| zlt (zsi s2 611 l0 0) fun s3 =>
  chk (zkd s3 l0 = 9 ∧ zB 0) <| zlt (zsi s3 612 l0 0) fun s4 =>
  chk (zkd s4 l0 = 9 ∧ zB 0) <| zlt (zsi s4 613 l0 0) fun s5 =>
  LX11_readLayer_132 E l0 (.inl l1) l2 (.inl l3) (.inl v1) s5) :=
  (zun_at (fun pc => (oX11_readLayer pc).1) E (fun q => Nat.beq q 35 || Nat.beq q 77 || Nat.beq q 102 || Nat.beq q 132 || Nat.beq q 155) 98 102 (0, 0) [.inr (.inl (some l0)), .inl l1, .inl l2, .inl l3, .inr (.inr 0)] [.inl k0] σ).trans rfl
set_option maxRecDepth 20000 in
theorem uX11_readLayer_132 (E : zE) (l0 : Nat) (l1 : zV) (l2 : Int32) (l3 : zV) (l4 : zV) (σ : zS) : LX11_readLayer_132 E l0 l1 l2 l3 l4 σ =
  (chk (zkd σ l0 = 9) <|
  bnI (E mX11_isFine [.inr (.inl (some l0))] σ) fun v2 s1 =>
  if (v2 : Int32) = 0 then
    LX11_readLayer_155 E l0 (l1) (.inl l2) (l3) (l4) s1
  else
    chk (zkd s1 l0 = 9) <|
    if ((zi s1 605 l0) : Int32) = 1 then
      chk (zkd s1 l0 = 9) <|
      bnV (E mX11_readOption [.inr (.inl (some l0)), .inl l2] s1) fun s3 =>
      LX11_readLayer_132 E l0 (l1) l2 (l3) (l4) s3
    else
      LX11_readLayer_155 E l0 (l1) (.inl l2) (l3) (l4) s1) :=
  (zun_at (fun pc => (oX11_readLayer pc).1) E (fun q => Nat.beq q 35 || Nat.beq q 77 || Nat.beq q 102 || Nat.beq q 132 || Nat.beq q 155) 98 132 (0, 0) [.inr (.inl (some l0)), l1, .inl l2, l3, l4] [] σ).trans rfl
set_option maxRecDepth 20000 in
theorem uX11_readLayer_155 (E : zE) (l0 : Nat) (l1 : zV) (l2 : zV) (l3 : zV) (l4 : zV) (σ : zS) : LX11_readLayer_155 E l0 l1 l2 l3 l4 σ =
  (chk (zkd σ l0 = 9) <|
  if ((zi σ 605 l0) : Int32) = 4 then
    chk (zkd σ l0 = 9) <|
    bnV (E mX11_take [.inr (.inl (some l0)), .inl 1] σ) fun s1 =>
    chk (zkd s1 l0 = 9) <|
    chk (zkd s1 l0 = 9) <| zlt (zsi s1 610 l0 ((zi s1 610 l0) + 1)) fun s2 =>
    some (none, s2)
  else
    chk (zkd σ l0 = 9) <|
    bnV (E mX11_take [.inr (.inl (some l0)), .inl 0] σ) fun s3 =>
    chk (zkd s3 l0 = 9) <|
    chk (zkd s3 l0 = 9) <| zlt (zsi s3 610 l0 ((zi s3 610 l0) + 1)) fun s4 =>
    some (none, s4)) :=
  (zun_at (fun pc => (oX11_readLayer pc).1) E (fun q => Nat.beq q 35 || Nat.beq q 77 || Nat.beq q 102 || Nat.beq q 132 || Nat.beq q 155) 98 155 (0, 0) [.inr (.inl (some l0)), l1, l2, l3, l4] [] σ).trans rfl
noncomputable def fX11_readLayer (E : zE) (p0 : Nat) (σ : zS) : zO :=
  chk (zkd σ p0 = 9) <|
  bnI (E mX11_kindOf [.inr (.inl (some p0))] σ) fun v2 s1 =>
  zlt (α := Int32) v2 fun v3 =>
  chk (zkd s1 p0 = 9) <|
  if ((zi s1 605 p0) : Int32) = 1 then
    if (v3 : Int32) = (-1009) then
      LX11_readLayer_35 E p0 v3 (some p0) 0 s1
    else
      chk (zkd s1 p0 = 9) <|
      if ((zi s1 610 p0) : Int32) < 8 then
        LX11_readLayer_35 E p0 v3 (some p0) 1 s1
      else
        LX11_readLayer_35 E p0 v3 (some p0) 0 s1
  else
    LX11_readLayer_35 E p0 v3 (some p0) 0 s1
set_option maxRecDepth 20000 in
theorem eX11_readLayer (E : zE) (p0 : Nat) (σ : zS) : zM tX11_readLayer 5 (0, 0) E [.inr (.inl (some p0))] σ = fX11_readLayer E p0 σ :=
  (zun_at (fun pc => (oX11_readLayer pc).1) E (fun q => Nat.beq q 35 || Nat.beq q 77 || Nat.beq q 102 || Nat.beq q 132 || Nat.beq q 155) 98 0 (0, 0) (zls0 [.inr (.inl (some p0))] 5) [] σ).trans rfl
noncomputable def LX11_loadStack_26 (E : zE) (l0 : Nat) (σ : zS) : zO := zF tX11_loadStack E 26 (0, 0) [.inr (.inl (some l0)), .inr (.inr 0)] [] σ
noncomputable def LX11_loadStack_47 (E : zE) (l0 : Nat) (σ : zS) : zO := zF tX11_loadStack E 47 (0, 0) [.inr (.inl (some l0)), .inr (.inr 0)] [] σ
noncomputable def LX11_loadStack_68 (E : zE) (l0 : Nat) (l1 : Int32) (σ : zS) : zO := zF tX11_loadStack E 68 (0, 0) [.inr (.inl (some l0)), .inl l1] [] σ
set_option maxRecDepth 20000 in
theorem uX11_loadStack_26 (E : zE) (l0 : Nat) (σ : zS) : LX11_loadStack_26 E l0 σ =
  (chk (zkd σ l0 = 9) <|
  bnI (E mX11_isFine [.inr (.inl (some l0))] σ) fun v2 s1 =>
  if (v2 : Int32) = 0 then
    LX11_loadStack_47 E l0 s1
  else
    chk (zkd s1 l0 = 9) <|
    if ((zi s1 605 l0) : Int32) = 0 then
      LX11_loadStack_47 E l0 s1
    else
      chk (zkd s1 l0 = 9) <|
      bnV (E mX11_readLayer [.inr (.inl (some l0))] s1) fun s3 =>
      LX11_loadStack_26 E l0 s3) :=
  (zun_at (fun pc => (oX11_loadStack pc).1) E (fun q => Nat.beq q 26 || Nat.beq q 47 || Nat.beq q 68) 74 26 (0, 0) [.inr (.inl (some l0)), .inr (.inr 0)] [] σ).trans rfl
set_option maxRecDepth 20000 in
theorem uX11_loadStack_47 (E : zE) (l0 : Nat) (σ : zS) : LX11_loadStack_47 E l0 σ =
  (chk (zkd σ l0 = 9) <|
  bnI (E mX11_isFine [.inr (.inl (some l0))] σ) fun v2 s1 =>
  if (v2 : Int32) = 0 then
    chk (zkd s1 l0 = 9) <|
    some (some (.inl ((-10) - (zi s1 608 l0))), s1)
  else
    chk (zkd s1 l0 = 9) <|
    bnV (E mX11_keep [.inr (.inl (some l0))] s1) fun s3 =>
    zlt (α := Int32) 0 fun v4 =>
    LX11_loadStack_68 E l0 v4 s3) :=
  (zun_at (fun pc => (oX11_loadStack pc).1) E (fun q => Nat.beq q 26 || Nat.beq q 47 || Nat.beq q 68) 74 47 (0, 0) [.inr (.inl (some l0)), .inr (.inr 0)] [] σ).trans rfl
set_option maxRecDepth 20000 in
theorem uX11_loadStack_68 (E : zE) (l0 : Nat) (l1 : Int32) (σ : zS) : LX11_loadStack_68 E l0 l1 σ =
  (if (l1 : Int32) < 256 then
    chk (zkd σ l0 = 9) <|
    chk (zkd σ l0 = 9) <|
    if (l1 : Int32) < (32 * (zi σ 610 l0)) then
      chk (zkd σ l0 = 9) <|
      onR (zr σ 609 l0) fun a1 =>
      chk (zkd σ a1 = 11 ∧ zin l1 (zln σ a1)) <|
      onR (zr σ 577 l0) fun a2 =>
      chk (zkd σ a2 = 11 ∧ zin (259 + l1) (zln σ a2)) <| zlt (zsa σ a2 (Int32.toNatClampNeg (259 + l1)) (zai σ a1 (Int32.toNatClampNeg l1))) fun s3 =>
      zlt (α := Int32) (l1 + 1) fun v4 =>
      LX11_loadStack_68 E l0 v4 s3
    else
      onR (zr σ 577 l0) fun a5 =>
      chk (zkd σ a5 = 11 ∧ zin (259 + l1) (zln σ a5)) <| zlt (zsa σ a5 (Int32.toNatClampNeg (259 + l1)) 0) fun s6 =>
      zlt (α := Int32) (l1 + 1) fun v7 =>
      LX11_loadStack_68 E l0 v7 s6
  else
    chk (zkd σ l0 = 9) <|
    chk (zkd σ l0 = 9) <|
    onR (zr σ 577 l0) fun a8 =>
    chk (zkd σ a8 = 11 ∧ zin 258 (zln σ a8)) <| zlt (zsa σ a8 (Int32.toNatClampNeg 258) (zi σ 610 l0)) fun s9 =>
    chk (zkd s9 l0 = 9) <|
    bnI (E mX11_removeAll [.inr (.inl (some l0))] s9) fun v11 s10 =>
    chk (zkd s10 l0 = 9) <| zlt (zsi s10 583 l0 0) fun s12 =>
    chk (zkd s12 l0 = 9) <|
    some (some (.inl (zi s12 610 l0)), s12)) :=
  (zun_at (fun pc => (oX11_loadStack pc).1) E (fun q => Nat.beq q 26 || Nat.beq q 47 || Nat.beq q 68) 74 68 (0, 0) [.inr (.inl (some l0)), .inl l1] [] σ).trans rfl
noncomputable def fX11_loadStack (E : zE) (p0 : Nat) (σ : zS) : zO :=
  chk (zkd σ p0 = 9) <| zlt (zsi σ 576 p0 0) fun s1 =>
  chk (zkd s1 p0 = 9) <| zlt (zsi s1 603 p0 0) fun s2 =>
  chk (zkd s2 p0 = 9) <| zlt (zsi s2 608 p0 (-1009)) fun s3 =>
  chk (zkd s3 p0 = 9) <| zlt (zsi s3 610 p0 0) fun s4 =>
  chk (zkd s4 p0 = 9) <|
  bnV (E mX11_advance [.inr (.inl (some p0))] s4) fun s5 =>
  LX11_loadStack_26 E p0 s5
set_option maxRecDepth 20000 in
theorem eX11_loadStack (E : zE) (p0 : Nat) (σ : zS) : zM tX11_loadStack 2 (0, 0) E [.inr (.inl (some p0))] σ = fX11_loadStack E p0 σ :=
  (zun_at (fun pc => (oX11_loadStack pc).1) E (fun q => Nat.beq q 26 || Nat.beq q 47 || Nat.beq q 68) 74 0 (0, 0) (zls0 [.inr (.inl (some p0))] 2) [] σ).trans rfl
noncomputable def LX11_pixel_18 (E : zE) (l0 : Nat) (l1 : Int32) (l2 : Int32) (l3 : Int32) (σ : zS) : zO := zF tX11_pixel E 18 (0, 0) [.inr (.inl (some l0)), .inl l1, .inl l2, .inl l3, .inr (.inr 0)] [] σ
set_option maxRecDepth 20000 in
theorem uX11_pixel_18 (E : zE) (l0 : Nat) (l1 : Int32) (l2 : Int32) (l3 : Int32) (σ : zS) : LX11_pixel_18 E l0 l1 l2 l3 σ =
  (chk (zkd σ l0 = 9) <|
  bnI (E mX11_isPixel [.inr (.inl (some l0)), .inl l2, .inl l3] σ) fun v2 s1 =>
  if (v2 : Int32) = 0 then
    some (some (.inl (-1001)), s1)
  else
    if (l1 : Int32) < 0 then
      chk (zkd s1 l0 = 9) <|
      bnI (E mX11_compute [.inr (.inl (some l0)), .inl l1] s1) fun v4 s3 =>
      zlt (α := Int32) v4 fun v5 =>
      chk (zkd s3 l0 = 9) <|
      bnI (E mX11_inputAt [.inr (.inl (some l0)), .inl v5, .inl l2, .inl l3] s3) fun v7 s6 =>
      some (some (.inl v7), s6)
    else
      chk (zkd s1 l0 = 9) <|
      if ((zi s1 584 l0) : Int32) = 0 then none else
      chk (zkd s1 l0 = 9) <|
      if ((zi s1 584 l0) : Int32) = 0 then none else
      chk (zkd s1 l0 = 9) <|
      bnV (E mX11_request [.inr (.inl (some l0)), .inl l1, .inl ((8 * (l3 / (zi s1 584 l0))) + (l2 / (zi s1 584 l0)))] s1) fun s8 =>
      chk (zkd s8 l0 = 9) <|
      bnI (E mX11_trim [.inr (.inl (some l0))] s8) fun v10 s9 =>
      chk (zkd s9 l0 = 9) <|
      bnI (E mX11_compute [.inr (.inl (some l0)), .inl l1] s9) fun v12 s11 =>
      zlt (α := Int32) v12 fun v13 =>
      chk (zkd s11 l0 = 9) <|
      bnI (E mX11_inputAt [.inr (.inl (some l0)), .inl v13, .inl l2, .inl l3] s11) fun v15 s14 =>
      some (some (.inl v15), s14)) :=
  (zun_at (fun pc => (oX11_pixel pc).1) E (fun q => Nat.beq q 18) 47 18 (0, 0) [.inr (.inl (some l0)), .inl l1, .inl l2, .inl l3, .inr (.inr 0)] [] σ).trans rfl
noncomputable def fX11_pixel (E : zE) (p0 : Nat) (p1 : Int32) (p2 : Int32) (p3 : Int32) (σ : zS) : zO :=
  chk (zkd σ p0 = 9) <| zlt (zsi σ 576 p0 0) fun s1 =>
  if (p1 : Int32) = (-1) then
    LX11_pixel_18 E p0 p1 p2 p3 s1
  else
    chk (zkd s1 p0 = 9) <|
    bnI (E mX11_isLayer [.inr (.inl (some p0)), .inl p1] s1) fun v3 s2 =>
    if (v3 : Int32) = 0 then
      some (some (.inl (-1001)), s2)
    else
      LX11_pixel_18 E p0 p1 p2 p3 s2
set_option maxRecDepth 20000 in
theorem eX11_pixel (E : zE) (p0 : Nat) (p1 : Int32) (p2 : Int32) (p3 : Int32) (σ : zS) : zM tX11_pixel 5 (0, 0) E [.inr (.inl (some p0)), .inl p1, .inl p2, .inl p3] σ = fX11_pixel E p0 p1 p2 p3 σ :=
  (zun_at (fun pc => (oX11_pixel pc).1) E (fun q => Nat.beq q 18) 47 0 (0, 0) (zls0 [.inr (.inl (some p0)), .inl p1, .inl p2, .inl p3] 5) [] σ).trans rfl
noncomputable def LX11_prefetch_26 (E : zE) (l0 : Nat) (l1 : Int32) (l2 : Int32) (l3 : Int32) (l4 : zV) (σ : zS) : zO := zF tX11_prefetch E 26 (0, 0) [.inr (.inl (some l0)), .inl l1, .inl l2, .inl l3, l4] [] σ
noncomputable def LX11_prefetch_37 (E : zE) (l0 : Nat) (l1 : Int32) (l2 : Int32) (l3 : Int32) (l4 : Int32) (σ : zS) : zO := zF tX11_prefetch E 37 (0, 0) [.inr (.inl (some l0)), .inl l1, .inl l2, .inl l3, .inl l4] [] σ
set_option maxRecDepth 20000 in
theorem uX11_prefetch_26 (E : zE) (l0 : Nat) (l1 : Int32) (l2 : Int32) (l3 : Int32) (l4 : zV) (σ : zS) : LX11_prefetch_26 E l0 l1 l2 l3 l4 σ =
  (chk (zkd σ l0 = 9) <|
  bnI (E mX11_rows [.inr (.inl (some l0))] σ) fun v2 s1 =>
  if (l3 : Int32) < v2 then
    zlt (α := Int32) 0 fun v3 =>
    LX11_prefetch_37 E l0 l1 l2 l3 v3 s1
  else
    chk (zkd s1 l0 = 9) <|
    bnI (E mX11_trim [.inr (.inl (some l0))] s1) fun v5 s4 =>
    chk (zkd s4 l0 = 9) <|
    onR (zr s4 588 l0) fun a6 =>
    chk (zkd s4 a6 = 11 ∧ zin 0 (zln s4 a6)) <|
    some (some (.inl ((zai s4 a6 (Int32.toNatClampNeg 0)) - l2)), s4)) :=
  (zun_at (fun pc => (oX11_prefetch pc).1) E (fun q => Nat.beq q 26 || Nat.beq q 37) 49 26 (0, 0) [.inr (.inl (some l0)), .inl l1, .inl l2, .inl l3, l4] [] σ).trans rfl
set_option maxRecDepth 20000 in
theorem uX11_prefetch_37 (E : zE) (l0 : Nat) (l1 : Int32) (l2 : Int32) (l3 : Int32) (l4 : Int32) (σ : zS) : LX11_prefetch_37 E l0 l1 l2 l3 l4 σ =
  (chk (zkd σ l0 = 9) <|
  bnI (E mX11_columns [.inr (.inl (some l0))] σ) fun v2 s1 =>
  if (l4 : Int32) < v2 then
    chk (zkd s1 l0 = 9) <|
    bnV (E mX11_request [.inr (.inl (some l0)), .inl l1, .inl ((8 * l3) + l4)] s1) fun s3 =>
    zlt (α := Int32) (l4 + 1) fun v4 =>
    LX11_prefetch_37 E l0 l1 l2 l3 v4 s3
  else
    zlt (α := Int32) (l3 + 1) fun v5 =>
    LX11_prefetch_26 E l0 l1 l2 v5 (.inl l4) s1) :=
  (zun_at (fun pc => (oX11_prefetch pc).1) E (fun q => Nat.beq q 26 || Nat.beq q 37) 49 37 (0, 0) [.inr (.inl (some l0)), .inl l1, .inl l2, .inl l3, .inl l4] [] σ).trans rfl
noncomputable def fX11_prefetch (E : zE) (p0 : Nat) (p1 : Int32) (σ : zS) : zO :=
  chk (zkd σ p0 = 9) <| zlt (zsi σ 576 p0 0) fun s1 =>
  chk (zkd s1 p0 = 9) <|
  bnI (E mX11_isLayer [.inr (.inl (some p0)), .inl p1] s1) fun v3 s2 =>
  if (v3 : Int32) = 0 then
    some (some (.inl (-1001)), s2)
  else
    chk (zkd s2 p0 = 9) <|
    onR (zr s2 588 p0) fun a4 =>
    chk (zkd s2 a4 = 11 ∧ zin 0 (zln s2 a4)) <|
    zlt (α := Int32) (zai s2 a4 (Int32.toNatClampNeg 0)) fun v5 =>
    zlt (α := Int32) 0 fun v6 =>
    LX11_prefetch_26 E p0 p1 v5 v6 (.inr (.inr 0)) s2
set_option maxRecDepth 20000 in
theorem eX11_prefetch (E : zE) (p0 : Nat) (p1 : Int32) (σ : zS) : zM tX11_prefetch 5 (0, 0) E [.inr (.inl (some p0)), .inl p1] σ = fX11_prefetch E p0 p1 σ :=
  (zun_at (fun pc => (oX11_prefetch pc).1) E (fun q => Nat.beq q 26 || Nat.beq q 37) 49 0 (0, 0) (zls0 [.inr (.inl (some p0)), .inl p1] 5) [] σ).trans rfl
noncomputable def fX11_setCacheLimit (E : zE) (p0 : Nat) (p1 : Int32) (σ : zS) : zO :=
  chk (zkd σ p0 = 9) <| zlt (zsi σ 576 p0 0) fun s1 =>
  bnI (E mX11_in [.inl p1, .inl 1, .inl 64] s1) fun v3 s2 =>
  if (v3 : Int32) = 0 then
    some (some (.inl (-1001)), s2)
  else
    chk (zkd s2 p0 = 9) <| zlt (zsi s2 585 p0 p1) fun s4 =>
    chk (zkd s4 p0 = 9) <|
    bnI (E mX11_trim [.inr (.inl (some p0))] s4) fun v6 s5 =>
    some (some (.inl v6), s5)
set_option maxRecDepth 20000 in
theorem eX11_setCacheLimit (E : zE) (p0 : Nat) (p1 : Int32) (σ : zS) : zM tX11_setCacheLimit 2 (0, 0) E [.inr (.inl (some p0)), .inl p1] σ = fX11_setCacheLimit E p0 p1 σ :=
  (zun_at (fun pc => (oX11_setCacheLimit pc).1) E (fun _ => false) 17 0 (0, 0) (zls0 [.inr (.inl (some p0)), .inl p1] 2) [] σ).trans rfl
noncomputable def fX11_setTileSize (E : zE) (p0 : Nat) (p1 : Int32) (σ : zS) : zO :=
  chk (zkd σ p0 = 9) <| zlt (zsi σ 576 p0 0) fun s1 =>
  bnI (E mX11_in [.inl p1, .inl 2, .inl 8] s1) fun v3 s2 =>
  if (v3 : Int32) = 0 then
    some (some (.inl (-1001)), s2)
  else
    chk (zkd s2 p0 = 9) <| zlt (zsi s2 584 p0 p1) fun s4 =>
    chk (zkd s4 p0 = 9) <|
    bnI (E mX11_removeAll [.inr (.inl (some p0))] s4) fun v6 s5 =>
    some (some (.inl v6), s5)
set_option maxRecDepth 20000 in
theorem eX11_setTileSize (E : zE) (p0 : Nat) (p1 : Int32) (σ : zS) : zM tX11_setTileSize 2 (0, 0) E [.inr (.inl (some p0)), .inl p1] σ = fX11_setTileSize E p0 p1 σ :=
  (zun_at (fun pc => (oX11_setTileSize pc).1) E (fun _ => false) 17 0 (0, 0) (zls0 [.inr (.inl (some p0)), .inl p1] 2) [] σ).trans rfl
noncomputable def fX11_clearCache (E : zE) (p0 : Nat) (σ : zS) : zO :=
  chk (zkd σ p0 = 9) <| zlt (zsi σ 576 p0 0) fun s1 =>
  chk (zkd s1 p0 = 9) <|
  bnI (E mX11_removeAll [.inr (.inl (some p0))] s1) fun v3 s2 =>
  some (some (.inl v3), s2)
set_option maxRecDepth 20000 in
theorem eX11_clearCache (E : zE) (p0 : Nat) (σ : zS) : zM tX11_clearCache 1 (0, 0) E [.inr (.inl (some p0))] σ = fX11_clearCache E p0 σ :=
  (zun_at (fun pc => (oX11_clearCache pc).1) E (fun _ => false) 7 0 (0, 0) (zls0 [.inr (.inl (some p0))] 1) [] σ).trans rfl
noncomputable def fX11_isCached (E : zE) (p0 : Nat) (p1 : Int32) (p2 : Int32) (p3 : Int32) (σ : zS) : zO :=
  chk (zkd σ p0 = 9) <| zlt (zsi σ 576 p0 0) fun s1 =>
  chk (zkd s1 p0 = 9) <|
  bnI (E mX11_isLayer [.inr (.inl (some p0)), .inl p1] s1) fun v3 s2 =>
  if (v3 : Int32) = 0 then
    some (some (.inl (-1001)), s2)
  else
    chk (zkd s2 p0 = 9) <|
    bnI (E mX11_columns [.inr (.inl (some p0))] s2) fun v5 s4 =>
    bnI (E mX11_in [.inl p2, .inl 0, .inl (v5 - 1)] s4) fun v7 s6 =>
    if (v7 : Int32) = 0 then
      some (some (.inl (-1001)), s6)
    else
      chk (zkd s6 p0 = 9) <|
      bnI (E mX11_rows [.inr (.inl (some p0))] s6) fun v9 s8 =>
      bnI (E mX11_in [.inl p3, .inl 0, .inl (v9 - 1)] s8) fun v11 s10 =>
      if (v11 : Int32) = 0 then
        some (some (.inl (-1001)), s10)
      else
        chk (zkd s10 p0 = 9) <|
        onR (zr s10 586 p0) fun a12 =>
        chk (zkd s10 a12 = 11 ∧ zin (((64 * p1) + (8 * p3)) + p2) (zln s10 a12)) <|
        if ((zai s10 a12 (Int32.toNatClampNeg (((64 * p1) + (8 * p3)) + p2))) : Int32) ≤ 0 then
          some (some (.inl 0), s10)
        else
          some (some (.inl 1), s10)
set_option maxRecDepth 20000 in
theorem eX11_isCached (E : zE) (p0 : Nat) (p1 : Int32) (p2 : Int32) (p3 : Int32) (σ : zS) : zM tX11_isCached 4 (0, 0) E [.inr (.inl (some p0)), .inl p1, .inl p2, .inl p3] σ = fX11_isCached E p0 p1 p2 p3 σ :=
  (zun_at (fun pc => (oX11_isCached pc).1) E (fun _ => false) 43 0 (0, 0) (zls0 [.inr (.inl (some p0)), .inl p1, .inl p2, .inl p3] 4) [] σ).trans rfl
noncomputable def LX11_cachedTiles_21 (E : zE) (l0 : Nat) (l1 : Int32) (l2 : Int32) (l3 : Int32) (σ : zS) : zO := zF tX11_cachedTiles E 21 (0, 0) [.inr (.inl (some l0)), .inl l1, .inl l2, .inl l3] [] σ
set_option maxRecDepth 20000 in
theorem uX11_cachedTiles_21 (E : zE) (l0 : Nat) (l1 : Int32) (l2 : Int32) (l3 : Int32) (σ : zS) : LX11_cachedTiles_21 E l0 l1 l2 l3 σ =
  (if (l3 : Int32) < 64 then
    chk (zkd σ l0 = 9) <|
    onR (zr σ 586 l0) fun a1 =>
    chk (zkd σ a1 = 11 ∧ zin ((64 * l1) + l3) (zln σ a1)) <|
    if ((zai σ a1 (Int32.toNatClampNeg ((64 * l1) + l3))) : Int32) ≤ 0 then
      zlt (α := Int32) (l2 + 0) fun v2 =>
      zlt (α := Int32) (l3 + 1) fun v3 =>
      LX11_cachedTiles_21 E l0 l1 v2 v3 σ
    else
      zlt (α := Int32) (l2 + 1) fun v4 =>
      zlt (α := Int32) (l3 + 1) fun v5 =>
      LX11_cachedTiles_21 E l0 l1 v4 v5 σ
  else
    some (some (.inl l2), σ)) :=
  (zun_at (fun pc => (oX11_cachedTiles pc).1) E (fun q => Nat.beq q 21) 36 21 (0, 0) [.inr (.inl (some l0)), .inl l1, .inl l2, .inl l3] [] σ).trans rfl
noncomputable def fX11_cachedTiles (E : zE) (p0 : Nat) (p1 : Int32) (σ : zS) : zO :=
  chk (zkd σ p0 = 9) <| zlt (zsi σ 576 p0 0) fun s1 =>
  chk (zkd s1 p0 = 9) <|
  bnI (E mX11_isLayer [.inr (.inl (some p0)), .inl p1] s1) fun v3 s2 =>
  if (v3 : Int32) = 0 then
    some (some (.inl (-1001)), s2)
  else
    zlt (α := Int32) 0 fun v4 =>
    zlt (α := Int32) 0 fun v5 =>
    LX11_cachedTiles_21 E p0 p1 v4 v5 s2
set_option maxRecDepth 20000 in
theorem eX11_cachedTiles (E : zE) (p0 : Nat) (p1 : Int32) (σ : zS) : zM tX11_cachedTiles 4 (0, 0) E [.inr (.inl (some p0)), .inl p1] σ = fX11_cachedTiles E p0 p1 σ :=
  (zun_at (fun pc => (oX11_cachedTiles pc).1) E (fun q => Nat.beq q 21) 36 0 (0, 0) (zls0 [.inr (.inl (some p0)), .inl p1] 4) [] σ).trans rfl
noncomputable def fX11_counter (E : zE) (p0 : Nat) (p1 : Int32) (σ : zS) : zO :=
  chk (zkd σ p0 = 9) <| zlt (zsi σ 576 p0 0) fun s1 =>
  bnI (E mX11_in [.inl p1, .inl 0, .inl 2] s1) fun v3 s2 =>
  if (v3 : Int32) = 0 then
    some (some (.inl (-1001)), s2)
  else
    chk (zkd s2 p0 = 9) <|
    onR (zr s2 588 p0) fun a4 =>
    chk (zkd s2 a4 = 11 ∧ zin p1 (zln s2 a4)) <|
    some (some (.inl (zai s2 a4 (Int32.toNatClampNeg p1))), s2)
set_option maxRecDepth 20000 in
theorem eX11_counter (E : zE) (p0 : Nat) (p1 : Int32) (σ : zS) : zM tX11_counter 2 (0, 0) E [.inr (.inl (some p0)), .inl p1] σ = fX11_counter E p0 p1 σ :=
  (zun_at (fun pc => (oX11_counter pc).1) E (fun _ => false) 16 0 (0, 0) (zls0 [.inr (.inl (some p0)), .inl p1] 2) [] σ).trans rfl
noncomputable def fX11_oldestTile (E : zE) (p0 : Nat) (σ : zS) : zO :=
  chk (zkd σ p0 = 9) <| zlt (zsi σ 576 p0 0) fun s1 =>
  chk (zkd s1 p0 = 9) <|
  bnI (E mX11_oldest [.inr (.inl (some p0))] s1) fun v3 s2 =>
  zlt (α := Int32) v3 fun v4 =>
  if (v4 : Int32) = (-1009) then
    some (some (.inl (-1009)), s2)
  else
    if (64 : Int32) = 0 then none else
    if (8 : Int32) = 0 then none else
    if (64 : Int32) = 0 then none else
    if (8 : Int32) = 0 then none else
    some (some (.inl (((1000 * (v4 / 64)) + (10 * (v4 - v4 / 8 * 8))) + ((v4 - v4 / 64 * 64) / 8))), s2)
set_option maxRecDepth 20000 in
theorem eX11_oldestTile (E : zE) (p0 : Nat) (σ : zS) : zM tX11_oldestTile 2 (0, 0) E [.inr (.inl (some p0))] σ = fX11_oldestTile E p0 σ :=
  (zun_at (fun pc => (oX11_oldestTile pc).1) E (fun _ => false) 30 0 (0, 0) (zls0 [.inr (.inl (some p0))] 2) [] σ).trans rfl
noncomputable def fX11_isOutput (E : zE) (p0 : Nat) (p1 : Int32) (σ : zS) : zO :=
  if (p1 : Int32) = (-1) then
    chk (zB 1) (some (some (.inl 1), σ))
  else
    chk (zkd σ p0 = 9) <|
    bnI (E mX11_isLayer [.inr (.inl (some p0)), .inl p1] σ) fun v2 s1 =>
    if (v2 : Int32) = 0 then
      chk (zB 0) (some (some (.inl 0), s1))
    else
      chk (zB 1) (some (some (.inl 1), s1))
set_option maxRecDepth 20000 in
theorem eX11_isOutput (E : zE) (p0 : Nat) (p1 : Int32) (σ : zS) : zM tX11_isOutput 2 (0, 0) E [.inr (.inl (some p0)), .inl p1] σ = fX11_isOutput E p0 p1 σ :=
  (zun_at (fun pc => (oX11_isOutput pc).1) E (fun _ => false) 12 0 (0, 0) (zls0 [.inr (.inl (some p0)), .inl p1] 2) [] σ).trans rfl
noncomputable def LX11_histogram_52 (E : zE) (l0 : Nat) (l1 : zV) (l2 : Int32) (l3 : Int32) (l4 : Int32) (l5 : Int32) (l6 : Int32) (σ : zS) : zO := zF tX11_histogram E 52 (0, 0) [.inr (.inl (some l0)), l1, .inl l2, .inl l3, .inl l4, .inl l5, .inl l6] [] σ
set_option maxRecDepth 20000 in
theorem uX11_histogram_52 (E : zE) (l0 : Nat) (l1 : zV) (l2 : Int32) (l3 : Int32) (l4 : Int32) (l5 : Int32) (l6 : Int32) (σ : zS) : LX11_histogram_52 E l0 l1 l2 l3 l4 l5 l6 σ =
  (chk (zkd σ l0 = 9) <|
  bnI (E mX11_pixels [.inr (.inl (some l0))] σ) fun v2 s1 =>
  if (l6 : Int32) < v2 then
    chk (zkd s1 l0 = 9) <|
    onR (zr s1 599 l0) fun a3 =>
    chk (zkd s1 a3 = 11 ∧ zin (l4 + l6) (zln s1 a3)) <|
    bnI (E mX11_in [.inl (zai s1 a3 (Int32.toNatClampNeg (l4 + l6))), .inl l2, .inl l3] s1) fun v5 s4 =>
    if (v5 : Int32) = 0 then
      zlt (α := Int32) (l5 + 0) fun v6 =>
      zlt (α := Int32) (l6 + 1) fun v7 =>
      LX11_histogram_52 E l0 (l1) l2 l3 l4 v6 v7 s4
    else
      zlt (α := Int32) (l5 + 1) fun v8 =>
      zlt (α := Int32) (l6 + 1) fun v9 =>
      LX11_histogram_52 E l0 (l1) l2 l3 l4 v8 v9 s4
  else
    some (some (.inl l5), s1)) :=
  (zun_at (fun pc => (oX11_histogram pc).1) E (fun q => Nat.beq q 52) 52 52 (0, 0) [.inr (.inl (some l0)), l1, .inl l2, .inl l3, .inl l4, .inl l5, .inl l6] [] σ).trans rfl
noncomputable def fX11_histogram (E : zE) (p0 : Nat) (p1 : Int32) (p2 : Int32) (p3 : Int32) (σ : zS) : zO :=
  chk (zkd σ p0 = 9) <| zlt (zsi σ 576 p0 0) fun s1 =>
  chk (zkd s1 p0 = 9) <|
  bnI (E mX11_isOutput [.inr (.inl (some p0)), .inl p1] s1) fun v3 s2 =>
  if (v3 : Int32) = 0 then
    some (some (.inl (-1001)), s2)
  else
    bnI (E mX11_in [.inl p2, .inl 0, .inl 255] s2) fun v5 s4 =>
    if (v5 : Int32) = 0 then
      some (some (.inl (-1001)), s4)
    else
      bnI (E mX11_in [.inl p3, .inl p2, .inl 255] s4) fun v7 s6 =>
      if (v7 : Int32) = 0 then
        some (some (.inl (-1001)), s6)
      else
        chk (zkd s6 p0 = 9) <|
        bnI (E mX11_compute [.inr (.inl (some p0)), .inl p1] s6) fun v9 s8 =>
        zlt (α := Int32) v9 fun v10 =>
        zlt (α := Int32) 0 fun v11 =>
        zlt (α := Int32) 0 fun v12 =>
        LX11_histogram_52 E p0 (.inl p1) p2 p3 v10 v11 v12 s8
set_option maxRecDepth 20000 in
theorem eX11_histogram (E : zE) (p0 : Nat) (p1 : Int32) (p2 : Int32) (p3 : Int32) (σ : zS) : zM tX11_histogram 7 (0, 0) E [.inr (.inl (some p0)), .inl p1, .inl p2, .inl p3] σ = fX11_histogram E p0 p1 p2 p3 σ :=
  (zun_at (fun pc => (oX11_histogram pc).1) E (fun q => Nat.beq q 52) 52 0 (0, 0) (zls0 [.inr (.inl (some p0)), .inl p1, .inl p2, .inl p3] 7) [] σ).trans rfl
noncomputable def LX11_sum_28 (E : zE) (l0 : Nat) (l1 : zV) (l2 : Int32) (l3 : Int32) (l4 : Int32) (σ : zS) : zO := zF tX11_sum E 28 (0, 0) [.inr (.inl (some l0)), l1, .inl l2, .inl l3, .inl l4] [] σ
set_option maxRecDepth 20000 in
theorem uX11_sum_28 (E : zE) (l0 : Nat) (l1 : zV) (l2 : Int32) (l3 : Int32) (l4 : Int32) (σ : zS) : LX11_sum_28 E l0 l1 l2 l3 l4 σ =
  (chk (zkd σ l0 = 9) <|
  bnI (E mX11_pixels [.inr (.inl (some l0))] σ) fun v2 s1 =>
  if (l4 : Int32) < v2 then
    chk (zkd s1 l0 = 9) <|
    onR (zr s1 599 l0) fun a3 =>
    chk (zkd s1 a3 = 11 ∧ zin (l2 + l4) (zln s1 a3)) <|
    zlt (α := Int32) (l3 + (zai s1 a3 (Int32.toNatClampNeg (l2 + l4)))) fun v4 =>
    zlt (α := Int32) (l4 + 1) fun v5 =>
    LX11_sum_28 E l0 (l1) l2 v4 v5 s1
  else
    some (some (.inl l3), s1)) :=
  (zun_at (fun pc => (oX11_sum pc).1) E (fun q => Nat.beq q 28) 35 28 (0, 0) [.inr (.inl (some l0)), l1, .inl l2, .inl l3, .inl l4] [] σ).trans rfl
noncomputable def fX11_sum (E : zE) (p0 : Nat) (p1 : Int32) (σ : zS) : zO :=
  chk (zkd σ p0 = 9) <| zlt (zsi σ 576 p0 0) fun s1 =>
  chk (zkd s1 p0 = 9) <|
  bnI (E mX11_isOutput [.inr (.inl (some p0)), .inl p1] s1) fun v3 s2 =>
  if (v3 : Int32) = 0 then
    some (some (.inl (-1001)), s2)
  else
    chk (zkd s2 p0 = 9) <|
    bnI (E mX11_compute [.inr (.inl (some p0)), .inl p1] s2) fun v5 s4 =>
    zlt (α := Int32) v5 fun v6 =>
    zlt (α := Int32) 0 fun v7 =>
    zlt (α := Int32) 0 fun v8 =>
    LX11_sum_28 E p0 (.inl p1) v6 v7 v8 s4
set_option maxRecDepth 20000 in
theorem eX11_sum (E : zE) (p0 : Nat) (p1 : Int32) (σ : zS) : zM tX11_sum 5 (0, 0) E [.inr (.inl (some p0)), .inl p1] σ = fX11_sum E p0 p1 σ :=
  (zun_at (fun pc => (oX11_sum pc).1) E (fun q => Nat.beq q 28) 35 0 (0, 0) (zls0 [.inr (.inl (some p0)), .inl p1] 5) [] σ).trans rfl
noncomputable def LX11_layBeside_11 (E : zE) (l0 : Nat) (l1 : Int32) (l2 : Int32) (σ : zS) : zO := zF tX11_layBeside E 11 (0, 0) [.inr (.inl (some l0)), .inl l1, .inl l2] [] σ
set_option maxRecDepth 20000 in
theorem uX11_layBeside_11 (E : zE) (l0 : Nat) (l1 : Int32) (l2 : Int32) (σ : zS) : LX11_layBeside_11 E l0 l1 l2 σ =
  (chk (zkd σ l0 = 9) <|
  bnI (E mX11_pixels [.inr (.inl (some l0))] σ) fun v2 s1 =>
  if (l2 : Int32) < v2 then
    chk (zkd s1 l0 = 9) <|
    chk (zkd s1 l0 = 9) <|
    onR (zr s1 599 l0) fun a3 =>
    chk (zkd s1 a3 = 11 ∧ zin (l1 + l2) (zln s1 a3)) <|
    onR (zr s1 614 l0) fun a4 =>
    chk (zkd s1 a4 = 11 ∧ zin l2 (zln s1 a4)) <| zlt (zsa s1 a4 (Int32.toNatClampNeg l2) (zai s1 a3 (Int32.toNatClampNeg (l1 + l2)))) fun s5 =>
    zlt (α := Int32) (l2 + 1) fun v6 =>
    LX11_layBeside_11 E l0 l1 v6 s5
  else
    some (none, s1)) :=
  (zun_at (fun pc => (oX11_layBeside pc).1) E (fun q => Nat.beq q 11) 25 11 (0, 0) [.inr (.inl (some l0)), .inl l1, .inl l2] [] σ).trans rfl
noncomputable def fX11_layBeside (E : zE) (p0 : Nat) (σ : zS) : zO :=
  chk (zkd σ p0 = 9) <|
  bnI (E mX11_top [.inr (.inl (some p0))] σ) fun v2 s1 =>
  chk (zkd s1 p0 = 9) <|
  bnI (E mX11_compute [.inr (.inl (some p0)), .inl v2] s1) fun v4 s3 =>
  zlt (α := Int32) v4 fun v5 =>
  zlt (α := Int32) 0 fun v6 =>
  LX11_layBeside_11 E p0 v5 v6 s3
set_option maxRecDepth 20000 in
theorem eX11_layBeside (E : zE) (p0 : Nat) (σ : zS) : zM tX11_layBeside 3 (0, 0) E [.inr (.inl (some p0))] σ = fX11_layBeside E p0 σ :=
  (zun_at (fun pc => (oX11_layBeside pc).1) E (fun q => Nat.beq q 11) 25 0 (0, 0) (zls0 [.inr (.inl (some p0))] 3) [] σ).trans rfl
noncomputable def LX11_effectOf_55 (E : zE) (l0 : Nat) (l1 : zV) (l2 : zV) (l3 : Int32) (l4 : Int32) (l5 : Int32) (σ : zS) : zO := zF tX11_effectOf E 55 (0, 0) [.inr (.inl (some l0)), l1, l2, .inl l3, .inl l4, .inl l5] [] σ
set_option maxRecDepth 20000 in
theorem uX11_effectOf_55 (E : zE) (l0 : Nat) (l1 : zV) (l2 : zV) (l3 : Int32) (l4 : Int32) (l5 : Int32) (σ : zS) : LX11_effectOf_55 E l0 l1 l2 l3 l4 l5 σ =
  (chk (zkd σ l0 = 9) <|
  bnI (E mX11_pixels [.inr (.inl (some l0))] σ) fun v2 s1 =>
  if (l5 : Int32) < v2 then
    chk (zkd s1 l0 = 9) <|
    onR (zr s1 599 l0) fun a3 =>
    chk (zkd s1 a3 = 11 ∧ zin (l3 + l5) (zln s1 a3)) <|
    chk (zkd s1 l0 = 9) <|
    onR (zr s1 614 l0) fun a4 =>
    chk (zkd s1 a4 = 11 ∧ zin l5 (zln s1 a4)) <|
    bnI (E mX11_abs [.inl ((zai s1 a3 (Int32.toNatClampNeg (l3 + l5))) - (zai s1 a4 (Int32.toNatClampNeg l5)))] s1) fun v6 s5 =>
    zlt (α := Int32) (l4 + v6) fun v7 =>
    zlt (α := Int32) (l5 + 1) fun v8 =>
    LX11_effectOf_55 E l0 (l1) (l2) l3 v7 v8 s5
  else
    some (some (.inl l4), s1)) :=
  (zun_at (fun pc => (oX11_effectOf pc).1) E (fun q => Nat.beq q 55) 59 55 (0, 0) [.inr (.inl (some l0)), l1, l2, .inl l3, .inl l4, .inl l5] [] σ).trans rfl
noncomputable def fX11_effectOf (E : zE) (p0 : Nat) (p1 : Int32) (σ : zS) : zO :=
  chk (zkd σ p0 = 9) <|
  bnV (E mX11_layBeside [.inr (.inl (some p0))] σ) fun s1 =>
  chk (zkd s1 p0 = 9) <|
  bnI (E mX11_at [.inl p1] s1) fun v3 s2 =>
  onR (zr s1 577 p0) fun a4 =>
  chk (zkd s2 a4 = 11 ∧ zin (v3 + 5) (zln s2 a4)) <|
  zlt (α := Int32) (zai s2 a4 (Int32.toNatClampNeg (v3 + 5))) fun v5 =>
  chk (zkd s2 p0 = 9) <|
  bnI (E mX11_at [.inl p1] s2) fun v7 s6 =>
  onR (zr s2 577 p0) fun a8 =>
  chk (zkd s6 a8 = 11 ∧ zin (v7 + 5) (zln s6 a8)) <| zlt (zsa s6 a8 (Int32.toNatClampNeg (v7 + 5)) 0) fun s9 =>
  chk (zkd s9 p0 = 9) <|
  bnI (E mX11_top [.inr (.inl (some p0))] s9) fun v11 s10 =>
  chk (zkd s10 p0 = 9) <|
  bnI (E mX11_compute [.inr (.inl (some p0)), .inl v11] s10) fun v13 s12 =>
  zlt (α := Int32) v13 fun v14 =>
  chk (zkd s12 p0 = 9) <|
  bnI (E mX11_at [.inl p1] s12) fun v16 s15 =>
  onR (zr s12 577 p0) fun a17 =>
  chk (zkd s15 a17 = 11 ∧ zin (v16 + 5) (zln s15 a17)) <| zlt (zsa s15 a17 (Int32.toNatClampNeg (v16 + 5)) v5) fun s18 =>
  zlt (α := Int32) 0 fun v19 =>
  zlt (α := Int32) 0 fun v20 =>
  LX11_effectOf_55 E p0 (.inl p1) (.inl v5) v14 v19 v20 s18
set_option maxRecDepth 20000 in
theorem eX11_effectOf (E : zE) (p0 : Nat) (p1 : Int32) (σ : zS) : zM tX11_effectOf 6 (0, 0) E [.inr (.inl (some p0)), .inl p1] σ = fX11_effectOf E p0 p1 σ :=
  (zun_at (fun pc => (oX11_effectOf pc).1) E (fun q => Nat.beq q 55) 59 0 (0, 0) (zls0 [.inr (.inl (some p0)), .inl p1] 6) [] σ).trans rfl
noncomputable def fX11_effect (E : zE) (p0 : Nat) (p1 : Int32) (σ : zS) : zO :=
  chk (zkd σ p0 = 9) <| zlt (zsi σ 576 p0 0) fun s1 =>
  chk (zkd s1 p0 = 9) <|
  bnI (E mX11_isLayer [.inr (.inl (some p0)), .inl p1] s1) fun v3 s2 =>
  if (v3 : Int32) = 0 then
    some (some (.inl (-1001)), s2)
  else
    chk (zkd s2 p0 = 9) <|
    bnI (E mX11_effectOf [.inr (.inl (some p0)), .inl p1] s2) fun v5 s4 =>
    some (some (.inl v5), s4)
set_option maxRecDepth 20000 in
theorem eX11_effect (E : zE) (p0 : Nat) (p1 : Int32) (σ : zS) : zM tX11_effect 2 (0, 0) E [.inr (.inl (some p0)), .inl p1] σ = fX11_effect E p0 p1 σ :=
  (zun_at (fun pc => (oX11_effect pc).1) E (fun _ => false) 14 0 (0, 0) (zls0 [.inr (.inl (some p0)), .inl p1] 2) [] σ).trans rfl
noncomputable def LX11_strongestLayer_13 (E : zE) (l0 : Nat) (l1 : Int32) (l2 : Int32) (l3 : Int32) (l4 : zV) (σ : zS) : zO := zF tX11_strongestLayer E 13 (0, 0) [.inr (.inl (some l0)), .inl l1, .inl l2, .inl l3, l4] [] σ
noncomputable def LX11_strongestLayer_43 (E : zE) (l0 : Nat) (l1 : zV) (l2 : Int32) (l3 : Int32) (l4 : Int32) (k0 : Int32) (σ : zS) : zO := zF tX11_strongestLayer E 43 (0, 0) [.inr (.inl (some l0)), l1, .inl l2, .inl l3, .inl l4] [.inl k0] σ
set_option maxRecDepth 20000 in
theorem uX11_strongestLayer_13 (E : zE) (l0 : Nat) (l1 : Int32) (l2 : Int32) (l3 : Int32) (l4 : zV) (σ : zS) : LX11_strongestLayer_13 E l0 l1 l2 l3 l4 σ =
  (chk (zkd σ l0 = 9) <|
  onR (zr σ 577 l0) fun a1 =>
  chk (zkd σ a1 = 11 ∧ zin 258 (zln σ a1)) <|
  if (l3 : Int32) < (zai σ a1 (Int32.toNatClampNeg 258)) then
    chk (zkd σ l0 = 9) <|
    bnI (E mX11_effectOf [.inr (.inl (some l0)), .inl l3] σ) fun v3 s2 =>
    zlt (α := Int32) v3 fun v4 =>
    if (v4 : Int32) ≤ l2 then
      LX11_strongestLayer_43 E l0 (.inl l1) l2 l3 v4 l1 s2
    else
      LX11_strongestLayer_43 E l0 (.inl l1) l2 l3 v4 l3 s2
  else
    some (some (.inl l1), σ)) :=
  (zun_at (fun pc => (oX11_strongestLayer pc).1) E (fun q => Nat.beq q 13 || Nat.beq q 43) 38 13 (0, 0) [.inr (.inl (some l0)), .inl l1, .inl l2, .inl l3, l4] [] σ).trans rfl
set_option maxRecDepth 20000 in
theorem uX11_strongestLayer_43 (E : zE) (l0 : Nat) (l1 : zV) (l2 : Int32) (l3 : Int32) (l4 : Int32) (k0 : Int32) (σ : zS) : LX11_strongestLayer_43 E l0 l1 l2 l3 l4 k0 σ =
  (zlt (α := Int32) k0 fun v1 =>
  if (l4 : Int32) ≤ l2 then
    zlt (α := Int32) l2 fun v2 =>
    zlt (α := Int32) (l3 + 1) fun v3 =>
    LX11_strongestLayer_13 E l0 v1 v2 v3 (.inl l4) σ
  else
    zlt (α := Int32) l4 fun v4 =>
    zlt (α := Int32) (l3 + 1) fun v5 =>
    LX11_strongestLayer_13 E l0 v1 v4 v5 (.inl l4) σ) :=
  (zun_at (fun pc => (oX11_strongestLayer pc).1) E (fun q => Nat.beq q 13 || Nat.beq q 43) 38 43 (0, 0) [.inr (.inl (some l0)), l1, .inl l2, .inl l3, .inl l4] [.inl k0] σ).trans rfl
noncomputable def fX11_strongestLayer (E : zE) (p0 : Nat) (σ : zS) : zO :=
  chk (zkd σ p0 = 9) <| zlt (zsi σ 576 p0 0) fun s1 =>
  zlt (α := Int32) (-1009) fun v2 =>
  zlt (α := Int32) (-1) fun v3 =>
  zlt (α := Int32) 0 fun v4 =>
  LX11_strongestLayer_13 E p0 v2 v3 v4 (.inr (.inr 0)) s1
set_option maxRecDepth 20000 in
theorem eX11_strongestLayer (E : zE) (p0 : Nat) (σ : zS) : zM tX11_strongestLayer 5 (0, 0) E [.inr (.inl (some p0))] σ = fX11_strongestLayer E p0 σ :=
  (zun_at (fun pc => (oX11_strongestLayer pc).1) E (fun q => Nat.beq q 13 || Nat.beq q 43) 38 0 (0, 0) (zls0 [.inr (.inl (some p0))] 5) [] σ).trans rfl
noncomputable def LX11_differences_13 (E : zE) (l0 : Nat) (l1 : Int32) (l2 : Int32) (l3 : Int32) (σ : zS) : zO := zF tX11_differences E 13 (0, 0) [.inr (.inl (some l0)), .inl l1, .inl l2, .inl l3] [] σ
set_option maxRecDepth 20000 in
theorem uX11_differences_13 (E : zE) (l0 : Nat) (l1 : Int32) (l2 : Int32) (l3 : Int32) (σ : zS) : LX11_differences_13 E l0 l1 l2 l3 σ =
  (chk (zkd σ l0 = 9) <|
  bnI (E mX11_pixels [.inr (.inl (some l0))] σ) fun v2 s1 =>
  if (l3 : Int32) < v2 then
    chk (zkd s1 l0 = 9) <|
    onR (zr s1 599 l0) fun a3 =>
    chk (zkd s1 a3 = 11 ∧ zin (l1 + l3) (zln s1 a3)) <|
    chk (zkd s1 l0 = 9) <|
    onR (zr s1 614 l0) fun a4 =>
    chk (zkd s1 a4 = 11 ∧ zin l3 (zln s1 a4)) <|
    if ((zai s1 a3 (Int32.toNatClampNeg (l1 + l3))) : Int32) = (zai s1 a4 (Int32.toNatClampNeg l3)) then
      zlt (α := Int32) (l2 + 0) fun v5 =>
      zlt (α := Int32) (l3 + 1) fun v6 =>
      LX11_differences_13 E l0 l1 v5 v6 s1
    else
      zlt (α := Int32) (l2 + 1) fun v7 =>
      zlt (α := Int32) (l3 + 1) fun v8 =>
      LX11_differences_13 E l0 l1 v7 v8 s1
  else
    some (some (.inl l2), s1)) :=
  (zun_at (fun pc => (oX11_differences pc).1) E (fun q => Nat.beq q 13) 35 13 (0, 0) [.inr (.inl (some l0)), .inl l1, .inl l2, .inl l3] [] σ).trans rfl
noncomputable def fX11_differences (E : zE) (p0 : Nat) (σ : zS) : zO :=
  chk (zkd σ p0 = 9) <|
  bnI (E mX11_top [.inr (.inl (some p0))] σ) fun v2 s1 =>
  chk (zkd s1 p0 = 9) <|
  bnI (E mX11_compute [.inr (.inl (some p0)), .inl v2] s1) fun v4 s3 =>
  zlt (α := Int32) v4 fun v5 =>
  zlt (α := Int32) 0 fun v6 =>
  zlt (α := Int32) 0 fun v7 =>
  LX11_differences_13 E p0 v5 v6 v7 s3
set_option maxRecDepth 20000 in
theorem eX11_differences (E : zE) (p0 : Nat) (σ : zS) : zM tX11_differences 4 (0, 0) E [.inr (.inl (some p0))] σ = fX11_differences E p0 σ :=
  (zun_at (fun pc => (oX11_differences pc).1) E (fun q => Nat.beq q 13) 35 0 (0, 0) (zls0 [.inr (.inl (some p0))] 4) [] σ).trans rfl
noncomputable def fX11_exchangeDifference (E : zE) (p0 : Nat) (p1 : Int32) (σ : zS) : zO :=
  chk (zkd σ p0 = 9) <| zlt (zsi σ 576 p0 0) fun s1 =>
  chk (zkd s1 p0 = 9) <|
  bnI (E mX11_isLayer [.inr (.inl (some p0)), .inl p1] s1) fun v3 s2 =>
  if (v3 : Int32) = 0 then
    some (some (.inl (-1001)), s2)
  else
    chk (zkd s2 p0 = 9) <|
    bnI (E mX11_top [.inr (.inl (some p0))] s2) fun v5 s4 =>
    if (p1 : Int32) = v5 then
      some (some (.inl (-1001)), s4)
    else
      chk (zkd s4 p0 = 9) <|
      bnV (E mX11_layBeside [.inr (.inl (some p0))] s4) fun s6 =>
      chk (zkd s6 p0 = 9) <|
      bnV (E mX11_exchange [.inr (.inl (some p0)), .inl p1, .inl (p1 + 1)] s6) fun s7 =>
      chk (zkd s7 p0 = 9) <|
      bnI (E mX11_differences [.inr (.inl (some p0))] s7) fun v9 s8 =>
      zlt (α := Int32) v9 fun v10 =>
      chk (zkd s8 p0 = 9) <|
      bnV (E mX11_exchange [.inr (.inl (some p0)), .inl p1, .inl (p1 + 1)] s8) fun s11 =>
      some (some (.inl v10), s11)
set_option maxRecDepth 20000 in
theorem eX11_exchangeDifference (E : zE) (p0 : Nat) (p1 : Int32) (σ : zS) : zM tX11_exchangeDifference 3 (0, 0) E [.inr (.inl (some p0)), .inl p1] σ = fX11_exchangeDifference E p0 p1 σ :=
  (zun_at (fun pc => (oX11_exchangeDifference pc).1) E (fun _ => false) 33 0 (0, 0) (zls0 [.inr (.inl (some p0)), .inl p1] 3) [] σ).trans rfl
noncomputable def LX11_snapshotDifference_77 (E : zE) (l0 : Nat) (l1 : Int32) (l2 : Int32) (σ : zS) : zO := zF tX11_snapshotDifference E 77 (0, 0) [.inr (.inl (some l0)), .inl l1, .inl l2, .inr (.inr 0)] [] σ
noncomputable def LX11_snapshotDifference_127 (E : zE) (l0 : Nat) (l1 : zV) (l2 : Int32) (l3 : Int32) (σ : zS) : zO := zF tX11_snapshotDifference E 127 (0, 0) [.inr (.inl (some l0)), l1, .inl l2, .inl l3] [] σ
set_option maxRecDepth 20000 in
theorem uX11_snapshotDifference_77 (E : zE) (l0 : Nat) (l1 : Int32) (l2 : Int32) (σ : zS) : LX11_snapshotDifference_77 E l0 l1 l2 σ =
  (if (l2 : Int32) < 515 then
    chk (zkd σ l0 = 9) <|
    chk (zkd σ l0 = 9) <|
    onR (zr σ 577 l0) fun a1 =>
    chk (zkd σ a1 = 11 ∧ zin l2 (zln σ a1)) <|
    onR (zr σ 615 l0) fun a2 =>
    chk (zkd σ a2 = 11 ∧ zin l2 (zln σ a2)) <| zlt (zsa σ a2 (Int32.toNatClampNeg l2) (zai σ a1 (Int32.toNatClampNeg l2))) fun s3 =>
    chk (zkd s3 l0 = 9) <|
    chk (zkd s3 l0 = 9) <|
    onR (zr s3 580 l0) fun a4 =>
    chk (zkd s3 a4 = 11 ∧ zin ((515 * l1) + l2) (zln s3 a4)) <|
    onR (zr s3 577 l0) fun a5 =>
    chk (zkd s3 a5 = 11 ∧ zin l2 (zln s3 a5)) <| zlt (zsa s3 a5 (Int32.toNatClampNeg l2) (zai s3 a4 (Int32.toNatClampNeg ((515 * l1) + l2)))) fun s6 =>
    zlt (α := Int32) (l2 + 1) fun v7 =>
    LX11_snapshotDifference_77 E l0 l1 v7 s6
  else
    chk (zkd σ l0 = 9) <|
    bnI (E mX11_differences [.inr (.inl (some l0))] σ) fun v9 s8 =>
    zlt (α := Int32) v9 fun v10 =>
    zlt (α := Int32) 0 fun v11 =>
    LX11_snapshotDifference_127 E l0 (.inl l1) v10 v11 s8) :=
  (zun_at (fun pc => (oX11_snapshotDifference pc).1) E (fun q => Nat.beq q 77 || Nat.beq q 127) 91 77 (0, 0) [.inr (.inl (some l0)), .inl l1, .inl l2, .inr (.inr 0)] [] σ).trans rfl
set_option maxRecDepth 20000 in
theorem uX11_snapshotDifference_127 (E : zE) (l0 : Nat) (l1 : zV) (l2 : Int32) (l3 : Int32) (σ : zS) : LX11_snapshotDifference_127 E l0 l1 l2 l3 σ =
  (if (l3 : Int32) < 515 then
    chk (zkd σ l0 = 9) <|
    chk (zkd σ l0 = 9) <|
    onR (zr σ 615 l0) fun a1 =>
    chk (zkd σ a1 = 11 ∧ zin l3 (zln σ a1)) <|
    onR (zr σ 577 l0) fun a2 =>
    chk (zkd σ a2 = 11 ∧ zin l3 (zln σ a2)) <| zlt (zsa σ a2 (Int32.toNatClampNeg l3) (zai σ a1 (Int32.toNatClampNeg l3))) fun s3 =>
    zlt (α := Int32) (l3 + 1) fun v4 =>
    LX11_snapshotDifference_127 E l0 (l1) l2 v4 s3
  else
    some (some (.inl l2), σ)) :=
  (zun_at (fun pc => (oX11_snapshotDifference pc).1) E (fun q => Nat.beq q 77 || Nat.beq q 127) 91 127 (0, 0) [.inr (.inl (some l0)), l1, .inl l2, .inl l3] [] σ).trans rfl
noncomputable def fX11_snapshotDifference (E : zE) (p0 : Nat) (p1 : Int32) (σ : zS) : zO :=
  chk (zkd σ p0 = 9) <| zlt (zsi σ 576 p0 0) fun s1 =>
  bnI (E mX11_in [.inl p1, .inl 0, .inl 1] s1) fun v3 s2 =>
  if (v3 : Int32) = 0 then
    some (some (.inl (-1001)), s2)
  else
    chk (zkd s2 p0 = 9) <|
    onR (zr s2 581 p0) fun a4 =>
    chk (zkd s2 a4 = 12 ∧ zin p1 (zln s2 a4)) <|
    if ((zai s2 a4 (Int32.toNatClampNeg p1)) : Int32) = 0 then
      some (some (.inl (-1002)), s2)
    else
      chk (zkd s2 p0 = 9) <|
      onR (zr s2 580 p0) fun a5 =>
      chk (zkd s2 a5 = 11 ∧ zin (515 * p1) (zln s2 a5)) <|
      chk (zkd s2 p0 = 9) <|
      onR (zr s2 577 p0) fun a6 =>
      chk (zkd s2 a6 = 11 ∧ zin 0 (zln s2 a6)) <|
      if ((zai s2 a5 (Int32.toNatClampNeg (515 * p1))) : Int32) = (zai s2 a6 (Int32.toNatClampNeg 0)) then
        chk (zkd s2 p0 = 9) <|
        onR (zr s2 580 p0) fun a7 =>
        chk (zkd s2 a7 = 11 ∧ zin ((515 * p1) + 1) (zln s2 a7)) <|
        chk (zkd s2 p0 = 9) <|
        onR (zr s2 577 p0) fun a8 =>
        chk (zkd s2 a8 = 11 ∧ zin 1 (zln s2 a8)) <|
        if ((zai s2 a7 (Int32.toNatClampNeg ((515 * p1) + 1))) : Int32) = (zai s2 a8 (Int32.toNatClampNeg 1)) then
          chk (zkd s2 p0 = 9) <|
          bnV (E mX11_layBeside [.inr (.inl (some p0))] s2) fun s9 =>
          zlt (α := Int32) 0 fun v10 =>
          LX11_snapshotDifference_77 E p0 p1 v10 s9
        else
          some (some (.inl (-1002)), s2)
      else
        some (some (.inl (-1002)), s2)
set_option maxRecDepth 20000 in
theorem eX11_snapshotDifference (E : zE) (p0 : Nat) (p1 : Int32) (σ : zS) : zM tX11_snapshotDifference 4 (0, 0) E [.inr (.inl (some p0)), .inl p1] σ = fX11_snapshotDifference E p0 p1 σ :=
  (zun_at (fun pc => (oX11_snapshotDifference pc).1) E (fun q => Nat.beq q 77 || Nat.beq q 127) 91 0 (0, 0) (zls0 [.inr (.inl (some p0)), .inl p1] 4) [] σ).trans rfl
noncomputable def LX11_undo_28 (E : zE) (l0 : Nat) (l1 : Int32) (σ : zS) : zO := zF tX11_undo E 28 (0, 0) [.inr (.inl (some l0)), .inl l1] [] σ
set_option maxRecDepth 20000 in
theorem uX11_undo_28 (E : zE) (l0 : Nat) (l1 : Int32) (σ : zS) : LX11_undo_28 E l0 l1 σ =
  (if (l1 : Int32) < 515 then
    chk (zkd σ l0 = 9) <|
    chk (zkd σ l0 = 9) <|
    chk (zkd σ l0 = 9) <|
    onR (zr σ 578 l0) fun a1 =>
    chk (zkd σ a1 = 11 ∧ zin ((515 * (zi σ 579 l0)) + l1) (zln σ a1)) <|
    onR (zr σ 577 l0) fun a2 =>
    chk (zkd σ a2 = 11 ∧ zin l1 (zln σ a2)) <| zlt (zsa σ a2 (Int32.toNatClampNeg l1) (zai σ a1 (Int32.toNatClampNeg ((515 * (zi σ 579 l0)) + l1)))) fun s3 =>
    zlt (α := Int32) (l1 + 1) fun v4 =>
    LX11_undo_28 E l0 v4 s3
  else
    chk (zkd σ l0 = 9) <|
    bnI (E mX11_removeAll [.inr (.inl (some l0))] σ) fun v6 s5 =>
    chk (zkd s5 l0 = 9) <|
    some (some (.inl (zi s5 579 l0)), s5)) :=
  (zun_at (fun pc => (oX11_undo pc).1) E (fun q => Nat.beq q 28) 41 28 (0, 0) [.inr (.inl (some l0)), .inl l1] [] σ).trans rfl
noncomputable def fX11_undo (E : zE) (p0 : Nat) (σ : zS) : zO :=
  chk (zkd σ p0 = 9) <| zlt (zsi σ 576 p0 0) fun s1 =>
  chk (zkd s1 p0 = 9) <|
  if ((zi s1 579 p0) : Int32) = 0 then
    some (some (.inl (-1002)), s1)
  else
    chk (zkd s1 p0 = 9) <|
    chk (zkd s1 p0 = 9) <| zlt (zsi s1 579 p0 ((zi s1 579 p0) - 1)) fun s2 =>
    zlt (α := Int32) 0 fun v3 =>
    LX11_undo_28 E p0 v3 s2
set_option maxRecDepth 20000 in
theorem eX11_undo (E : zE) (p0 : Nat) (σ : zS) : zM tX11_undo 2 (0, 0) E [.inr (.inl (some p0))] σ = fX11_undo E p0 σ :=
  (zun_at (fun pc => (oX11_undo pc).1) E (fun q => Nat.beq q 28) 41 0 (0, 0) (zls0 [.inr (.inl (some p0))] 2) [] σ).trans rfl
noncomputable def LX11_save_20 (E : zE) (l0 : Nat) (l1 : Int32) (l2 : Int32) (σ : zS) : zO := zF tX11_save E 20 (0, 0) [.inr (.inl (some l0)), .inl l1, .inl l2] [] σ
set_option maxRecDepth 20000 in
theorem uX11_save_20 (E : zE) (l0 : Nat) (l1 : Int32) (l2 : Int32) (σ : zS) : LX11_save_20 E l0 l1 l2 σ =
  (if (l2 : Int32) < 515 then
    chk (zkd σ l0 = 9) <|
    chk (zkd σ l0 = 9) <|
    onR (zr σ 577 l0) fun a1 =>
    chk (zkd σ a1 = 11 ∧ zin l2 (zln σ a1)) <|
    onR (zr σ 580 l0) fun a2 =>
    chk (zkd σ a2 = 11 ∧ zin ((515 * l1) + l2) (zln σ a2)) <| zlt (zsa σ a2 (Int32.toNatClampNeg ((515 * l1) + l2)) (zai σ a1 (Int32.toNatClampNeg l2))) fun s3 =>
    zlt (α := Int32) (l2 + 1) fun v4 =>
    LX11_save_20 E l0 l1 v4 s3
  else
    chk (zkd σ l0 = 9) <|
    onR (zr σ 581 l0) fun a5 =>
    chk ((zkd σ a5 = 12 ∧ zin l1 (zln σ a5)) ∧ vp_nar .boolean 1 = 1) <| zlt (zsa σ a5 (Int32.toNatClampNeg l1) 1) fun s6 =>
    chk (zkd s6 l0 = 9) <|
    onR (zr s6 577 l0) fun a7 =>
    chk (zkd s6 a7 = 11 ∧ zin 258 (zln s6 a7)) <|
    some (some (.inl (zai s6 a7 (Int32.toNatClampNeg 258))), s6)) :=
  (zun_at (fun pc => (oX11_save pc).1) E (fun q => Nat.beq q 20) 40 20 (0, 0) [.inr (.inl (some l0)), .inl l1, .inl l2] [] σ).trans rfl
noncomputable def fX11_save (E : zE) (p0 : Nat) (p1 : Int32) (σ : zS) : zO :=
  chk (zkd σ p0 = 9) <| zlt (zsi σ 576 p0 0) fun s1 =>
  bnI (E mX11_in [.inl p1, .inl 0, .inl 1] s1) fun v3 s2 =>
  if (v3 : Int32) = 0 then
    some (some (.inl (-1001)), s2)
  else
    zlt (α := Int32) 0 fun v4 =>
    LX11_save_20 E p0 p1 v4 s2
set_option maxRecDepth 20000 in
theorem eX11_save (E : zE) (p0 : Nat) (p1 : Int32) (σ : zS) : zM tX11_save 3 (0, 0) E [.inr (.inl (some p0)), .inl p1] σ = fX11_save E p0 p1 σ :=
  (zun_at (fun pc => (oX11_save pc).1) E (fun q => Nat.beq q 20) 40 0 (0, 0) (zls0 [.inr (.inl (some p0)), .inl p1] 3) [] σ).trans rfl
noncomputable def LX11_restore_33 (E : zE) (l0 : Nat) (l1 : Int32) (l2 : Int32) (σ : zS) : zO := zF tX11_restore E 33 (0, 0) [.inr (.inl (some l0)), .inl l1, .inl l2] [] σ
set_option maxRecDepth 20000 in
theorem uX11_restore_33 (E : zE) (l0 : Nat) (l1 : Int32) (l2 : Int32) (σ : zS) : LX11_restore_33 E l0 l1 l2 σ =
  (if (l2 : Int32) < 515 then
    chk (zkd σ l0 = 9) <|
    chk (zkd σ l0 = 9) <|
    onR (zr σ 580 l0) fun a1 =>
    chk (zkd σ a1 = 11 ∧ zin ((515 * l1) + l2) (zln σ a1)) <|
    onR (zr σ 577 l0) fun a2 =>
    chk (zkd σ a2 = 11 ∧ zin l2 (zln σ a2)) <| zlt (zsa σ a2 (Int32.toNatClampNeg l2) (zai σ a1 (Int32.toNatClampNeg ((515 * l1) + l2)))) fun s3 =>
    zlt (α := Int32) (l2 + 1) fun v4 =>
    LX11_restore_33 E l0 l1 v4 s3
  else
    chk (zkd σ l0 = 9) <| zlt (zsi σ 579 l0 0) fun s5 =>
    chk (zkd s5 l0 = 9) <|
    bnI (E mX11_removeAll [.inr (.inl (some l0))] s5) fun v7 s6 =>
    chk (zkd s6 l0 = 9) <|
    onR (zr s6 577 l0) fun a8 =>
    chk (zkd s6 a8 = 11 ∧ zin 258 (zln s6 a8)) <|
    some (some (.inl (zai s6 a8 (Int32.toNatClampNeg 258))), s6)) :=
  (zun_at (fun pc => (oX11_restore pc).1) E (fun q => Nat.beq q 33) 48 33 (0, 0) [.inr (.inl (some l0)), .inl l1, .inl l2] [] σ).trans rfl
noncomputable def fX11_restore (E : zE) (p0 : Nat) (p1 : Int32) (σ : zS) : zO :=
  chk (zkd σ p0 = 9) <| zlt (zsi σ 576 p0 0) fun s1 =>
  bnI (E mX11_in [.inl p1, .inl 0, .inl 1] s1) fun v3 s2 =>
  if (v3 : Int32) = 0 then
    some (some (.inl (-1001)), s2)
  else
    chk (zkd s2 p0 = 9) <|
    onR (zr s2 581 p0) fun a4 =>
    chk (zkd s2 a4 = 12 ∧ zin p1 (zln s2 a4)) <|
    if ((zai s2 a4 (Int32.toNatClampNeg p1)) : Int32) = 0 then
      some (some (.inl (-1002)), s2)
    else
      zlt (α := Int32) 0 fun v5 =>
      LX11_restore_33 E p0 p1 v5 s2
set_option maxRecDepth 20000 in
theorem eX11_restore (E : zE) (p0 : Nat) (p1 : Int32) (σ : zS) : zM tX11_restore 3 (0, 0) E [.inr (.inl (some p0)), .inl p1] σ = fX11_restore E p0 p1 σ :=
  (zun_at (fun pc => (oX11_restore pc).1) E (fun q => Nat.beq q 33) 48 0 (0, 0) (zls0 [.inr (.inl (some p0)), .inl p1] 3) [] σ).trans rfl
