-- the start: what the new objects hold
def n_f4 : Nat → Int32 := upd (upd (upd (upd (fun _ => nI 0) 0 (-1)) 1 (-1)) 2 (-1)) 3 (-1)
def n_hI (i : Nat) : Nat → Int32 := if i = 48 then n_f4 else if i = 52 then n_f4 else if i = 0 then (fun k => if k = 7 then nI 1 else nI 0) else if i = 26 then (fun k => if k = 4 then (-1) else nI 0) else if i = 30 then (fun k => if k = 6 then (-1) else nI 0) else if i = 51 then (fun k => if k = 21 then (-1) else if k = 22 then (-1) else nI 0) else fun _ => nI 0
def n_hJ (i : Nat) : Nat → Int64 := if i = 42 then (fun k => if k = 2 then lN 1 else if k = 4 then lN 1 else lN 0) else fun _ => lN 0
def n_h0 : ph_Hp := (n_hI, n_hJ)
def n_Z (E : n_E) (as : List Nat) (b L : Nat) (xs : Nat → Int32) (tt : Nat) : ph_L := (E.1, E.2.1, fun i => as.getD i 0, E.2.2, (b, L, xs), tt)
def n_S0 : q_S := (fun _ => 0, fun _ _ => 0, fun _ => (-1), fun _ => 0, fun _ _ => nI 0, nI 0)
theorem n_wf : q_wf n_S0 := ⟨by decide, fun k => (by decide : 0 < 256 ∧ 0 < 256 ∧ 0 < 40 ∧ 0 < 10 ∧ 0 < 40 ∧ 0 < 9 ∧ 0 < 40 ∧ 0 < 40 ∧ 0 < 8), fun s => ⟨Nat.zero_le _, Or.inl rfl, fun k => (by decide : q_ct (-1) (nI 0) = nI 0)⟩⟩
theorem n_cR (r q : Nat) (f : Nat → Nat) (h : n_hI r 1 = nI 0) : cR r q 0 f n_h0 := ⟨h, fun k hk => absurd hk (Nat.not_lt_zero k)⟩
theorem n_mW (q a b : Nat) (f : Nat → Nat) : mW q a b 0 f n_h0 := fun k hk => absurd hk (Nat.not_lt_zero k)
theorem n_cS (i j k : Nat) (h : n_hI i = n_f4) : cS i j k n_S0 n_h0 := by
  intro s hs
  refine ⟨?_, fun z => absurd rfl z⟩
  show n_hI i s = (-1)
  rw [h]
  rcases (show s = 0 ∨ s = 1 ∨ s = 2 ∨ s = 3 by omega) with rfl | rfl | rfl | rfl <;> decide
theorem n_CI : CI n_S0 n_h0 := ⟨n_wf, ⟨n_cR 1 2 _ rfl, n_cR 3 4 _ rfl, n_cR 6 7 _ rfl, n_cR 8 9 _ rfl, n_cR 11 12 _ rfl, n_cR 13 14 _ rfl, n_cR 16 17 _ rfl, n_cR 18 19 _ rfl, n_cR 21 22 _ rfl, n_cR 23 24 _ rfl, n_cS 48 49 50 rfl⟩, rfl, Or.inl rfl⟩
theorem n_MI : MI n_S0 n_h0 := ⟨⟨rfl, n_mW _ _ _ _⟩, ⟨rfl, n_mW _ _ _ _⟩, ⟨rfl, n_mW _ _ _ _, n_mW _ _ _ _⟩, ⟨rfl, n_mW _ _ _ _, n_mW _ _ _ _⟩, ⟨rfl, n_mW _ _ _ _⟩, ⟨rfl, n_mW _ _ _ _, n_mW _ _ _ _⟩, n_cS 52 53 54 rfl, rfl, rfl, rfl⟩
set_option maxRecDepth 100000 in
set_option maxHeartbeats 4000000 in
theorem n_ws (E : n_E) (a0 a1 a2 a3 a4 a5 a6 a7 a8 a9 a10 a11 a12 a13 a14 a15 a16 a17 a18 a19 a20 a21 a22 a23 a24 a25 a26 a27 a28 a29 a30 a31 a32 a33 a34 a35 a36 a37 a38 a39 a40 a41 a42 a43 a44 a45 a46 a47 a48 a49 a50 a51 a52 a53 a54 a55 a56 a57 a58 a59 a60 a61 a62 a63 a64 a65 a66 a67 a68 b L : Nat) (xs : Nat → Int32) (tt : Nat) : ph_ws (n_Z E [a0, a1, a2, a3, a4, a5, a6, a7, a8, a9, a10, a11, a12, a13, a14, a15, a16, a17, a18, a19, a20, a21, a22, a23, a24, a25, a26, a27, a28, a29, a30, a31, a32, a33, a34, a35, a36, a37, a38, a39, a40, a41, a42, a43, a44, a45, a46, a47, a48, a49, a50, a51, a52, a53, a54, a55, a56, a57, a58, a59, a60, a61, a62, a63, a64, a65, a66, a67, a68] b L xs tt) n_h0 = [(a0, .inr (8, [.ref a1, .ref a3, .ref a5, .ref a10, .ref a15, .ref a20, .ref a25, .int (nI 1), .ref a41, .ref a42, .ref a45, .ref a46, .ref a47, .int (nI 0)])), (a1, .inr (4, [.ref a2, .int (nI 0)])), (a2, .inl (E.2.2.1, 24, .inl (fun _ => nI 0))), (a3, .inr (4, [.ref a4, .int (nI 0)])), (a4, .inl (E.2.2.1, 44, .inl (fun _ => nI 0))), (a5, .inr (7, [.ref a6, .ref a8])), (a6, .inr (4, [.ref a7, .int (nI 0)])), (a7, .inl (E.2.2.1, 12, .inl (fun _ => nI 0))), (a8, .inr (4, [.ref a9, .int (nI 0)])), (a9, .inl (E.2.2.1, 12, .inl (fun _ => nI 0))), (a10, .inr (7, [.ref a11, .ref a13])), (a11, .inr (4, [.ref a12, .int (nI 0)])), (a12, .inl (E.2.2.1, 12, .inl (fun _ => nI 0))), (a13, .inr (4, [.ref a14, .int (nI 0)])), (a14, .inl (E.2.2.1, 12, .inl (fun _ => nI 0))), (a15, .inr (7, [.ref a16, .ref a18])), (a16, .inr (4, [.ref a17, .int (nI 0)])), (a17, .inl (E.2.2.1, 6, .inl (fun _ => nI 0))), (a18, .inr (4, [.ref a19, .int (nI 0)])), (a19, .inl (E.2.2.1, 6, .inl (fun _ => nI 0))), (a20, .inr (7, [.ref a21, .ref a23])), (a21, .inr (4, [.ref a22, .int (nI 0)])), (a22, .inl (E.2.2.1, 8, .inl (fun _ => nI 0))), (a23, .inr (4, [.ref a24, .int (nI 0)])), (a24, .inl (E.2.2.1, 8, .inl (fun _ => nI 0))), (a25, .inr (6, [.ref a26, .ref a30, .ref a36, .ref a37, .ref a38, .ref a39, .ref a40])), (a26, .inr (3, [.ref a27, .ref a28, .ref a29, .int (nI 0), .int (-1)])), (a27, .inl (E.2.2.1, 24, .inl (fun _ => nI 0))), (a28, .inl (E.2.2.1, 8, .inl (fun _ => nI 0))), (a29, .inl (E.2.2.1, 8, .inl (fun _ => nI 0))), (a30, .inr (1, [.ref a31, .ref a32, .ref a33, .ref a34, .ref a35, .int (nI 0), .int (-1)])), (a31, .inl (E.2.2.1, 9, .inl (fun _ => nI 0))), (a32, .inl (E.2.2.1, 9, .inl (fun _ => nI 0))), (a33, .inl (E.2.2.1, 9, .inl (fun _ => nI 0))), (a34, .inl (E.2.2.1, 9, .inl (fun _ => nI 0))), (a35, .inl (E.2.2.1, 72, .inl (fun _ => nI 0))), (a36, .inl (E.2.2.1, 40, .inl (fun _ => nI 0))), (a37, .inl (E.2.2.1, 40, .inl (fun _ => nI 0))), (a38, .inl (E.2.2.2.1, 40, .inl (fun _ => nI 0))), (a39, .inl (E.2.2.1, 40, .inl (fun _ => nI 0))), (a40, .inl (E.2.2.1, 40, .inl (fun _ => nI 0))), (a41, .inr (2, [.int (nI 0)])), (a42, .inr (0, [.ref a43, .ref a44, .long (lN 1), .long (lN 0), .long (lN 1)])), (a43, .inl (E.2.2.2.2, 8, .inr (.inl (fun _ => lN 0)))), (a44, .inl (E.2.2.2.2, 8, .inr (.inl (fun _ => lN 0)))), (a45, .inl (E.2.2.1, 40, .inl (fun _ => nI 0))), (a46, .inl (E.2.2.1, 320, .inl (fun _ => nI 0))), (a47, .inr (5, [.ref a48, .ref a49, .ref a50])), (a48, .inl (E.2.2.1, 4, .inl (upd (upd (upd (upd (fun _ => nI 0) 0 (-1)) 1 (-1)) 2 (-1)) 3 (-1)))), (a49, .inl (E.2.2.1, 4, .inl (fun _ => nI 0))), (a50, .inl (E.2.2.1, 240, .inl (fun _ => nI 0))), (a51, .inr (9, [.ref a52, .ref a53, .ref a54, .ref a55, .int (nI 0), .ref a56, .ref a57, .int (nI 0), .ref a58, .int (nI 0), .ref a59, .int (nI 0), .ref a60, .int (nI 0), .ref a61, .int (nI 0), .ref a62, .ref a63, .ref a64, .ref a65, .ref a66, .int (-1), .int (-1), .int (nI 0), .int (nI 0), .ref a67, .ref a68, .int (nI 0)])), (a52, .inl (E.2.2.1, 4, .inl (upd (upd (upd (upd (fun _ => nI 0) 0 (-1)) 1 (-1)) 2 (-1)) 3 (-1)))), (a53, .inl (E.2.2.1, 4, .inl (fun _ => nI 0))), (a54, .inl (E.2.2.1, 240, .inl (fun _ => nI 0))), (a55, .inl (E.2.2.1, 60, .inl (fun _ => nI 0))), (a56, .inl (E.2.2.1, 88, .inl (fun _ => nI 0))), (a57, .inl (E.2.2.1, 2, .inl (fun _ => nI 0))), (a58, .inl (E.2.2.1, 24, .inl (fun _ => nI 0))), (a59, .inl (E.2.2.1, 36, .inl (fun _ => nI 0))), (a60, .inl (E.2.2.1, 24, .inl (fun _ => nI 0))), (a61, .inl (E.2.2.1, 24, .inl (fun _ => nI 0))), (a62, .inl (E.2.2.1, 6, .inl (fun _ => nI 0))), (a63, .inl (E.2.2.1, 40, .inl (fun _ => nI 0))), (a64, .inl (E.2.2.1, 40, .inl (fun _ => nI 0))), (a65, .inl (E.2.2.1, 40, .inl (fun _ => nI 0))), (a66, .inl (E.2.2.1, 40, .inl (fun _ => nI 0))), (a67, .inl (E.2.2.1, 16, .inl (fun _ => nI 0))), (a68, .inl (E.2.2.1, 360, .inl (fun _ => nI 0)))] := rfl
theorem n_cl_L_7 : Cond.classLink RL 7 RX8 ∈ ph_tb := ph_tb_of 57 (by decide +kernel) rfl
theorem n_is_8 : Cond.instantiable RX8 14 ∈ ph_tb := ph_tb_of 58 (by decide +kernel) rfl
theorem n_in_8 : Cond.initialized RX8 ∈ ph_tb := ph_tb_of 45 (by decide +kernel) rfl
theorem n_df_8 : ∀ j, j < 14 → defaultValue (tyX8 j) = vp_V [.null, .null, .null, .null, .null, .null, .null, .int (nI 0), .null, .null, .null, .null, .null, .int (nI 0)] j := by
  intro j hj
  match j, hj with
  | 0, _ => rfl
  | 1, _ => rfl
  | 2, _ => rfl
  | 3, _ => rfl
  | 4, _ => rfl
  | 5, _ => rfl
  | 6, _ => rfl
  | 7, _ => rfl
  | 8, _ => rfl
  | 9, _ => rfl
  | 10, _ => rfl
  | 11, _ => rfl
  | 12, _ => rfl
  | 13, _ => rfl
  | j + 14, h => omega
theorem n_cl_L_10 : Cond.classLink RL 10 RX9 ∈ ph_tb := ph_tb_of 780 (by decide +kernel) rfl
theorem n_is_9 : Cond.instantiable RX9 28 ∈ ph_tb := ph_tb_of 781 (by decide +kernel) rfl
theorem n_in_9 : Cond.initialized RX9 ∈ ph_tb := ph_tb_of 55 (by decide +kernel) rfl
theorem n_df_9 : ∀ j, j < 28 → defaultValue (tyX9 j) = vp_V [.null, .null, .null, .null, .int (nI 0), .null, .null, .int (nI 0), .null, .int (nI 0), .null, .int (nI 0), .null, .int (nI 0), .null, .int (nI 0), .null, .null, .null, .null, .null, .int (nI 0), .int (nI 0), .int (nI 0), .int (nI 0), .null, .null, .int (nI 0)] j := by
  intro j hj
  match j, hj with
  | 0, _ => rfl
  | 1, _ => rfl
  | 2, _ => rfl
  | 3, _ => rfl
  | 4, _ => rfl
  | 5, _ => rfl
  | 6, _ => rfl
  | 7, _ => rfl
  | 8, _ => rfl
  | 9, _ => rfl
  | 10, _ => rfl
  | 11, _ => rfl
  | 12, _ => rfl
  | 13, _ => rfl
  | 14, _ => rfl
  | 15, _ => rfl
  | 16, _ => rfl
  | 17, _ => rfl
  | 18, _ => rfl
  | 19, _ => rfl
  | 20, _ => rfl
  | 21, _ => rfl
  | 22, _ => rfl
  | 23, _ => rfl
  | 24, _ => rfl
  | 25, _ => rfl
  | 26, _ => rfl
  | 27, _ => rfl
  | j + 28, h => omega
theorem n_ml_L_9 : ph_ML RL 9 yX8_init := Or.inl (ph_tb_of 59 (by decide +kernel) rfl)
theorem n_ml_L_12 : ph_ML RL 12 yX9_init := Or.inl (ph_tb_of 782 (by decide +kernel) rfl)
def n_LQ (E : n_E) (b : Nat) (pc : Nat) (ls : List (Option Value)) (w : va_W) : Prop := pc = 16 ∧ ∃ a0 a1 a2 a3 a4 a5 a6 a7 a8 a9 a10 a11 a12 a13 a14 a15 a16 a17 a18 a19 a20 a21 a22 a23 a24 a25 a26 a27 a28 a29 a30 a31 a32 a33 a34 a35 a36 a37 a38 a39 a40 a41 a42 a43 a44 a45 a46 a47 a48 a49 a50 a51 a52 a53 a54 a55 a56 a57 a58 a59 a60 a61 a62 a63 a64 a65 a66 a67 a68 : Nat, ls = [some (.ref b), some (.ref a0), some (.ref a51), none] ∧ w = [(a0, .inr (8, [.ref a1, .ref a3, .ref a5, .ref a10, .ref a15, .ref a20, .ref a25, .int (nI 1), .ref a41, .ref a42, .ref a45, .ref a46, .ref a47, .int (nI 0)])), (a1, .inr (4, [.ref a2, .int (nI 0)])), (a2, .inl (E.2.2.1, 24, .inl (fun _ => nI 0))), (a3, .inr (4, [.ref a4, .int (nI 0)])), (a4, .inl (E.2.2.1, 44, .inl (fun _ => nI 0))), (a5, .inr (7, [.ref a6, .ref a8])), (a6, .inr (4, [.ref a7, .int (nI 0)])), (a7, .inl (E.2.2.1, 12, .inl (fun _ => nI 0))), (a8, .inr (4, [.ref a9, .int (nI 0)])), (a9, .inl (E.2.2.1, 12, .inl (fun _ => nI 0))), (a10, .inr (7, [.ref a11, .ref a13])), (a11, .inr (4, [.ref a12, .int (nI 0)])), (a12, .inl (E.2.2.1, 12, .inl (fun _ => nI 0))), (a13, .inr (4, [.ref a14, .int (nI 0)])), (a14, .inl (E.2.2.1, 12, .inl (fun _ => nI 0))), (a15, .inr (7, [.ref a16, .ref a18])), (a16, .inr (4, [.ref a17, .int (nI 0)])), (a17, .inl (E.2.2.1, 6, .inl (fun _ => nI 0))), (a18, .inr (4, [.ref a19, .int (nI 0)])), (a19, .inl (E.2.2.1, 6, .inl (fun _ => nI 0))), (a20, .inr (7, [.ref a21, .ref a23])), (a21, .inr (4, [.ref a22, .int (nI 0)])), (a22, .inl (E.2.2.1, 8, .inl (fun _ => nI 0))), (a23, .inr (4, [.ref a24, .int (nI 0)])), (a24, .inl (E.2.2.1, 8, .inl (fun _ => nI 0))), (a25, .inr (6, [.ref a26, .ref a30, .ref a36, .ref a37, .ref a38, .ref a39, .ref a40])), (a26, .inr (3, [.ref a27, .ref a28, .ref a29, .int (nI 0), .int (-1)])), (a27, .inl (E.2.2.1, 24, .inl (fun _ => nI 0))), (a28, .inl (E.2.2.1, 8, .inl (fun _ => nI 0))), (a29, .inl (E.2.2.1, 8, .inl (fun _ => nI 0))), (a30, .inr (1, [.ref a31, .ref a32, .ref a33, .ref a34, .ref a35, .int (nI 0), .int (-1)])), (a31, .inl (E.2.2.1, 9, .inl (fun _ => nI 0))), (a32, .inl (E.2.2.1, 9, .inl (fun _ => nI 0))), (a33, .inl (E.2.2.1, 9, .inl (fun _ => nI 0))), (a34, .inl (E.2.2.1, 9, .inl (fun _ => nI 0))), (a35, .inl (E.2.2.1, 72, .inl (fun _ => nI 0))), (a36, .inl (E.2.2.1, 40, .inl (fun _ => nI 0))), (a37, .inl (E.2.2.1, 40, .inl (fun _ => nI 0))), (a38, .inl (E.2.2.2.1, 40, .inl (fun _ => nI 0))), (a39, .inl (E.2.2.1, 40, .inl (fun _ => nI 0))), (a40, .inl (E.2.2.1, 40, .inl (fun _ => nI 0))), (a41, .inr (2, [.int (nI 0)])), (a42, .inr (0, [.ref a43, .ref a44, .long (lN 1), .long (lN 0), .long (lN 1)])), (a43, .inl (E.2.2.2.2, 8, .inr (.inl (fun _ => lN 0)))), (a44, .inl (E.2.2.2.2, 8, .inr (.inl (fun _ => lN 0)))), (a45, .inl (E.2.2.1, 40, .inl (fun _ => nI 0))), (a46, .inl (E.2.2.1, 320, .inl (fun _ => nI 0))), (a47, .inr (5, [.ref a48, .ref a49, .ref a50])), (a48, .inl (E.2.2.1, 4, .inl (upd (upd (upd (upd (fun _ => nI 0) 0 (-1)) 1 (-1)) 2 (-1)) 3 (-1)))), (a49, .inl (E.2.2.1, 4, .inl (fun _ => nI 0))), (a50, .inl (E.2.2.1, 240, .inl (fun _ => nI 0))), (a51, .inr (9, [.ref a52, .ref a53, .ref a54, .ref a55, .int (nI 0), .ref a56, .ref a57, .int (nI 0), .ref a58, .int (nI 0), .ref a59, .int (nI 0), .ref a60, .int (nI 0), .ref a61, .int (nI 0), .ref a62, .ref a63, .ref a64, .ref a65, .ref a66, .int (-1), .int (-1), .int (nI 0), .int (nI 0), .ref a67, .ref a68, .int (nI 0)])), (a52, .inl (E.2.2.1, 4, .inl (upd (upd (upd (upd (fun _ => nI 0) 0 (-1)) 1 (-1)) 2 (-1)) 3 (-1)))), (a53, .inl (E.2.2.1, 4, .inl (fun _ => nI 0))), (a54, .inl (E.2.2.1, 240, .inl (fun _ => nI 0))), (a55, .inl (E.2.2.1, 60, .inl (fun _ => nI 0))), (a56, .inl (E.2.2.1, 88, .inl (fun _ => nI 0))), (a57, .inl (E.2.2.1, 2, .inl (fun _ => nI 0))), (a58, .inl (E.2.2.1, 24, .inl (fun _ => nI 0))), (a59, .inl (E.2.2.1, 36, .inl (fun _ => nI 0))), (a60, .inl (E.2.2.1, 24, .inl (fun _ => nI 0))), (a61, .inl (E.2.2.1, 24, .inl (fun _ => nI 0))), (a62, .inl (E.2.2.1, 6, .inl (fun _ => nI 0))), (a63, .inl (E.2.2.1, 40, .inl (fun _ => nI 0))), (a64, .inl (E.2.2.1, 40, .inl (fun _ => nI 0))), (a65, .inl (E.2.2.1, 40, .inl (fun _ => nI 0))), (a66, .inl (E.2.2.1, 40, .inl (fun _ => nI 0))), (a67, .inl (E.2.2.1, 16, .inl (fun _ => nI 0))), (a68, .inl (E.2.2.1, 360, .inl (fun _ => nI 0)))]
set_option maxRecDepth 100000 in
set_option maxHeartbeats 4000000 in
theorem n_law (E : n_E) (b : Nat) : n_G E RL cL_law 4 (4, 69, 2262) false 0 [some (.ref b), none, none, none] [] [] 0 0 (n_LQ E b) := by
  refine n_new (ci := 8) (fs := [.null, .null, .null, .null, .null, .null, .null, .int (nI 0), .null, .null, .null, .null, .null, .int (nI 0)]) (ce2 := 1) (sl2 := 14) tyX8 (pc := 0) dL_law_0 rfl tyX8_ok n_cl_L_7 n_is_8 n_in_8 n_df_8 (by omega) (by omega) (by decide) (by decide) (fun a0 => ?_)
  refine n_dup (pc := 3) dL_law_3 rfl ?_
  refine n_call (X := []) (ce2 := 51) (sl2 := 1186) (rest := [.ref a0]) (pc := 4) dL_law_4 n_mf_8 n_ml_L_9 (n_X8 E a0) rfl (by decide) rfl rfl (by simp [Value.category]) (by dsimp only) (by dsimp only) (by decide) (by decide) (fun w1 hw1 => ?_)
  obtain ⟨a1, a2, a3, a4, a5, a6, a7, a8, a9, a10, a11, a12, a13, a14, a15, a16, a17, a18, a19, a20, a21, a22, a23, a24, a25, a26, a27, a28, a29, a30, a31, a32, a33, a34, a35, a36, a37, a38, a39, a40, a41, a42, a43, a44, a45, a46, a47, a48, a49, a50, rfl⟩ := hw1
  refine n_astore_n (i := 1) (ls1 := [some (.ref b), some (.ref a0), none, none]) (pc := 7) dL_law_7 rfl (by decide) rfl ?_
  refine n_new (ci := 9) (fs := [.null, .null, .null, .null, .int (nI 0), .null, .null, .int (nI 0), .null, .int (nI 0), .null, .int (nI 0), .null, .int (nI 0), .null, .int (nI 0), .null, .null, .null, .null, .null, .int (nI 0), .int (nI 0), .int (nI 0), .int (nI 0), .null, .null, .int (nI 0)]) (ce2 := 52) (sl2 := 1214) tyX9 (pc := 8) dL_law_8 rfl tyX9_ok n_cl_L_10 n_is_9 n_in_9 n_df_9 (by omega) (by omega) (by decide) (by decide) (fun a51 => ?_)
  refine n_dup (pc := 11) dL_law_11 rfl ?_
  refine n_call (X := [(a0, .inr (8, [.ref a1, .ref a3, .ref a5, .ref a10, .ref a15, .ref a20, .ref a25, .int (nI 1), .ref a41, .ref a42, .ref a45, .ref a46, .ref a47, .int (nI 0)])), (a1, .inr (4, [.ref a2, .int (nI 0)])), (a2, .inl (E.2.2.1, 24, .inl (fun _ => nI 0))), (a3, .inr (4, [.ref a4, .int (nI 0)])), (a4, .inl (E.2.2.1, 44, .inl (fun _ => nI 0))), (a5, .inr (7, [.ref a6, .ref a8])), (a6, .inr (4, [.ref a7, .int (nI 0)])), (a7, .inl (E.2.2.1, 12, .inl (fun _ => nI 0))), (a8, .inr (4, [.ref a9, .int (nI 0)])), (a9, .inl (E.2.2.1, 12, .inl (fun _ => nI 0))), (a10, .inr (7, [.ref a11, .ref a13])), (a11, .inr (4, [.ref a12, .int (nI 0)])), (a12, .inl (E.2.2.1, 12, .inl (fun _ => nI 0))), (a13, .inr (4, [.ref a14, .int (nI 0)])), (a14, .inl (E.2.2.1, 12, .inl (fun _ => nI 0))), (a15, .inr (7, [.ref a16, .ref a18])), (a16, .inr (4, [.ref a17, .int (nI 0)])), (a17, .inl (E.2.2.1, 6, .inl (fun _ => nI 0))), (a18, .inr (4, [.ref a19, .int (nI 0)])), (a19, .inl (E.2.2.1, 6, .inl (fun _ => nI 0))), (a20, .inr (7, [.ref a21, .ref a23])), (a21, .inr (4, [.ref a22, .int (nI 0)])), (a22, .inl (E.2.2.1, 8, .inl (fun _ => nI 0))), (a23, .inr (4, [.ref a24, .int (nI 0)])), (a24, .inl (E.2.2.1, 8, .inl (fun _ => nI 0))), (a25, .inr (6, [.ref a26, .ref a30, .ref a36, .ref a37, .ref a38, .ref a39, .ref a40])), (a26, .inr (3, [.ref a27, .ref a28, .ref a29, .int (nI 0), .int (-1)])), (a27, .inl (E.2.2.1, 24, .inl (fun _ => nI 0))), (a28, .inl (E.2.2.1, 8, .inl (fun _ => nI 0))), (a29, .inl (E.2.2.1, 8, .inl (fun _ => nI 0))), (a30, .inr (1, [.ref a31, .ref a32, .ref a33, .ref a34, .ref a35, .int (nI 0), .int (-1)])), (a31, .inl (E.2.2.1, 9, .inl (fun _ => nI 0))), (a32, .inl (E.2.2.1, 9, .inl (fun _ => nI 0))), (a33, .inl (E.2.2.1, 9, .inl (fun _ => nI 0))), (a34, .inl (E.2.2.1, 9, .inl (fun _ => nI 0))), (a35, .inl (E.2.2.1, 72, .inl (fun _ => nI 0))), (a36, .inl (E.2.2.1, 40, .inl (fun _ => nI 0))), (a37, .inl (E.2.2.1, 40, .inl (fun _ => nI 0))), (a38, .inl (E.2.2.2.1, 40, .inl (fun _ => nI 0))), (a39, .inl (E.2.2.1, 40, .inl (fun _ => nI 0))), (a40, .inl (E.2.2.1, 40, .inl (fun _ => nI 0))), (a41, .inr (2, [.int (nI 0)])), (a42, .inr (0, [.ref a43, .ref a44, .long (lN 1), .long (lN 0), .long (lN 1)])), (a43, .inl (E.2.2.2.2, 8, .inr (.inl (fun _ => lN 0)))), (a44, .inl (E.2.2.2.2, 8, .inr (.inl (fun _ => lN 0)))), (a45, .inl (E.2.2.1, 40, .inl (fun _ => nI 0))), (a46, .inl (E.2.2.1, 320, .inl (fun _ => nI 0))), (a47, .inr (5, [.ref a48, .ref a49, .ref a50])), (a48, .inl (E.2.2.1, 4, .inl (upd (upd (upd (upd (fun _ => nI 0) 0 (-1)) 1 (-1)) 2 (-1)) 3 (-1)))), (a49, .inl (E.2.2.1, 4, .inl (fun _ => nI 0))), (a50, .inl (E.2.2.1, 240, .inl (fun _ => nI 0)))]) (ce2 := 69) (sl2 := 2262) (rest := [.ref a51]) (pc := 12) dL_law_12 n_mf_9 n_ml_L_12 (n_X9 E a51) rfl (by decide) rfl rfl (by simp [Value.category]) (by dsimp only) (by dsimp only) (by decide) (by decide) (fun w1 hw1 => ?_)
  obtain ⟨a52, a53, a54, a55, a56, a57, a58, a59, a60, a61, a62, a63, a64, a65, a66, a67, a68, rfl⟩ := hw1
  refine n_astore_n (i := 2) (ls1 := [some (.ref b), some (.ref a0), some (.ref a51), none]) (pc := 15) dL_law_15 rfl (by decide) rfl ?_
  exact n_end ⟨rfl, a0, a1, a2, a3, a4, a5, a6, a7, a8, a9, a10, a11, a12, a13, a14, a15, a16, a17, a18, a19, a20, a21, a22, a23, a24, a25, a26, a27, a28, a29, a30, a31, a32, a33, a34, a35, a36, a37, a38, a39, a40, a41, a42, a43, a44, a45, a46, a47, a48, a49, a50, a51, a52, a53, a54, a55, a56, a57, a58, a59, a60, a61, a62, a63, a64, a65, a66, a67, a68, rfl, rfl⟩ rfl rfl
theorem n_kn {s : State} {args : Array Value} (c0 : ClassId) (hts : ∀ w ∈ ph_tb, w.before args s = true) (k : Nat) : ∃ z : ClassId × (Nat → Nat), ∀ q, vwCl[k]? = some q → u_Kn s q.1 q.2.1 q.2.2 z.1 z.2 := by
  match k with
  | 0 =>
    obtain ⟨x, y, h⟩ := u_known (C := RX0) (T := TX0) (N := 5) (n := 5) hts ph_in0 (hts _ n_is_0)
    exact ⟨(x, y), fun q hq => by cases hq; exact h⟩
  | 1 =>
    obtain ⟨x, y, h⟩ := u_known (C := RX1) (T := TX1) (N := 7) (n := 7) hts ph_in1 (hts _ n_is_1)
    exact ⟨(x, y), fun q hq => by cases hq; exact h⟩
  | 2 =>
    obtain ⟨x, y, h⟩ := u_known (C := RX2) (T := TX2) (N := 1) (n := 1) hts ph_in2 (hts _ n_is_2)
    exact ⟨(x, y), fun q hq => by cases hq; exact h⟩
  | 3 =>
    obtain ⟨x, y, h⟩ := u_known (C := RX3) (T := TX3) (N := 5) (n := 5) hts ph_in3 (hts _ n_is_3)
    exact ⟨(x, y), fun q hq => by cases hq; exact h⟩
  | 4 =>
    obtain ⟨x, y, h⟩ := u_known (C := RX4) (T := TX4) (N := 2) (n := 2) hts ph_in4 (hts _ n_is_4)
    exact ⟨(x, y), fun q hq => by cases hq; exact h⟩
  | 5 =>
    obtain ⟨x, y, h⟩ := u_known (C := RX5) (T := TX5) (N := 3) (n := 3) hts ph_in5 (hts _ n_is_5)
    exact ⟨(x, y), fun q hq => by cases hq; exact h⟩
  | 6 =>
    obtain ⟨x, y, h⟩ := u_known (C := RX6) (T := TX6) (N := 7) (n := 7) hts ph_in6 (hts _ n_is_6)
    exact ⟨(x, y), fun q hq => by cases hq; exact h⟩
  | 7 =>
    obtain ⟨x, y, h⟩ := u_known (C := RX7) (T := TX7) (N := 2) (n := 2) hts ph_in7 (hts _ n_is_7)
    exact ⟨(x, y), fun q hq => by cases hq; exact h⟩
  | 8 =>
    obtain ⟨x, y, h⟩ := u_known (C := RX8) (T := TX8) (N := 14) (n := 14) hts ph_in8 (hts _ n_is_8)
    exact ⟨(x, y), fun q hq => by cases hq; exact h⟩
  | 9 =>
    obtain ⟨x, y, h⟩ := u_known (C := RX9) (T := TX9) (N := 28) (n := 28) hts ph_in9 (hts _ n_is_9)
    exact ⟨(x, y), fun q hq => by cases hq; exact h⟩
  | k + 10 => exact ⟨(c0, fun _ => 0), fun q hq => by simp [vwCl] at hq⟩
theorem n_arr {s : State} {args : Array Value} {ty : FieldType} (h : (Cond.arrayClass ty).before args s = true) : ∃ cA : ClassId, s.vm.findClass ("[" ++ ty.toString) = some cA ∧ ArrOfT s cA ty := by
  obtain ⟨cA, kA, comp, h1, h2, h3⟩ := Cond.arrayClass_spec h
  exact ⟨cA, h1, fun n z => ⟨fun k h => (by cases h), kA, h2, comp, h3⟩⟩
