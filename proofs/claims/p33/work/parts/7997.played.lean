/-! PLAYED, walked -/
section PLY
variable {d : Nat} {V V' V0 : Bv} {K : Option Bv} {t : Tpe} {S : Nat → Shv} {I : I2} {J : J2} {F : Int32 → I2 → J2 → Prop} {m : Nat} {g : Gv}
theorem cmp0_lt_z {a : Nat} (h : a < 2 ^ 63) : ¬ lg_cmp (lN a) 0 < 0 := fun q => by
  have := (pk_lLT (b := 0) h (by decide)).mp (cmp_lt.mp q); omega
theorem fA_b_z (n : Nat) (hn : n ≤ 3) : fA_z V n < 2 ^ 40 ∧ fB_z V n < 2 ^ 40 := by
  have h1 := fB_le_z (V := V) n
  have h2 := pow25 hn
  have h3 := fA_le_z (V := V) n
  omega
set_option maxHeartbeats 8000000 in
theorem pl_388_z (hd : 10 ≤ d) (hw : W2_z V0.B I) (h0 : 0 < V0.B.pn) (h : ∀ I', RS_z V0 (some V0) t S I' J → F57_z I I' → F 1 I' J) : ∀ k n, n + k = 4 → ∀ I' (a b : Nat), RS_z V0 (some V0) t S I' J → F57_z I I' → (n = 0 ∧ a = 0 ∧ b = 1 ∨ ∃ n', n = n' + 1 ∧ a = fA_z V0 n' ∧ b = fB_z V0 n') → ∀ x4 x5 x7 : Int32, Wp d Lw_played (QI F) 388 [some (.ref 0), some (.ref 57), some (.long (hsV_z V0)), none, some (.int x4), some (.int x5), some (.int 1), some (.int x7), some (.long (lN a)), none, some (.long (lN b)), none, some (.int (nI n)), none, none, none, none] [] I' J := by
  have hd8 : 8 ≤ d := by omega
  intro k
  induction k with
  | zero =>
    intro n hn I' a b r f hab x4 x5 x7
    refine v_Lw_played_0_57_388 ⟨fun q => ?_, fun _ => ⟨fun q => absurd q (by decide), fun _ => c_hash_z (by omega) r (hw.f f).1 ⟨fun _ => QI_i.mpr (h I' r f), fun q => absurd cmp_self_z q⟩⟩⟩
    have := (n_lt (b := 4) (show n < 2 ^ 31 by omega) (by decide)).mp q; omega
  | succ k ih =>
    intro n hn I' a b r f hab x4 x5 x7
    have hn3 : n ≤ 3 := by omega
    have hW := r.1.1
    obtain ⟨v0, v1⟩ := fum_v_z (V := V0) hn3
    obtain ⟨b0, b1⟩ := fA_b_z (V := V0) n hn3
    have hlt := cnt_lt_z hW V0.f
    have nxt : ∀ I3, RS_z V0 (some V0) t S I3 J → F57_z I I3 → Wp d Lw_played (QI F) 388 [some (.ref 0), some (.ref 57), some (.long (hsV_z V0)), none, some (.int x4), some (.int x5), some (.int 1), some (.int x7), some (.long (lN (fA_z V0 n))), none, some (.long (lN (fB_z V0 n))), none, some (.int (nI n + 1)), none, none, none, none] [] I3 J := by
      intro I3 r3 f3
      rw [n_inc]
      exact ih (n + 1) (by omega) I3 _ _ r3 f3 (Or.inr ⟨n, rfl, rfl, rfl⟩) x4 x5 x7
    -- none so far, some by now
    have at482 : ∀ (s0 : Int32) I3, RS_z V0 (some V0) t S I3 J → F57_z I I3 → (s0 = 1 ∧ fA_z V0 n = 0 ∨ s0 = 0 ∧ ¬ fA_z V0 n = 0) → Wp d Lw_played (QI F) 482 [some (.ref 0), some (.ref 57), some (.long (hsV_z V0)), none, some (.int x4), some (.int x5), some (.int 1), some (.int x7), some (.long (lN a)), none, some (.long (lN b)), none, some (.int (nI n)), some (.long (lN (fA_z V0 n))), none, some (.long (lN (fB_z V0 n))), none] [.int s0] I3 J := by
      intro s0 I3 r3 f3 hs
      have hfc := fA_cnt_z hW n
      refine v_Lw_played_0_57_482 (k_opens_z hd8 r3 _ (fun I4 r4 f4 => ?_))
      rw [opens_m1_z h0, (optI_neg_z hlt).1]
      refine ⟨fun e => ?_, fun e => k_opens_z hd8 r4 _ (fun I5 r5 f5 => ?_)⟩
      · have ez := hfc.mpr (Or.inl e)
        rcases hs with ⟨e1, e2⟩ | ⟨e1, e2⟩
        · rw [e1]; exact ⟨fun _ => nxt I4 r4 (f3.tr f4), fun q => absurd rfl q⟩
        · exact absurd ez e2
      · rw [opens_m1_z h0, optI_lt_z hlt n (by omega)]
        refine ⟨fun e3 => ?_, fun e3 => ?_⟩
        · have ez := hfc.mpr (Or.inr e3)
          rcases hs with ⟨e1, e2⟩ | ⟨e1, e2⟩
          · rw [e1]; exact ⟨fun _ => nxt I5 r5 (f3.tr (f4.tr f5)), fun q => absurd rfl q⟩
          · exact absurd ez e2
        · rcases hs with ⟨e1, e2⟩ | ⟨e1, e2⟩
          · rcases hfc.mp e2 with z | z
            · exact absurd z e
            · exact absurd z e3
          · rw [e1]; exact ⟨fun _ => nxt I5 r5 (f3.tr (f4.tr f5)), fun q => absurd rfl q⟩
    have go : ∀ I3, RS_z V0 (some V0) t S I3 J → F57_z I I3 → (lg_cmp (lN (fA_z V0 n)) 0 = 0 → Wp d Lw_played (QI F) 482 [some (.ref 0), some (.ref 57), some (.long (hsV_z V0)), none, some (.int x4), some (.int x5), some (.int 1), some (.int x7), some (.long (lN a)), none, some (.long (lN b)), none, some (.int (nI n)), some (.long (lN (fA_z V0 n))), none, some (.long (lN (fB_z V0 n))), none] [.int 1] I3 J) ∧ (¬ (lg_cmp (lN (fA_z V0 n)) 0 = 0) → Wp d Lw_played (QI F) 482 [some (.ref 0), some (.ref 57), some (.long (hsV_z V0)), none, some (.int x4), some (.int x5), some (.int 1), some (.int x7), some (.long (lN a)), none, some (.long (lN b)), none, some (.int (nI n)), some (.long (lN (fA_z V0 n))), none, some (.long (lN (fB_z V0 n))), none] [.int 0] I3 J) := by
      intro I3 r3 f3
      rw [lN_0 (by omega)]
      exact ⟨fun e => at482 1 I3 r3 f3 (Or.inl ⟨rfl, e⟩), fun e => at482 0 I3 r3 f3 (Or.inr ⟨rfl, e⟩)⟩
    refine v_Lw_played_0_57_388 ⟨fun _ => ⟨fun q => absurd q (by decide), fun _ => k_fumble_z hd r _ _ (k_fumble_z hd r _ _ ?_)⟩, fun q => absurd ((n_lt (b := 4) (show n < 2 ^ 31 by omega) (by decide)).mpr (by omega)) q⟩
    rw [v0, v1]
    refine ⟨fun q => absurd q (cmp0_lt_z (by omega)), fun _ => ⟨fun _ => ⟨fun q => ?_, fun _ => ⟨fun q => ?_, fun _ => ⟨fun _ => go I' r f, fun e => k_count_z hd8 r _ ?_⟩⟩⟩, fun q => absurd ?_ q⟩⟩
    · have := (pk_lLT (show fB_z V0 n < 2 ^ 63 by omega) (show fA_z V0 n < 2 ^ 63 by omega)).mp (cmp_gt.mp q)
      have := fA_le_z (V := V0) n; omega
    · exfalso
      have q := cmp_lt.mp q
      rw [lN_mul, lN_mul] at q
      rcases hab with ⟨e1, e2, e3⟩ | ⟨n', e1, e2, e3⟩
      · rw [e2, e3, Nat.mul_one, Nat.zero_mul] at q
        have := (pk_lLT (show fA_z V0 n < 2 ^ 63 by omega) (show 0 < 2 ^ 63 by decide)).mp q; omega
      · have hc := f_cross_z (V := V0) n'
        have hl1 := fB_le_z (V := V0) n'
        have hl2 : 2520 ^ n' ≤ 2520 ^ 2 := Nat.pow_le_pow_right (by decide) (by omega)
        have hl3 := fA_le_z (V := V0) n'
        have hl0 := fA_le_z (V := V0) n
        have hl4 := fB_le_z (V := V0) n
        have hl5 := pow25 hn3
        have m1 : fA_z V0 n * b ≤ 16003008000 * 6350400 := Nat.mul_le_mul (by omega) (by rw [e3]; omega)
        have m2 : a * fB_z V0 n ≤ 6350400 * 16003008000 := Nat.mul_le_mul (by rw [e2]; omega) (by omega)
        have := (pk_lLT (show fA_z V0 n * b < 2 ^ 63 by omega) (show a * fB_z V0 n < 2 ^ 63 by omega)).mp q
        rw [← e1] at hc
        rw [e2, e3] at this
        omega
    · have en : n = 0 := by
        rcases Nat.eq_zero_or_pos n with z | z
        · exact z
        · exact absurd ((n_p0 (by omega)).mpr z) e
      rw [cnt_3_z, bI_n_z, nI_l (by cases openB V0.B V0.lid V0.s <;> decide)]
      refine ⟨fun _ => go I' r f, fun q => absurd (cmp_eq.mpr ?_) q⟩
      rw [en, fA_open_z]
      cases openB V0.B V0.lid V0.s <;> rfl
    · exact cmp_gt.mpr ((pk_lLT (a := 0) (by decide) (show fB_z V0 n < 2 ^ 63 by omega)).mpr (fB_pos_z n))
end PLY
