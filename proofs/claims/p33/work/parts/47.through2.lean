section THR2
variable {d : Nat} {B : Bx} {J : J2} {G : I2 → J2 → Prop} {F : Int32 → I2 → J2 → Prop} {s f m s0 : Nat}
def thD (B : Bx) (f s0 n : Nat) (I : I2) : Prop := ∀ j, j < n → ∀ a, (bfs B f s0).ord[j]? = some a → ∀ b, b < 2 * B.pn → I 68 (10 * a + b) = nxI B f a b
theorem WmR_0 {I : I2} (hI : ∀ t, t < 1024 → I 64 t = -1) (hI2 : ∀ t, t < 1024 → I 67 t = 0) : WmR (bfs0 s) (up2 (up2 (up2 (up2 I 64 s 0) 67 s 1) 63 0 (nI s)) 57 11 1) := by
  refine ⟨?_, fun k x hx => ?_, fun t ht => ?_, fun t ht => ?_, fun t ht => ?_⟩
  · show _ = nI [s].length
    simp [up2, upd]; rfl
  · have hx : [s][k]? = some x := hx
    match k, hx with
    | 0, hx => simp at hx; subst hx; simp [up2, upd]
    | k + 1, hx => simp at hx
  · show _ = nI (updN (fun _ => 0) s 1 t) - 1
    by_cases e : t = s
    · subst e; simp [up2, upd, updN]; rfl
    · simp [up2, upd, updN, e]; rw [hI t ht]; rfl
  · show _ = nI (updN (fun _ => 0) s 1 t)
    by_cases e : t = s
    · subst e; simp [up2, upd, updN]; rfl
    · simp [up2, upd, updN, e]; rw [hI2 t ht]; rfl
  · have ht : 1 < updN (fun _ => 0) s 1 t := ht
    unfold updN at ht
    split at ht
    · omega
    · exact absurd ht (show ¬ 1 < 0 from by decide)
def zrL (n : Nat) (u : Nat → Int32) : Nat → Int32 := fun j => if j < n then 0 else u j
theorem zrL_0 {u : Nat → Int32} : zrL 0 u = u := by
  funext j
  simp only [zrL]
  rw [if_neg (Nat.not_lt_zero j)]
theorem zrL_up {u : Nat → Int32} {n : Nat} : upd (zrL n u) n 0 = zrL (n + 1) u := by
  funext j
  simp only [upd, zrL]
  by_cases e : j = n
  · rw [if_pos e, if_pos (by omega)]
  · rw [if_neg e]
    by_cases e2 : j < n
    · rw [if_pos e2, if_pos (by omega)]
    · rw [if_neg e2, if_neg (by omega)]
end THR2
