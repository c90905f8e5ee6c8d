/-! fumbled at: the model, forward from now -/
def sm (w P : Nat → Nat) (l : List Nat) : Nat := (l.map (fun t => P t * w t)).sum
theorem sm_nil {w P : Nat → Nat} : sm w P [] = 0 := rfl
theorem sm_cons {w P : Nat → Nat} {x : Nat} {l : List Nat} : sm w P (x :: l) = P x * w x + sm w P l := by simp [sm]
theorem sm_app {w P : Nat → Nat} {l r : List Nat} : sm w P (l ++ r) = sm w P l + sm w P r := by simp [sm]
theorem sm_congr {w P P' : Nat → Nat} : ∀ {l : List Nat}, (∀ t ∈ l, P t = P' t) → sm w P l = sm w P' l := by
  intro l
  induction l with
  | nil => intro _; rfl
  | cons x l ih =>
    intro h
    rw [sm_cons, sm_cons, h x List.mem_cons_self, ih (fun t ht => h t (List.mem_cons_of_mem _ ht))]
theorem sm_0 {w P : Nat → Nat} : ∀ {l : List Nat}, (∀ t ∈ l, P t = 0) → sm w P l = 0 := by
  intro l
  induction l with
  | nil => intro _; rfl
  | cons x l ih =>
    intro h
    rw [sm_cons, h x List.mem_cons_self, ih (fun t ht => h t (List.mem_cons_of_mem _ ht)), Nat.zero_mul]
theorem sm_upd {w P : Nat → Nat} {t c : Nat} : ∀ {l : List Nat}, l.Nodup → t ∈ l → sm w (updN P t (P t + c)) l = sm w P l + c * w t := by
  intro l
  induction l with
  | nil => intro _ h; cases h
  | cons x l ih =>
    intro hn hm
    obtain ⟨h1, h2⟩ := List.nodup_cons.mp hn
    rw [sm_cons, sm_cons]
    by_cases e : x = t
    · subst e
      have e3 : ∀ y ∈ l, updN P x (P x + c) y = P y := fun y hy => if_neg (fun (q : y = x) => h1 (q ▸ hy))
      rw [sm_congr e3, show updN P x (P x + c) x = P x + c from if_pos rfl, Nat.add_mul]
      omega
    · have hm : t ∈ l := (List.mem_cons.mp hm).resolve_left (fun q => e q.symm)
      rw [ih h2 hm, show updN P t (P t + c) x = P x from if_neg e]
      omega
def nxw (B : Bx) (o f : Nat) (w : Nat → Nat) (s : Nat) : Nat := if deg B f s (2 * B.pn) = 0 ∨ openB B o s = true then 2520 * w s else (2520 / deg B f s (2 * B.pn)) * sumM B f s w (2 * B.pn)
theorem shr_open {B : Bx} {o f j s : Nat} (h : openB B o s = true) : shr B o f j s = 2520 ^ j := by
  cases j with
  | zero => simp only [shr]; rw [if_pos h]
  | succ j => simp only [shr]; rw [if_pos h]
theorem nxw_shr {B : Bx} {o f j s : Nat} : nxw B o f (shr B o f j) s = shr B o f (j + 1) s := by
  unfold nxw
  by_cases h : openB B o s = true
  · rw [if_pos (Or.inr h), shr_open h, shr_open h, Nat.pow_succ, Nat.mul_comm]
  · by_cases h0 : deg B f s (2 * B.pn) = 0
    · rw [if_pos (Or.inl h0)]
      have e1 : shr B o f (j + 1) s = 0 := by simp only [shr]; rw [if_neg h, if_pos h0]
      have e2 : shr B o f j s = 0 := by
        cases j with
        | zero => simp only [shr]; rw [if_neg h]
        | succ j => simp only [shr]; rw [if_neg h, if_pos h0]
      rw [e1, e2]
    · rw [if_neg (fun q => q.elim h0 h)]
      simp only [shr]
      rw [if_neg h, if_neg h0, Nat.mul_comm]
/-- what fumbling leaves alone of the rows of longs -/
def FrJ (J J' : J2) : Prop := ∀ a, a ≠ 71 → a ≠ 72 → J' a = J a
theorem FrJ.rf {J : J2} : FrJ J J := fun _ _ _ => rfl
theorem FrJ.tr {J0 J1 J2 : J2} (h1 : FrJ J0 J1) (h2 : FrJ J1 J2) : FrJ J0 J2 := fun a x y => (h2 a x y).trans (h1 a x y)
theorem FrJ_71 {J : J2} {k : Nat} {x : Int64} : FrJ J (upJ J 71 k x) := fun a h _ => by simp [upJ, h]
theorem FrJ_72 {J : J2} {k : Nat} {x : Int64} : FrJ J (upJ J 72 k x) := fun a _ h => by simp [upJ, h]
theorem upJ_s {J : J2} {a k : Nat} {x : Int64} : upJ J a k x a k = x := by simp [upJ, vp_updL]
theorem upJ_k {J : J2} {a k j : Nat} {x : Int64} (h : j ≠ k) : upJ J a k x a j = J a j := by simp [upJ, vp_updL, h]
theorem upJ_a {J : J2} {a k b : Nat} {x : Int64} (h : b ≠ a) : upJ J a k x b = J b := by simp [upJ, h]
section FUM2
variable {d : Nat} {V : Bv} {I : I2} {J : J2} {G : I2 → J2 → Prop} {F : Int64 → I2 → J2 → Prop} {f s : Nat}
end FUM2
