/-! the walk, as both sides do it: who was met in which order, how far (0: not yet, else one more), from where, by which move, by how many rows -/
def nx (B : Bx) (f s m : Nat) : Option Nat := if mayB B s f (m / 2) (m % 2) then some (behB B s (m / 2) (m % 2) B.pn) else none
abbrev Tw : Type := List Nat × (Nat → Nat) × (Nat → Nat) × (Nat → Nat) × (Nat → Nat)
abbrev Tw.ord (T : Tw) : List Nat := T.1
abbrev Tw.fa (T : Tw) : Nat → Nat := T.2.1
abbrev Tw.fr (T : Tw) : Nat → Nat := T.2.2.1
abbrev Tw.by' (T : Tw) : Nat → Nat := T.2.2.2.1
abbrev Tw.wy (T : Tw) : Nat → Nat := T.2.2.2.2
def Tw.add (T : Tw) (s m t : Nat) : Tw := (T.ord ++ [t], updN T.fa t (T.fa s + 1), updN T.fr t s, updN T.by' t m, updN T.wy t 0)
def Tw.more (T : Tw) (s t : Nat) : Tw := if T.fa t = T.fa s + 1 then (T.ord, T.fa, T.fr, T.by', updN T.wy t ((T.wy t + T.wy s) % 1000003)) else T
def meet (T : Tw) (s m t : Nat) : Tw := if T.fa t = 0 then (T.add s m t).more s t else T.more s t
def vis (B : Bx) (f s : Nat) : Nat → Tw → Tw
  | 0, T => T
  | m + 1, T => match nx B f s m with
    | none => vis B f s m T
    | some t => meet (vis B f s m T) s m t
def bfs0 (s0 : Nat) : Tw := ([s0], updN (fun _ => 0) s0 1, fun _ => 0, fun _ => 0, updN (fun _ => 0) s0 1)
def bfsN (B : Bx) (f s0 : Nat) : Nat → Tw
  | 0 => bfs0 s0
  | n + 1 => match (bfsN B f s0 n).ord[n]? with
    | none => bfsN B f s0 n
    | some s => vis B f s (2 * B.pn) (bfsN B f s0 n)
theorem bfs_ex (B : Bx) (f s0 : Nat) : ∃ z : Tw, z = bfsN B f s0 1024 := ⟨_, rfl⟩
/-- the whole walk (chosen, so that nobody reckons it) -/
noncomputable def bfs (B : Bx) (f s0 : Nat) : Tw := Classical.choose (bfs_ex B f s0)
theorem bfs_eq (B : Bx) (f s0 : Nat) : bfs B f s0 = bfsN B f s0 1024 := Classical.choose_spec (bfs_ex B f s0)
/-- what holds of it all along -/
def TI (B : Bx) (T : Tw) : Prop := T.ord.Nodup ∧ (∀ t, t ∈ T.ord ↔ T.fa t ≠ 0) ∧ (∀ t, t ∈ T.ord → okS B t ∧ T.fa t ≤ T.ord.length ∧ T.wy t < 1000003) ∧ (∀ t, 1 < T.fa t → T.fr t ∈ T.ord ∧ T.by' t < 10 ∧ T.fa (T.fr t) + 1 = T.fa t)
theorem nodup_len : ∀ (n : Nat) (l : List Nat), l.Nodup → (∀ x ∈ l, x < n) → l.length ≤ n := by
  intro n
  induction n with
  | zero =>
    intro l _ h
    cases l with
    | nil => exact Nat.le_refl _
    | cons x t => exact absurd (h x List.mem_cons_self) (Nat.not_lt_zero x)
  | succ n ih =>
    intro l hn h
    by_cases e : n ∈ l
    · have h1 := ih (l.erase n) (hn.erase n) (fun x hx => by
        have h2 := h x (List.mem_of_mem_erase hx)
        have h3 : x ≠ n := fun q => by rw [q] at hx; exact (hn.not_mem_erase) hx
        omega)
      rw [List.length_erase_of_mem e] at h1
      omega
    · have h1 := ih l hn (fun x hx => by
        have h2 := h x hx
        have h3 : x ≠ n := fun q => by rw [q] at hx; exact e hx
        omega)
      omega
theorem TI.len {B : Bx} {T : Tw} (hw : WFB B) (h : TI B T) : T.ord.length ≤ 1024 := nodup_len 1024 _ h.1 (fun x hx => s31 hw (h.2.2.1 x hx).1.1)
theorem nx_ok {B : Bx} {f s m t : Nat} (hw : WFB B) (hs : okS B s) (hm : m < 2 * B.pn) (h : nx B f s m = some t) : okS B t ∧ mayB B s f (m / 2) (m % 2) = true ∧ t = behB B s (m / 2) (m % 2) B.pn := by
  unfold nx at h
  split at h
  · next hm2 =>
    cases h
    exact ⟨okS_beh hw hs (by omega) (Nat.mod_lt _ (by decide)) hm2, hm2, rfl⟩
  · cases h
theorem TI_more {B : Bx} {T : Tw} {s t : Nat} (h : TI B T) : TI B (T.more s t) := by
  unfold Tw.more
  split
  · refine ⟨h.1, h.2.1, fun x hx => ⟨(h.2.2.1 x hx).1, (h.2.2.1 x hx).2.1, ?_⟩, h.2.2.2⟩
    show updN T.wy t _ x < 1000003
    unfold updN
    split
    · exact Nat.mod_lt _ (by decide)
    · exact (h.2.2.1 x hx).2.2
  · exact h
theorem TI_add {B : Bx} {T : Tw} {s m t : Nat} (h : TI B T) (hs : s ∈ T.ord) (ht : okS B t) (h0 : T.fa t = 0) (hm : m < 10) : TI B (T.add s m t) := by
  obtain ⟨h1, h2, h3, h4⟩ := h
  have htn : t ∉ T.ord := fun q => (h2 t).mp q h0
  have hst : s ≠ t := fun q => htn (q ▸ hs)
  refine ⟨?_, fun x => ?_, fun x hx => ?_, fun x hx => ?_⟩
  · show (T.ord ++ [t]).Nodup
    rw [List.nodup_append]
    exact ⟨h1, by simp, fun a ha b hb => by simp at hb; subst hb; exact fun q => htn (q ▸ ha)⟩
  · show x ∈ T.ord ++ [t] ↔ updN T.fa t (T.fa s + 1) x ≠ 0
    unfold updN
    by_cases e : x = t
    · simp [e]
    · rw [if_neg e, ← h2 x]; simp [e]
  · have hx : x ∈ T.ord ++ [t] := hx
    show okS B x ∧ updN T.fa t (T.fa s + 1) x ≤ (T.ord ++ [t]).length ∧ updN T.wy t 0 x < 1000003
    unfold updN
    by_cases e : x = t
    · subst e
      simp only [if_pos]
      have := (h3 s hs).2.1
      exact ⟨ht, by simp; exact this, by decide⟩
    · rw [if_neg e, if_neg e]
      have hx2 : x ∈ T.ord := by simpa [e] using hx
      have := h3 x hx2
      exact ⟨this.1, by simp; omega, this.2.2⟩
  · have hx : 1 < updN T.fa t (T.fa s + 1) x := hx
    show updN T.fr t s x ∈ T.ord ++ [t] ∧ updN T.by' t m x < 10 ∧ updN T.fa t (T.fa s + 1) (updN T.fr t s x) + 1 = updN T.fa t (T.fa s + 1) x
    unfold updN at hx ⊢
    by_cases e : x = t
    · subst e
      simp only [if_pos] at hx ⊢
      rw [if_neg hst]
      exact ⟨List.mem_append_left _ hs, hm, rfl⟩
    · rw [if_neg e] at hx
      simp only [if_neg e]
      obtain ⟨g1, g2, g3⟩ := h4 x hx
      have hne : ¬ T.fr x = t := fun q => htn (q ▸ g1)
      rw [if_neg hne]
      exact ⟨List.mem_append_left _ g1, g2, g3⟩
theorem more_ord {T : Tw} {s t : Nat} : (T.more s t).ord = T.ord ∧ (T.more s t).fa = T.fa ∧ (T.more s t).fr = T.fr ∧ (T.more s t).by' = T.by' := by
  unfold Tw.more; split <;> exact ⟨rfl, rfl, rfl, rfl⟩
theorem meet_mem {T : Tw} {s m t x : Nat} (h : x ∈ T.ord) : x ∈ (meet T s m t).ord := by
  unfold meet
  split
  · rw [more_ord.1]; exact List.mem_append_left _ h
  · rw [more_ord.1]; exact h
theorem TI_meet {B : Bx} {T : Tw} {s m t : Nat} (h : TI B T) (hs : s ∈ T.ord) (ht : okS B t) (hm : m < 10) : TI B (meet T s m t) := by
  unfold meet
  split
  · next h0 => exact TI_more (TI_add h hs ht h0 hm)
  · exact TI_more h
theorem vis_mem {B : Bx} {f s x m : Nat} {T : Tw} (h : x ∈ T.ord) : x ∈ (vis B f s m T).ord := by
  induction m with
  | zero => exact h
  | succ m ih =>
    simp only [vis]
    split
    · exact ih
    · exact meet_mem ih
theorem TI_vis {B : Bx} {f s m : Nat} {T : Tw} (hw : WFB B) (h : TI B T) (hs : s ∈ T.ord) (hm : m ≤ 2 * B.pn) : TI B (vis B f s m T) := by
  induction m with
  | zero => exact h
  | succ m ih =>
    have hok := (h.2.2.1 s hs).1
    have hp5 := hw.1
    simp only [vis]
    split
    · exact ih (by omega)
    · next t ht => exact TI_meet (ih (by omega)) (vis_mem hs) (nx_ok hw hok (by omega) ht).1 (by omega)
theorem TI_0 {B : Bx} {s0 : Nat} (h : okS B s0) : TI B (bfs0 s0) := by
  refine ⟨show [s0].Nodup from by simp, fun t => ?_, fun t ht => ?_, fun t ht => ?_⟩
  · show t ∈ [s0] ↔ updN (fun _ => 0) s0 1 t ≠ 0
    unfold updN; by_cases e : t = s0 <;> simp [e]
  · have ht : t ∈ [s0] := ht
    simp at ht
    subst ht
    refine ⟨h, show updN (fun _ => 0) t 1 t ≤ [t].length from ?_, show updN (fun _ => 0) t 1 t < 1000003 from ?_⟩ <;> simp [updN]
  · have ht : 1 < updN (fun _ => 0) s0 1 t := ht
    unfold updN at ht
    split at ht
    · omega
    · exact absurd ht (show ¬ 1 < 0 from by decide)
theorem TI_bfsN {B : Bx} {f s0 : Nat} (hw : WFB B) (h : okS B s0) (n : Nat) : TI B (bfsN B f s0 n) := by
  induction n with
  | zero => exact TI_0 h
  | succ n ih =>
    simp only [bfsN]
    split
    · exact ih
    · next s hs => exact TI_vis hw ih (List.mem_of_getElem? hs) (Nat.le_refl _)
theorem bfsN_stop {B : Bx} {f s0 n : Nat} (h : (bfsN B f s0 n).ord.length ≤ n) : ∀ k, bfsN B f s0 (n + k) = bfsN B f s0 n := by
  intro k
  induction k with
  | zero => rfl
  | succ k ih =>
    show bfsN B f s0 (n + k + 1) = _
    simp only [bfsN]
    rw [ih, List.getElem?_eq_none (by omega)]
theorem bfs_at {B : Bx} {f s0 n : Nat} (h : (bfsN B f s0 n).ord.length ≤ n) (hn : n ≤ 1024) : bfs B f s0 = bfsN B f s0 n := by
  have := bfsN_stop h (1024 - n)
  rw [show n + (1024 - n) = 1024 by omega] at this
  rw [bfs_eq]; exact this
