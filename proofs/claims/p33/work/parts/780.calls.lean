/-! EACH CALL OF THE CLASS: what it answers, what it leaves; places from 57 on are left alone -/
def RS_z (V : Bv) (K : Option Bv) (t : Tpe) (S : Nat → Shv) (I : I2) (J : J2) : Prop := WFg V K t S ∧ RelC V K t S I J
def F57_z (I I' : I2) : Prop := ∀ a, 57 ≤ a → I' a = I a
theorem F57_z.rf {I : I2} : F57_z I I := fun _ _ => rfl
theorem F57_z.tr {I0 I1 I2 : I2} (h1 : F57_z I0 I1) (h2 : F57_z I1 I2) : F57_z I0 I2 := fun a h => (h2 a h).trans (h1 a h)
theorem FrCt.f {I I' : I2} {J J' : J2} (h : FrCt I I' J J') : F57_z I I' := fun a ha => (h a ha).1
section KC
variable {d : Nat} {V : Bv} {K : Option Bv} {t : Tpe} {S : Nat → Shv} {I : I2} {J : J2} {F : Int32 → I2 → J2 → Prop}
theorem k_of_z (hd : 8 ≤ d) (hR : RS_z V K t S I J) (x y : Int32) (h : F (ofS V x y) I J) : CI d Sb_of [.ref 0, .int x, .int y] I J F := c_Sb_of (by omega) hR.1.1 hR.2.1 x y h
theorem k_at_z (hd : 8 ≤ d) (hR : RS_z V K t S I J) (x y : Int32) (h : F (atS V x y) I J) : CI d Sb_at [.ref 0, .int x, .int y] I J F := c_Sb_at (by omega) hR.1.1 hR.2.1 x y h
theorem k_count_z (hd : 8 ≤ d) (hR : RS_z V K t S I J) (x : Int32) (h : F (countS V x) I J) : CI d Sb_count [.ref 0, .int x] I J F := c_Sb_count (by omega) hR.1.1 hR.2.1 x h
theorem k_slide_z (hd : 8 ≤ d) (hR : RS_z V K t S I J) (x y : Int32) (h : ∀ I', RS_z (slideS V x y).2 K t S I' J → F57_z I I' → F (slideS V x y).1 I' J) : CI d Sb_slide [.ref 0, .int x, .int y] I J F :=
  c_Sb_slide (by omega) hR.1.1 hR.2.1 x y (fun I' k1 k2 => by
    obtain ⟨h1, f1⟩ := rc_op hR.2 k1 k2
    exact h I' ⟨⟨WF_slide hR.1.1 _ _, hR.1.2⟩, h1⟩ f1.f)
theorem k_shut_z (hd : 8 ≤ d) (hR : RS_z V K t S I J) (h : ∀ I', RS_z (shutS V).2 K t S I' J → F57_z I I' → F (shutS V).1 I' J) : CI d Sb_shut [.ref 0] I J F :=
  c_Sb_shut (by omega) hR.1.1 hR.2.1 (fun I' k1 k2 => by
    obtain ⟨h1, f1⟩ := rc_op hR.2 k1 k2
    exact h I' ⟨⟨WF_shut hR.1.1, hR.1.2⟩, h1⟩ f1.f)
theorem k_file_z (hd : 8 ≤ d) (hR : RS_z V K t S I J) (x : Int32) (h : ∀ I', RS_z (fileS V x).2 K t S I' J → F57_z I I' → F (fileS V x).1 I' J) : CI d Sb_file [.ref 0, .int x] I J F :=
  c_Sb_file (by omega) hR.1.1 hR.2.1 x (fun I' k1 k2 => by
    obtain ⟨h1, f1⟩ := rc_op hR.2 k1 k2
    exact h I' ⟨⟨WF_file hR.1.1 _, hR.1.2⟩, h1⟩ f1.f)
theorem k_drift_z (hd : 8 ≤ d) (hR : RS_z V K t S I J) (x : Int32) (h : ∀ I', RS_z (driftS V x).2 K t S I' J → F57_z I I' → F (driftS V x).1 I' J) : CI d Sb_drift [.ref 0, .int x] I J F :=
  c_Sb_drift (by omega) hR.1.1 hR.2.1 x (fun I' k1 k2 => by
    obtain ⟨h1, f1⟩ := rc_op hR.2 k1 k2
    exact h I' ⟨⟨WF_drift hR.1.1 _, hR.1.2⟩, h1⟩ f1.f)
theorem k_undo_z (hd : 8 ≤ d) (hR : RS_z V K t S I J) (h : ∀ I', RS_z (undoS V).2 K t S I' J → F57_z I I' → F (undoS V).1 I' J) : CI d Sb_undo [.ref 0] I J F :=
  c_Sb_undo (by omega) hR.1.1 hR.2.1 (fun I' k1 k2 => by
    obtain ⟨h1, f1⟩ := rc_op hR.2 k1 k2
    exact h I' ⟨⟨WF_undo hR.1.1, hR.1.2⟩, h1⟩ f1.f)
theorem k_seed_z (hd : 8 ≤ d) (hR : RS_z V K t S I J) (x : Int32) (h : ∀ I', RS_z (seedS V x).2 K t S I' J → F57_z I I' → F (seedS V x).1 I' J) : CI d Sb_seed [.ref 0, .int x] I J F :=
  c_Sb_seed (by omega) hR.2.1 x (fun I' k1 k2 => by
    obtain ⟨h1, f1⟩ := rc_op hR.2 k1 k2
    exact h I' ⟨⟨WF_seed hR.1.1 _, hR.1.2⟩, h1⟩ f1.f)
theorem k_g_z (hR : RS_z V K t S I J) {I' : I2} (k1 : FrG I I') (k2 : CaR V.B I') : RS_z V K t S I' J ∧ F57_z I I' := by
  obtain ⟨h1, f1⟩ := rc_g (t := t) (K := K) (S := S) (J := J) hR.2 k1 k2
  exact ⟨⟨hR.1, h1⟩, f1.f⟩
theorem k_opens_z (hd : 8 ≤ d) (hR : RS_z V K t S I J) (x : Int32) (h : ∀ I', RS_z V K t S I' J → F57_z I I' → F (opensS V x) I' J) : CI d Sb_opens [.ref 0, .int x] I J F :=
  c_Sb_opens (by omega) hR.1.1 hR.2.1 hR.2.2.1 x (fun I' k1 k2 => h I' (k_g_z hR k1 k2).1 (k_g_z hR k1 k2).2)
theorem k_rows_z (hd : 8 ≤ d) (hR : RS_z V K t S I J) (h : ∀ I', RS_z V K t S I' J → F57_z I I' → F (rowsQ V) I' J) : CI d Sb_rows [.ref 0] I J F :=
  c_Sb_rows (by omega) hR.1.1 hR.2.1 hR.2.2.1 (fun I' k1 k2 => h I' (k_g_z hR k1 k2).1 (k_g_z hR k1 k2).2)
theorem k_reach_z (hd : 8 ≤ d) (hR : RS_z V K t S I J) (x : Int32) (h : ∀ I', RS_z V K t S I' J → F57_z I I' → F (reachS V x) I' J) : CI d Sb_reach [.ref 0, .int x] I J F :=
  c_Sb_reach (by omega) hR.1.1 hR.2.1 hR.2.2.1 x (fun I' k1 k2 => h I' (k_g_z hR k1 k2).1 (k_g_z hR k1 k2).2)
theorem k_key_z (hd : 8 ≤ d) (hR : RS_z V K t S I J) (x : Int32) (h : ∀ I', RS_z V K t S I' J → F57_z I I' → F (keyS V x) I' J) : CI d Sb_key [.ref 0, .int x] I J F :=
  c_Sb_key (by omega) hR.1.1 hR.2.1 hR.2.2.1 x (fun I' k1 k2 => h I' (k_g_z hR k1 k2).1 (k_g_z hR k1 k2).2)
theorem k_files_z (hd : 8 ≤ d) (hR : RS_z V K t S I J) (x y : Int32) (h : ∀ I', RS_z V K t S I' J → F57_z I I' → F (filesS V x y) I' J) : CI d Sb_files [.ref 0, .int x, .int y] I J F :=
  c_Sb_files (by omega) hR.1.1 hR.2.1 hR.2.2.1 x y (fun I' k1 k2 => h I' (k_g_z hR k1 k2).1 (k_g_z hR k1 k2).2)
theorem k_fumble_z {G : Int64 → I2 → J2 → Prop} (hd : 10 ≤ d) (hR : RS_z V K t S I J) (x y : Int32) (h : G (fumbleS V x y) I J) : CL d Sb_fumble [.ref 0, .int x, .int y] I J G := c_Sb_fumble hd hR.1.1 hR.2.1 x y h
theorem k_image_z (hd : 8 ≤ d) (hR : RS_z V K t S I J) (h : ∀ I', RS_z V (some V) t S I' J → F57_z I I' → F 1 I' J) : CI d Sb_image [.ref 0] I J F :=
  c_Sb_image (by omega) hR.1.1 hR.2.1 (fun I' k1 k2 k3 _ => by
    obtain ⟨h1, f1⟩ := rc_img hR.2 k1 k2 k3
    exact h I' ⟨⟨hR.1.1, fun VK q => by cases q; exact hR.1.1, hR.1.2.2⟩, h1⟩ f1.f)
theorem k_restore_z (hd : 8 ≤ d) {V0 : Bv} (hR : RS_z V (some V0) t S I J) (h : ∀ I', RS_z V0 (some V0) t S I' J → F57_z I I' → F 1 I' J) : CI d Sb_restore [.ref 0] I J F :=
  c_Sb_restore (by omega) (some V0) hR.2.2.2.1 (fun VK q => ⟨hR.1.2.1 VK q, hR.2.2.2.2.1 VK q⟩) (fun e => by cases e) (fun VK I' e k1 k2 k3 => by
    cases e
    obtain ⟨h1, f1⟩ := rc_res hR.2 k1 k2 k3
    exact h I' ⟨⟨hR.1.2.1 _ rfl, hR.1.2⟩, h1⟩ f1.f)
theorem k_type_z (hd : 8 ≤ d) (hR : RS_z V K t S I J) (x : Int32) (h : ∀ I', RS_z V K (typeS t x).2 S I' J → F57_z I I' → F (typeS t x).1 I' J) : CI d Sb_type [.ref 0, .int x] I J F :=
  c_Sb_type (by omega) hR.1.2.2.1 hR.2.2.2.2.2.1 x (fun I' k1 k2 => by
    obtain ⟨h1, f1⟩ := rc_type hR.2 k1 k2
    exact h I' ⟨⟨hR.1.1, hR.1.2.1, WF_type hR.1.2.2.1, hR.1.2.2.2⟩, h1⟩ f1.f)
theorem k_box_z (hd : 8 ≤ d) (hR : RS_z V K t S I J) (h : ∀ I', RS_z (boxS V t).2 K (0, t.2) S I' J → F57_z I I' → F (boxS V t).1 I' J) : CI d Sb_box [.ref 0] I J F :=
  c_Sb_box (by omega) hR.1.1 hR.2.1 hR.1.2.2.1 hR.2.2.2.2.2.1 (fun I' k1 k2 k3 k4 => by
    obtain ⟨h1, f1⟩ := rc_box hR.2 k1 k2 k3 k4
    exact h I' ⟨⟨WF_box hR.1.1, hR.1.2.1, ⟨Nat.zero_le _, fun k hk => absurd hk (Nat.not_lt_zero k)⟩, hR.1.2.2.2⟩, h1⟩ f1.f)
theorem k_to_z (hd : 8 ≤ d) (hR : RS_z V K t S I J) (x y j k : Int32) (h : ∀ I', RS_z V K t S I' J → F57_z I I' → F (toF V S x y j k) I' J) : CI d Sb_to [.ref 0, .int x, .int y, .int j, .int k] I J F :=
  c_Sb_to (by omega) hR.1.1 hR.2.1 hR.2.2.1 hR.2.2.2.2.2.2 hR.1.2.2.2 x y j k (fun I' k1 k2 => h I' (k_g_z hR k1 k2).1 (k_g_z hR k1 k2).2)
theorem k_clicks_z (hd : 8 ≤ d) (hR : RS_z V K t S I J) (x y z j n : Int32) (h : ∀ I', RS_z V K t S I' J → F57_z I I' → F (clicksF V S x y z j n) I' J) : CI d Sb_clicks [.ref 0, .int x, .int y, .int z, .int j, .int n] I J F :=
  c_Sb_clicks (by omega) hR.1.1 hR.2.1 hR.2.2.2.2.2.2 hR.1.2.2.2 x y z j n (fun I' k1 => by
    obtain ⟨h1, f1⟩ := rc_cl hR.2 k1
    exact h I' ⟨hR.1, h1⟩ f1.f)
theorem k_film_z (hd : 8 ≤ d) (hR : RS_z V K t S I J) (x y j : Int32) (h : ∀ I' J', RS_z V K t (filmF V S x y j).2 I' J' → F57_z I I' → F (filmF V S x y j).1 I' J') : CI d Sb_film [.ref 0, .int x, .int y, .int j] I J F :=
  c_Sb_film (by omega) hR.1.1 hR.2.1 hR.2.2.2.2.2.2 hR.1.2.2.2 x y j (fun I' J' k1 k2 => by
    obtain ⟨h1, f1⟩ := rc_sh hR.2 k1 k2
    exact h I' J' ⟨⟨hR.1.1, hR.1.2.1, hR.1.2.2.1, WF_filmF hR.1.2.2.2⟩, h1⟩ f1.f)
theorem k_sheet_z (hd : 8 ≤ d) (hR : RS_z V K t S I J) (x y n : Int32) (h : ∀ I' J', RS_z V K t (sheetF S x y n).2 I' J' → F57_z I I' → F (sheetF S x y n).1 I' J') : CI d Sb_sheet [.ref 0, .int x, .int y, .int n] I J F :=
  c_Sb_sheet (by omega) hR.2.2.2.2.2.2 x y n (fun I' J' k1 k2 => by
    obtain ⟨h1, f1⟩ := rc_sh hR.2 k1 k2
    exact h I' J' ⟨⟨hR.1.1, hR.1.2.1, hR.1.2.2.1, WF_sheetF hR.1.2.2.2⟩, h1⟩ f1.f)
theorem k_drop_z (hd : 8 ≤ d) (hR : RS_z V K t S I J) (x : Int32) (h : ∀ I' J', RS_z V K t (dropF S x).2 I' J' → F57_z I I' → F (dropF S x).1 I' J') : CI d Sb_drop [.ref 0, .int x] I J F :=
  c_Sb_drop (by omega) hR.2.2.2.2.2.2 x (fun I' J' k1 k2 => by
    obtain ⟨h1, f1⟩ := rc_sh hR.2 k1 k2
    exact h I' J' ⟨⟨hR.1.1, hR.1.2.1, hR.1.2.2.1, WF_dropF hR.1.2.2.2⟩, h1⟩ f1.f)
theorem k_item_z (hd : 8 ≤ d) (hR : RS_z V K t S I J) (x y j : Int32) (v : Int64) (h : ∀ I' J', RS_z V K t (itemF S x y j v).2 I' J' → F57_z I I' → F (itemF S x y j v).1 I' J') : CI d Sb_item [.ref 0, .int x, .int y, .int j, .long v] I J F :=
  c_Sb_item (by omega) hR.2.2.2.2.2.2 hR.1.2.2.2 x y j v (fun I' J' k1 k2 => by
    obtain ⟨h1, f1⟩ := rc_sh hR.2 k1 k2
    exact h I' J' ⟨⟨hR.1.1, hR.1.2.1, hR.1.2.2.1, WF_itemF hR.1.2.2.2⟩, h1⟩ f1.f)
end KC
theorem k_game_z {d : Nat} {V : Bv} {K : Option Bv} {t : Tpe} {S : Nat → Shv} {I : I2} {J : J2} {F : Int32 → I2 → J2 → Prop} (hd : 8 ≤ d) (hR : RS_z V K t S I J) (x : Int32) (h : ∀ I', RS_z V K t S I' J → F57_z I I' → (¬ (x < 0 ∨ 2 < x) → ¬ V.B.pn = 0 → ∃ g, GCb V.B V.lid V.f V.T g) → F (gameS V x) I' J) : CI d Sb_game [.ref 0, .int x] I J F :=
  c_Sb_game (by omega) hR.1.1 hR.2.1 hR.2.2.1 x (fun I' k1 k2 k3 => h I' (k_g_z hR k1 k2).1 (k_g_z hR k1 k2).2 k3)
