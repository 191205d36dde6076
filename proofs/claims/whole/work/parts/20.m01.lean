def f_X4_copyFrom (M : Mem) (x0 : Nat) (x1 : Nat) : Option (Mem) :=
  (gI M 4 x1 0).bind fun v1 =>
  (pI M 4 x0 0 v1).bind fun M2 =>
  (gR M2 4 x1 1).bind fun v3 =>
  (gR M2 4 x0 1).bind fun v4 =>
  (cpA M2 0 v3 (0 : Int32) v4 (0 : Int32) (8 : Int32)).bind fun M5 =>
  (gR M5 4 x1 2).bind fun v6 =>
  (gR M5 4 x0 2).bind fun v7 =>
  (cpA M5 0 v6 (0 : Int32) v7 (0 : Int32) (8 : Int32)).bind fun M8 =>
  (gR M8 4 x1 3).bind fun v9 =>
  (gR M8 4 x0 3).bind fun v10 =>
  (cpA M8 0 v9 (0 : Int32) v10 (0 : Int32) (8 : Int32)).bind fun M11 =>
  some M11
set_option maxRecDepth 20000 in
theorem S_X4_copyFrom {l : Launch} {G : Gv} {lim : Nat × Nat} (M : Mem) (x0 : Nat) (x1 : Nat) : Sim l G Y_X4_copyFrom lim (f_X4_copyFrom M x0 x1) (fun z => some (none, z)) 0 [some (.inr (.inr x0)), some (.inr (.inr x1))] [] M := by
  unfold f_X4_copyFrom
  refine s_run (b := [(.aload_n 0, 1), (.aload_n 1, 1)]) 2 [some (.inr (.inr x0)), some (.inr (.inr x1))] [.inr (.inr x1), .inr (.inr x0)] (by decide +kernel) rfl ?_
  refine s_gI fl_4_21 rfl (by decide +kernel) (fun v1 => ?_)
  refine s_pI fl_4_21 (Or.inl rfl) rfl (by decide +kernel) (fun M2 => ?_)
  refine s_run (b := [(.aload_n 1, 1)]) 9 [some (.inr (.inr x0)), some (.inr (.inr x1))] [.inr (.inr x1)] (by decide +kernel) rfl ?_
  refine s_gR fl_4_9 rfl (by decide +kernel) (fun v3 => ?_)
  refine s_run (b := [(.iconst 0, 1), (.aload_n 0, 1)]) 14 [some (.inr (.inr x0)), some (.inr (.inr x1))] [.inr (.inr x0), .inl (0 : Int32), .inr (.inr v3)] (by decide +kernel) rfl ?_
  refine s_gR fl_4_9 rfl (by decide +kernel) (fun v4 => ?_)
  refine s_run (b := [(.iconst 0, 1), (.bipush 8, 2)]) 20 [some (.inr (.inr x0)), some (.inr (.inr x1))] [.inl (8 : Int32), .inl (0 : Int32), .inr (.inr v4), .inl (0 : Int32), .inr (.inr v3)] (by decide +kernel) rfl ?_
  refine s_copy (by decide) q704 ⟨q694, q693, q19⟩ ⟨Nat.le_of_ble_eq_true rfl, Nat.le_of_ble_eq_true rfl⟩ (by decide +kernel) (fun M5 => ?_)
  refine s_run (b := [(.aload_n 1, 1)]) 24 [some (.inr (.inr x0)), some (.inr (.inr x1))] [.inr (.inr x1)] (by decide +kernel) rfl ?_
  refine s_gR fl_4_15 rfl (by decide +kernel) (fun v6 => ?_)
  refine s_run (b := [(.iconst 0, 1), (.aload_n 0, 1)]) 29 [some (.inr (.inr x0)), some (.inr (.inr x1))] [.inr (.inr x0), .inl (0 : Int32), .inr (.inr v6)] (by decide +kernel) rfl ?_
  refine s_gR fl_4_15 rfl (by decide +kernel) (fun v7 => ?_)
  refine s_run (b := [(.iconst 0, 1), (.bipush 8, 2)]) 35 [some (.inr (.inr x0)), some (.inr (.inr x1))] [.inl (8 : Int32), .inl (0 : Int32), .inr (.inr v7), .inl (0 : Int32), .inr (.inr v6)] (by decide +kernel) rfl ?_
  refine s_copy (by decide) q704 ⟨q694, q693, q19⟩ ⟨Nat.le_of_ble_eq_true rfl, Nat.le_of_ble_eq_true rfl⟩ (by decide +kernel) (fun M8 => ?_)
  refine s_run (b := [(.aload_n 1, 1)]) 39 [some (.inr (.inr x0)), some (.inr (.inr x1))] [.inr (.inr x1)] (by decide +kernel) rfl ?_
  refine s_gR fl_4_18 rfl (by decide +kernel) (fun v9 => ?_)
  refine s_run (b := [(.iconst 0, 1), (.aload_n 0, 1)]) 44 [some (.inr (.inr x0)), some (.inr (.inr x1))] [.inr (.inr x0), .inl (0 : Int32), .inr (.inr v9)] (by decide +kernel) rfl ?_
  refine s_gR fl_4_18 rfl (by decide +kernel) (fun v10 => ?_)
  refine s_run (b := [(.iconst 0, 1), (.bipush 8, 2)]) 50 [some (.inr (.inr x0)), some (.inr (.inr x1))] [.inl (8 : Int32), .inl (0 : Int32), .inr (.inr v10), .inl (0 : Int32), .inr (.inr v9)] (by decide +kernel) rfl ?_
  refine s_copy (by decide) q704 ⟨q694, q693, q19⟩ ⟨Nat.le_of_ble_eq_true rfl, Nat.le_of_ble_eq_true rfl⟩ (by decide +kernel) (fun M11 => ?_)
  exact s_vret (by decide +kernel) rfl
set_option maxRecDepth 20000 in
theorem c_X4_copyFrom {l : Launch} {G : Gv} {M : Mem} {x0 : Nat} {x1 : Nat} {z : Mem} (h : f_X4_copyFrom M x0 x1 = some z) : MetS l G Y_X4_copyFrom [.inr (.inr x0), .inr (.inr x1)] M none z :=
  met_of (ls0 := [some (.inr (.inr x0)), some (.inr (.inr x1))]) (by decide) rfl (lv_in (m := 0) rfl) (sl_le (Nat.le_of_ble_eq_true rfl)) (by rw [h]; rfl) (Or.inl ⟨rfl, rfl⟩) (S_X4_copyFrom M x0 x1)
def f_X5_copyFrom (M : Mem) (x0 : Nat) (x1 : Nat) : Option (Mem) :=
  (gI M 5 x1 0).bind fun v1 =>
  (pI M 5 x0 0 v1).bind fun M2 =>
  (gI M2 5 x1 1).bind fun v3 =>
  (pI M2 5 x0 1 v3).bind fun M4 =>
  (gI M4 5 x1 2).bind fun v5 =>
  (pI M4 5 x0 2 v5).bind fun M6 =>
  (gI M6 5 x1 3).bind fun v7 =>
  (pI M6 5 x0 3 v7).bind fun M8 =>
  (gI M8 5 x1 4).bind fun v9 =>
  (pI M8 5 x0 4 v9).bind fun M10 =>
  (gR M10 5 x1 5).bind fun v11 =>
  (gR M10 5 x0 5).bind fun v12 =>
  (cpA M10 0 v11 (0 : Int32) v12 (0 : Int32) (8 : Int32)).bind fun M13 =>
  (gR M13 5 x1 6).bind fun v14 =>
  (gR M13 5 x0 6).bind fun v15 =>
  (cpA M13 0 v14 (0 : Int32) v15 (0 : Int32) (8 : Int32)).bind fun M16 =>
  (gR M16 5 x1 7).bind fun v17 =>
  (gR M16 5 x0 7).bind fun v18 =>
  (cpA M16 0 v17 (0 : Int32) v18 (0 : Int32) (8 : Int32)).bind fun M19 =>
  (gR M19 5 x1 8).bind fun v20 =>
  (gR M19 5 x0 8).bind fun v21 =>
  (cpA M19 0 v20 (0 : Int32) v21 (0 : Int32) (8 : Int32)).bind fun M22 =>
  (gR M22 5 x1 9).bind fun v23 =>
  (gR M22 5 x0 9).bind fun v24 =>
  (cpA M22 0 v23 (0 : Int32) v24 (0 : Int32) (8 : Int32)).bind fun M25 =>
  (gR M25 5 x1 10).bind fun v26 =>
  (gR M25 5 x0 10).bind fun v27 =>
  (cpA M25 0 v26 (0 : Int32) v27 (0 : Int32) (10 : Int32)).bind fun M28 =>
  (gR M28 5 x1 11).bind fun v29 =>
  (gR M28 5 x0 11).bind fun v30 =>
  (cpA M28 0 v29 (0 : Int32) v30 (0 : Int32) (10 : Int32)).bind fun M31 =>
  (gR M31 5 x1 12).bind fun v32 =>
  (gR M31 5 x0 12).bind fun v33 =>
  (cpA M31 0 v32 (0 : Int32) v33 (0 : Int32) (10 : Int32)).bind fun M34 =>
  (gR M34 5 x1 13).bind fun v35 =>
  (gR M34 5 x0 13).bind fun v36 =>
  (cpA M34 0 v35 (0 : Int32) v36 (0 : Int32) (8 : Int32)).bind fun M37 =>
  (gR M37 5 x1 14).bind fun v38 =>
  (gR M37 5 x0 14).bind fun v39 =>
  (cpA M37 0 v38 (0 : Int32) v39 (0 : Int32) (64 : Int32)).bind fun M40 =>
  some M40
set_option maxRecDepth 20000 in
theorem S_X5_copyFrom {l : Launch} {G : Gv} {lim : Nat × Nat} (M : Mem) (x0 : Nat) (x1 : Nat) : Sim l G Y_X5_copyFrom lim (f_X5_copyFrom M x0 x1) (fun z => some (none, z)) 0 [some (.inr (.inr x0)), some (.inr (.inr x1))] [] M := by
  unfold f_X5_copyFrom
  refine s_run (b := [(.aload_n 0, 1), (.aload_n 1, 1)]) 2 [some (.inr (.inr x0)), some (.inr (.inr x1))] [.inr (.inr x1), .inr (.inr x0)] (by decide +kernel) rfl ?_
  refine s_gI fl_5_45 rfl (by decide +kernel) (fun v1 => ?_)
  refine s_pI fl_5_45 (Or.inl rfl) rfl (by decide +kernel) (fun M2 => ?_)
  refine s_run (b := [(.aload_n 0, 1), (.aload_n 1, 1)]) 10 [some (.inr (.inr x0)), some (.inr (.inr x1))] [.inr (.inr x1), .inr (.inr x0)] (by decide +kernel) rfl ?_
  refine s_gI fl_5_49 rfl (by decide +kernel) (fun v3 => ?_)
  refine s_pI fl_5_49 (Or.inl rfl) rfl (by decide +kernel) (fun M4 => ?_)
  refine s_run (b := [(.aload_n 0, 1), (.aload_n 1, 1)]) 18 [some (.inr (.inr x0)), some (.inr (.inr x1))] [.inr (.inr x1), .inr (.inr x0)] (by decide +kernel) rfl ?_
  refine s_gI fl_5_52 rfl (by decide +kernel) (fun v5 => ?_)
  refine s_pI fl_5_52 (Or.inl rfl) rfl (by decide +kernel) (fun M6 => ?_)
  refine s_run (b := [(.aload_n 0, 1), (.aload_n 1, 1)]) 26 [some (.inr (.inr x0)), some (.inr (.inr x1))] [.inr (.inr x1), .inr (.inr x0)] (by decide +kernel) rfl ?_
  refine s_gI fl_5_55 rfl (by decide +kernel) (fun v7 => ?_)
  refine s_pI fl_5_55 (Or.inl rfl) rfl (by decide +kernel) (fun M8 => ?_)
  refine s_run (b := [(.aload_n 0, 1), (.aload_n 1, 1)]) 34 [some (.inr (.inr x0)), some (.inr (.inr x1))] [.inr (.inr x1), .inr (.inr x0)] (by decide +kernel) rfl ?_
  refine s_gI fl_5_58 rfl (by decide +kernel) (fun v9 => ?_)
  refine s_pI fl_5_58 (Or.inl rfl) rfl (by decide +kernel) (fun M10 => ?_)
  refine s_run (b := [(.aload_n 1, 1)]) 41 [some (.inr (.inr x0)), some (.inr (.inr x1))] [.inr (.inr x1)] (by decide +kernel) rfl ?_
  refine s_gR fl_5_9 rfl (by decide +kernel) (fun v11 => ?_)
  refine s_run (b := [(.iconst 0, 1), (.aload_n 0, 1)]) 46 [some (.inr (.inr x0)), some (.inr (.inr x1))] [.inr (.inr x0), .inl (0 : Int32), .inr (.inr v11)] (by decide +kernel) rfl ?_
  refine s_gR fl_5_9 rfl (by decide +kernel) (fun v12 => ?_)
  refine s_run (b := [(.iconst 0, 1), (.bipush 8, 2)]) 52 [some (.inr (.inr x0)), some (.inr (.inr x1))] [.inl (8 : Int32), .inl (0 : Int32), .inr (.inr v12), .inl (0 : Int32), .inr (.inr v11)] (by decide +kernel) rfl ?_
  refine s_copy (by decide) q692 ⟨q694, q693, q19⟩ ⟨Nat.le_of_ble_eq_true rfl, Nat.le_of_ble_eq_true rfl⟩ (by decide +kernel) (fun M13 => ?_)
  refine s_run (b := [(.aload_n 1, 1)]) 56 [some (.inr (.inr x0)), some (.inr (.inr x1))] [.inr (.inr x1)] (by decide +kernel) rfl ?_
  refine s_gR fl_5_15 rfl (by decide +kernel) (fun v14 => ?_)
  refine s_run (b := [(.iconst 0, 1), (.aload_n 0, 1)]) 61 [some (.inr (.inr x0)), some (.inr (.inr x1))] [.inr (.inr x0), .inl (0 : Int32), .inr (.inr v14)] (by decide +kernel) rfl ?_
  refine s_gR fl_5_15 rfl (by decide +kernel) (fun v15 => ?_)
  refine s_run (b := [(.iconst 0, 1), (.bipush 8, 2)]) 67 [some (.inr (.inr x0)), some (.inr (.inr x1))] [.inl (8 : Int32), .inl (0 : Int32), .inr (.inr v15), .inl (0 : Int32), .inr (.inr v14)] (by decide +kernel) rfl ?_
  refine s_copy (by decide) q692 ⟨q694, q693, q19⟩ ⟨Nat.le_of_ble_eq_true rfl, Nat.le_of_ble_eq_true rfl⟩ (by decide +kernel) (fun M16 => ?_)
  refine s_run (b := [(.aload_n 1, 1)]) 71 [some (.inr (.inr x0)), some (.inr (.inr x1))] [.inr (.inr x1)] (by decide +kernel) rfl ?_
  refine s_gR fl_5_18 rfl (by decide +kernel) (fun v17 => ?_)
  refine s_run (b := [(.iconst 0, 1), (.aload_n 0, 1)]) 76 [some (.inr (.inr x0)), some (.inr (.inr x1))] [.inr (.inr x0), .inl (0 : Int32), .inr (.inr v17)] (by decide +kernel) rfl ?_
  refine s_gR fl_5_18 rfl (by decide +kernel) (fun v18 => ?_)
  refine s_run (b := [(.iconst 0, 1), (.bipush 8, 2)]) 82 [some (.inr (.inr x0)), some (.inr (.inr x1))] [.inl (8 : Int32), .inl (0 : Int32), .inr (.inr v18), .inl (0 : Int32), .inr (.inr v17)] (by decide +kernel) rfl ?_
  refine s_copy (by decide) q692 ⟨q694, q693, q19⟩ ⟨Nat.le_of_ble_eq_true rfl, Nat.le_of_ble_eq_true rfl⟩ (by decide +kernel) (fun M19 => ?_)
  refine s_run (b := [(.aload_n 1, 1)]) 86 [some (.inr (.inr x0)), some (.inr (.inr x1))] [.inr (.inr x1)] (by decide +kernel) rfl ?_
  refine s_gR fl_5_21 rfl (by decide +kernel) (fun v20 => ?_)
  refine s_run (b := [(.iconst 0, 1), (.aload_n 0, 1)]) 91 [some (.inr (.inr x0)), some (.inr (.inr x1))] [.inr (.inr x0), .inl (0 : Int32), .inr (.inr v20)] (by decide +kernel) rfl ?_
  refine s_gR fl_5_21 rfl (by decide +kernel) (fun v21 => ?_)
  refine s_run (b := [(.iconst 0, 1), (.bipush 8, 2)]) 97 [some (.inr (.inr x0)), some (.inr (.inr x1))] [.inl (8 : Int32), .inl (0 : Int32), .inr (.inr v21), .inl (0 : Int32), .inr (.inr v20)] (by decide +kernel) rfl ?_
  refine s_copy (by decide) q692 ⟨q694, q693, q19⟩ ⟨Nat.le_of_ble_eq_true rfl, Nat.le_of_ble_eq_true rfl⟩ (by decide +kernel) (fun M22 => ?_)
  refine s_run (b := [(.aload_n 1, 1)]) 101 [some (.inr (.inr x0)), some (.inr (.inr x1))] [.inr (.inr x1)] (by decide +kernel) rfl ?_
  refine s_gR fl_5_24 rfl (by decide +kernel) (fun v23 => ?_)
  refine s_run (b := [(.iconst 0, 1), (.aload_n 0, 1)]) 106 [some (.inr (.inr x0)), some (.inr (.inr x1))] [.inr (.inr x0), .inl (0 : Int32), .inr (.inr v23)] (by decide +kernel) rfl ?_
  refine s_gR fl_5_24 rfl (by decide +kernel) (fun v24 => ?_)
  refine s_run (b := [(.iconst 0, 1), (.bipush 8, 2)]) 112 [some (.inr (.inr x0)), some (.inr (.inr x1))] [.inl (8 : Int32), .inl (0 : Int32), .inr (.inr v24), .inl (0 : Int32), .inr (.inr v23)] (by decide +kernel) rfl ?_
  refine s_copy (by decide) q692 ⟨q694, q693, q19⟩ ⟨Nat.le_of_ble_eq_true rfl, Nat.le_of_ble_eq_true rfl⟩ (by decide +kernel) (fun M25 => ?_)
  refine s_run (b := [(.aload_n 1, 1)]) 116 [some (.inr (.inr x0)), some (.inr (.inr x1))] [.inr (.inr x1)] (by decide +kernel) rfl ?_
  refine s_gR fl_5_27 rfl (by decide +kernel) (fun v26 => ?_)
  refine s_run (b := [(.iconst 0, 1), (.aload_n 0, 1)]) 121 [some (.inr (.inr x0)), some (.inr (.inr x1))] [.inr (.inr x0), .inl (0 : Int32), .inr (.inr v26)] (by decide +kernel) rfl ?_
  refine s_gR fl_5_27 rfl (by decide +kernel) (fun v27 => ?_)
  refine s_run (b := [(.iconst 0, 1), (.bipush 10, 2)]) 127 [some (.inr (.inr x0)), some (.inr (.inr x1))] [.inl (10 : Int32), .inl (0 : Int32), .inr (.inr v27), .inl (0 : Int32), .inr (.inr v26)] (by decide +kernel) rfl ?_
  refine s_copy (by decide) q692 ⟨q694, q693, q19⟩ ⟨Nat.le_of_ble_eq_true rfl, Nat.le_of_ble_eq_true rfl⟩ (by decide +kernel) (fun M28 => ?_)
  refine s_run (b := [(.aload_n 1, 1)]) 131 [some (.inr (.inr x0)), some (.inr (.inr x1))] [.inr (.inr x1)] (by decide +kernel) rfl ?_
  refine s_gR fl_5_30 rfl (by decide +kernel) (fun v29 => ?_)
  refine s_run (b := [(.iconst 0, 1), (.aload_n 0, 1)]) 136 [some (.inr (.inr x0)), some (.inr (.inr x1))] [.inr (.inr x0), .inl (0 : Int32), .inr (.inr v29)] (by decide +kernel) rfl ?_
  refine s_gR fl_5_30 rfl (by decide +kernel) (fun v30 => ?_)
  refine s_run (b := [(.iconst 0, 1), (.bipush 10, 2)]) 142 [some (.inr (.inr x0)), some (.inr (.inr x1))] [.inl (10 : Int32), .inl (0 : Int32), .inr (.inr v30), .inl (0 : Int32), .inr (.inr v29)] (by decide +kernel) rfl ?_
  refine s_copy (by decide) q692 ⟨q694, q693, q19⟩ ⟨Nat.le_of_ble_eq_true rfl, Nat.le_of_ble_eq_true rfl⟩ (by decide +kernel) (fun M31 => ?_)
  refine s_run (b := [(.aload_n 1, 1)]) 146 [some (.inr (.inr x0)), some (.inr (.inr x1))] [.inr (.inr x1)] (by decide +kernel) rfl ?_
  refine s_gR fl_5_33 rfl (by decide +kernel) (fun v32 => ?_)
  refine s_run (b := [(.iconst 0, 1), (.aload_n 0, 1)]) 151 [some (.inr (.inr x0)), some (.inr (.inr x1))] [.inr (.inr x0), .inl (0 : Int32), .inr (.inr v32)] (by decide +kernel) rfl ?_
  refine s_gR fl_5_33 rfl (by decide +kernel) (fun v33 => ?_)
  refine s_run (b := [(.iconst 0, 1), (.bipush 10, 2)]) 157 [some (.inr (.inr x0)), some (.inr (.inr x1))] [.inl (10 : Int32), .inl (0 : Int32), .inr (.inr v33), .inl (0 : Int32), .inr (.inr v32)] (by decide +kernel) rfl ?_
  refine s_copy (by decide) q692 ⟨q694, q693, q19⟩ ⟨Nat.le_of_ble_eq_true rfl, Nat.le_of_ble_eq_true rfl⟩ (by decide +kernel) (fun M34 => ?_)
  refine s_run (b := [(.aload_n 1, 1)]) 161 [some (.inr (.inr x0)), some (.inr (.inr x1))] [.inr (.inr x1)] (by decide +kernel) rfl ?_
  refine s_gR fl_5_36 rfl (by decide +kernel) (fun v35 => ?_)
  refine s_run (b := [(.iconst 0, 1), (.aload_n 0, 1)]) 166 [some (.inr (.inr x0)), some (.inr (.inr x1))] [.inr (.inr x0), .inl (0 : Int32), .inr (.inr v35)] (by decide +kernel) rfl ?_
  refine s_gR fl_5_36 rfl (by decide +kernel) (fun v36 => ?_)
  refine s_run (b := [(.iconst 0, 1), (.bipush 8, 2)]) 172 [some (.inr (.inr x0)), some (.inr (.inr x1))] [.inl (8 : Int32), .inl (0 : Int32), .inr (.inr v36), .inl (0 : Int32), .inr (.inr v35)] (by decide +kernel) rfl ?_
  refine s_copy (by decide) q692 ⟨q694, q693, q19⟩ ⟨Nat.le_of_ble_eq_true rfl, Nat.le_of_ble_eq_true rfl⟩ (by decide +kernel) (fun M37 => ?_)
  refine s_run (b := [(.aload_n 1, 1)]) 176 [some (.inr (.inr x0)), some (.inr (.inr x1))] [.inr (.inr x1)] (by decide +kernel) rfl ?_
  refine s_gR fl_5_39 rfl (by decide +kernel) (fun v38 => ?_)
  refine s_run (b := [(.iconst 0, 1), (.aload_n 0, 1)]) 181 [some (.inr (.inr x0)), some (.inr (.inr x1))] [.inr (.inr x0), .inl (0 : Int32), .inr (.inr v38)] (by decide +kernel) rfl ?_
  refine s_gR fl_5_39 rfl (by decide +kernel) (fun v39 => ?_)
  refine s_run (b := [(.iconst 0, 1), (.bipush 64, 2)]) 187 [some (.inr (.inr x0)), some (.inr (.inr x1))] [.inl (64 : Int32), .inl (0 : Int32), .inr (.inr v39), .inl (0 : Int32), .inr (.inr v38)] (by decide +kernel) rfl ?_
  refine s_copy (by decide) q692 ⟨q694, q693, q19⟩ ⟨Nat.le_of_ble_eq_true rfl, Nat.le_of_ble_eq_true rfl⟩ (by decide +kernel) (fun M40 => ?_)
  exact s_vret (by decide +kernel) rfl
set_option maxRecDepth 20000 in
theorem c_X5_copyFrom {l : Launch} {G : Gv} {M : Mem} {x0 : Nat} {x1 : Nat} {z : Mem} (h : f_X5_copyFrom M x0 x1 = some z) : MetS l G Y_X5_copyFrom [.inr (.inr x0), .inr (.inr x1)] M none z :=
  met_of (ls0 := [some (.inr (.inr x0)), some (.inr (.inr x1))]) (by decide) rfl (lv_in (m := 0) rfl) (sl_le (Nat.le_of_ble_eq_true rfl)) (by rw [h]; rfl) (Or.inl ⟨rfl, rfl⟩) (S_X5_copyFrom M x0 x1)
def f_X9_copyFrom_B56 (M : Mem) (x0 : Nat) (x1 : Nat) (x2 : Int32) : Option ((Int32 × Mem) ⊕ ((Mem))) :=
  (if (2 : Int32) ≤ x2 then
    some (.inr M)
  else
    (gR M 9 x0 5).bind fun v2 =>
    (aR M 5 v2 x2).bind fun v3 =>
    (gR M 9 x1 5).bind fun v4 =>
    (aR M 5 v4 x2).bind fun v5 =>
    (ob M 5 v3).bind fun _ => (f_X5_copyFrom M v3 v5).bind fun z6 =>
    (gR z6 9 x0 6).bind fun v7 =>
    (aR z6 6 v7 x2).bind fun v8 =>
    (gR z6 9 x1 6).bind fun v9 =>
    (aR z6 6 v9 x2).bind fun v10 =>
    (ob z6 1 v8).bind fun _ => (f_X1_copyFrom z6 v8 v10).bind fun z11 =>
    (gR z11 9 x0 7).bind fun v12 =>
    (aR z11 7 v12 x2).bind fun v13 =>
    (gR z11 9 x1 7).bind fun v14 =>
    (aR z11 7 v14 x2).bind fun v15 =>
    (ob z11 4 v13).bind fun _ => (f_X4_copyFrom z11 v13 v15).bind fun z16 =>
    some (.inl ((x2 + (1 : Int32)), z16)))
def f_X9_copyFrom_L56 (M : Mem) (x0 : Nat) (x1 : Nat) (x2 : Int32) : Option ((Mem)) := iter (fun s : Int32 × Mem => f_X9_copyFrom_B56 s.2 x0 x1 s.1) 1048576 (x2, M)
set_option maxRecDepth 20000 in
theorem B_X9_copyFrom_56 {l : Launch} {G : Gv} {lim : Nat × Nat} (M : Mem) (x0 : Nat) (x1 : Nat) (x2 : Int32) (K : (Int32 × Mem) ⊕ ((Mem)) → Option (Option Value × Mem)) (kk1 : ∀ (s2 : Int32) (s_ : Mem), SimR l G Y_X9_copyFrom lim (K (.inl (s2, s_))) 56 [some (.inr (.inr x0)), some (.inr (.inr x1)), some (.inl s2)] [] s_) (kk2_0 : ∀ (s_ : Mem), SimR l G Y_X9_copyFrom lim (K (.inr s_)) 112 [none, none, none] [] s_) : Sim l G Y_X9_copyFrom lim (f_X9_copyFrom_B56 M x0 x1 x2) K 56 [some (.inr (.inr x0)), some (.inr (.inr x1)), some (.inl x2)] [] M := by
  unfold f_X9_copyFrom_B56
  refine s_run (b := [(.iload_n 2, 1), (.iconst 2, 1)]) 58 [some (.inr (.inr x0)), some (.inr (.inr x1)), some (.inl x2)] [.inl (2 : Int32), .inl x2] (by decide +kernel) rfl ?_
  refine s_ic_ge (tgt := 112) (off := 54) (by decide +kernel) (by decide) (fun h1 => ?_) (fun h1 => ?_)
  · skip
    exact s_lsub (ls' := [none, none, none]) trivial (kk2_0 M)
  · skip
    refine s_run (b := [(.aload_n 0, 1)]) 62 [some (.inr (.inr x0)), some (.inr (.inr x1)), some (.inl x2)] [.inr (.inr x0)] (by decide +kernel) rfl ?_
    refine s_gR fl_9_25 rfl (by decide +kernel) (fun v2 => ?_)
    refine s_run (b := [(.iload_n 2, 1)]) 66 [some (.inr (.inr x0)), some (.inr (.inr x1)), some (.inl x2)] [.inl x2, .inr (.inr v2)] (by decide +kernel) rfl ?_
    refine s_aa ⟨by decide, by decide⟩ rfl (by decide +kernel) (fun v3 => ?_)
    refine s_run (b := [(.aload_n 1, 1)]) 68 [some (.inr (.inr x0)), some (.inr (.inr x1)), some (.inl x2)] [.inr (.inr x1), .inr (.inr v3)] (by decide +kernel) rfl ?_
    refine s_gR fl_9_25 rfl (by decide +kernel) (fun v4 => ?_)
    refine s_run (b := [(.iload_n 2, 1)]) 72 [some (.inr (.inr x0)), some (.inr (.inr x1)), some (.inl x2)] [.inl x2, .inr (.inr v4), .inr (.inr v3)] (by decide +kernel) rfl ?_
    refine s_aa ⟨by decide, by decide⟩ rfl (by decide +kernel) (fun v5 => ?_)
    refine s_cV (Z := Y_X5_copyFrom) (c := 5) (vs := [.inr (.inr v5)]) (st := []) (rO := fun _ => none) (mO := fun z => z) zk_X5_copyFrom zi_X5_copyFrom q688 rfl ⟨by decide, by decide⟩ ⟨rfl, rfl⟩ rfl rfl (Nat.le_of_ble_eq_true rfl) (by decide +kernel) (fun z hz => c_X5_copyFrom hz) (fun z6 => ?_)
    change Sim l G Y_X9_copyFrom lim _ _ 76 [some (.inr (.inr x0)), some (.inr (.inr x1)), some (.inl x2)] [] z6
    refine s_run (b := [(.aload_n 0, 1)]) 77 [some (.inr (.inr x0)), some (.inr (.inr x1)), some (.inl x2)] [.inr (.inr x0)] (by decide +kernel) rfl ?_
    refine s_gR fl_9_31 rfl (by decide +kernel) (fun v7 => ?_)
    refine s_run (b := [(.iload_n 2, 1)]) 81 [some (.inr (.inr x0)), some (.inr (.inr x1)), some (.inl x2)] [.inl x2, .inr (.inr v7)] (by decide +kernel) rfl ?_
    refine s_aa ⟨by decide, by decide⟩ rfl (by decide +kernel) (fun v8 => ?_)
    refine s_run (b := [(.aload_n 1, 1)]) 83 [some (.inr (.inr x0)), some (.inr (.inr x1)), some (.inl x2)] [.inr (.inr x1), .inr (.inr v8)] (by decide +kernel) rfl ?_
    refine s_gR fl_9_31 rfl (by decide +kernel) (fun v9 => ?_)
    refine s_run (b := [(.iload_n 2, 1)]) 87 [some (.inr (.inr x0)), some (.inr (.inr x1)), some (.inl x2)] [.inl x2, .inr (.inr v9), .inr (.inr v8)] (by decide +kernel) rfl ?_
    refine s_aa ⟨by decide, by decide⟩ rfl (by decide +kernel) (fun v10 => ?_)
    refine s_cV (Z := Y_X1_copyFrom) (c := 1) (vs := [.inr (.inr v10)]) (st := []) (rO := fun _ => none) (mO := fun z => z) zk_X1_copyFrom zi_X1_copyFrom q695 rfl ⟨by decide, by decide⟩ ⟨rfl, rfl⟩ rfl rfl (Nat.le_of_ble_eq_true rfl) (by decide +kernel) (fun z hz => c_X1_copyFrom hz) (fun z11 => ?_)
    change Sim l G Y_X9_copyFrom lim _ _ 91 [some (.inr (.inr x0)), some (.inr (.inr x1)), some (.inl x2)] [] z11
    refine s_run (b := [(.aload_n 0, 1)]) 92 [some (.inr (.inr x0)), some (.inr (.inr x1)), some (.inl x2)] [.inr (.inr x0)] (by decide +kernel) rfl ?_
    refine s_gR fl_9_37 rfl (by decide +kernel) (fun v12 => ?_)
    refine s_run (b := [(.iload_n 2, 1)]) 96 [some (.inr (.inr x0)), some (.inr (.inr x1)), some (.inl x2)] [.inl x2, .inr (.inr v12)] (by decide +kernel) rfl ?_
    refine s_aa ⟨by decide, by decide⟩ rfl (by decide +kernel) (fun v13 => ?_)
    refine s_run (b := [(.aload_n 1, 1)]) 98 [some (.inr (.inr x0)), some (.inr (.inr x1)), some (.inl x2)] [.inr (.inr x1), .inr (.inr v13)] (by decide +kernel) rfl ?_
    refine s_gR fl_9_37 rfl (by decide +kernel) (fun v14 => ?_)
    refine s_run (b := [(.iload_n 2, 1)]) 102 [some (.inr (.inr x0)), some (.inr (.inr x1)), some (.inl x2)] [.inl x2, .inr (.inr v14), .inr (.inr v13)] (by decide +kernel) rfl ?_
    refine s_aa ⟨by decide, by decide⟩ rfl (by decide +kernel) (fun v15 => ?_)
    refine s_cV (Z := Y_X4_copyFrom) (c := 4) (vs := [.inr (.inr v15)]) (st := []) (rO := fun _ => none) (mO := fun z => z) zk_X4_copyFrom zi_X4_copyFrom q700 rfl ⟨by decide, by decide⟩ ⟨rfl, rfl⟩ rfl rfl (Nat.le_of_ble_eq_true rfl) (by decide +kernel) (fun z hz => c_X4_copyFrom hz) (fun z16 => ?_)
    change Sim l G Y_X9_copyFrom lim _ _ 106 [some (.inr (.inr x0)), some (.inr (.inr x1)), some (.inl x2)] [] z16
    refine s_run (b := [(.iinc 2 1, 3), (.goto (-53), 3)]) 56 [some (.inr (.inr x0)), some (.inr (.inr x1)), some (.inl (x2 + (1 : Int32)))] [] (by decide +kernel) rfl ?_
    exact s_lsub (ls' := [some (.inr (.inr x0)), some (.inr (.inr x1)), some (.inl (x2 + (1 : Int32)))]) ⟨rfl, ⟨rfl, ⟨rfl, trivial⟩⟩⟩ (kk1 (x2 + (1 : Int32)) z16)
set_option maxRecDepth 20000 in
theorem L_X9_copyFrom_56 {l : Launch} {G : Gv} {lim : Nat × Nat} (M : Mem) (x0 : Nat) (x1 : Nat) (x2 : Int32) (K : ((Mem)) → Option (Option Value × Mem)) (kk2_0 : ∀ r : Mem, SimR l G Y_X9_copyFrom lim (K r) 112 [none, none, none] [] r) : Sim l G Y_X9_copyFrom lim (f_X9_copyFrom_L56 M x0 x1 x2) K 56 [some (.inr (.inr x0)), some (.inr (.inr x1)), some (.inl x2)] [] M :=
  s_iter (f := fun s : Int32 × Mem => f_X9_copyFrom_B56 s.2 x0 x1 s.1) (hd := 56) (cl := fun s => [some (.inr (.inr x0)), some (.inr (.inr x1)), some (.inl s.1)]) (cm := fun s => s.2) (xp := fun _ => 112) (xl := fun r => [none, none, none]) (xm := fun r => r) (fun s K h1 h2 => B_X9_copyFrom_56 s.2 x0 x1 s.1 K (fun a2 a_ => h1 (a2, a_)) (fun a_ => h2 a_)) 1048576 (x2, M) K kk2_0
def f_X9_copyFrom (M : Mem) (x0 : Nat) (x1 : Nat) : Option (Mem) :=
  (gI M 9 x1 1).bind fun v1 =>
  (pI M 9 x0 1 v1).bind fun M2 =>
  (gI M2 9 x1 2).bind fun v3 =>
  (pI M2 9 x0 2 v3).bind fun M4 =>
  (gI M4 9 x1 3).bind fun v5 =>
  (pI M4 9 x0 3 v5).bind fun M6 =>
  (gR M6 9 x1 0).bind fun v7 =>
  (gR M6 9 x0 0).bind fun v8 =>
  (cpA M6 1 v7 (0 : Int32) v8 (0 : Int32) (600 : Int32)).bind fun M9 =>
  (gR M9 9 x1 4).bind fun v10 =>
  (gR M9 9 x0 4).bind fun v11 =>
  (cpA M9 0 v10 (0 : Int32) v11 (0 : Int32) (3 : Int32)).bind fun M12 =>
  (f_X9_copyFrom_L56 M12 x0 x1 (0 : Int32)).bind fun r13 =>
  some r13
set_option maxRecDepth 20000 in
theorem S_X9_copyFrom {l : Launch} {G : Gv} {lim : Nat × Nat} (M : Mem) (x0 : Nat) (x1 : Nat) : Sim l G Y_X9_copyFrom lim (f_X9_copyFrom M x0 x1) (fun z => some (none, z)) 0 [some (.inr (.inr x0)), some (.inr (.inr x1)), none] [] M := by
  unfold f_X9_copyFrom
  refine s_run (b := [(.aload_n 0, 1), (.aload_n 1, 1)]) 2 [some (.inr (.inr x0)), some (.inr (.inr x1)), none] [.inr (.inr x1), .inr (.inr x0)] (by decide +kernel) rfl ?_
  refine s_gI fl_9_44 rfl (by decide +kernel) (fun v1 => ?_)
  refine s_pI fl_9_44 (Or.inl rfl) rfl (by decide +kernel) (fun M2 => ?_)
  refine s_run (b := [(.aload_n 0, 1), (.aload_n 1, 1)]) 10 [some (.inr (.inr x0)), some (.inr (.inr x1)), none] [.inr (.inr x1), .inr (.inr x0)] (by decide +kernel) rfl ?_
  refine s_gI fl_9_47 rfl (by decide +kernel) (fun v3 => ?_)
  refine s_pI fl_9_47 (Or.inl rfl) rfl (by decide +kernel) (fun M4 => ?_)
  refine s_run (b := [(.aload_n 0, 1), (.aload_n 1, 1)]) 18 [some (.inr (.inr x0)), some (.inr (.inr x1)), none] [.inr (.inr x1), .inr (.inr x0)] (by decide +kernel) rfl ?_
  refine s_gI fl_9_15 rfl (by decide +kernel) (fun v5 => ?_)
  refine s_pI fl_9_15 (Or.inl rfl) rfl (by decide +kernel) (fun M6 => ?_)
  refine s_run (b := [(.aload_n 1, 1)]) 25 [some (.inr (.inr x0)), some (.inr (.inr x1)), none] [.inr (.inr x1)] (by decide +kernel) rfl ?_
  refine s_gR fl_9_9 rfl (by decide +kernel) (fun v7 => ?_)
  refine s_run (b := [(.iconst 0, 1), (.aload_n 0, 1)]) 30 [some (.inr (.inr x0)), some (.inr (.inr x1)), none] [.inr (.inr x0), .inl (0 : Int32), .inr (.inr v7)] (by decide +kernel) rfl ?_
  refine s_gR fl_9_9 rfl (by decide +kernel) (fun v8 => ?_)
  refine s_run (b := [(.iconst 0, 1), (.sipush 600, 3)]) 37 [some (.inr (.inr x0)), some (.inr (.inr x1)), none] [.inl (600 : Int32), .inl (0 : Int32), .inr (.inr v8), .inl (0 : Int32), .inr (.inr v7)] (by decide +kernel) rfl ?_
  refine s_copy (by decide) q1306 ⟨q694, q693, q19⟩ ⟨Nat.le_of_ble_eq_true rfl, Nat.le_of_ble_eq_true rfl⟩ (by decide +kernel) (fun M9 => ?_)
  refine s_run (b := [(.aload_n 1, 1)]) 41 [some (.inr (.inr x0)), some (.inr (.inr x1)), none] [.inr (.inr x1)] (by decide +kernel) rfl ?_
  refine s_gR fl_9_19 rfl (by decide +kernel) (fun v10 => ?_)
  refine s_run (b := [(.iconst 0, 1), (.aload_n 0, 1)]) 46 [some (.inr (.inr x0)), some (.inr (.inr x1)), none] [.inr (.inr x0), .inl (0 : Int32), .inr (.inr v10)] (by decide +kernel) rfl ?_
  refine s_gR fl_9_19 rfl (by decide +kernel) (fun v11 => ?_)
  refine s_run (b := [(.iconst 0, 1), (.iconst 3, 1)]) 51 [some (.inr (.inr x0)), some (.inr (.inr x1)), none] [.inl (3 : Int32), .inl (0 : Int32), .inr (.inr v11), .inl (0 : Int32), .inr (.inr v10)] (by decide +kernel) rfl ?_
  refine s_copy (by decide) q1306 ⟨q694, q693, q19⟩ ⟨Nat.le_of_ble_eq_true rfl, Nat.le_of_ble_eq_true rfl⟩ (by decide +kernel) (fun M12 => ?_)
  refine s_run (b := [(.iconst 0, 1), (.istore_n 2, 1)]) 56 [some (.inr (.inr x0)), some (.inr (.inr x1)), some (.inl (0 : Int32))] [] (by decide +kernel) rfl ?_
  refine s_lsub (ls' := [some (.inr (.inr x0)), some (.inr (.inr x1)), some (.inl (0 : Int32))]) ⟨rfl, ⟨rfl, ⟨rfl, trivial⟩⟩⟩ ?_
  refine sim_bind (L_X9_copyFrom_56 M12 x0 x1 (0 : Int32) _ (fun r13 => ?_))
  change Sim l G Y_X9_copyFrom lim _ _ 112 [none, none, none] [] r13
  exact s_vret (by decide +kernel) rfl
set_option maxRecDepth 20000 in
theorem c_X9_copyFrom {l : Launch} {G : Gv} {M : Mem} {x0 : Nat} {x1 : Nat} {z : Mem} (h : f_X9_copyFrom M x0 x1 = some z) : MetS l G Y_X9_copyFrom [.inr (.inr x0), .inr (.inr x1)] M none z :=
  met_of (ls0 := [some (.inr (.inr x0)), some (.inr (.inr x1)), none]) (by decide) rfl (lv_in (m := 1) rfl) (sl_le (Nat.le_of_ble_eq_true rfl)) (by rw [h]; rfl) (Or.inl ⟨rfl, rfl⟩) (S_X9_copyFrom M x0 x1)
def f_X11_again (M : Mem) (x0 : Nat) (x1 : Int32) : Option (Int32 × Mem) :=
  (if x1 < 0 then
    some ((0 : Int32), M)
  else
    (if (3 : Int32) ≤ x1 then
      some ((0 : Int32), M)
    else
      (gR M 11 x0 2).bind fun v3 =>
      (aI M 2 v3 x1).bind fun v4 =>
      (if v4 = 0 then
        some ((0 : Int32), M)
      else
        (gR M 11 x0 0).bind fun v6 =>
        (gR M 11 x0 1).bind fun v7 =>
        (aR M 4 v7 x1).bind fun v8 =>
        (ob M 9 v6).bind fun _ => (f_X9_copyFrom M v6 v8).bind fun z9 =>
        some ((1 : Int32), z9))))
set_option maxRecDepth 20000 in
theorem S_X11_again {l : Launch} {G : Gv} {lim : Nat × Nat} (M : Mem) (x0 : Nat) (x1 : Int32) : Sim l G Y_X11_again lim (f_X11_again M x0 x1) (fun z => some (some (.int z.1), z.2)) 0 [some (.inr (.inr x0)), some (.inl x1)] [] M := by
  unfold f_X11_again
  refine s_run (b := [(.iload_n 1, 1)]) 1 [some (.inr (.inr x0)), some (.inl x1)] [.inl x1] (by decide +kernel) rfl ?_
  refine s_if_lt (tgt := 18) (off := 17) (by decide +kernel) (by decide) (fun h1 => ?_) (fun h1 => ?_)
  · skip
    refine s_run (b := [(.iconst 0, 1)]) 19 [some (.inr (.inr x0)), some (.inl x1)] [.inl (0 : Int32)] (by decide +kernel) rfl ?_
    exact s_bret (Or.inl rfl) (by decide +kernel) rfl
  · skip
    refine s_run (b := [(.iload_n 1, 1), (.iconst 3, 1)]) 6 [some (.inr (.inr x0)), some (.inl x1)] [.inl (3 : Int32), .inl x1] (by decide +kernel) rfl ?_
    refine s_ic_ge (tgt := 18) (off := 12) (by decide +kernel) (by decide) (fun h2 => ?_) (fun h2 => ?_)
    · skip
      refine s_run (b := [(.iconst 0, 1)]) 19 [some (.inr (.inr x0)), some (.inl x1)] [.inl (0 : Int32)] (by decide +kernel) rfl ?_
      exact s_bret (Or.inl rfl) (by decide +kernel) rfl
    · skip
      refine s_run (b := [(.aload_n 0, 1)]) 10 [some (.inr (.inr x0)), some (.inl x1)] [.inr (.inr x0)] (by decide +kernel) rfl ?_
      refine s_gR fl_11_20 rfl (by decide +kernel) (fun v3 => ?_)
      refine s_run (b := [(.iload_n 1, 1)]) 14 [some (.inr (.inr x0)), some (.inl x1)] [.inl x1, .inr (.inr v3)] (by decide +kernel) rfl ?_
      refine s_ba (by decide) (by decide +kernel) (fun v4 => ?_)
      refine s_if_ne (tgt := 20) (off := 5) (by decide +kernel) (by decide) (fun h5 => ?_) (fun h5 => ?_)
      · skip
        refine s_run (b := [(.iconst 0, 1)]) 19 [some (.inr (.inr x0)), some (.inl x1)] [.inl (0 : Int32)] (by decide +kernel) rfl ?_
        exact s_bret (Or.inl rfl) (by decide +kernel) rfl
      · skip
        refine s_run (b := [(.aload_n 0, 1)]) 21 [some (.inr (.inr x0)), some (.inl x1)] [.inr (.inr x0)] (by decide +kernel) rfl ?_
        refine s_gR fl_11_10 rfl (by decide +kernel) (fun v6 => ?_)
        refine s_run (b := [(.aload_n 0, 1)]) 25 [some (.inr (.inr x0)), some (.inl x1)] [.inr (.inr x0), .inr (.inr v6)] (by decide +kernel) rfl ?_
        refine s_gR fl_11_16 rfl (by decide +kernel) (fun v7 => ?_)
        refine s_run (b := [(.iload_n 1, 1)]) 29 [some (.inr (.inr x0)), some (.inl x1)] [.inl x1, .inr (.inr v7), .inr (.inr v6)] (by decide +kernel) rfl ?_
        refine s_aa ⟨by decide, by decide⟩ rfl (by decide +kernel) (fun v8 => ?_)
        refine s_cV (Z := Y_X9_copyFrom) (c := 9) (vs := [.inr (.inr v8)]) (st := []) (rO := fun _ => none) (mO := fun z => z) zk_X9_copyFrom zi_X9_copyFrom q1302 rfl ⟨by decide, by decide⟩ ⟨rfl, rfl⟩ rfl rfl (Nat.le_of_ble_eq_true rfl) (by decide +kernel) (fun z hz => c_X9_copyFrom hz) (fun z9 => ?_)
        change Sim l G Y_X11_again lim _ _ 33 [some (.inr (.inr x0)), some (.inl x1)] [] z9
        refine s_run (b := [(.iconst 1, 1)]) 34 [some (.inr (.inr x0)), some (.inl x1)] [.inl (1 : Int32)] (by decide +kernel) rfl ?_
        exact s_bret (Or.inr rfl) (by decide +kernel) rfl
set_option maxRecDepth 20000 in
theorem c_X11_again {l : Launch} {G : Gv} {M : Mem} {x0 : Nat} {x1 : Int32} {z : Int32 × Mem} (h : f_X11_again M x0 x1 = some z) : MetS l G Y_X11_again [.inr (.inr x0), .inl x1] M (some (.int z.1)) z.2 :=
  met_of (ls0 := [some (.inr (.inr x0)), some (.inl x1)]) (by decide) rfl (lv_in (m := 0) rfl) (sl_le (Nat.le_of_ble_eq_true rfl)) (by rw [h]; rfl) (Or.inl ⟨rfl, rfl⟩) (S_X11_again M x0 x1)
def f_X5_hears (M : Mem) (x0 : Nat) (x1 : Int32) (x2 : Int32) : Option (Int32) :=
  (gR M 5 x0 13).bind fun v1 =>
  (aI M 0 v1 x2).bind fun v2 =>
  (if ((v2 >>> (x1 &&& 31)) &&& (1 : Int32)) = 0 then
    some (0 : Int32)
  else
    some (1 : Int32))
set_option maxRecDepth 20000 in
theorem S_X5_hears {l : Launch} {G : Gv} {lim : Nat × Nat} (M : Mem) (x0 : Nat) (x1 : Int32) (x2 : Int32) : Sim l G Y_X5_hears lim (f_X5_hears M x0 x1 x2) (fun z => some (some (.int z), M)) 0 [some (.inr (.inr x0)), some (.inl x1), some (.inl x2)] [] M := by
  unfold f_X5_hears
  refine s_run (b := [(.aload_n 0, 1)]) 1 [some (.inr (.inr x0)), some (.inl x1), some (.inl x2)] [.inr (.inr x0)] (by decide +kernel) rfl ?_
  refine s_gR fl_5_36 rfl (by decide +kernel) (fun v1 => ?_)
  refine s_run (b := [(.iload_n 2, 1)]) 5 [some (.inr (.inr x0)), some (.inl x1), some (.inl x2)] [.inl x2, .inr (.inr v1)] (by decide +kernel) rfl ?_
  refine s_ia (by decide +kernel) (fun v2 => ?_)
  refine s_run (b := [(.iload_n 1, 1), (.ishr, 1), (.iconst 1, 1), (.iand, 1)]) 10 [some (.inr (.inr x0)), some (.inl x1), some (.inl x2)] [.inl ((v2 >>> (x1 &&& 31)) &&& (1 : Int32))] (by decide +kernel) rfl ?_
  refine s_if_eq (tgt := 17) (off := 7) (by decide +kernel) (by decide) (fun h3 => ?_) (fun h3 => ?_)
  · skip
    refine s_run (b := [(.iconst 0, 1)]) 18 [some (.inr (.inr x0)), some (.inl x1), some (.inl x2)] [.inl (0 : Int32)] (by decide +kernel) rfl ?_
    exact s_bret (Or.inl rfl) (by decide +kernel) rfl
  · skip
    refine s_run (b := [(.iconst 1, 1), (.goto 4, 3)]) 18 [some (.inr (.inr x0)), some (.inl x1), some (.inl x2)] [.inl (1 : Int32)] (by decide +kernel) rfl ?_
    exact s_bret (Or.inr rfl) (by decide +kernel) rfl
set_option maxRecDepth 20000 in
theorem c_X5_hears {l : Launch} {G : Gv} {M : Mem} {x0 : Nat} {x1 : Int32} {x2 : Int32} {z : Int32} (h : f_X5_hears M x0 x1 x2 = some z) : MetS l G Y_X5_hears [.inr (.inr x0), .inl x1, .inl x2] M (some (.int z)) M :=
  met_of (ls0 := [some (.inr (.inr x0)), some (.inl x1), some (.inl x2)]) (by decide) rfl (lv_in (m := 0) rfl) (sl_le (Nat.le_of_ble_eq_true rfl)) (by rw [h]; rfl) (Or.inl ⟨rfl, rfl⟩) (S_X5_hears M x0 x1 x2)
def f_X3_allAt_J42 (M : Mem) (x0 : Nat) (x1 : Nat) (x2 : Int32) (x3 : Int32) (x4 : Int32) (x5 : Int32)  : Option ((Int32 × Mem) ⊕ ((Mem))) :=
  (ob M 3 x0).bind fun _ => (f_X3_offer M x0 x1 x5 x2 x3).bind fun z1 =>
  some (.inl ((x5 + (1 : Int32)), z1))
set_option maxRecDepth 20000 in
theorem J_X3_allAt_42 {l : Launch} {G : Gv} {lim : Nat × Nat} (M : Mem) (x0 : Nat) (x1 : Nat) (x2 : Int32) (x3 : Int32) (x4 : Int32) (x5 : Int32)  (K : (Int32 × Mem) ⊕ ((Mem)) → Option (Option Value × Mem)) (kk1 : ∀ (s5 : Int32) (s_ : Mem), SimR l G Y_X3_allAt lim (K (.inl (s5, s_))) 7 [some (.inr (.inr x0)), some (.inr (.inr x1)), some (.inl x2), some (.inl x3), some (.inl x4), some (.inl s5)] [] s_) (kk2_0 : ∀ (s_ : Mem), SimR l G Y_X3_allAt lim (K (.inr s_)) 57 [none, none, none, none, none, none] [] s_) : Sim l G Y_X3_allAt lim (f_X3_allAt_J42 M x0 x1 x2 x3 x4 x5) K 42 [some (.inr (.inr x0)), some (.inr (.inr x1)), some (.inl x2), some (.inl x3), some (.inl x4), some (.inl x5)] [] M := by
  unfold f_X3_allAt_J42
  refine s_run (b := [(.aload_n 0, 1), (.aload_n 1, 1), (.iload 5, 2), (.iload_n 2, 1), (.iload_n 3, 1)]) 48 [some (.inr (.inr x0)), some (.inr (.inr x1)), some (.inl x2), some (.inl x3), some (.inl x4), some (.inl x5)] [.inl x3, .inl x2, .inl x5, .inr (.inr x1), .inr (.inr x0)] (by decide +kernel) rfl ?_
  refine s_cV (Z := Y_X3_offer) (c := 3) (vs := [.inr (.inr x1), .inl x5, .inl x2, .inl x3]) (st := []) (rO := fun _ => none) (mO := fun z => z) zk_X3_offer zi_X3_offer q786 rfl ⟨by decide, by decide⟩ ⟨rfl, rfl⟩ rfl rfl (Nat.le_of_ble_eq_true rfl) (by decide +kernel) (fun z hz => c_X3_offer hz) (fun z1 => ?_)
  change Sim l G Y_X3_allAt lim _ _ 51 [some (.inr (.inr x0)), some (.inr (.inr x1)), some (.inl x2), some (.inl x3), some (.inl x4), some (.inl x5)] [] z1
  refine s_run (b := [(.iinc 5 1, 3), (.goto (-47), 3)]) 7 [some (.inr (.inr x0)), some (.inr (.inr x1)), some (.inl x2), some (.inl x3), some (.inl x4), some (.inl (x5 + (1 : Int32)))] [] (by decide +kernel) rfl ?_
  exact s_lsub (ls' := [some (.inr (.inr x0)), some (.inr (.inr x1)), some (.inl x2), some (.inl x3), some (.inl x4), some (.inl (x5 + (1 : Int32)))]) ⟨rfl, ⟨rfl, ⟨rfl, ⟨rfl, ⟨rfl, ⟨rfl, trivial⟩⟩⟩⟩⟩⟩ (kk1 (x5 + (1 : Int32)) z1)
def f_X3_allAt_B7 (M : Mem) (x0 : Nat) (x1 : Nat) (x2 : Int32) (x3 : Int32) (x4 : Int32) (x5 : Int32) : Option ((Int32 × Mem) ⊕ ((Mem))) :=
  (gI M 5 x1 0).bind fun v1 =>
  (if v1 ≤ x5 then
    some (.inr M)
  else
    (ob M 5 x1).bind fun _ => (f_X5_hears M x1 x5 x2).bind fun v3 =>
    (if v3 = 0 then
      some (.inl ((x5 + (1 : Int32)), M))
    else
      (if x4 = 0 then
        (gR M 5 x1 5).bind fun v6 =>
        (aI M 0 v6 x5).bind fun v7 =>
        (if v7 = (2 : Int32) then
          some (.inl ((x5 + (1 : Int32)), M))
        else
          f_X3_allAt_J42 M x0 x1 x2 x3 x4 x5 )
      else
        f_X3_allAt_J42 M x0 x1 x2 x3 x4 x5 )))
def f_X3_allAt_L7 (M : Mem) (x0 : Nat) (x1 : Nat) (x2 : Int32) (x3 : Int32) (x4 : Int32) (x5 : Int32) : Option ((Mem)) := iter (fun s : Int32 × Mem => f_X3_allAt_B7 s.2 x0 x1 x2 x3 x4 s.1) 1048576 (x5, M)
set_option maxRecDepth 20000 in
theorem B_X3_allAt_7 {l : Launch} {G : Gv} {lim : Nat × Nat} (M : Mem) (x0 : Nat) (x1 : Nat) (x2 : Int32) (x3 : Int32) (x4 : Int32) (x5 : Int32) (K : (Int32 × Mem) ⊕ ((Mem)) → Option (Option Value × Mem)) (kk1 : ∀ (s5 : Int32) (s_ : Mem), SimR l G Y_X3_allAt lim (K (.inl (s5, s_))) 7 [some (.inr (.inr x0)), some (.inr (.inr x1)), some (.inl x2), some (.inl x3), some (.inl x4), some (.inl s5)] [] s_) (kk2_0 : ∀ (s_ : Mem), SimR l G Y_X3_allAt lim (K (.inr s_)) 57 [none, none, none, none, none, none] [] s_) : Sim l G Y_X3_allAt lim (f_X3_allAt_B7 M x0 x1 x2 x3 x4 x5) K 7 [some (.inr (.inr x0)), some (.inr (.inr x1)), some (.inl x2), some (.inl x3), some (.inl x4), some (.inl x5)] [] M := by
  unfold f_X3_allAt_B7
  refine s_run (b := [(.iload 5, 2), (.aload_n 1, 1)]) 10 [some (.inr (.inr x0)), some (.inr (.inr x1)), some (.inl x2), some (.inl x3), some (.inl x4), some (.inl x5)] [.inr (.inr x1), .inl x5] (by decide +kernel) rfl ?_
  refine s_gI fl_3_34 rfl (by decide +kernel) (fun v1 => ?_)
  refine s_ic_ge (tgt := 57) (off := 44) (by decide +kernel) (by decide) (fun h2 => ?_) (fun h2 => ?_)
  · skip
    exact s_lsub (ls' := [none, none, none, none, none, none]) trivial (kk2_0 M)
  · skip
    refine s_run (b := [(.aload_n 1, 1), (.iload 5, 2), (.iload_n 2, 1)]) 20 [some (.inr (.inr x0)), some (.inr (.inr x1)), some (.inl x2), some (.inl x3), some (.inl x4), some (.inl x5)] [.inl x2, .inl x5, .inr (.inr x1)] (by decide +kernel) rfl ?_
    refine s_cV (Z := Y_X5_hears) (c := 5) (vs := [.inl x5, .inl x2]) (st := []) (rO := fun z => some (.inl z)) (mO := fun _ => M) zk_X5_hears zi_X5_hears q1083 rfl ⟨by decide, by decide⟩ ⟨rfl, rfl⟩ rfl rfl (Nat.le_of_ble_eq_true rfl) (by decide +kernel) (fun z hz => c_X5_hears hz) (fun v3 => ?_)
    change Sim l G Y_X3_allAt lim _ _ 23 [some (.inr (.inr x0)), some (.inr (.inr x1)), some (.inl x2), some (.inl x3), some (.inl x4), some (.inl x5)] [.inl v3] M
    refine s_if_eq (tgt := 51) (off := 28) (by decide +kernel) (by decide) (fun h4 => ?_) (fun h4 => ?_)
    · skip
      refine s_run (b := [(.iinc 5 1, 3), (.goto (-47), 3)]) 7 [some (.inr (.inr x0)), some (.inr (.inr x1)), some (.inl x2), some (.inl x3), some (.inl x4), some (.inl (x5 + (1 : Int32)))] [] (by decide +kernel) rfl ?_
      exact s_lsub (ls' := [some (.inr (.inr x0)), some (.inr (.inr x1)), some (.inl x2), some (.inl x3), some (.inl x4), some (.inl (x5 + (1 : Int32)))]) ⟨rfl, ⟨rfl, ⟨rfl, ⟨rfl, ⟨rfl, ⟨rfl, trivial⟩⟩⟩⟩⟩⟩ (kk1 (x5 + (1 : Int32)) M)
    · skip
      refine s_run (b := [(.iload 4, 2)]) 28 [some (.inr (.inr x0)), some (.inr (.inr x1)), some (.inl x2), some (.inl x3), some (.inl x4), some (.inl x5)] [.inl x4] (by decide +kernel) rfl ?_
      refine s_if_ne (tgt := 42) (off := 14) (by decide +kernel) (by decide) (fun h5 => ?_) (fun h5 => ?_)
      · skip
        refine s_run (b := [(.aload_n 1, 1)]) 32 [some (.inr (.inr x0)), some (.inr (.inr x1)), some (.inl x2), some (.inl x3), some (.inl x4), some (.inl x5)] [.inr (.inr x1)] (by decide +kernel) rfl ?_
        refine s_gR fl_3_45 rfl (by decide +kernel) (fun v6 => ?_)
        refine s_run (b := [(.iload 5, 2)]) 37 [some (.inr (.inr x0)), some (.inr (.inr x1)), some (.inl x2), some (.inl x3), some (.inl x4), some (.inl x5)] [.inl x5, .inr (.inr v6)] (by decide +kernel) rfl ?_
        refine s_ia (by decide +kernel) (fun v7 => ?_)
        refine s_run (b := [(.iconst 2, 1)]) 39 [some (.inr (.inr x0)), some (.inr (.inr x1)), some (.inl x2), some (.inl x3), some (.inl x4), some (.inl x5)] [.inl (2 : Int32), .inl v7] (by decide +kernel) rfl ?_
        refine s_ic_eq (tgt := 51) (off := 12) (by decide +kernel) (by decide) (fun h8 => ?_) (fun h8 => ?_)
        · skip
          refine s_run (b := [(.iinc 5 1, 3), (.goto (-47), 3)]) 7 [some (.inr (.inr x0)), some (.inr (.inr x1)), some (.inl x2), some (.inl x3), some (.inl x4), some (.inl (x5 + (1 : Int32)))] [] (by decide +kernel) rfl ?_
          exact s_lsub (ls' := [some (.inr (.inr x0)), some (.inr (.inr x1)), some (.inl x2), some (.inl x3), some (.inl x4), some (.inl (x5 + (1 : Int32)))]) ⟨rfl, ⟨rfl, ⟨rfl, ⟨rfl, ⟨rfl, ⟨rfl, trivial⟩⟩⟩⟩⟩⟩ (kk1 (x5 + (1 : Int32)) M)
        · skip
          exact s_lsub (ls' := [some (.inr (.inr x0)), some (.inr (.inr x1)), some (.inl x2), some (.inl x3), some (.inl x4), some (.inl x5)]) ⟨rfl, ⟨rfl, ⟨rfl, ⟨rfl, ⟨rfl, ⟨rfl, trivial⟩⟩⟩⟩⟩⟩ (J_X3_allAt_42 M x0 x1 x2 x3 x4 x5  K kk1 kk2_0)
      · skip
        exact s_lsub (ls' := [some (.inr (.inr x0)), some (.inr (.inr x1)), some (.inl x2), some (.inl x3), some (.inl x4), some (.inl x5)]) ⟨rfl, ⟨rfl, ⟨rfl, ⟨rfl, ⟨rfl, ⟨rfl, trivial⟩⟩⟩⟩⟩⟩ (J_X3_allAt_42 M x0 x1 x2 x3 x4 x5  K kk1 kk2_0)
set_option maxRecDepth 20000 in
theorem L_X3_allAt_7 {l : Launch} {G : Gv} {lim : Nat × Nat} (M : Mem) (x0 : Nat) (x1 : Nat) (x2 : Int32) (x3 : Int32) (x4 : Int32) (x5 : Int32) (K : ((Mem)) → Option (Option Value × Mem)) (kk2_0 : ∀ r : Mem, SimR l G Y_X3_allAt lim (K r) 57 [none, none, none, none, none, none] [] r) : Sim l G Y_X3_allAt lim (f_X3_allAt_L7 M x0 x1 x2 x3 x4 x5) K 7 [some (.inr (.inr x0)), some (.inr (.inr x1)), some (.inl x2), some (.inl x3), some (.inl x4), some (.inl x5)] [] M :=
  s_iter (f := fun s : Int32 × Mem => f_X3_allAt_B7 s.2 x0 x1 x2 x3 x4 s.1) (hd := 7) (cl := fun s => [some (.inr (.inr x0)), some (.inr (.inr x1)), some (.inl x2), some (.inl x3), some (.inl x4), some (.inl s.1)]) (cm := fun s => s.2) (xp := fun _ => 57) (xl := fun r => [none, none, none, none, none, none]) (xm := fun r => r) (fun s K h1 h2 => B_X3_allAt_7 s.2 x0 x1 x2 x3 x4 s.1 K (fun a5 a_ => h1 (a5, a_)) (fun a_ => h2 a_)) 1048576 (x5, M) K kk2_0
def f_X3_allAt (M : Mem) (x0 : Nat) (x1 : Nat) (x2 : Int32) (x3 : Int32) (x4 : Int32) : Option (Mem) :=
  (ob M 3 x0).bind fun _ => (f_X3_clear M x0).bind fun z1 =>
  (f_X3_allAt_L7 z1 x0 x1 x2 x3 x4 (0 : Int32)).bind fun r2 =>
  some r2
set_option maxRecDepth 20000 in
theorem S_X3_allAt {l : Launch} {G : Gv} {lim : Nat × Nat} (M : Mem) (x0 : Nat) (x1 : Nat) (x2 : Int32) (x3 : Int32) (x4 : Int32) : Sim l G Y_X3_allAt lim (f_X3_allAt M x0 x1 x2 x3 x4) (fun z => some (none, z)) 0 [some (.inr (.inr x0)), some (.inr (.inr x1)), some (.inl x2), some (.inl x3), some (.inl x4), none] [] M := by
  unfold f_X3_allAt
  refine s_run (b := [(.aload_n 0, 1)]) 1 [some (.inr (.inr x0)), some (.inr (.inr x1)), some (.inl x2), some (.inl x3), some (.inl x4), none] [.inr (.inr x0)] (by decide +kernel) rfl ?_
  refine s_cV (Z := Y_X3_clear) (c := 3) (vs := []) (st := []) (rO := fun _ => none) (mO := fun z => z) zk_X3_clear zi_X3_clear q782 rfl ⟨by decide, by decide⟩ ⟨rfl, rfl⟩ rfl rfl (Nat.le_of_ble_eq_true rfl) (by decide +kernel) (fun z hz => c_X3_clear hz) (fun z1 => ?_)
  change Sim l G Y_X3_allAt lim _ _ 4 [some (.inr (.inr x0)), some (.inr (.inr x1)), some (.inl x2), some (.inl x3), some (.inl x4), none] [] z1
  refine s_run (b := [(.iconst 0, 1), (.istore 5, 2)]) 7 [some (.inr (.inr x0)), some (.inr (.inr x1)), some (.inl x2), some (.inl x3), some (.inl x4), some (.inl (0 : Int32))] [] (by decide +kernel) rfl ?_
  refine s_lsub (ls' := [some (.inr (.inr x0)), some (.inr (.inr x1)), some (.inl x2), some (.inl x3), some (.inl x4), some (.inl (0 : Int32))]) ⟨rfl, ⟨rfl, ⟨rfl, ⟨rfl, ⟨rfl, ⟨rfl, trivial⟩⟩⟩⟩⟩⟩ ?_
  refine sim_bind (L_X3_allAt_7 z1 x0 x1 x2 x3 x4 (0 : Int32) _ (fun r2 => ?_))
  change Sim l G Y_X3_allAt lim _ _ 57 [none, none, none, none, none, none] [] r2
  exact s_vret (by decide +kernel) rfl
set_option maxRecDepth 20000 in
theorem c_X3_allAt {l : Launch} {G : Gv} {M : Mem} {x0 : Nat} {x1 : Nat} {x2 : Int32} {x3 : Int32} {x4 : Int32} {z : Mem} (h : f_X3_allAt M x0 x1 x2 x3 x4 = some z) : MetS l G Y_X3_allAt [.inr (.inr x0), .inr (.inr x1), .inl x2, .inl x3, .inl x4] M none z :=
  met_of (ls0 := [some (.inr (.inr x0)), some (.inr (.inr x1)), some (.inl x2), some (.inl x3), some (.inl x4), none]) (by decide) rfl (lv_in (m := 1) rfl) (sl_le (Nat.le_of_ble_eq_true rfl)) (by rw [h]; rfl) (Or.inl ⟨rfl, rfl⟩) (S_X3_allAt M x0 x1 x2 x3 x4)
def f_X3_byTurns_J51 (M : Mem) (x0 : Nat) (x1 : Nat) (x2 : Int32) (x3 : Int32) (x4 : Int32) (y0 : Int32) : Option ((Int32 × Mem) ⊕ ((Mem))) :=
  (ob M 5 x1).bind fun _ => (f_X5_hears M x1 y0 x2).bind fun v1 =>
  (if v1 = 0 then
    some (.inl ((x4 + (1 : Int32)), M))
  else
    (ob M 3 x0).bind fun _ => (f_X3_offer M x0 x1 y0 x2 (1 : Int32)).bind fun z3 =>
    some (.inl ((x4 + (1 : Int32)), z3)))
set_option maxRecDepth 20000 in
theorem J_X3_byTurns_51 {l : Launch} {G : Gv} {lim : Nat × Nat} (M : Mem) (x0 : Nat) (x1 : Nat) (x2 : Int32) (x3 : Int32) (x4 : Int32) (y0 : Int32) (K : (Int32 × Mem) ⊕ ((Mem)) → Option (Option Value × Mem)) (kk1 : ∀ (s4 : Int32) (s_ : Mem), SimR l G Y_X3_byTurns lim (K (.inl (s4, s_))) 7 [some (.inr (.inr x0)), some (.inr (.inr x1)), some (.inl x2), some (.inl x3), some (.inl s4), none] [] s_) (kk2_0 : ∀ (s_ : Mem), SimR l G Y_X3_byTurns lim (K (.inr s_)) 78 [none, none, none, none, none, none] [] s_) : Sim l G Y_X3_byTurns lim (f_X3_byTurns_J51 M x0 x1 x2 x3 x4 y0) K 51 [some (.inr (.inr x0)), some (.inr (.inr x1)), some (.inl x2), some (.inl x3), some (.inl x4), none] [.inl y0] M := by
  unfold f_X3_byTurns_J51
  refine s_run (b := [(.istore 5, 2), (.aload_n 1, 1), (.iload 5, 2), (.iload_n 2, 1)]) 57 [some (.inr (.inr x0)), some (.inr (.inr x1)), some (.inl x2), some (.inl x3), some (.inl x4), some (.inl y0)] [.inl x2, .inl y0, .inr (.inr x1)] (by decide +kernel) rfl ?_
  refine s_cV (Z := Y_X5_hears) (c := 5) (vs := [.inl y0, .inl x2]) (st := []) (rO := fun z => some (.inl z)) (mO := fun _ => M) zk_X5_hears zi_X5_hears q1083 rfl ⟨by decide, by decide⟩ ⟨rfl, rfl⟩ rfl rfl (Nat.le_of_ble_eq_true rfl) (by decide +kernel) (fun z hz => c_X5_hears hz) (fun v1 => ?_)
  change Sim l G Y_X3_byTurns lim _ _ 60 [some (.inr (.inr x0)), some (.inr (.inr x1)), some (.inl x2), some (.inl x3), some (.inl x4), some (.inl y0)] [.inl v1] M
  refine s_if_eq (tgt := 72) (off := 12) (by decide +kernel) (by decide) (fun h2 => ?_) (fun h2 => ?_)
  · skip
    refine s_run (b := [(.iinc 4 1, 3), (.goto (-68), 3)]) 7 [some (.inr (.inr x0)), some (.inr (.inr x1)), some (.inl x2), some (.inl x3), some (.inl (x4 + (1 : Int32))), some (.inl y0)] [] (by decide +kernel) rfl ?_
    exact s_lsub (ls' := [some (.inr (.inr x0)), some (.inr (.inr x1)), some (.inl x2), some (.inl x3), some (.inl (x4 + (1 : Int32))), none]) ⟨rfl, ⟨rfl, ⟨rfl, ⟨rfl, ⟨rfl, trivial⟩⟩⟩⟩⟩ (kk1 (x4 + (1 : Int32)) M)
  · skip
    refine s_run (b := [(.aload_n 0, 1), (.aload_n 1, 1), (.iload 5, 2), (.iload_n 2, 1), (.iconst 1, 1)]) 69 [some (.inr (.inr x0)), some (.inr (.inr x1)), some (.inl x2), some (.inl x3), some (.inl x4), some (.inl y0)] [.inl (1 : Int32), .inl x2, .inl y0, .inr (.inr x1), .inr (.inr x0)] (by decide +kernel) rfl ?_
    refine s_cV (Z := Y_X3_offer) (c := 3) (vs := [.inr (.inr x1), .inl y0, .inl x2, .inl (1 : Int32)]) (st := []) (rO := fun _ => none) (mO := fun z => z) zk_X3_offer zi_X3_offer q786 rfl ⟨by decide, by decide⟩ ⟨rfl, rfl⟩ rfl rfl (Nat.le_of_ble_eq_true rfl) (by decide +kernel) (fun z hz => c_X3_offer hz) (fun z3 => ?_)
    change Sim l G Y_X3_byTurns lim _ _ 72 [some (.inr (.inr x0)), some (.inr (.inr x1)), some (.inl x2), some (.inl x3), some (.inl x4), some (.inl y0)] [] z3
    refine s_run (b := [(.iinc 4 1, 3), (.goto (-68), 3)]) 7 [some (.inr (.inr x0)), some (.inr (.inr x1)), some (.inl x2), some (.inl x3), some (.inl (x4 + (1 : Int32))), some (.inl y0)] [] (by decide +kernel) rfl ?_
    exact s_lsub (ls' := [some (.inr (.inr x0)), some (.inr (.inr x1)), some (.inl x2), some (.inl x3), some (.inl (x4 + (1 : Int32))), none]) ⟨rfl, ⟨rfl, ⟨rfl, ⟨rfl, ⟨rfl, trivial⟩⟩⟩⟩⟩ (kk1 (x4 + (1 : Int32)) z3)
def f_X3_byTurns_B7 (M : Mem) (x0 : Nat) (x1 : Nat) (x2 : Int32) (x3 : Int32) (x4 : Int32) : Option ((Int32 × Mem) ⊕ ((Mem))) :=
  (gI M 5 x1 0).bind fun v1 =>
  (if v1 ≤ x4 then
    some (.inr M)
  else
    (gI M 3 x0 0).bind fun v3 =>
    (if v3 = (-1 : Int32) then
      (gI M 5 x1 0).bind fun v5 =>
      (if v5 ≤ (x3 + x4) then
        (gI M 5 x1 0).bind fun v7 =>
        f_X3_byTurns_J51 M x0 x1 x2 x3 x4 ((x3 + x4) - v7)
      else
        f_X3_byTurns_J51 M x0 x1 x2 x3 x4 (x3 + x4))
    else
      some (.inr M)))
def f_X3_byTurns_L7 (M : Mem) (x0 : Nat) (x1 : Nat) (x2 : Int32) (x3 : Int32) (x4 : Int32) : Option ((Mem)) := iter (fun s : Int32 × Mem => f_X3_byTurns_B7 s.2 x0 x1 x2 x3 s.1) 1048576 (x4, M)
set_option maxRecDepth 20000 in
theorem B_X3_byTurns_7 {l : Launch} {G : Gv} {lim : Nat × Nat} (M : Mem) (x0 : Nat) (x1 : Nat) (x2 : Int32) (x3 : Int32) (x4 : Int32) (K : (Int32 × Mem) ⊕ ((Mem)) → Option (Option Value × Mem)) (kk1 : ∀ (s4 : Int32) (s_ : Mem), SimR l G Y_X3_byTurns lim (K (.inl (s4, s_))) 7 [some (.inr (.inr x0)), some (.inr (.inr x1)), some (.inl x2), some (.inl x3), some (.inl s4), none] [] s_) (kk2_0 : ∀ (s_ : Mem), SimR l G Y_X3_byTurns lim (K (.inr s_)) 78 [none, none, none, none, none, none] [] s_) : Sim l G Y_X3_byTurns lim (f_X3_byTurns_B7 M x0 x1 x2 x3 x4) K 7 [some (.inr (.inr x0)), some (.inr (.inr x1)), some (.inl x2), some (.inl x3), some (.inl x4), none] [] M := by
  unfold f_X3_byTurns_B7
  refine s_run (b := [(.iload 4, 2), (.aload_n 1, 1)]) 10 [some (.inr (.inr x0)), some (.inr (.inr x1)), some (.inl x2), some (.inl x3), some (.inl x4), none] [.inr (.inr x1), .inl x4] (by decide +kernel) rfl ?_
  refine s_gI fl_3_34 rfl (by decide +kernel) (fun v1 => ?_)
  refine s_ic_ge (tgt := 78) (off := 65) (by decide +kernel) (by decide) (fun h2 => ?_) (fun h2 => ?_)
  · skip
    exact s_lsub (ls' := [none, none, none, none, none, none]) trivial (kk2_0 M)
  · skip
    refine s_run (b := [(.aload_n 0, 1)]) 17 [some (.inr (.inr x0)), some (.inr (.inr x1)), some (.inl x2), some (.inl x3), some (.inl x4), none] [.inr (.inr x0)] (by decide +kernel) rfl ?_
    refine s_gI fl_3_9 rfl (by decide +kernel) (fun v3 => ?_)
    refine s_run (b := [(.iconst (-1), 1)]) 21 [some (.inr (.inr x0)), some (.inr (.inr x1)), some (.inl x2), some (.inl x3), some (.inl x4), none] [.inl (-1 : Int32), .inl v3] (by decide +kernel) rfl ?_
    refine s_ic_ne (tgt := 78) (off := 57) (by decide +kernel) (by decide) (fun h4 => ?_) (fun h4 => ?_)
    · skip
      refine s_run (b := [(.iload_n 3, 1), (.iload 4, 2), (.iadd, 1), (.aload_n 1, 1)]) 29 [some (.inr (.inr x0)), some (.inr (.inr x1)), some (.inl x2), some (.inl x3), some (.inl x4), none] [.inr (.inr x1), .inl (x3 + x4)] (by decide +kernel) rfl ?_
      refine s_gI fl_3_34 rfl (by decide +kernel) (fun v5 => ?_)
      refine s_ic_ge (tgt := 42) (off := 10) (by decide +kernel) (by decide) (fun h6 => ?_) (fun h6 => ?_)
      · skip
        refine s_run (b := [(.iload_n 3, 1), (.iload 4, 2), (.iadd, 1), (.aload_n 1, 1)]) 47 [some (.inr (.inr x0)), some (.inr (.inr x1)), some (.inl x2), some (.inl x3), some (.inl x4), none] [.inr (.inr x1), .inl (x3 + x4)] (by decide +kernel) rfl ?_
        refine s_gI fl_3_34 rfl (by decide +kernel) (fun v7 => ?_)
        refine s_run (b := [(.isub, 1)]) 51 [some (.inr (.inr x0)), some (.inr (.inr x1)), some (.inl x2), some (.inl x3), some (.inl x4), none] [.inl ((x3 + x4) - v7)] (by decide +kernel) rfl ?_
        exact s_lsub (ls' := [some (.inr (.inr x0)), some (.inr (.inr x1)), some (.inl x2), some (.inl x3), some (.inl x4), none]) ⟨rfl, ⟨rfl, ⟨rfl, ⟨rfl, ⟨rfl, trivial⟩⟩⟩⟩⟩ (J_X3_byTurns_51 M x0 x1 x2 x3 x4 ((x3 + x4) - v7) K kk1 kk2_0)
      · skip
        refine s_run (b := [(.iload_n 3, 1), (.iload 4, 2), (.iadd, 1), (.goto 12, 3)]) 51 [some (.inr (.inr x0)), some (.inr (.inr x1)), some (.inl x2), some (.inl x3), some (.inl x4), none] [.inl (x3 + x4)] (by decide +kernel) rfl ?_
        exact s_lsub (ls' := [some (.inr (.inr x0)), some (.inr (.inr x1)), some (.inl x2), some (.inl x3), some (.inl x4), none]) ⟨rfl, ⟨rfl, ⟨rfl, ⟨rfl, ⟨rfl, trivial⟩⟩⟩⟩⟩ (J_X3_byTurns_51 M x0 x1 x2 x3 x4 (x3 + x4) K kk1 kk2_0)
    · skip
      exact s_lsub (ls' := [none, none, none, none, none, none]) trivial (kk2_0 M)
set_option maxRecDepth 20000 in
theorem L_X3_byTurns_7 {l : Launch} {G : Gv} {lim : Nat × Nat} (M : Mem) (x0 : Nat) (x1 : Nat) (x2 : Int32) (x3 : Int32) (x4 : Int32) (K : ((Mem)) → Option (Option Value × Mem)) (kk2_0 : ∀ r : Mem, SimR l G Y_X3_byTurns lim (K r) 78 [none, none, none, none, none, none] [] r) : Sim l G Y_X3_byTurns lim (f_X3_byTurns_L7 M x0 x1 x2 x3 x4) K 7 [some (.inr (.inr x0)), some (.inr (.inr x1)), some (.inl x2), some (.inl x3), some (.inl x4), none] [] M :=
  s_iter (f := fun s : Int32 × Mem => f_X3_byTurns_B7 s.2 x0 x1 x2 x3 s.1) (hd := 7) (cl := fun s => [some (.inr (.inr x0)), some (.inr (.inr x1)), some (.inl x2), some (.inl x3), some (.inl s.1), none]) (cm := fun s => s.2) (xp := fun _ => 78) (xl := fun r => [none, none, none, none, none, none]) (xm := fun r => r) (fun s K h1 h2 => B_X3_byTurns_7 s.2 x0 x1 x2 x3 s.1 K (fun a4 a_ => h1 (a4, a_)) (fun a_ => h2 a_)) 1048576 (x4, M) K kk2_0
def f_X3_byTurns (M : Mem) (x0 : Nat) (x1 : Nat) (x2 : Int32) (x3 : Int32) : Option (Mem) :=
  (ob M 3 x0).bind fun _ => (f_X3_clear M x0).bind fun z1 =>
  (f_X3_byTurns_L7 z1 x0 x1 x2 x3 (0 : Int32)).bind fun r2 =>
  some r2
set_option maxRecDepth 20000 in
theorem S_X3_byTurns {l : Launch} {G : Gv} {lim : Nat × Nat} (M : Mem) (x0 : Nat) (x1 : Nat) (x2 : Int32) (x3 : Int32) : Sim l G Y_X3_byTurns lim (f_X3_byTurns M x0 x1 x2 x3) (fun z => some (none, z)) 0 [some (.inr (.inr x0)), some (.inr (.inr x1)), some (.inl x2), some (.inl x3), none, none] [] M := by
  unfold f_X3_byTurns
  refine s_run (b := [(.aload_n 0, 1)]) 1 [some (.inr (.inr x0)), some (.inr (.inr x1)), some (.inl x2), some (.inl x3), none, none] [.inr (.inr x0)] (by decide +kernel) rfl ?_
  refine s_cV (Z := Y_X3_clear) (c := 3) (vs := []) (st := []) (rO := fun _ => none) (mO := fun z => z) zk_X3_clear zi_X3_clear q782 rfl ⟨by decide, by decide⟩ ⟨rfl, rfl⟩ rfl rfl (Nat.le_of_ble_eq_true rfl) (by decide +kernel) (fun z hz => c_X3_clear hz) (fun z1 => ?_)
  change Sim l G Y_X3_byTurns lim _ _ 4 [some (.inr (.inr x0)), some (.inr (.inr x1)), some (.inl x2), some (.inl x3), none, none] [] z1
  refine s_run (b := [(.iconst 0, 1), (.istore 4, 2)]) 7 [some (.inr (.inr x0)), some (.inr (.inr x1)), some (.inl x2), some (.inl x3), some (.inl (0 : Int32)), none] [] (by decide +kernel) rfl ?_
  refine s_lsub (ls' := [some (.inr (.inr x0)), some (.inr (.inr x1)), some (.inl x2), some (.inl x3), some (.inl (0 : Int32)), none]) ⟨rfl, ⟨rfl, ⟨rfl, ⟨rfl, ⟨rfl, trivial⟩⟩⟩⟩⟩ ?_
  refine sim_bind (L_X3_byTurns_7 z1 x0 x1 x2 x3 (0 : Int32) _ (fun r2 => ?_))
  change Sim l G Y_X3_byTurns lim _ _ 78 [none, none, none, none, none, none] [] r2
  exact s_vret (by decide +kernel) rfl
set_option maxRecDepth 20000 in
theorem c_X3_byTurns {l : Launch} {G : Gv} {M : Mem} {x0 : Nat} {x1 : Nat} {x2 : Int32} {x3 : Int32} {z : Mem} (h : f_X3_byTurns M x0 x1 x2 x3 = some z) : MetS l G Y_X3_byTurns [.inr (.inr x0), .inr (.inr x1), .inl x2, .inl x3] M none z :=
  met_of (ls0 := [some (.inr (.inr x0)), some (.inr (.inr x1)), some (.inl x2), some (.inl x3), none, none]) (by decide) rfl (lv_in (m := 2) rfl) (sl_le (Nat.le_of_ble_eq_true rfl)) (by rw [h]; rfl) (Or.inl ⟨rfl, rfl⟩) (S_X3_byTurns M x0 x1 x2 x3)
def f_X5_othersThan (M : Mem) (x0 : Nat) (x1 : Int32) : Option (Int32) :=
  (ob M 5 x0).bind fun _ => (f_X5_everybody M x0).bind fun v1 =>
  some (v1 &&& (((1 : Int32) <<< (x1 &&& 31)) ^^^ (-1 : Int32)))
set_option maxRecDepth 20000 in
theorem S_X5_othersThan {l : Launch} {G : Gv} {lim : Nat × Nat} (M : Mem) (x0 : Nat) (x1 : Int32) : Sim l G Y_X5_othersThan lim (f_X5_othersThan M x0 x1) (fun z => some (some (.int z), M)) 0 [some (.inr (.inr x0)), some (.inl x1)] [] M := by
  unfold f_X5_othersThan
  refine s_run (b := [(.aload_n 0, 1)]) 1 [some (.inr (.inr x0)), some (.inl x1)] [.inr (.inr x0)] (by decide +kernel) rfl ?_
  refine s_cV (Z := Y_X5_everybody) (c := 5) (vs := []) (st := []) (rO := fun z => some (.inl z)) (mO := fun _ => M) zk_X5_everybody zi_X5_everybody q1016 rfl ⟨by decide, by decide⟩ ⟨rfl, rfl⟩ rfl rfl (Nat.le_of_ble_eq_true rfl) (by decide +kernel) (fun z hz => c_X5_everybody hz) (fun v1 => ?_)
  change Sim l G Y_X5_othersThan lim _ _ 4 [some (.inr (.inr x0)), some (.inl x1)] [.inl v1] M
  refine s_run (b := [(.iconst 1, 1), (.iload_n 1, 1), (.ishl, 1), (.iconst (-1), 1), (.ixor, 1), (.iand, 1)]) 10 [some (.inr (.inr x0)), some (.inl x1)] [.inl (v1 &&& (((1 : Int32) <<< (x1 &&& 31)) ^^^ (-1 : Int32)))] (by decide +kernel) rfl ?_
  exact s_iret (by decide +kernel) rfl
set_option maxRecDepth 20000 in
theorem c_X5_othersThan {l : Launch} {G : Gv} {M : Mem} {x0 : Nat} {x1 : Int32} {z : Int32} (h : f_X5_othersThan M x0 x1 = some z) : MetS l G Y_X5_othersThan [.inr (.inr x0), .inl x1] M (some (.int z)) M :=
  met_of (ls0 := [some (.inr (.inr x0)), some (.inl x1)]) (by decide) rfl (lv_in (m := 0) rfl) (sl_le (Nat.le_of_ble_eq_true rfl)) (by rw [h]; rfl) (Or.inl ⟨rfl, rfl⟩) (S_X5_othersThan M x0 x1)
def f_X2_ringEmptyDesk_J119 (M : Mem) (x0 : Nat) (x1 : Int32)  : Option (Mem) :=
  (ob M 2 x0).bind fun _ => (f_X2_settle M x0 x1).bind fun z1 =>
  some z1
set_option maxRecDepth 20000 in
theorem J_X2_ringEmptyDesk_119 {l : Launch} {G : Gv} {lim : Nat × Nat} (M : Mem) (x0 : Nat) (x1 : Int32)   : Sim l G Y_X2_ringEmptyDesk lim (f_X2_ringEmptyDesk_J119 M x0 x1) (fun z => some (none, z)) 119 [some (.inr (.inr x0)), some (.inl x1), none, none, none] [] M := by
  unfold f_X2_ringEmptyDesk_J119
  refine s_run (b := [(.aload_n 0, 1), (.iload_n 1, 1)]) 121 [some (.inr (.inr x0)), some (.inl x1), none, none, none] [.inl x1, .inr (.inr x0)] (by decide +kernel) rfl ?_
  refine s_cV (Z := Y_X2_settle) (c := 2) (vs := [.inl x1]) (st := []) (rO := fun _ => none) (mO := fun z => z) zk_X2_settle zi_X2_settle q801 rfl ⟨by decide, by decide⟩ ⟨rfl, rfl⟩ rfl rfl (Nat.le_of_ble_eq_true rfl) (by decide +kernel) (fun z hz => c_X2_settle hz) (fun z1 => ?_)
  change Sim l G Y_X2_ringEmptyDesk lim _ _ 124 [some (.inr (.inr x0)), some (.inl x1), none, none, none] [] z1
  exact s_vret (by decide +kernel) rfl
def f_X2_ringEmptyDesk (M : Mem) (x0 : Nat) (x1 : Int32) (x2 : Int32) (x3 : Int32) : Option (Mem) :=
  (gR M 2 x0 3).bind fun v1 =>
  (gR M 5 v1 10).bind fun v2 =>
  (aI M 0 v2 x1).bind fun v3 =>
  (if x2 = (0 : Int32) then
    (gR M 2 x0 12).bind fun v5 =>
    (gR M 2 x0 3).bind fun v6 =>
    (gR M 2 x0 3).bind fun v7 =>
    (ob M 5 v7).bind fun _ => (f_X5_othersThan M v7 v3).bind fun v8 =>
    (gR M 2 x0 9).bind fun v9 =>
    (ob M 3 v5).bind fun _ => (f_X3_asTold M v5 v6 v3 v8 v9).bind fun z10 =>
    f_X2_ringEmptyDesk_J119 z10 x0 x1 
  else
  (if x2 = (1 : Int32) then
    (gR M 2 x0 12).bind fun v12 =>
    (gR M 2 x0 3).bind fun v13 =>
    (ob M 3 v12).bind fun _ => (f_X3_allAt M v12 v13 v3 (3 : Int32) (0 : Int32)).bind fun z14 =>
    f_X2_ringEmptyDesk_J119 z14 x0 x1 
  else
  (if x2 = (2 : Int32) then
    (gR M 2 x0 12).bind fun v16 =>
    (gR M 2 x0 3).bind fun v17 =>
    (ob M 3 v16).bind fun _ => (f_X3_allAt M v16 v17 v3 (2 : Int32) (1 : Int32)).bind fun z18 =>
    f_X2_ringEmptyDesk_J119 z18 x0 x1 
  else
  (gR M 2 x0 12).bind fun v19 =>
  (gR M 2 x0 3).bind fun v20 =>
  (ob M 3 v19).bind fun _ => (f_X3_byTurns M v19 v20 v3 x3).bind fun z21 =>
  f_X2_ringEmptyDesk_J119 z21 x0 x1 )))
set_option maxRecDepth 20000 in
theorem S_X2_ringEmptyDesk {l : Launch} {G : Gv} {lim : Nat × Nat} (M : Mem) (x0 : Nat) (x1 : Int32) (x2 : Int32) (x3 : Int32) : Sim l G Y_X2_ringEmptyDesk lim (f_X2_ringEmptyDesk M x0 x1 x2 x3) (fun z => some (none, z)) 0 [some (.inr (.inr x0)), some (.inl x1), some (.inl x2), some (.inl x3), none] [] M := by
  unfold f_X2_ringEmptyDesk
  refine s_run (b := [(.aload_n 0, 1)]) 1 [some (.inr (.inr x0)), some (.inl x1), some (.inl x2), some (.inl x3), none] [.inr (.inr x0)] (by decide +kernel) rfl ?_
  refine s_gR fl_2_12 rfl (by decide +kernel) (fun v1 => ?_)
  refine s_gR fl_2_107 rfl (by decide +kernel) (fun v2 => ?_)
  refine s_run (b := [(.iload_n 1, 1)]) 8 [some (.inr (.inr x0)), some (.inl x1), some (.inl x2), some (.inl x3), none] [.inl x1, .inr (.inr v2)] (by decide +kernel) rfl ?_
  refine s_ia (by decide +kernel) (fun v3 => ?_)
  refine s_run (b := [(.istore 4, 2), (.iload_n 2, 1)]) 12 [some (.inr (.inr x0)), some (.inl x1), some (.inl x2), some (.inl x3), some (.inl v3)] [.inl x2] (by decide +kernel) rfl ?_
  refine s_ite (fun h4 => ?_) (fun h4 => ?_)
  · refine s_tabIn (off := 28) (tgt := 40) (dflt := 93) (lo := 0) (hi := 2) (offs := #[28, 57, 75]) (len := 28) (0 : Int32) (by decide +kernel) h4 rfl rfl rfl (by decide) ?_
    change Sim l G Y_X2_ringEmptyDesk lim _ _ 40 [some (.inr (.inr x0)), some (.inl x1), some (.inl x2), some (.inl x3), some (.inl v3)] [] M
    refine s_run (b := [(.aload_n 0, 1)]) 41 [some (.inr (.inr x0)), some (.inl x1), some (.inl x2), some (.inl x3), some (.inl v3)] [.inr (.inr x0)] (by decide +kernel) rfl ?_
    refine s_gR fl_2_31 rfl (by decide +kernel) (fun v5 => ?_)
    refine s_run (b := [(.aload_n 0, 1)]) 45 [some (.inr (.inr x0)), some (.inl x1), some (.inl x2), some (.inl x3), some (.inl v3)] [.inr (.inr x0), .inr (.inr v5)] (by decide +kernel) rfl ?_
    refine s_gR fl_2_12 rfl (by decide +kernel) (fun v6 => ?_)
    refine s_run (b := [(.iload 4, 2), (.aload_n 0, 1)]) 51 [some (.inr (.inr x0)), some (.inl x1), some (.inl x2), some (.inl x3), some (.inl v3)] [.inr (.inr x0), .inl v3, .inr (.inr v6), .inr (.inr v5)] (by decide +kernel) rfl ?_
    refine s_gR fl_2_12 rfl (by decide +kernel) (fun v7 => ?_)
    refine s_run (b := [(.iload 4, 2)]) 56 [some (.inr (.inr x0)), some (.inl x1), some (.inl x2), some (.inl x3), some (.inl v3)] [.inl v3, .inr (.inr v7), .inl v3, .inr (.inr v6), .inr (.inr v5)] (by decide +kernel) rfl ?_
    refine s_cV (Z := Y_X5_othersThan) (c := 5) (vs := [.inl v3]) (st := [.inl v3, .inr (.inr v6), .inr (.inr v5)]) (rO := fun z => some (.inl z)) (mO := fun _ => M) zk_X5_othersThan zi_X5_othersThan q1078 rfl ⟨by decide, by decide⟩ ⟨rfl, rfl⟩ rfl rfl (Nat.le_of_ble_eq_true rfl) (by decide +kernel) (fun z hz => c_X5_othersThan hz) (fun v8 => ?_)
    change Sim l G Y_X2_ringEmptyDesk lim _ _ 59 [some (.inr (.inr x0)), some (.inl x1), some (.inl x2), some (.inl x3), some (.inl v3)] [.inl v8, .inl v3, .inr (.inr v6), .inr (.inr v5)] M
    refine s_run (b := [(.aload_n 0, 1)]) 60 [some (.inr (.inr x0)), some (.inl x1), some (.inl x2), some (.inl x3), some (.inl v3)] [.inr (.inr x0), .inl v8, .inl v3, .inr (.inr v6), .inr (.inr v5)] (by decide +kernel) rfl ?_
    refine s_gR fl_2_18 rfl (by decide +kernel) (fun v9 => ?_)
    refine s_cV (Z := Y_X3_asTold) (c := 3) (vs := [.inr (.inr v6), .inl v3, .inl v8, .inr (.inr v9)]) (st := []) (rO := fun _ => none) (mO := fun z => z) zk_X3_asTold zi_X3_asTold q778 rfl ⟨by decide, by decide⟩ ⟨rfl, rfl⟩ rfl rfl (Nat.le_of_ble_eq_true rfl) (by decide +kernel) (fun z hz => c_X3_asTold hz) (fun z10 => ?_)
    change Sim l G Y_X2_ringEmptyDesk lim _ _ 66 [some (.inr (.inr x0)), some (.inl x1), some (.inl x2), some (.inl x3), some (.inl v3)] [] z10
    refine s_run (b := [(.goto 53, 3)]) 119 [some (.inr (.inr x0)), some (.inl x1), some (.inl x2), some (.inl x3), some (.inl v3)] [] (by decide +kernel) rfl ?_
    exact s_lsub (ls' := [some (.inr (.inr x0)), some (.inl x1), none, none, none]) ⟨rfl, ⟨rfl, trivial⟩⟩ (J_X2_ringEmptyDesk_119 z10 x0 x1 )
  refine s_ite (fun h11 => ?_) (fun h11 => ?_)
  · refine s_tabIn (off := 57) (tgt := 69) (dflt := 93) (lo := 0) (hi := 2) (offs := #[28, 57, 75]) (len := 28) (1 : Int32) (by decide +kernel) h11 rfl rfl rfl (by decide) ?_
    change Sim l G Y_X2_ringEmptyDesk lim _ _ 69 [some (.inr (.inr x0)), some (.inl x1), some (.inl x2), some (.inl x3), some (.inl v3)] [] M
    refine s_run (b := [(.aload_n 0, 1)]) 70 [some (.inr (.inr x0)), some (.inl x1), some (.inl x2), some (.inl x3), some (.inl v3)] [.inr (.inr x0)] (by decide +kernel) rfl ?_
    refine s_gR fl_2_31 rfl (by decide +kernel) (fun v12 => ?_)
    refine s_run (b := [(.aload_n 0, 1)]) 74 [some (.inr (.inr x0)), some (.inl x1), some (.inl x2), some (.inl x3), some (.inl v3)] [.inr (.inr x0), .inr (.inr v12)] (by decide +kernel) rfl ?_
    refine s_gR fl_2_12 rfl (by decide +kernel) (fun v13 => ?_)
    refine s_run (b := [(.iload 4, 2), (.iconst 3, 1), (.iconst 0, 1)]) 81 [some (.inr (.inr x0)), some (.inl x1), some (.inl x2), some (.inl x3), some (.inl v3)] [.inl (0 : Int32), .inl (3 : Int32), .inl v3, .inr (.inr v13), .inr (.inr v12)] (by decide +kernel) rfl ?_
    refine s_cV (Z := Y_X3_allAt) (c := 3) (vs := [.inr (.inr v13), .inl v3, .inl (3 : Int32), .inl (0 : Int32)]) (st := []) (rO := fun _ => none) (mO := fun z => z) zk_X3_allAt zi_X3_allAt q1079 rfl ⟨by decide, by decide⟩ ⟨rfl, rfl⟩ rfl rfl (Nat.le_of_ble_eq_true rfl) (by decide +kernel) (fun z hz => c_X3_allAt hz) (fun z14 => ?_)
    change Sim l G Y_X2_ringEmptyDesk lim _ _ 84 [some (.inr (.inr x0)), some (.inl x1), some (.inl x2), some (.inl x3), some (.inl v3)] [] z14
    refine s_run (b := [(.goto 35, 3)]) 119 [some (.inr (.inr x0)), some (.inl x1), some (.inl x2), some (.inl x3), some (.inl v3)] [] (by decide +kernel) rfl ?_
    exact s_lsub (ls' := [some (.inr (.inr x0)), some (.inl x1), none, none, none]) ⟨rfl, ⟨rfl, trivial⟩⟩ (J_X2_ringEmptyDesk_119 z14 x0 x1 )
  refine s_ite (fun h15 => ?_) (fun h15 => ?_)
  · refine s_tabIn (off := 75) (tgt := 87) (dflt := 93) (lo := 0) (hi := 2) (offs := #[28, 57, 75]) (len := 28) (2 : Int32) (by decide +kernel) h15 rfl rfl rfl (by decide) ?_
    change Sim l G Y_X2_ringEmptyDesk lim _ _ 87 [some (.inr (.inr x0)), some (.inl x1), some (.inl x2), some (.inl x3), some (.inl v3)] [] M
    refine s_run (b := [(.aload_n 0, 1)]) 88 [some (.inr (.inr x0)), some (.inl x1), some (.inl x2), some (.inl x3), some (.inl v3)] [.inr (.inr x0)] (by decide +kernel) rfl ?_
    refine s_gR fl_2_31 rfl (by decide +kernel) (fun v16 => ?_)
    refine s_run (b := [(.aload_n 0, 1)]) 92 [some (.inr (.inr x0)), some (.inl x1), some (.inl x2), some (.inl x3), some (.inl v3)] [.inr (.inr x0), .inr (.inr v16)] (by decide +kernel) rfl ?_
    refine s_gR fl_2_12 rfl (by decide +kernel) (fun v17 => ?_)
    refine s_run (b := [(.iload 4, 2), (.iconst 2, 1), (.iconst 1, 1)]) 99 [some (.inr (.inr x0)), some (.inl x1), some (.inl x2), some (.inl x3), some (.inl v3)] [.inl (1 : Int32), .inl (2 : Int32), .inl v3, .inr (.inr v17), .inr (.inr v16)] (by decide +kernel) rfl ?_
    refine s_cV (Z := Y_X3_allAt) (c := 3) (vs := [.inr (.inr v17), .inl v3, .inl (2 : Int32), .inl (1 : Int32)]) (st := []) (rO := fun _ => none) (mO := fun z => z) zk_X3_allAt zi_X3_allAt q1079 rfl ⟨by decide, by decide⟩ ⟨rfl, rfl⟩ rfl rfl (Nat.le_of_ble_eq_true rfl) (by decide +kernel) (fun z hz => c_X3_allAt hz) (fun z18 => ?_)
    change Sim l G Y_X2_ringEmptyDesk lim _ _ 102 [some (.inr (.inr x0)), some (.inl x1), some (.inl x2), some (.inl x3), some (.inl v3)] [] z18
    refine s_run (b := [(.goto 17, 3)]) 119 [some (.inr (.inr x0)), some (.inl x1), some (.inl x2), some (.inl x3), some (.inl v3)] [] (by decide +kernel) rfl ?_
    exact s_lsub (ls' := [some (.inr (.inr x0)), some (.inl x1), none, none, none]) ⟨rfl, ⟨rfl, trivial⟩⟩ (J_X2_ringEmptyDesk_119 z18 x0 x1 )
  refine s_tabOut (tgt := 105) (dflt := 93) (lo := 0) (hi := 2) (offs := #[28, 57, 75]) (len := 28) (by decide +kernel) (tab_out (fun k hk => by rcases (show k = 0 ∨ k = 1 ∨ k = 2 by omega) with rfl | rfl | rfl <;> first | exact i32_ne h4 (by decide) | exact i32_ne h11 (by decide) | exact i32_ne h15 (by decide))) (by decide) ?_
  change Sim l G Y_X2_ringEmptyDesk lim _ _ 105 [some (.inr (.inr x0)), some (.inl x1), some (.inl x2), some (.inl x3), some (.inl v3)] [] M
  refine s_run (b := [(.aload_n 0, 1)]) 106 [some (.inr (.inr x0)), some (.inl x1), some (.inl x2), some (.inl x3), some (.inl v3)] [.inr (.inr x0)] (by decide +kernel) rfl ?_
  refine s_gR fl_2_31 rfl (by decide +kernel) (fun v19 => ?_)
  refine s_run (b := [(.aload_n 0, 1)]) 110 [some (.inr (.inr x0)), some (.inl x1), some (.inl x2), some (.inl x3), some (.inl v3)] [.inr (.inr x0), .inr (.inr v19)] (by decide +kernel) rfl ?_
  refine s_gR fl_2_12 rfl (by decide +kernel) (fun v20 => ?_)
  refine s_run (b := [(.iload 4, 2), (.iload_n 3, 1)]) 116 [some (.inr (.inr x0)), some (.inl x1), some (.inl x2), some (.inl x3), some (.inl v3)] [.inl x3, .inl v3, .inr (.inr v20), .inr (.inr v19)] (by decide +kernel) rfl ?_
  refine s_cV (Z := Y_X3_byTurns) (c := 3) (vs := [.inr (.inr v20), .inl v3, .inl x3]) (st := []) (rO := fun _ => none) (mO := fun z => z) zk_X3_byTurns zi_X3_byTurns q1084 rfl ⟨by decide, by decide⟩ ⟨rfl, rfl⟩ rfl rfl (Nat.le_of_ble_eq_true rfl) (by decide +kernel) (fun z hz => c_X3_byTurns hz) (fun z21 => ?_)
  change Sim l G Y_X2_ringEmptyDesk lim _ _ 119 [some (.inr (.inr x0)), some (.inl x1), some (.inl x2), some (.inl x3), some (.inl v3)] [] z21
  exact s_lsub (ls' := [some (.inr (.inr x0)), some (.inl x1), none, none, none]) ⟨rfl, ⟨rfl, trivial⟩⟩ (J_X2_ringEmptyDesk_119 z21 x0 x1 )
set_option maxRecDepth 20000 in
theorem c_X2_ringEmptyDesk {l : Launch} {G : Gv} {M : Mem} {x0 : Nat} {x1 : Int32} {x2 : Int32} {x3 : Int32} {z : Mem} (h : f_X2_ringEmptyDesk M x0 x1 x2 x3 = some z) : MetS l G Y_X2_ringEmptyDesk [.inr (.inr x0), .inl x1, .inl x2, .inl x3] M none z :=
  met_of (ls0 := [some (.inr (.inr x0)), some (.inl x1), some (.inl x2), some (.inl x3), none]) (by decide) rfl (lv_in (m := 1) rfl) (sl_le (Nat.le_of_ble_eq_true rfl)) (by rw [h]; rfl) (Or.inl ⟨rfl, rfl⟩) (S_X2_ringEmptyDesk M x0 x1 x2 x3)
def f_X2_playRule_B10 (M : Mem) (x0 : Nat) (x1 : Nat) (x2 : Int32) (x3 : Int32) (x4 : Int32) : Option ((Int32 × Int32 × Mem) ⊕ ((Mem))) :=
  (gI M 5 x1 1).bind fun v1 =>
  (if v1 ≤ x4 then
    some (.inr M)
  else
    (ob M 2 x0).bind fun _ => (f_X2_ringEmptyDesk M x0 x4 x2 x3).bind fun z3 =>
    (if x2 = (3 : Int32) then
      (gR z3 2 x0 12).bind fun v5 =>
      (gI z3 3 v5 0).bind fun v6 =>
      (if v6 = (-1 : Int32) then
        some (.inl (x3, (x4 + (1 : Int32)), z3))
      else
        (gR z3 2 x0 12).bind fun v8 =>
        (gI z3 3 v8 0).bind fun v9 =>
        some (.inl ((v9 + (1 : Int32)), (x4 + (1 : Int32)), z3)))
    else
      some (.inl (x3, (x4 + (1 : Int32)), z3))))
def f_X2_playRule_L10 (M : Mem) (x0 : Nat) (x1 : Nat) (x2 : Int32) (x3 : Int32) (x4 : Int32) : Option ((Mem)) := iter (fun s : Int32 × Int32 × Mem => f_X2_playRule_B10 s.2.2 x0 x1 x2 s.1 s.2.1) 1048576 (x3, x4, M)
set_option maxRecDepth 20000 in
theorem B_X2_playRule_10 {l : Launch} {G : Gv} {lim : Nat × Nat} (M : Mem) (x0 : Nat) (x1 : Nat) (x2 : Int32) (x3 : Int32) (x4 : Int32) (K : (Int32 × Int32 × Mem) ⊕ ((Mem)) → Option (Option Value × Mem)) (kk1 : ∀ (s3 : Int32) (s4 : Int32) (s_ : Mem), SimR l G Y_X2_playRule lim (K (.inl (s3, s4, s_))) 10 [some (.inr (.inr x0)), some (.inr (.inr x1)), some (.inl x2), some (.inl s3), some (.inl s4)] [] s_) (kk2_0 : ∀ (s_ : Mem), SimR l G Y_X2_playRule lim (K (.inr s_)) 59 [none, none, none, none, none] [] s_) : Sim l G Y_X2_playRule lim (f_X2_playRule_B10 M x0 x1 x2 x3 x4) K 10 [some (.inr (.inr x0)), some (.inr (.inr x1)), some (.inl x2), some (.inl x3), some (.inl x4)] [] M := by
  unfold f_X2_playRule_B10
  refine s_run (b := [(.iload 4, 2), (.aload_n 1, 1)]) 13 [some (.inr (.inr x0)), some (.inr (.inr x1)), some (.inl x2), some (.inl x3), some (.inl x4)] [.inr (.inr x1), .inl x4] (by decide +kernel) rfl ?_
  refine s_gI fl_2_93 rfl (by decide +kernel) (fun v1 => ?_)
  refine s_ic_ge (tgt := 59) (off := 43) (by decide +kernel) (by decide) (fun h2 => ?_) (fun h2 => ?_)
  · skip
    exact s_lsub (ls' := [none, none, none, none, none]) trivial (kk2_0 M)
  · skip
    refine s_run (b := [(.aload_n 0, 1), (.iload 4, 2), (.iload_n 2, 1), (.iload_n 3, 1)]) 24 [some (.inr (.inr x0)), some (.inr (.inr x1)), some (.inl x2), some (.inl x3), some (.inl x4)] [.inl x3, .inl x2, .inl x4, .inr (.inr x0)] (by decide +kernel) rfl ?_
    refine s_cV (Z := Y_X2_ringEmptyDesk) (c := 2) (vs := [.inl x4, .inl x2, .inl x3]) (st := []) (rO := fun _ => none) (mO := fun z => z) zk_X2_ringEmptyDesk zi_X2_ringEmptyDesk q1074 rfl ⟨by decide, by decide⟩ ⟨rfl, rfl⟩ rfl rfl (Nat.le_of_ble_eq_true rfl) (by decide +kernel) (fun z hz => c_X2_ringEmptyDesk hz) (fun z3 => ?_)
    change Sim l G Y_X2_playRule lim _ _ 27 [some (.inr (.inr x0)), some (.inr (.inr x1)), some (.inl x2), some (.inl x3), some (.inl x4)] [] z3
    refine s_run (b := [(.iload_n 2, 1), (.iconst 3, 1)]) 29 [some (.inr (.inr x0)), some (.inr (.inr x1)), some (.inl x2), some (.inl x3), some (.inl x4)] [.inl (3 : Int32), .inl x2] (by decide +kernel) rfl ?_
    refine s_ic_ne (tgt := 53) (off := 24) (by decide +kernel) (by decide) (fun h4 => ?_) (fun h4 => ?_)
    · skip
      refine s_run (b := [(.aload_n 0, 1)]) 33 [some (.inr (.inr x0)), some (.inr (.inr x1)), some (.inl x2), some (.inl x3), some (.inl x4)] [.inr (.inr x0)] (by decide +kernel) rfl ?_
      refine s_gR fl_2_31 rfl (by decide +kernel) (fun v5 => ?_)
      refine s_gI fl_2_104 rfl (by decide +kernel) (fun v6 => ?_)
      refine s_run (b := [(.iconst (-1), 1)]) 40 [some (.inr (.inr x0)), some (.inr (.inr x1)), some (.inl x2), some (.inl x3), some (.inl x4)] [.inl (-1 : Int32), .inl v6] (by decide +kernel) rfl ?_
      refine s_ic_eq (tgt := 53) (off := 13) (by decide +kernel) (by decide) (fun h7 => ?_) (fun h7 => ?_)
      · skip
        refine s_run (b := [(.iinc 4 1, 3), (.goto (-46), 3)]) 10 [some (.inr (.inr x0)), some (.inr (.inr x1)), some (.inl x2), some (.inl x3), some (.inl (x4 + (1 : Int32)))] [] (by decide +kernel) rfl ?_
        exact s_lsub (ls' := [some (.inr (.inr x0)), some (.inr (.inr x1)), some (.inl x2), some (.inl x3), some (.inl (x4 + (1 : Int32)))]) ⟨rfl, ⟨rfl, ⟨rfl, ⟨rfl, ⟨rfl, trivial⟩⟩⟩⟩⟩ (kk1 x3 (x4 + (1 : Int32)) z3)
      · skip
        refine s_run (b := [(.aload_n 0, 1)]) 44 [some (.inr (.inr x0)), some (.inr (.inr x1)), some (.inl x2), some (.inl x3), some (.inl x4)] [.inr (.inr x0)] (by decide +kernel) rfl ?_
        refine s_gR fl_2_31 rfl (by decide +kernel) (fun v8 => ?_)
        refine s_gI fl_2_104 rfl (by decide +kernel) (fun v9 => ?_)
        refine s_run (b := [(.iconst 1, 1), (.iadd, 1), (.istore_n 3, 1), (.iinc 4 1, 3), (.goto (-46), 3)]) 10 [some (.inr (.inr x0)), some (.inr (.inr x1)), some (.inl x2), some (.inl (v9 + (1 : Int32))), some (.inl (x4 + (1 : Int32)))] [] (by decide +kernel) rfl ?_
        exact s_lsub (ls' := [some (.inr (.inr x0)), some (.inr (.inr x1)), some (.inl x2), some (.inl (v9 + (1 : Int32))), some (.inl (x4 + (1 : Int32)))]) ⟨rfl, ⟨rfl, ⟨rfl, ⟨rfl, ⟨rfl, trivial⟩⟩⟩⟩⟩ (kk1 (v9 + (1 : Int32)) (x4 + (1 : Int32)) z3)
    · skip
      refine s_run (b := [(.iinc 4 1, 3), (.goto (-46), 3)]) 10 [some (.inr (.inr x0)), some (.inr (.inr x1)), some (.inl x2), some (.inl x3), some (.inl (x4 + (1 : Int32)))] [] (by decide +kernel) rfl ?_
      exact s_lsub (ls' := [some (.inr (.inr x0)), some (.inr (.inr x1)), some (.inl x2), some (.inl x3), some (.inl (x4 + (1 : Int32)))]) ⟨rfl, ⟨rfl, ⟨rfl, ⟨rfl, ⟨rfl, trivial⟩⟩⟩⟩⟩ (kk1 x3 (x4 + (1 : Int32)) z3)
set_option maxRecDepth 20000 in
theorem L_X2_playRule_10 {l : Launch} {G : Gv} {lim : Nat × Nat} (M : Mem) (x0 : Nat) (x1 : Nat) (x2 : Int32) (x3 : Int32) (x4 : Int32) (K : ((Mem)) → Option (Option Value × Mem)) (kk2_0 : ∀ r : Mem, SimR l G Y_X2_playRule lim (K r) 59 [none, none, none, none, none] [] r) : Sim l G Y_X2_playRule lim (f_X2_playRule_L10 M x0 x1 x2 x3 x4) K 10 [some (.inr (.inr x0)), some (.inr (.inr x1)), some (.inl x2), some (.inl x3), some (.inl x4)] [] M :=
  s_iter (f := fun s : Int32 × Int32 × Mem => f_X2_playRule_B10 s.2.2 x0 x1 x2 s.1 s.2.1) (hd := 10) (cl := fun s => [some (.inr (.inr x0)), some (.inr (.inr x1)), some (.inl x2), some (.inl s.1), some (.inl s.2.1)]) (cm := fun s => s.2.2) (xp := fun _ => 59) (xl := fun r => [none, none, none, none, none]) (xm := fun r => r) (fun s K h1 h2 => B_X2_playRule_10 s.2.2 x0 x1 x2 s.1 s.2.1 K (fun a3 a4 a_ => h1 (a3, a4, a_)) (fun a_ => h2 a_)) 1048576 (x3, x4, M) K kk2_0
def f_X2_playRule (M : Mem) (x0 : Nat) (x1 : Nat) (x2 : Int32) : Option (Mem) :=
  (ob M 2 x0).bind fun _ => (f_X2_begin M x0 x1).bind fun z1 =>
  (f_X2_playRule_L10 z1 x0 x1 x2 (0 : Int32) (0 : Int32)).bind fun r2 =>
  some r2
set_option maxRecDepth 20000 in
theorem S_X2_playRule {l : Launch} {G : Gv} {lim : Nat × Nat} (M : Mem) (x0 : Nat) (x1 : Nat) (x2 : Int32) : Sim l G Y_X2_playRule lim (f_X2_playRule M x0 x1 x2) (fun z => some (none, z)) 0 [some (.inr (.inr x0)), some (.inr (.inr x1)), some (.inl x2), none, none] [] M := by
  unfold f_X2_playRule
  refine s_run (b := [(.aload_n 0, 1), (.aload_n 1, 1)]) 2 [some (.inr (.inr x0)), some (.inr (.inr x1)), some (.inl x2), none, none] [.inr (.inr x1), .inr (.inr x0)] (by decide +kernel) rfl ?_
  refine s_cV (Z := Y_X2_begin) (c := 2) (vs := [.inr (.inr x1)]) (st := []) (rO := fun _ => none) (mO := fun z => z) zk_X2_begin zi_X2_begin q760 rfl ⟨by decide, by decide⟩ ⟨rfl, rfl⟩ rfl rfl (Nat.le_of_ble_eq_true rfl) (by decide +kernel) (fun z hz => c_X2_begin hz) (fun z1 => ?_)
  change Sim l G Y_X2_playRule lim _ _ 5 [some (.inr (.inr x0)), some (.inr (.inr x1)), some (.inl x2), none, none] [] z1
  refine s_run (b := [(.iconst 0, 1), (.istore_n 3, 1), (.iconst 0, 1), (.istore 4, 2)]) 10 [some (.inr (.inr x0)), some (.inr (.inr x1)), some (.inl x2), some (.inl (0 : Int32)), some (.inl (0 : Int32))] [] (by decide +kernel) rfl ?_
  refine s_lsub (ls' := [some (.inr (.inr x0)), some (.inr (.inr x1)), some (.inl x2), some (.inl (0 : Int32)), some (.inl (0 : Int32))]) ⟨rfl, ⟨rfl, ⟨rfl, ⟨rfl, ⟨rfl, trivial⟩⟩⟩⟩⟩ ?_
  refine sim_bind (L_X2_playRule_10 z1 x0 x1 x2 (0 : Int32) (0 : Int32) _ (fun r2 => ?_))
  change Sim l G Y_X2_playRule lim _ _ 59 [none, none, none, none, none] [] r2
  exact s_vret (by decide +kernel) rfl
set_option maxRecDepth 20000 in
theorem c_X2_playRule {l : Launch} {G : Gv} {M : Mem} {x0 : Nat} {x1 : Nat} {x2 : Int32} {z : Mem} (h : f_X2_playRule M x0 x1 x2 = some z) : MetS l G Y_X2_playRule [.inr (.inr x0), .inr (.inr x1), .inl x2] M none z :=
  met_of (ls0 := [some (.inr (.inr x0)), some (.inr (.inr x1)), some (.inl x2), none, none]) (by decide) rfl (lv_in (m := 2) rfl) (sl_le (Nat.le_of_ble_eq_true rfl)) (by rw [h]; rfl) (Or.inl ⟨rfl, rfl⟩) (S_X2_playRule M x0 x1 x2)
def f_X6_bestRule_J47 (M : Mem) (x0 : Nat) (x1 : Nat) (x4 : Int32)  : Option ((Int32 × Int32 × Int32 × Mem) ⊕ ((Int32 × Mem))) :=
  (gR M 6 x0 3).bind fun v1 =>
  (gI M 2 v1 1).bind fun v2 =>
  (gR M 6 x0 3).bind fun v3 =>
  (gI M 2 v3 2).bind fun v4 =>
  some (.inl (x4, (v2 - v4), (x4 + (1 : Int32)), M))
set_option maxRecDepth 20000 in
theorem J_X6_bestRule_47 {l : Launch} {G : Gv} {lim : Nat × Nat} (M : Mem) (x0 : Nat) (x1 : Nat) (x4 : Int32)  (K : (Int32 × Int32 × Int32 × Mem) ⊕ ((Int32 × Mem)) → Option (Option Value × Mem)) (kk1 : ∀ (s2 : Int32) (s3 : Int32) (s4 : Int32) (s_ : Mem), SimR l G Y_X6_bestRule lim (K (.inl (s2, s3, s4, s_))) 7 [some (.inr (.inr x0)), some (.inr (.inr x1)), some (.inl s2), some (.inl s3), some (.inl s4)] [] s_) (kk2_0 : ∀ (s2 : Int32) (s_ : Mem), SimR l G Y_X6_bestRule lim (K (.inr (s2, s_))) 72 [none, none, some (.inl s2), none, none] [] s_) : Sim l G Y_X6_bestRule lim (f_X6_bestRule_J47 M x0 x1 x4) K 47 [some (.inr (.inr x0)), some (.inr (.inr x1)), none, none, some (.inl x4)] [] M := by
  unfold f_X6_bestRule_J47
  refine s_run (b := [(.iload 4, 2), (.istore_n 2, 1), (.aload_n 0, 1)]) 51 [some (.inr (.inr x0)), some (.inr (.inr x1)), some (.inl x4), none, some (.inl x4)] [.inr (.inr x0)] (by decide +kernel) rfl ?_
  refine s_gR fl_6_18 rfl (by decide +kernel) (fun v1 => ?_)
  refine s_gI fl_6_95 rfl (by decide +kernel) (fun v2 => ?_)
  refine s_run (b := [(.aload_n 0, 1)]) 58 [some (.inr (.inr x0)), some (.inr (.inr x1)), some (.inl x4), none, some (.inl x4)] [.inr (.inr x0), .inl v2] (by decide +kernel) rfl ?_
  refine s_gR fl_6_18 rfl (by decide +kernel) (fun v3 => ?_)
  refine s_gI fl_6_98 rfl (by decide +kernel) (fun v4 => ?_)
  refine s_run (b := [(.isub, 1), (.istore_n 3, 1), (.iinc 4 1, 3), (.goto (-62), 3)]) 7 [some (.inr (.inr x0)), some (.inr (.inr x1)), some (.inl x4), some (.inl (v2 - v4)), some (.inl (x4 + (1 : Int32)))] [] (by decide +kernel) rfl ?_
  exact s_lsub (ls' := [some (.inr (.inr x0)), some (.inr (.inr x1)), some (.inl x4), some (.inl (v2 - v4)), some (.inl (x4 + (1 : Int32)))]) ⟨rfl, ⟨rfl, ⟨rfl, ⟨rfl, ⟨rfl, trivial⟩⟩⟩⟩⟩ (kk1 x4 (v2 - v4) (x4 + (1 : Int32)) M)
def f_X6_bestRule_B7 (M : Mem) (x0 : Nat) (x1 : Nat) (x2 : Int32) (x3 : Int32) (x4 : Int32) : Option ((Int32 × Int32 × Int32 × Mem) ⊕ ((Int32 × Mem))) :=
  (if (4 : Int32) ≤ x4 then
    some (.inr (x2, M))
  else
    (gR M 6 x0 3).bind fun v2 =>
    (ob M 2 v2).bind fun _ => (f_X2_playRule M v2 x1 x4).bind fun z3 =>
    (if x2 = (-1 : Int32) then
      f_X6_bestRule_J47 z3 x0 x1 x4 
    else
      (gR z3 6 x0 3).bind fun v5 =>
      (gI z3 2 v5 1).bind fun v6 =>
      (gR z3 6 x0 3).bind fun v7 =>
      (gI z3 2 v7 2).bind fun v8 =>
      (if (v6 - v8) ≤ x3 then
        some (.inl (x2, x3, (x4 + (1 : Int32)), z3))
      else
        f_X6_bestRule_J47 z3 x0 x1 x4 )))
def f_X6_bestRule_L7 (M : Mem) (x0 : Nat) (x1 : Nat) (x2 : Int32) (x3 : Int32) (x4 : Int32) : Option ((Int32 × Mem)) := iter (fun s : Int32 × Int32 × Int32 × Mem => f_X6_bestRule_B7 s.2.2.2 x0 x1 s.1 s.2.1 s.2.2.1) 1048576 (x2, x3, x4, M)
set_option maxRecDepth 20000 in
theorem B_X6_bestRule_7 {l : Launch} {G : Gv} {lim : Nat × Nat} (M : Mem) (x0 : Nat) (x1 : Nat) (x2 : Int32) (x3 : Int32) (x4 : Int32) (K : (Int32 × Int32 × Int32 × Mem) ⊕ ((Int32 × Mem)) → Option (Option Value × Mem)) (kk1 : ∀ (s2 : Int32) (s3 : Int32) (s4 : Int32) (s_ : Mem), SimR l G Y_X6_bestRule lim (K (.inl (s2, s3, s4, s_))) 7 [some (.inr (.inr x0)), some (.inr (.inr x1)), some (.inl s2), some (.inl s3), some (.inl s4)] [] s_) (kk2_0 : ∀ (s2 : Int32) (s_ : Mem), SimR l G Y_X6_bestRule lim (K (.inr (s2, s_))) 72 [none, none, some (.inl s2), none, none] [] s_) : Sim l G Y_X6_bestRule lim (f_X6_bestRule_B7 M x0 x1 x2 x3 x4) K 7 [some (.inr (.inr x0)), some (.inr (.inr x1)), some (.inl x2), some (.inl x3), some (.inl x4)] [] M := by
  unfold f_X6_bestRule_B7
  refine s_run (b := [(.iload 4, 2), (.iconst 4, 1)]) 10 [some (.inr (.inr x0)), some (.inr (.inr x1)), some (.inl x2), some (.inl x3), some (.inl x4)] [.inl (4 : Int32), .inl x4] (by decide +kernel) rfl ?_
  refine s_ic_ge (tgt := 72) (off := 62) (by decide +kernel) (by decide) (fun h1 => ?_) (fun h1 => ?_)
  · skip
    exact s_lsub (ls' := [none, none, some (.inl x2), none, none]) ⟨rfl, trivial⟩ (kk2_0 x2 M)
  · skip
    refine s_run (b := [(.aload_n 0, 1)]) 14 [some (.inr (.inr x0)), some (.inr (.inr x1)), some (.inl x2), some (.inl x3), some (.inl x4)] [.inr (.inr x0)] (by decide +kernel) rfl ?_
    refine s_gR fl_6_18 rfl (by decide +kernel) (fun v2 => ?_)
    refine s_run (b := [(.aload_n 1, 1), (.iload 4, 2)]) 20 [some (.inr (.inr x0)), some (.inr (.inr x1)), some (.inl x2), some (.inl x3), some (.inl x4)] [.inl x4, .inr (.inr x1), .inr (.inr v2)] (by decide +kernel) rfl ?_
    refine s_cV (Z := Y_X2_playRule) (c := 2) (vs := [.inr (.inr x1), .inl x4]) (st := []) (rO := fun _ => none) (mO := fun z => z) zk_X2_playRule zi_X2_playRule q1281 rfl ⟨by decide, by decide⟩ ⟨rfl, rfl⟩ rfl rfl (Nat.le_of_ble_eq_true rfl) (by decide +kernel) (fun z hz => c_X2_playRule hz) (fun z3 => ?_)
    change Sim l G Y_X6_bestRule lim _ _ 23 [some (.inr (.inr x0)), some (.inr (.inr x1)), some (.inl x2), some (.inl x3), some (.inl x4)] [] z3
    refine s_run (b := [(.iload_n 2, 1), (.iconst (-1), 1)]) 25 [some (.inr (.inr x0)), some (.inr (.inr x1)), some (.inl x2), some (.inl x3), some (.inl x4)] [.inl (-1 : Int32), .inl x2] (by decide +kernel) rfl ?_
    refine s_ic_eq (tgt := 47) (off := 22) (by decide +kernel) (by decide) (fun h4 => ?_) (fun h4 => ?_)
    · skip
      exact s_lsub (ls' := [some (.inr (.inr x0)), some (.inr (.inr x1)), none, none, some (.inl x4)]) ⟨rfl, ⟨rfl, ⟨rfl, trivial⟩⟩⟩ (J_X6_bestRule_47 z3 x0 x1 x4  K kk1 kk2_0)
    · skip
      refine s_run (b := [(.aload_n 0, 1)]) 29 [some (.inr (.inr x0)), some (.inr (.inr x1)), some (.inl x2), some (.inl x3), some (.inl x4)] [.inr (.inr x0)] (by decide +kernel) rfl ?_
      refine s_gR fl_6_18 rfl (by decide +kernel) (fun v5 => ?_)
      refine s_gI fl_6_95 rfl (by decide +kernel) (fun v6 => ?_)
      refine s_run (b := [(.aload_n 0, 1)]) 36 [some (.inr (.inr x0)), some (.inr (.inr x1)), some (.inl x2), some (.inl x3), some (.inl x4)] [.inr (.inr x0), .inl v6] (by decide +kernel) rfl ?_
      refine s_gR fl_6_18 rfl (by decide +kernel) (fun v7 => ?_)
      refine s_gI fl_6_98 rfl (by decide +kernel) (fun v8 => ?_)
      refine s_run (b := [(.isub, 1), (.iload_n 3, 1)]) 44 [some (.inr (.inr x0)), some (.inr (.inr x1)), some (.inl x2), some (.inl x3), some (.inl x4)] [.inl x3, .inl (v6 - v8)] (by decide +kernel) rfl ?_
      refine s_ic_le (tgt := 66) (off := 22) (by decide +kernel) (by decide) (fun h9 => ?_) (fun h9 => ?_)
      · skip
        refine s_run (b := [(.iinc 4 1, 3), (.goto (-62), 3)]) 7 [some (.inr (.inr x0)), some (.inr (.inr x1)), some (.inl x2), some (.inl x3), some (.inl (x4 + (1 : Int32)))] [] (by decide +kernel) rfl ?_
        exact s_lsub (ls' := [some (.inr (.inr x0)), some (.inr (.inr x1)), some (.inl x2), some (.inl x3), some (.inl (x4 + (1 : Int32)))]) ⟨rfl, ⟨rfl, ⟨rfl, ⟨rfl, ⟨rfl, trivial⟩⟩⟩⟩⟩ (kk1 x2 x3 (x4 + (1 : Int32)) z3)
      · skip
        exact s_lsub (ls' := [some (.inr (.inr x0)), some (.inr (.inr x1)), none, none, some (.inl x4)]) ⟨rfl, ⟨rfl, ⟨rfl, trivial⟩⟩⟩ (J_X6_bestRule_47 z3 x0 x1 x4  K kk1 kk2_0)
set_option maxRecDepth 20000 in
theorem L_X6_bestRule_7 {l : Launch} {G : Gv} {lim : Nat × Nat} (M : Mem) (x0 : Nat) (x1 : Nat) (x2 : Int32) (x3 : Int32) (x4 : Int32) (K : ((Int32 × Mem)) → Option (Option Value × Mem)) (kk2_0 : ∀ r : Int32 × Mem, SimR l G Y_X6_bestRule lim (K r) 72 [none, none, some (.inl r.1), none, none] [] r.2) : Sim l G Y_X6_bestRule lim (f_X6_bestRule_L7 M x0 x1 x2 x3 x4) K 7 [some (.inr (.inr x0)), some (.inr (.inr x1)), some (.inl x2), some (.inl x3), some (.inl x4)] [] M :=
  s_iter (f := fun s : Int32 × Int32 × Int32 × Mem => f_X6_bestRule_B7 s.2.2.2 x0 x1 s.1 s.2.1 s.2.2.1) (hd := 7) (cl := fun s => [some (.inr (.inr x0)), some (.inr (.inr x1)), some (.inl s.1), some (.inl s.2.1), some (.inl s.2.2.1)]) (cm := fun s => s.2.2.2) (xp := fun _ => 72) (xl := fun r => [none, none, some (.inl r.1), none, none]) (xm := fun r => r.2) (fun s K h1 h2 => B_X6_bestRule_7 s.2.2.2 x0 x1 s.1 s.2.1 s.2.2.1 K (fun a2 a3 a4 a_ => h1 (a2, a3, a4, a_)) (fun a2 a_ => h2 (a2, a_))) 1048576 (x2, x3, x4, M) K kk2_0
def f_X6_bestRule (M : Mem) (x0 : Nat) (x1 : Nat) : Option (Int32 × Mem) :=
  (f_X6_bestRule_L7 M x0 x1 (-1 : Int32) (0 : Int32) (0 : Int32)).bind fun r1 =>
  some (r1.1, r1.2)
set_option maxRecDepth 20000 in
theorem S_X6_bestRule {l : Launch} {G : Gv} {lim : Nat × Nat} (M : Mem) (x0 : Nat) (x1 : Nat) : Sim l G Y_X6_bestRule lim (f_X6_bestRule M x0 x1) (fun z => some (some (.int z.1), z.2)) 0 [some (.inr (.inr x0)), some (.inr (.inr x1)), none, none, none] [] M := by
  unfold f_X6_bestRule
  refine s_run (b := [(.iconst (-1), 1), (.istore_n 2, 1), (.iconst 0, 1), (.istore_n 3, 1), (.iconst 0, 1), (.istore 4, 2)]) 7 [some (.inr (.inr x0)), some (.inr (.inr x1)), some (.inl (-1 : Int32)), some (.inl (0 : Int32)), some (.inl (0 : Int32))] [] (by decide +kernel) rfl ?_
  refine s_lsub (ls' := [some (.inr (.inr x0)), some (.inr (.inr x1)), some (.inl (-1 : Int32)), some (.inl (0 : Int32)), some (.inl (0 : Int32))]) ⟨rfl, ⟨rfl, ⟨rfl, ⟨rfl, ⟨rfl, trivial⟩⟩⟩⟩⟩ ?_
  refine sim_bind (L_X6_bestRule_7 M x0 x1 (-1 : Int32) (0 : Int32) (0 : Int32) _ (fun r1 => ?_))
  change Sim l G Y_X6_bestRule lim _ _ 72 [none, none, some (.inl r1.1), none, none] [] r1.2
  refine s_run (b := [(.iload_n 2, 1)]) 73 [none, none, some (.inl r1.1), none, none] [.inl r1.1] (by decide +kernel) rfl ?_
  exact s_iret (by decide +kernel) rfl
set_option maxRecDepth 20000 in
theorem c_X6_bestRule {l : Launch} {G : Gv} {M : Mem} {x0 : Nat} {x1 : Nat} {z : Int32 × Mem} (h : f_X6_bestRule M x0 x1 = some z) : MetS l G Y_X6_bestRule [.inr (.inr x0), .inr (.inr x1)] M (some (.int z.1)) z.2 :=
  met_of (ls0 := [some (.inr (.inr x0)), some (.inr (.inr x1)), none, none, none]) (by decide) rfl (lv_in (m := 3) rfl) (sl_le (Nat.le_of_ble_eq_true rfl)) (by rw [h]; rfl) (Or.inl ⟨rfl, rfl⟩) (S_X6_bestRule M x0 x1)
def f_X11_best (M : Mem) (x0 : Nat) (x1 : Int32) : Option (Int32 × Mem) :=
  (gR M 11 x0 0).bind fun v1 =>
  (ob M 9 v1).bind fun _ => (f_X9_officeAt M v1 x1).bind fun v2 =>
  (if v2 = 0 then
    some ((-1 : Int32), M)
  else
    (gR M 11 x0 9).bind fun v4 =>
    (ob M 6 v4).bind fun _ => (f_X6_bestRule M v4 v2).bind fun z5 =>
    some (z5.1, z5.2))
set_option maxRecDepth 20000 in
theorem S_X11_best {l : Launch} {G : Gv} {lim : Nat × Nat} (M : Mem) (x0 : Nat) (x1 : Int32) : Sim l G Y_X11_best lim (f_X11_best M x0 x1) (fun z => some (some (.int z.1), z.2)) 0 [some (.inr (.inr x0)), some (.inl x1), none] [] M := by
  unfold f_X11_best
  refine s_run (b := [(.aload_n 0, 1)]) 1 [some (.inr (.inr x0)), some (.inl x1), none] [.inr (.inr x0)] (by decide +kernel) rfl ?_
  refine s_gR fl_11_10 rfl (by decide +kernel) (fun v1 => ?_)
  refine s_run (b := [(.iload_n 1, 1)]) 5 [some (.inr (.inr x0)), some (.inl x1), none] [.inl x1, .inr (.inr v1)] (by decide +kernel) rfl ?_
  refine s_cV (Z := Y_X9_officeAt) (c := 9) (vs := [.inl x1]) (st := []) (rO := fun z => some (.inr (.inr z))) (mO := fun _ => M) zk_X9_officeAt zi_X9_officeAt q716 rfl ⟨by decide, by decide⟩ ⟨rfl, rfl⟩ rfl rfl (Nat.le_of_ble_eq_true rfl) (by decide +kernel) (fun z hz => c_X9_officeAt hz) (fun v2 => ?_)
  change Sim l G Y_X11_best lim _ _ 8 [some (.inr (.inr x0)), some (.inl x1), none] [.inr (.inr v2)] M
  refine s_run (b := [(.astore_n 2, 1), (.aload_n 2, 1)]) 10 [some (.inr (.inr x0)), some (.inl x1), some (.inr (.inr v2))] [.inr (.inr v2)] (by decide +kernel) rfl ?_
  refine s_ifnonnull (tgt := 17) (off := 7) (by decide +kernel) (by decide) (fun h3 => ?_) (fun h3 => ?_)
  · skip
    refine s_run (b := [(.iconst (-1), 1), (.goto 11, 3)]) 25 [some (.inr (.inr x0)), some (.inl x1), some (.inr (.inr v2))] [.inl (-1 : Int32)] (by decide +kernel) rfl ?_
    exact s_iret (by decide +kernel) rfl
  · skip
    refine s_run (b := [(.aload_n 0, 1)]) 18 [some (.inr (.inr x0)), some (.inl x1), some (.inr (.inr v2))] [.inr (.inr x0)] (by decide +kernel) rfl ?_
    refine s_gR fl_11_69 rfl (by decide +kernel) (fun v4 => ?_)
    refine s_run (b := [(.aload_n 2, 1)]) 22 [some (.inr (.inr x0)), some (.inl x1), some (.inr (.inr v2))] [.inr (.inr v2), .inr (.inr v4)] (by decide +kernel) rfl ?_
    refine s_cV (Z := Y_X6_bestRule) (c := 6) (vs := [.inr (.inr v2)]) (st := []) (rO := fun z => some (.inl z.1)) (mO := fun z => z.2) zk_X6_bestRule zi_X6_bestRule q1277 rfl ⟨by decide, by decide⟩ ⟨rfl, rfl⟩ rfl rfl (Nat.le_of_ble_eq_true rfl) (by decide +kernel) (fun z hz => c_X6_bestRule hz) (fun z5 => ?_)
    change Sim l G Y_X11_best lim _ _ 25 [some (.inr (.inr x0)), some (.inl x1), some (.inr (.inr v2))] [.inl z5.1] z5.2
    exact s_iret (by decide +kernel) rfl
set_option maxRecDepth 20000 in
theorem c_X11_best {l : Launch} {G : Gv} {M : Mem} {x0 : Nat} {x1 : Int32} {z : Int32 × Mem} (h : f_X11_best M x0 x1 = some z) : MetS l G Y_X11_best [.inr (.inr x0), .inl x1] M (some (.int z.1)) z.2 :=
  met_of (ls0 := [some (.inr (.inr x0)), some (.inl x1), none]) (by decide) rfl (lv_in (m := 1) rfl) (sl_le (Nat.le_of_ble_eq_true rfl)) (by rw [h]; rfl) (Or.inl ⟨rfl, rfl⟩) (S_X11_best M x0 x1)
def f_X4_tellsOnlyOf_B2 (M : Mem) (x0 : Nat) (x1 : Nat) (x2 : Int32) : Option ((Int32) ⊕ ((Unit) ⊕ (Unit))) :=
  (gI M 4 x0 0).bind fun v1 =>
  (if v1 ≤ x2 then
    some (.inr (.inr ()))
  else
    (gR M 4 x0 1).bind fun v3 =>
    (aI M 0 v3 x2).bind fun v4 =>
    (ob M 5 x1).bind fun _ => (f_X5_hasDesk M x1 v4).bind fun v5 =>
    (if v5 = 0 then
      some (.inr (.inl ()))
    else
      (gR M 4 x0 2).bind fun v7 =>
      (aI M 0 v7 x2).bind fun v8 =>
      (if v8 = (-1 : Int32) then
        some (.inl (x2 + (1 : Int32)))
      else
        (gR M 4 x0 2).bind fun v10 =>
        (aI M 0 v10 x2).bind fun v11 =>
        (ob M 5 x1).bind fun _ => (f_X5_hasDesk M x1 v11).bind fun v12 =>
        (if v12 = 0 then
          some (.inr (.inl ()))
        else
          some (.inl (x2 + (1 : Int32)))))))
def f_X4_tellsOnlyOf_L2 (M : Mem) (x0 : Nat) (x1 : Nat) (x2 : Int32) : Option ((Unit) ⊕ (Unit)) := iter (fun s : Int32 => f_X4_tellsOnlyOf_B2 M x0 x1 s) 1048576 x2
set_option maxRecDepth 20000 in
theorem B_X4_tellsOnlyOf_2 {l : Launch} {G : Gv} {lim : Nat × Nat} (M : Mem) (x0 : Nat) (x1 : Nat) (x2 : Int32) (K : (Int32) ⊕ ((Unit) ⊕ (Unit)) → Option (Option Value × Mem)) (kk1 : ∀ (s2 : Int32), SimR l G Y_X4_tellsOnlyOf lim (K (.inl s2)) 2 [some (.inr (.inr x0)), some (.inr (.inr x1)), some (.inl s2)] [] M) (kk2_0 : SimR l G Y_X4_tellsOnlyOf lim (K (.inr (.inl ()))) 46 [none, none, none] [] M) (kk2_1 : SimR l G Y_X4_tellsOnlyOf lim (K (.inr (.inr ()))) 54 [none, none, none] [] M) : Sim l G Y_X4_tellsOnlyOf lim (f_X4_tellsOnlyOf_B2 M x0 x1 x2) K 2 [some (.inr (.inr x0)), some (.inr (.inr x1)), some (.inl x2)] [] M := by
  unfold f_X4_tellsOnlyOf_B2
  refine s_run (b := [(.iload_n 2, 1), (.aload_n 0, 1)]) 4 [some (.inr (.inr x0)), some (.inr (.inr x1)), some (.inl x2)] [.inr (.inr x0), .inl x2] (by decide +kernel) rfl ?_
  refine s_gI fl_4_21 rfl (by decide +kernel) (fun v1 => ?_)
  refine s_ic_ge (tgt := 54) (off := 47) (by decide +kernel) (by decide) (fun h2 => ?_) (fun h2 => ?_)
  · skip
    exact s_lsub (ls' := [none, none, none]) trivial (kk2_1 )
  · skip
    refine s_run (b := [(.aload_n 1, 1), (.aload_n 0, 1)]) 12 [some (.inr (.inr x0)), some (.inr (.inr x1)), some (.inl x2)] [.inr (.inr x0), .inr (.inr x1)] (by decide +kernel) rfl ?_
    refine s_gR fl_4_9 rfl (by decide +kernel) (fun v3 => ?_)
    refine s_run (b := [(.iload_n 2, 1)]) 16 [some (.inr (.inr x0)), some (.inr (.inr x1)), some (.inl x2)] [.inl x2, .inr (.inr v3), .inr (.inr x1)] (by decide +kernel) rfl ?_
    refine s_ia (by decide +kernel) (fun v4 => ?_)
    refine s_cV (Z := Y_X5_hasDesk) (c := 5) (vs := [.inl v4]) (st := []) (rO := fun z => some (.inl z)) (mO := fun _ => M) zk_X5_hasDesk zi_X5_hasDesk q997 rfl ⟨by decide, by decide⟩ ⟨rfl, rfl⟩ rfl rfl (Nat.le_of_ble_eq_true rfl) (by decide +kernel) (fun z hz => c_X5_hasDesk hz) (fun v5 => ?_)
    change Sim l G Y_X4_tellsOnlyOf lim _ _ 20 [some (.inr (.inr x0)), some (.inr (.inr x1)), some (.inl x2)] [.inl v5] M
    refine s_if_eq (tgt := 46) (off := 26) (by decide +kernel) (by decide) (fun h6 => ?_) (fun h6 => ?_)
    · skip
      exact s_lsub (ls' := [none, none, none]) trivial (kk2_0 )
    · skip
      refine s_run (b := [(.aload_n 0, 1)]) 24 [some (.inr (.inr x0)), some (.inr (.inr x1)), some (.inl x2)] [.inr (.inr x0)] (by decide +kernel) rfl ?_
      refine s_gR fl_4_15 rfl (by decide +kernel) (fun v7 => ?_)
      refine s_run (b := [(.iload_n 2, 1)]) 28 [some (.inr (.inr x0)), some (.inr (.inr x1)), some (.inl x2)] [.inl x2, .inr (.inr v7)] (by decide +kernel) rfl ?_
      refine s_ia (by decide +kernel) (fun v8 => ?_)
      refine s_run (b := [(.iconst (-1), 1)]) 30 [some (.inr (.inr x0)), some (.inr (.inr x1)), some (.inl x2)] [.inl (-1 : Int32), .inl v8] (by decide +kernel) rfl ?_
      refine s_ic_eq (tgt := 48) (off := 18) (by decide +kernel) (by decide) (fun h9 => ?_) (fun h9 => ?_)
      · skip
        refine s_run (b := [(.iinc 2 1, 3), (.goto (-49), 3)]) 2 [some (.inr (.inr x0)), some (.inr (.inr x1)), some (.inl (x2 + (1 : Int32)))] [] (by decide +kernel) rfl ?_
        exact s_lsub (ls' := [some (.inr (.inr x0)), some (.inr (.inr x1)), some (.inl (x2 + (1 : Int32)))]) ⟨rfl, ⟨rfl, ⟨rfl, trivial⟩⟩⟩ (kk1 (x2 + (1 : Int32)))
      · skip
        refine s_run (b := [(.aload_n 1, 1), (.aload_n 0, 1)]) 35 [some (.inr (.inr x0)), some (.inr (.inr x1)), some (.inl x2)] [.inr (.inr x0), .inr (.inr x1)] (by decide +kernel) rfl ?_
        refine s_gR fl_4_15 rfl (by decide +kernel) (fun v10 => ?_)
        refine s_run (b := [(.iload_n 2, 1)]) 39 [some (.inr (.inr x0)), some (.inr (.inr x1)), some (.inl x2)] [.inl x2, .inr (.inr v10), .inr (.inr x1)] (by decide +kernel) rfl ?_
        refine s_ia (by decide +kernel) (fun v11 => ?_)
        refine s_cV (Z := Y_X5_hasDesk) (c := 5) (vs := [.inl v11]) (st := []) (rO := fun z => some (.inl z)) (mO := fun _ => M) zk_X5_hasDesk zi_X5_hasDesk q997 rfl ⟨by decide, by decide⟩ ⟨rfl, rfl⟩ rfl rfl (Nat.le_of_ble_eq_true rfl) (by decide +kernel) (fun z hz => c_X5_hasDesk hz) (fun v12 => ?_)
        change Sim l G Y_X4_tellsOnlyOf lim _ _ 43 [some (.inr (.inr x0)), some (.inr (.inr x1)), some (.inl x2)] [.inl v12] M
        refine s_if_ne (tgt := 48) (off := 5) (by decide +kernel) (by decide) (fun h13 => ?_) (fun h13 => ?_)
        · skip
          exact s_lsub (ls' := [none, none, none]) trivial (kk2_0 )
        · skip
          refine s_run (b := [(.iinc 2 1, 3), (.goto (-49), 3)]) 2 [some (.inr (.inr x0)), some (.inr (.inr x1)), some (.inl (x2 + (1 : Int32)))] [] (by decide +kernel) rfl ?_
          exact s_lsub (ls' := [some (.inr (.inr x0)), some (.inr (.inr x1)), some (.inl (x2 + (1 : Int32)))]) ⟨rfl, ⟨rfl, ⟨rfl, trivial⟩⟩⟩ (kk1 (x2 + (1 : Int32)))
set_option maxRecDepth 20000 in
theorem L_X4_tellsOnlyOf_2 {l : Launch} {G : Gv} {lim : Nat × Nat} (M : Mem) (x0 : Nat) (x1 : Nat) (x2 : Int32) (K : ((Unit) ⊕ (Unit)) → Option (Option Value × Mem)) (kk2_0 : ∀ r : Unit, SimR l G Y_X4_tellsOnlyOf lim (K (.inl r)) 46 [none, none, none] [] M) (kk2_1 : ∀ r : Unit, SimR l G Y_X4_tellsOnlyOf lim (K (.inr r)) 54 [none, none, none] [] M) : Sim l G Y_X4_tellsOnlyOf lim (f_X4_tellsOnlyOf_L2 M x0 x1 x2) K 2 [some (.inr (.inr x0)), some (.inr (.inr x1)), some (.inl x2)] [] M :=
  s_iter (f := fun s : Int32 => f_X4_tellsOnlyOf_B2 M x0 x1 s) (hd := 2) (cl := fun s => [some (.inr (.inr x0)), some (.inr (.inr x1)), some (.inl s)]) (cm := fun s => M) (xp := (fun r => match r with | .inl r => 46 | .inr r => 54)) (xl := (fun r => match r with | .inl r => [none, none, none] | .inr r => [none, none, none])) (xm := (fun r => match r with | .inl r => M | .inr r => M)) (fun s K h1 h2 => B_X4_tellsOnlyOf_2 M x0 x1 s K (fun a2 => h1 a2) (h2 (.inl ())) (h2 (.inr ()))) 1048576 x2 K (fun r => by
    rcases r with r | r
    · exact kk2_0 r
    · exact kk2_1 r)
def f_X4_tellsOnlyOf (M : Mem) (x0 : Nat) (x1 : Nat) : Option (Int32) :=
  ((f_X4_tellsOnlyOf_L2 M x0 x1 (0 : Int32)).bind fun r1 => match r1 with
  | .inl r1 => some (0 : Int32)
  | .inr r1 => some (1 : Int32))
set_option maxRecDepth 20000 in
theorem S_X4_tellsOnlyOf {l : Launch} {G : Gv} {lim : Nat × Nat} (M : Mem) (x0 : Nat) (x1 : Nat) : Sim l G Y_X4_tellsOnlyOf lim (f_X4_tellsOnlyOf M x0 x1) (fun z => some (some (.int z), M)) 0 [some (.inr (.inr x0)), some (.inr (.inr x1)), none] [] M := by
  unfold f_X4_tellsOnlyOf
  refine s_run (b := [(.iconst 0, 1), (.istore_n 2, 1)]) 2 [some (.inr (.inr x0)), some (.inr (.inr x1)), some (.inl (0 : Int32))] [] (by decide +kernel) rfl ?_
  refine s_lsub (ls' := [some (.inr (.inr x0)), some (.inr (.inr x1)), some (.inl (0 : Int32))]) ⟨rfl, ⟨rfl, ⟨rfl, trivial⟩⟩⟩ ?_
  refine sim_bind (L_X4_tellsOnlyOf_2 M x0 x1 (0 : Int32) _ (fun r1 => ?_) (fun r1 => ?_))
  · change Sim l G Y_X4_tellsOnlyOf lim _ _ 46 [none, none, none] [] M
    refine s_run (b := [(.iconst 0, 1)]) 47 [none, none, none] [.inl (0 : Int32)] (by decide +kernel) rfl ?_
    exact s_bret (Or.inl rfl) (by decide +kernel) rfl
  · change Sim l G Y_X4_tellsOnlyOf lim _ _ 54 [none, none, none] [] M
    refine s_run (b := [(.iconst 1, 1)]) 55 [none, none, none] [.inl (1 : Int32)] (by decide +kernel) rfl ?_
    exact s_bret (Or.inr rfl) (by decide +kernel) rfl
set_option maxRecDepth 20000 in
theorem c_X4_tellsOnlyOf {l : Launch} {G : Gv} {M : Mem} {x0 : Nat} {x1 : Nat} {z : Int32} (h : f_X4_tellsOnlyOf M x0 x1 = some z) : MetS l G Y_X4_tellsOnlyOf [.inr (.inr x0), .inr (.inr x1)] M (some (.int z)) M :=
  met_of (ls0 := [some (.inr (.inr x0)), some (.inr (.inr x1)), none]) (by decide) rfl (lv_in (m := 1) rfl) (sl_le (Nat.le_of_ble_eq_true rfl)) (by rw [h]; rfl) (Or.inl ⟨rfl, rfl⟩) (S_X4_tellsOnlyOf M x0 x1)
def f_X8_agrees_B2 (M : Mem) (x0 : Nat) (x1 : Nat) (x2 : Int32) : Option ((Int32 × Mem) ⊕ ((Mem) ⊕ (Mem))) :=
  (gI M 4 x1 0).bind fun v1 =>
  (if v1 ≤ x2 then
    some (.inr (.inr M))
  else
    (gR M 8 x0 3).bind fun v3 =>
    (gR M 8 x0 2).bind fun v4 =>
    (gR M 4 x1 1).bind fun v5 =>
    (aI M 0 v5 x2).bind fun v6 =>
    (gR M 8 x0 2).bind fun v7 =>
    (gR M 4 x1 1).bind fun v8 =>
    (aI M 0 v8 x2).bind fun v9 =>
    (ob M 5 v7).bind fun _ => (f_X5_othersThan M v7 v9).bind fun v10 =>
    (ob M 3 v3).bind fun _ => (f_X3_asTold M v3 v4 v6 v10 1000).bind fun z11 =>
    (gR z11 8 x0 3).bind fun v12 =>
    (gI z11 3 v12 0).bind fun v13 =>
    (gR z11 4 x1 2).bind fun v14 =>
    (aI z11 0 v14 x2).bind fun v15 =>
    (if v13 = v15 then
      (gR z11 8 x0 3).bind fun v17 =>
      (gI z11 3 v17 0).bind fun v18 =>
      (if v18 = (-1 : Int32) then
        some (.inl ((x2 + (1 : Int32)), z11))
      else
        (gR z11 8 x0 3).bind fun v20 =>
        (gI z11 3 v20 1).bind fun v21 =>
        (gR z11 4 x1 3).bind fun v22 =>
        (aI z11 0 v22 x2).bind fun v23 =>
        (if v21 = v23 then
          some (.inl ((x2 + (1 : Int32)), z11))
        else
          some (.inr (.inl z11))))
    else
      some (.inr (.inl z11))))
def f_X8_agrees_L2 (M : Mem) (x0 : Nat) (x1 : Nat) (x2 : Int32) : Option ((Mem) ⊕ (Mem)) := iter (fun s : Int32 × Mem => f_X8_agrees_B2 s.2 x0 x1 s.1) 1048576 (x2, M)
set_option maxRecDepth 20000 in
theorem B_X8_agrees_2 {l : Launch} {G : Gv} {lim : Nat × Nat} (M : Mem) (x0 : Nat) (x1 : Nat) (x2 : Int32) (K : (Int32 × Mem) ⊕ ((Mem) ⊕ (Mem)) → Option (Option Value × Mem)) (kk1 : ∀ (s2 : Int32) (s_ : Mem), SimR l G Y_X8_agrees lim (K (.inl (s2, s_))) 2 [some (.inr (.inr x0)), some (.inr (.inr x1)), some (.inl s2)] [] s_) (kk2_0 : ∀ (s_ : Mem), SimR l G Y_X8_agrees lim (K (.inr (.inl s_))) 86 [none, none, none] [] s_) (kk2_1 : ∀ (s_ : Mem), SimR l G Y_X8_agrees lim (K (.inr (.inr s_))) 94 [none, none, none] [] s_) : Sim l G Y_X8_agrees lim (f_X8_agrees_B2 M x0 x1 x2) K 2 [some (.inr (.inr x0)), some (.inr (.inr x1)), some (.inl x2)] [] M := by
  unfold f_X8_agrees_B2
  refine s_run (b := [(.iload_n 2, 1), (.aload_n 1, 1)]) 4 [some (.inr (.inr x0)), some (.inr (.inr x1)), some (.inl x2)] [.inr (.inr x1), .inl x2] (by decide +kernel) rfl ?_
  refine s_gI fl_8_58 rfl (by decide +kernel) (fun v1 => ?_)
  refine s_ic_ge (tgt := 94) (off := 87) (by decide +kernel) (by decide) (fun h2 => ?_) (fun h2 => ?_)
  · skip
    exact s_lsub (ls' := [none, none, none]) trivial (kk2_1 M)
  · skip
    refine s_run (b := [(.aload_n 0, 1)]) 11 [some (.inr (.inr x0)), some (.inr (.inr x1)), some (.inl x2)] [.inr (.inr x0)] (by decide +kernel) rfl ?_
    refine s_gR fl_8_25 rfl (by decide +kernel) (fun v3 => ?_)
    refine s_run (b := [(.aload_n 0, 1)]) 15 [some (.inr (.inr x0)), some (.inr (.inr x1)), some (.inl x2)] [.inr (.inr x0), .inr (.inr v3)] (by decide +kernel) rfl ?_
    refine s_gR fl_8_18 rfl (by decide +kernel) (fun v4 => ?_)
    refine s_run (b := [(.aload_n 1, 1)]) 19 [some (.inr (.inr x0)), some (.inr (.inr x1)), some (.inl x2)] [.inr (.inr x1), .inr (.inr v4), .inr (.inr v3)] (by decide +kernel) rfl ?_
    refine s_gR fl_8_63 rfl (by decide +kernel) (fun v5 => ?_)
    refine s_run (b := [(.iload_n 2, 1)]) 23 [some (.inr (.inr x0)), some (.inr (.inr x1)), some (.inl x2)] [.inl x2, .inr (.inr v5), .inr (.inr v4), .inr (.inr v3)] (by decide +kernel) rfl ?_
    refine s_ia (by decide +kernel) (fun v6 => ?_)
    refine s_run (b := [(.aload_n 0, 1)]) 25 [some (.inr (.inr x0)), some (.inr (.inr x1)), some (.inl x2)] [.inr (.inr x0), .inl v6, .inr (.inr v4), .inr (.inr v3)] (by decide +kernel) rfl ?_
    refine s_gR fl_8_18 rfl (by decide +kernel) (fun v7 => ?_)
    refine s_run (b := [(.aload_n 1, 1)]) 29 [some (.inr (.inr x0)), some (.inr (.inr x1)), some (.inl x2)] [.inr (.inr x1), .inr (.inr v7), .inl v6, .inr (.inr v4), .inr (.inr v3)] (by decide +kernel) rfl ?_
    refine s_gR fl_8_63 rfl (by decide +kernel) (fun v8 => ?_)
    refine s_run (b := [(.iload_n 2, 1)]) 33 [some (.inr (.inr x0)), some (.inr (.inr x1)), some (.inl x2)] [.inl x2, .inr (.inr v8), .inr (.inr v7), .inl v6, .inr (.inr v4), .inr (.inr v3)] (by decide +kernel) rfl ?_
    refine s_ia (by decide +kernel) (fun v9 => ?_)
    refine s_cV (Z := Y_X5_othersThan) (c := 5) (vs := [.inl v9]) (st := [.inl v6, .inr (.inr v4), .inr (.inr v3)]) (rO := fun z => some (.inl z)) (mO := fun _ => M) zk_X5_othersThan zi_X5_othersThan q1012 rfl ⟨by decide, by decide⟩ ⟨rfl, rfl⟩ rfl rfl (Nat.le_of_ble_eq_true rfl) (by decide +kernel) (fun z hz => c_X5_othersThan hz) (fun v10 => ?_)
    change Sim l G Y_X8_agrees lim _ _ 37 [some (.inr (.inr x0)), some (.inr (.inr x1)), some (.inl x2)] [.inl v10, .inl v6, .inr (.inr v4), .inr (.inr v3)] M
    refine s_gsN (j := 0) (by decide) (List.mem_of_getElem? (i := 18) rfl) (by decide +kernel) ?_
    change Sim l G Y_X8_agrees lim _ _ 40 [some (.inr (.inr x0)), some (.inr (.inr x1)), some (.inl x2)] [.inr (.inr 1000), .inl v10, .inl v6, .inr (.inr v4), .inr (.inr v3)] M
    refine s_cV (Z := Y_X3_asTold) (c := 3) (vs := [.inr (.inr v4), .inl v6, .inl v10, .inr (.inr 1000)]) (st := []) (rO := fun _ => none) (mO := fun z => z) zk_X3_asTold zi_X3_asTold q1018 rfl ⟨by decide, by decide⟩ ⟨rfl, rfl⟩ rfl rfl (Nat.le_of_ble_eq_true rfl) (by decide +kernel) (fun z hz => c_X3_asTold hz) (fun z11 => ?_)
    change Sim l G Y_X8_agrees lim _ _ 43 [some (.inr (.inr x0)), some (.inr (.inr x1)), some (.inl x2)] [] z11
    refine s_run (b := [(.aload_n 0, 1)]) 44 [some (.inr (.inr x0)), some (.inr (.inr x1)), some (.inl x2)] [.inr (.inr x0)] (by decide +kernel) rfl ?_
    refine s_gR fl_8_25 rfl (by decide +kernel) (fun v12 => ?_)
    refine s_gI fl_8_77 rfl (by decide +kernel) (fun v13 => ?_)
    refine s_run (b := [(.aload_n 1, 1)]) 51 [some (.inr (.inr x0)), some (.inr (.inr x1)), some (.inl x2)] [.inr (.inr x1), .inl v13] (by decide +kernel) rfl ?_
    refine s_gR fl_8_80 rfl (by decide +kernel) (fun v14 => ?_)
    refine s_run (b := [(.iload_n 2, 1)]) 55 [some (.inr (.inr x0)), some (.inr (.inr x1)), some (.inl x2)] [.inl x2, .inr (.inr v14), .inl v13] (by decide +kernel) rfl ?_
    refine s_ia (by decide +kernel) (fun v15 => ?_)
    refine s_ic_ne (tgt := 86) (off := 30) (by decide +kernel) (by decide) (fun h16 => ?_) (fun h16 => ?_)
    · skip
      refine s_run (b := [(.aload_n 0, 1)]) 60 [some (.inr (.inr x0)), some (.inr (.inr x1)), some (.inl x2)] [.inr (.inr x0)] (by decide +kernel) rfl ?_
      refine s_gR fl_8_25 rfl (by decide +kernel) (fun v17 => ?_)
      refine s_gI fl_8_77 rfl (by decide +kernel) (fun v18 => ?_)
      refine s_run (b := [(.iconst (-1), 1)]) 67 [some (.inr (.inr x0)), some (.inr (.inr x1)), some (.inl x2)] [.inl (-1 : Int32), .inl v18] (by decide +kernel) rfl ?_
      refine s_ic_eq (tgt := 88) (off := 21) (by decide +kernel) (by decide) (fun h19 => ?_) (fun h19 => ?_)
      · skip
        refine s_run (b := [(.iinc 2 1, 3), (.goto (-89), 3)]) 2 [some (.inr (.inr x0)), some (.inr (.inr x1)), some (.inl (x2 + (1 : Int32)))] [] (by decide +kernel) rfl ?_
        exact s_lsub (ls' := [some (.inr (.inr x0)), some (.inr (.inr x1)), some (.inl (x2 + (1 : Int32)))]) ⟨rfl, ⟨rfl, ⟨rfl, trivial⟩⟩⟩ (kk1 (x2 + (1 : Int32)) z11)
      · skip
        refine s_run (b := [(.aload_n 0, 1)]) 71 [some (.inr (.inr x0)), some (.inr (.inr x1)), some (.inl x2)] [.inr (.inr x0)] (by decide +kernel) rfl ?_
        refine s_gR fl_8_25 rfl (by decide +kernel) (fun v20 => ?_)
        refine s_gI fl_8_83 rfl (by decide +kernel) (fun v21 => ?_)
        refine s_run (b := [(.aload_n 1, 1)]) 78 [some (.inr (.inr x0)), some (.inr (.inr x1)), some (.inl x2)] [.inr (.inr x1), .inl v21] (by decide +kernel) rfl ?_
        refine s_gR fl_8_86 rfl (by decide +kernel) (fun v22 => ?_)
        refine s_run (b := [(.iload_n 2, 1)]) 82 [some (.inr (.inr x0)), some (.inr (.inr x1)), some (.inl x2)] [.inl x2, .inr (.inr v22), .inl v21] (by decide +kernel) rfl ?_
        refine s_ia (by decide +kernel) (fun v23 => ?_)
        refine s_ic_eq (tgt := 88) (off := 5) (by decide +kernel) (by decide) (fun h24 => ?_) (fun h24 => ?_)
        · skip
          refine s_run (b := [(.iinc 2 1, 3), (.goto (-89), 3)]) 2 [some (.inr (.inr x0)), some (.inr (.inr x1)), some (.inl (x2 + (1 : Int32)))] [] (by decide +kernel) rfl ?_
          exact s_lsub (ls' := [some (.inr (.inr x0)), some (.inr (.inr x1)), some (.inl (x2 + (1 : Int32)))]) ⟨rfl, ⟨rfl, ⟨rfl, trivial⟩⟩⟩ (kk1 (x2 + (1 : Int32)) z11)
        · skip
          exact s_lsub (ls' := [none, none, none]) trivial (kk2_0 z11)
    · skip
      exact s_lsub (ls' := [none, none, none]) trivial (kk2_0 z11)
set_option maxRecDepth 20000 in
theorem L_X8_agrees_2 {l : Launch} {G : Gv} {lim : Nat × Nat} (M : Mem) (x0 : Nat) (x1 : Nat) (x2 : Int32) (K : ((Mem) ⊕ (Mem)) → Option (Option Value × Mem)) (kk2_0 : ∀ r : Mem, SimR l G Y_X8_agrees lim (K (.inl r)) 86 [none, none, none] [] r) (kk2_1 : ∀ r : Mem, SimR l G Y_X8_agrees lim (K (.inr r)) 94 [none, none, none] [] r) : Sim l G Y_X8_agrees lim (f_X8_agrees_L2 M x0 x1 x2) K 2 [some (.inr (.inr x0)), some (.inr (.inr x1)), some (.inl x2)] [] M :=
  s_iter (f := fun s : Int32 × Mem => f_X8_agrees_B2 s.2 x0 x1 s.1) (hd := 2) (cl := fun s => [some (.inr (.inr x0)), some (.inr (.inr x1)), some (.inl s.1)]) (cm := fun s => s.2) (xp := (fun r => match r with | .inl r => 86 | .inr r => 94)) (xl := (fun r => match r with | .inl r => [none, none, none] | .inr r => [none, none, none])) (xm := (fun r => match r with | .inl r => r | .inr r => r)) (fun s K h1 h2 => B_X8_agrees_2 s.2 x0 x1 s.1 K (fun a2 a_ => h1 (a2, a_)) (fun a_ => h2 (.inl a_)) (fun a_ => h2 (.inr a_))) 1048576 (x2, M) K (fun r => by
    rcases r with r | r
    · exact kk2_0 r
    · exact kk2_1 r)
def f_X8_agrees (M : Mem) (x0 : Nat) (x1 : Nat) : Option (Int32 × Mem) :=
  ((f_X8_agrees_L2 M x0 x1 (0 : Int32)).bind fun r1 => match r1 with
  | .inl r1 => some ((0 : Int32), r1)
  | .inr r1 => some ((1 : Int32), r1))
set_option maxRecDepth 20000 in
theorem S_X8_agrees {l : Launch} {G : Gv} {lim : Nat × Nat} (M : Mem) (x0 : Nat) (x1 : Nat) : Sim l G Y_X8_agrees lim (f_X8_agrees M x0 x1) (fun z => some (some (.int z.1), z.2)) 0 [some (.inr (.inr x0)), some (.inr (.inr x1)), none] [] M := by
  unfold f_X8_agrees
  refine s_run (b := [(.iconst 0, 1), (.istore_n 2, 1)]) 2 [some (.inr (.inr x0)), some (.inr (.inr x1)), some (.inl (0 : Int32))] [] (by decide +kernel) rfl ?_
  refine s_lsub (ls' := [some (.inr (.inr x0)), some (.inr (.inr x1)), some (.inl (0 : Int32))]) ⟨rfl, ⟨rfl, ⟨rfl, trivial⟩⟩⟩ ?_
  refine sim_bind (L_X8_agrees_2 M x0 x1 (0 : Int32) _ (fun r1 => ?_) (fun r1 => ?_))
  · change Sim l G Y_X8_agrees lim _ _ 86 [none, none, none] [] r1
    refine s_run (b := [(.iconst 0, 1)]) 87 [none, none, none] [.inl (0 : Int32)] (by decide +kernel) rfl ?_
    exact s_bret (Or.inl rfl) (by decide +kernel) rfl
  · change Sim l G Y_X8_agrees lim _ _ 94 [none, none, none] [] r1
    refine s_run (b := [(.iconst 1, 1)]) 95 [none, none, none] [.inl (1 : Int32)] (by decide +kernel) rfl ?_
    exact s_bret (Or.inr rfl) (by decide +kernel) rfl
set_option maxRecDepth 20000 in
theorem c_X8_agrees {l : Launch} {G : Gv} {M : Mem} {x0 : Nat} {x1 : Nat} {z : Int32 × Mem} (h : f_X8_agrees M x0 x1 = some z) : MetS l G Y_X8_agrees [.inr (.inr x0), .inr (.inr x1)] M (some (.int z.1)) z.2 :=
  met_of (ls0 := [some (.inr (.inr x0)), some (.inr (.inr x1)), none]) (by decide) rfl (lv_in (m := 1) rfl) (sl_le (Nat.le_of_ble_eq_true rfl)) (by rw [h]; rfl) (Or.inl ⟨rfl, rfl⟩) (S_X8_agrees M x0 x1)
def f_X8_suppose_J34 (M : Mem) (x0 : Nat) (x1 : Int32) (x2 : Int32) (y0 : Nat) (y1 : Int32) (y2 : Int32) : Option ((Int32 × Mem) ⊕ ((Mem))) :=
  (sI M 0 y0 y1 y2).bind fun M1 =>
  some (.inl ((x2 + (1 : Int32)), M1))
set_option maxRecDepth 20000 in
theorem J_X8_suppose_34 {l : Launch} {G : Gv} {lim : Nat × Nat} (M : Mem) (x0 : Nat) (x1 : Int32) (x2 : Int32) (y0 : Nat) (y1 : Int32) (y2 : Int32) (K : (Int32 × Mem) ⊕ ((Mem)) → Option (Option Value × Mem)) (kk1 : ∀ (s2 : Int32) (s_ : Mem), SimR l G Y_X8_suppose lim (K (.inl (s2, s_))) 2 [some (.inr (.inr x0)), some (.inl x1), some (.inl s2)] [] s_) (kk2_0 : ∀ (s_ : Mem), SimR l G Y_X8_suppose lim (K (.inr s_)) 41 [none, none, none] [] s_) : Sim l G Y_X8_suppose lim (f_X8_suppose_J34 M x0 x1 x2 y0 y1 y2) K 34 [some (.inr (.inr x0)), some (.inl x1), some (.inl x2)] [.inl y2, .inl y1, .inr (.inr y0)] M := by
  unfold f_X8_suppose_J34
  refine s_is (by decide +kernel) (fun M1 => ?_)
  refine s_run (b := [(.iinc 2 1, 3), (.goto (-36), 3)]) 2 [some (.inr (.inr x0)), some (.inl x1), some (.inl (x2 + (1 : Int32)))] [] (by decide +kernel) rfl ?_
  exact s_lsub (ls' := [some (.inr (.inr x0)), some (.inl x1), some (.inl (x2 + (1 : Int32)))]) ⟨rfl, ⟨rfl, ⟨rfl, trivial⟩⟩⟩ (kk1 (x2 + (1 : Int32)) M1)
def f_X8_suppose_B2 (M : Mem) (x0 : Nat) (x1 : Int32) (x2 : Int32) : Option ((Int32 × Mem) ⊕ ((Mem))) :=
  (gR M 8 x0 2).bind fun v1 =>
  (gI M 5 v1 0).bind fun v2 =>
  (if v2 ≤ x2 then
    some (.inr M)
  else
    (gR M 8 x0 2).bind fun v4 =>
    (gR M 5 v4 5).bind fun v5 =>
    (if ((x1 >>> (x2 &&& 31)) &&& (1 : Int32)) = 0 then
      f_X8_suppose_J34 M x0 x1 x2 v5 x2 (0 : Int32)
    else
      f_X8_suppose_J34 M x0 x1 x2 v5 x2 (2 : Int32)))
def f_X8_suppose_L2 (M : Mem) (x0 : Nat) (x1 : Int32) (x2 : Int32) : Option ((Mem)) := iter (fun s : Int32 × Mem => f_X8_suppose_B2 s.2 x0 x1 s.1) 1048576 (x2, M)
set_option maxRecDepth 20000 in
theorem B_X8_suppose_2 {l : Launch} {G : Gv} {lim : Nat × Nat} (M : Mem) (x0 : Nat) (x1 : Int32) (x2 : Int32) (K : (Int32 × Mem) ⊕ ((Mem)) → Option (Option Value × Mem)) (kk1 : ∀ (s2 : Int32) (s_ : Mem), SimR l G Y_X8_suppose lim (K (.inl (s2, s_))) 2 [some (.inr (.inr x0)), some (.inl x1), some (.inl s2)] [] s_) (kk2_0 : ∀ (s_ : Mem), SimR l G Y_X8_suppose lim (K (.inr s_)) 41 [none, none, none] [] s_) : Sim l G Y_X8_suppose lim (f_X8_suppose_B2 M x0 x1 x2) K 2 [some (.inr (.inr x0)), some (.inl x1), some (.inl x2)] [] M := by
  unfold f_X8_suppose_B2
  refine s_run (b := [(.iload_n 2, 1), (.aload_n 0, 1)]) 4 [some (.inr (.inr x0)), some (.inl x1), some (.inl x2)] [.inr (.inr x0), .inl x2] (by decide +kernel) rfl ?_
  refine s_gR fl_8_18 rfl (by decide +kernel) (fun v1 => ?_)
  refine s_gI fl_8_52 rfl (by decide +kernel) (fun v2 => ?_)
  refine s_ic_ge (tgt := 41) (off := 31) (by decide +kernel) (by decide) (fun h3 => ?_) (fun h3 => ?_)
  · skip
    exact s_lsub (ls' := [none, none, none]) trivial (kk2_0 M)
  · skip
    refine s_run (b := [(.aload_n 0, 1)]) 14 [some (.inr (.inr x0)), some (.inl x1), some (.inl x2)] [.inr (.inr x0)] (by decide +kernel) rfl ?_
    refine s_gR fl_8_18 rfl (by decide +kernel) (fun v4 => ?_)
    refine s_gR fl_8_55 rfl (by decide +kernel) (fun v5 => ?_)
    refine s_run (b := [(.iload_n 2, 1), (.iload_n 1, 1), (.iload_n 2, 1), (.ishr, 1), (.iconst 1, 1), (.iand, 1)]) 26 [some (.inr (.inr x0)), some (.inl x1), some (.inl x2)] [.inl ((x1 >>> (x2 &&& 31)) &&& (1 : Int32)), .inl x2, .inr (.inr v5)] (by decide +kernel) rfl ?_
    refine s_if_eq (tgt := 33) (off := 7) (by decide +kernel) (by decide) (fun h6 => ?_) (fun h6 => ?_)
    · skip
      refine s_run (b := [(.iconst 0, 1)]) 34 [some (.inr (.inr x0)), some (.inl x1), some (.inl x2)] [.inl (0 : Int32), .inl x2, .inr (.inr v5)] (by decide +kernel) rfl ?_
      exact s_lsub (ls' := [some (.inr (.inr x0)), some (.inl x1), some (.inl x2)]) ⟨rfl, ⟨rfl, ⟨rfl, trivial⟩⟩⟩ (J_X8_suppose_34 M x0 x1 x2 v5 x2 (0 : Int32) K kk1 kk2_0)
    · skip
      refine s_run (b := [(.iconst 2, 1), (.goto 4, 3)]) 34 [some (.inr (.inr x0)), some (.inl x1), some (.inl x2)] [.inl (2 : Int32), .inl x2, .inr (.inr v5)] (by decide +kernel) rfl ?_
      exact s_lsub (ls' := [some (.inr (.inr x0)), some (.inl x1), some (.inl x2)]) ⟨rfl, ⟨rfl, ⟨rfl, trivial⟩⟩⟩ (J_X8_suppose_34 M x0 x1 x2 v5 x2 (2 : Int32) K kk1 kk2_0)
set_option maxRecDepth 20000 in
theorem L_X8_suppose_2 {l : Launch} {G : Gv} {lim : Nat × Nat} (M : Mem) (x0 : Nat) (x1 : Int32) (x2 : Int32) (K : ((Mem)) → Option (Option Value × Mem)) (kk2_0 : ∀ r : Mem, SimR l G Y_X8_suppose lim (K r) 41 [none, none, none] [] r) : Sim l G Y_X8_suppose lim (f_X8_suppose_L2 M x0 x1 x2) K 2 [some (.inr (.inr x0)), some (.inl x1), some (.inl x2)] [] M :=
  s_iter (f := fun s : Int32 × Mem => f_X8_suppose_B2 s.2 x0 x1 s.1) (hd := 2) (cl := fun s => [some (.inr (.inr x0)), some (.inl x1), some (.inl s.1)]) (cm := fun s => s.2) (xp := fun _ => 41) (xl := fun r => [none, none, none]) (xm := fun r => r) (fun s K h1 h2 => B_X8_suppose_2 s.2 x0 x1 s.1 K (fun a2 a_ => h1 (a2, a_)) (fun a_ => h2 a_)) 1048576 (x2, M) K kk2_0
def f_X8_suppose (M : Mem) (x0 : Nat) (x1 : Int32) : Option (Mem) :=
  (f_X8_suppose_L2 M x0 x1 (0 : Int32)).bind fun r1 =>
  some r1
set_option maxRecDepth 20000 in
theorem S_X8_suppose {l : Launch} {G : Gv} {lim : Nat × Nat} (M : Mem) (x0 : Nat) (x1 : Int32) : Sim l G Y_X8_suppose lim (f_X8_suppose M x0 x1) (fun z => some (none, z)) 0 [some (.inr (.inr x0)), some (.inl x1), none] [] M := by
  unfold f_X8_suppose
  refine s_run (b := [(.iconst 0, 1), (.istore_n 2, 1)]) 2 [some (.inr (.inr x0)), some (.inl x1), some (.inl (0 : Int32))] [] (by decide +kernel) rfl ?_
  refine s_lsub (ls' := [some (.inr (.inr x0)), some (.inl x1), some (.inl (0 : Int32))]) ⟨rfl, ⟨rfl, ⟨rfl, trivial⟩⟩⟩ ?_
  refine sim_bind (L_X8_suppose_2 M x0 x1 (0 : Int32) _ (fun r1 => ?_))
  change Sim l G Y_X8_suppose lim _ _ 41 [none, none, none] [] r1
  exact s_vret (by decide +kernel) rfl
set_option maxRecDepth 20000 in
theorem c_X8_suppose {l : Launch} {G : Gv} {M : Mem} {x0 : Nat} {x1 : Int32} {z : Mem} (h : f_X8_suppose M x0 x1 = some z) : MetS l G Y_X8_suppose [.inr (.inr x0), .inl x1] M none z :=
  met_of (ls0 := [some (.inr (.inr x0)), some (.inl x1), none]) (by decide) rfl (lv_in (m := 1) rfl) (sl_le (Nat.le_of_ble_eq_true rfl)) (by rw [h]; rfl) (Or.inl ⟨rfl, rfl⟩) (S_X8_suppose M x0 x1)
def f_X8_find_B15 (M : Mem) (x0 : Nat) (x1 : Nat) (x2 : Nat) (x3 : Int32) : Option ((Int32 × Mem) ⊕ ((Mem))) :=
  (ob M 5 x1).bind fun _ => (f_X5_everybody M x1).bind fun v1 =>
  (if v1 < x3 then
    some (.inr M)
  else
    (ob M 8 x0).bind fun _ => (f_X8_suppose M x0 x3).bind fun z3 =>
    (ob z3 8 x0).bind fun _ => (f_X8_agrees z3 x0 x2).bind fun z4 =>
    (if z4.1 = 0 then
      some (.inl ((x3 + (1 : Int32)), z4.2))
    else
      (gR z4.2 8 x0 1).bind fun v6 =>
      (gI z4.2 8 x0 0).bind fun v7 =>
      (sI z4.2 0 v6 v7 x3).bind fun M8 =>
      (gI M8 8 x0 0).bind fun v9 =>
      (pI M8 8 x0 0 (v9 + (1 : Int32))).bind fun M10 =>
      some (.inl ((x3 + (1 : Int32)), M10))))
def f_X8_find_L15 (M : Mem) (x0 : Nat) (x1 : Nat) (x2 : Nat) (x3 : Int32) : Option ((Mem)) := iter (fun s : Int32 × Mem => f_X8_find_B15 s.2 x0 x1 x2 s.1) 1048576 (x3, M)
set_option maxRecDepth 20000 in
theorem B_X8_find_15 {l : Launch} {G : Gv} {lim : Nat × Nat} (M : Mem) (x0 : Nat) (x1 : Nat) (x2 : Nat) (x3 : Int32) (K : (Int32 × Mem) ⊕ ((Mem)) → Option (Option Value × Mem)) (kk1 : ∀ (s3 : Int32) (s_ : Mem), SimR l G Y_X8_find lim (K (.inl (s3, s_))) 15 [some (.inr (.inr x0)), some (.inr (.inr x1)), some (.inr (.inr x2)), some (.inl s3)] [] s_) (kk2_0 : ∀ (s_ : Mem), SimR l G Y_X8_find lim (K (.inr s_)) 62 [none, none, none, none] [] s_) : Sim l G Y_X8_find lim (f_X8_find_B15 M x0 x1 x2 x3) K 15 [some (.inr (.inr x0)), some (.inr (.inr x1)), some (.inr (.inr x2)), some (.inl x3)] [] M := by
  unfold f_X8_find_B15
  refine s_run (b := [(.iload_n 3, 1), (.aload_n 1, 1)]) 17 [some (.inr (.inr x0)), some (.inr (.inr x1)), some (.inr (.inr x2)), some (.inl x3)] [.inr (.inr x1), .inl x3] (by decide +kernel) rfl ?_
  refine s_cV (Z := Y_X5_everybody) (c := 5) (vs := []) (st := [.inl x3]) (rO := fun z => some (.inl z)) (mO := fun _ => M) zk_X5_everybody zi_X5_everybody q1003 rfl ⟨by decide, by decide⟩ ⟨rfl, rfl⟩ rfl rfl (Nat.le_of_ble_eq_true rfl) (by decide +kernel) (fun z hz => c_X5_everybody hz) (fun v1 => ?_)
  change Sim l G Y_X8_find lim _ _ 20 [some (.inr (.inr x0)), some (.inr (.inr x1)), some (.inr (.inr x2)), some (.inl x3)] [.inl v1, .inl x3] M
  refine s_ic_gt (tgt := 62) (off := 42) (by decide +kernel) (by decide) (fun h2 => ?_) (fun h2 => ?_)
  · skip
    exact s_lsub (ls' := [none, none, none, none]) trivial (kk2_0 M)
  · skip
    refine s_run (b := [(.aload_n 0, 1), (.iload_n 3, 1)]) 25 [some (.inr (.inr x0)), some (.inr (.inr x1)), some (.inr (.inr x2)), some (.inl x3)] [.inl x3, .inr (.inr x0)] (by decide +kernel) rfl ?_
    refine s_cV (Z := Y_X8_suppose) (c := 8) (vs := [.inl x3]) (st := []) (rO := fun _ => none) (mO := fun z => z) zk_X8_suppose zi_X8_suppose q1004 rfl ⟨by decide, by decide⟩ ⟨rfl, rfl⟩ rfl rfl (Nat.le_of_ble_eq_true rfl) (by decide +kernel) (fun z hz => c_X8_suppose hz) (fun z3 => ?_)
    change Sim l G Y_X8_find lim _ _ 28 [some (.inr (.inr x0)), some (.inr (.inr x1)), some (.inr (.inr x2)), some (.inl x3)] [] z3
    refine s_run (b := [(.aload_n 0, 1), (.aload_n 2, 1)]) 30 [some (.inr (.inr x0)), some (.inr (.inr x1)), some (.inr (.inr x2)), some (.inl x3)] [.inr (.inr x2), .inr (.inr x0)] (by decide +kernel) rfl ?_
    refine s_cV (Z := Y_X8_agrees) (c := 8) (vs := [.inr (.inr x2)]) (st := []) (rO := fun z => some (.inl z.1)) (mO := fun z => z.2) zk_X8_agrees zi_X8_agrees q1008 rfl ⟨by decide, by decide⟩ ⟨rfl, rfl⟩ rfl rfl (Nat.le_of_ble_eq_true rfl) (by decide +kernel) (fun z hz => c_X8_agrees hz) (fun z4 => ?_)
    change Sim l G Y_X8_find lim _ _ 33 [some (.inr (.inr x0)), some (.inr (.inr x1)), some (.inr (.inr x2)), some (.inl x3)] [.inl z4.1] z4.2
    refine s_if_eq (tgt := 56) (off := 23) (by decide +kernel) (by decide) (fun h5 => ?_) (fun h5 => ?_)
    · skip
      refine s_run (b := [(.iinc 3 1, 3), (.goto (-44), 3)]) 15 [some (.inr (.inr x0)), some (.inr (.inr x1)), some (.inr (.inr x2)), some (.inl (x3 + (1 : Int32)))] [] (by decide +kernel) rfl ?_
      exact s_lsub (ls' := [some (.inr (.inr x0)), some (.inr (.inr x1)), some (.inr (.inr x2)), some (.inl (x3 + (1 : Int32)))]) ⟨rfl, ⟨rfl, ⟨rfl, ⟨rfl, trivial⟩⟩⟩⟩ (kk1 (x3 + (1 : Int32)) z4.2)
    · skip
      refine s_run (b := [(.aload_n 0, 1)]) 37 [some (.inr (.inr x0)), some (.inr (.inr x1)), some (.inr (.inr x2)), some (.inl x3)] [.inr (.inr x0)] (by decide +kernel) rfl ?_
      refine s_gR fl_8_9 rfl (by decide +kernel) (fun v6 => ?_)
      refine s_run (b := [(.aload_n 0, 1)]) 41 [some (.inr (.inr x0)), some (.inr (.inr x1)), some (.inr (.inr x2)), some (.inl x3)] [.inr (.inr x0), .inr (.inr v6)] (by decide +kernel) rfl ?_
      refine s_gI fl_8_36 rfl (by decide +kernel) (fun v7 => ?_)
      refine s_run (b := [(.iload_n 3, 1)]) 45 [some (.inr (.inr x0)), some (.inr (.inr x1)), some (.inr (.inr x2)), some (.inl x3)] [.inl x3, .inl v7, .inr (.inr v6)] (by decide +kernel) rfl ?_
      refine s_is (by decide +kernel) (fun M8 => ?_)
      refine s_run (b := [(.aload_n 0, 1), (.dup, 1)]) 48 [some (.inr (.inr x0)), some (.inr (.inr x1)), some (.inr (.inr x2)), some (.inl x3)] [.inr (.inr x0), .inr (.inr x0)] (by decide +kernel) rfl ?_
      refine s_gI fl_8_36 rfl (by decide +kernel) (fun v9 => ?_)
      refine s_run (b := [(.iconst 1, 1), (.iadd, 1)]) 53 [some (.inr (.inr x0)), some (.inr (.inr x1)), some (.inr (.inr x2)), some (.inl x3)] [.inl (v9 + (1 : Int32)), .inr (.inr x0)] (by decide +kernel) rfl ?_
      refine s_pI fl_8_36 (Or.inl rfl) rfl (by decide +kernel) (fun M10 => ?_)
      refine s_run (b := [(.iinc 3 1, 3), (.goto (-44), 3)]) 15 [some (.inr (.inr x0)), some (.inr (.inr x1)), some (.inr (.inr x2)), some (.inl (x3 + (1 : Int32)))] [] (by decide +kernel) rfl ?_
      exact s_lsub (ls' := [some (.inr (.inr x0)), some (.inr (.inr x1)), some (.inr (.inr x2)), some (.inl (x3 + (1 : Int32)))]) ⟨rfl, ⟨rfl, ⟨rfl, ⟨rfl, trivial⟩⟩⟩⟩ (kk1 (x3 + (1 : Int32)) M10)
set_option maxRecDepth 20000 in
theorem L_X8_find_15 {l : Launch} {G : Gv} {lim : Nat × Nat} (M : Mem) (x0 : Nat) (x1 : Nat) (x2 : Nat) (x3 : Int32) (K : ((Mem)) → Option (Option Value × Mem)) (kk2_0 : ∀ r : Mem, SimR l G Y_X8_find lim (K r) 62 [none, none, none, none] [] r) : Sim l G Y_X8_find lim (f_X8_find_L15 M x0 x1 x2 x3) K 15 [some (.inr (.inr x0)), some (.inr (.inr x1)), some (.inr (.inr x2)), some (.inl x3)] [] M :=
  s_iter (f := fun s : Int32 × Mem => f_X8_find_B15 s.2 x0 x1 x2 s.1) (hd := 15) (cl := fun s => [some (.inr (.inr x0)), some (.inr (.inr x1)), some (.inr (.inr x2)), some (.inl s.1)]) (cm := fun s => s.2) (xp := fun _ => 62) (xl := fun r => [none, none, none, none]) (xm := fun r => r) (fun s K h1 h2 => B_X8_find_15 s.2 x0 x1 x2 s.1 K (fun a3 a_ => h1 (a3, a_)) (fun a_ => h2 a_)) 1048576 (x3, M) K kk2_0
def f_X8_find (M : Mem) (x0 : Nat) (x1 : Nat) (x2 : Nat) : Option (Mem) :=
  (gR M 8 x0 2).bind fun v1 =>
  (ob M 5 v1).bind fun _ => (f_X5_copyFrom M v1 x1).bind fun z2 =>
  (pI z2 8 x0 0 (0 : Int32)).bind fun M3 =>
  (f_X8_find_L15 M3 x0 x1 x2 (0 : Int32)).bind fun r4 =>
  some r4
set_option maxRecDepth 20000 in
theorem S_X8_find {l : Launch} {G : Gv} {lim : Nat × Nat} (M : Mem) (x0 : Nat) (x1 : Nat) (x2 : Nat) : Sim l G Y_X8_find lim (f_X8_find M x0 x1 x2) (fun z => some (none, z)) 0 [some (.inr (.inr x0)), some (.inr (.inr x1)), some (.inr (.inr x2)), none] [] M := by
  unfold f_X8_find
  refine s_run (b := [(.aload_n 0, 1)]) 1 [some (.inr (.inr x0)), some (.inr (.inr x1)), some (.inr (.inr x2)), none] [.inr (.inr x0)] (by decide +kernel) rfl ?_
  refine s_gR fl_8_18 rfl (by decide +kernel) (fun v1 => ?_)
  refine s_run (b := [(.aload_n 1, 1)]) 5 [some (.inr (.inr x0)), some (.inr (.inr x1)), some (.inr (.inr x2)), none] [.inr (.inr x1), .inr (.inr v1)] (by decide +kernel) rfl ?_
  refine s_cV (Z := Y_X5_copyFrom) (c := 5) (vs := [.inr (.inr x1)]) (st := []) (rO := fun _ => none) (mO := fun z => z) zk_X5_copyFrom zi_X5_copyFrom q1002 rfl ⟨by decide, by decide⟩ ⟨rfl, rfl⟩ rfl rfl (Nat.le_of_ble_eq_true rfl) (by decide +kernel) (fun z hz => c_X5_copyFrom hz) (fun z2 => ?_)
  change Sim l G Y_X8_find lim _ _ 8 [some (.inr (.inr x0)), some (.inr (.inr x1)), some (.inr (.inr x2)), none] [] z2
  refine s_run (b := [(.aload_n 0, 1), (.iconst 0, 1)]) 10 [some (.inr (.inr x0)), some (.inr (.inr x1)), some (.inr (.inr x2)), none] [.inl (0 : Int32), .inr (.inr x0)] (by decide +kernel) rfl ?_
  refine s_pI fl_8_36 (Or.inl rfl) rfl (by decide +kernel) (fun M3 => ?_)
  refine s_run (b := [(.iconst 0, 1), (.istore_n 3, 1)]) 15 [some (.inr (.inr x0)), some (.inr (.inr x1)), some (.inr (.inr x2)), some (.inl (0 : Int32))] [] (by decide +kernel) rfl ?_
  refine s_lsub (ls' := [some (.inr (.inr x0)), some (.inr (.inr x1)), some (.inr (.inr x2)), some (.inl (0 : Int32))]) ⟨rfl, ⟨rfl, ⟨rfl, ⟨rfl, trivial⟩⟩⟩⟩ ?_
  refine sim_bind (L_X8_find_15 M3 x0 x1 x2 (0 : Int32) _ (fun r4 => ?_))
  change Sim l G Y_X8_find lim _ _ 62 [none, none, none, none] [] r4
  exact s_vret (by decide +kernel) rfl
set_option maxRecDepth 20000 in
theorem c_X8_find {l : Launch} {G : Gv} {M : Mem} {x0 : Nat} {x1 : Nat} {x2 : Nat} {z : Mem} (h : f_X8_find M x0 x1 x2 = some z) : MetS l G Y_X8_find [.inr (.inr x0), .inr (.inr x1), .inr (.inr x2)] M none z :=
  met_of (ls0 := [some (.inr (.inr x0)), some (.inr (.inr x1)), some (.inr (.inr x2)), none]) (by decide) rfl (lv_in (m := 1) rfl) (sl_le (Nat.le_of_ble_eq_true rfl)) (by rw [h]; rfl) (Or.inl ⟨rfl, rfl⟩) (S_X8_find M x0 x1 x2)
def f_X8_smallest_J33 (M : Mem) (x0 : Nat) (x2 : Int32)  : Option ((Int32 × Int32) ⊕ ((Int32))) :=
  (gR M 8 x0 1).bind fun v1 =>
  (aI M 0 v1 x2).bind fun v2 =>
  some (.inl (v2, (x2 + (1 : Int32))))
set_option maxRecDepth 20000 in
theorem J_X8_smallest_33 {l : Launch} {G : Gv} {lim : Nat × Nat} (M : Mem) (x0 : Nat) (x2 : Int32)  (K : (Int32 × Int32) ⊕ ((Int32)) → Option (Option Value × Mem)) (kk1 : ∀ (s1 : Int32) (s2 : Int32), SimR l G Y_X8_smallest lim (K (.inl (s1, s2))) 4 [some (.inr (.inr x0)), some (.inl s1), some (.inl s2)] [] M) (kk2_0 : ∀ (s1 : Int32), SimR l G Y_X8_smallest lim (K (.inr s1)) 46 [none, some (.inl s1), none] [] M) : Sim l G Y_X8_smallest lim (f_X8_smallest_J33 M x0 x2) K 33 [some (.inr (.inr x0)), none, some (.inl x2)] [] M := by
  unfold f_X8_smallest_J33
  refine s_run (b := [(.aload_n 0, 1)]) 34 [some (.inr (.inr x0)), none, some (.inl x2)] [.inr (.inr x0)] (by decide +kernel) rfl ?_
  refine s_gR fl_8_9 rfl (by decide +kernel) (fun v1 => ?_)
  refine s_run (b := [(.iload_n 2, 1)]) 38 [some (.inr (.inr x0)), none, some (.inl x2)] [.inl x2, .inr (.inr v1)] (by decide +kernel) rfl ?_
  refine s_ia (by decide +kernel) (fun v2 => ?_)
  refine s_run (b := [(.istore_n 1, 1), (.iinc 2 1, 3), (.goto (-39), 3)]) 4 [some (.inr (.inr x0)), some (.inl v2), some (.inl (x2 + (1 : Int32)))] [] (by decide +kernel) rfl ?_
  exact s_lsub (ls' := [some (.inr (.inr x0)), some (.inl v2), some (.inl (x2 + (1 : Int32)))]) ⟨rfl, ⟨rfl, ⟨rfl, trivial⟩⟩⟩ (kk1 v2 (x2 + (1 : Int32)))
def f_X8_smallest_B4 (M : Mem) (x0 : Nat) (x1 : Int32) (x2 : Int32) : Option ((Int32 × Int32) ⊕ ((Int32))) :=
  (gI M 8 x0 0).bind fun v1 =>
  (if v1 ≤ x2 then
    some (.inr x1)
  else
    (if x1 = (-1 : Int32) then
      f_X8_smallest_J33 M x0 x2 
    else
      (gR M 8 x0 1).bind fun v4 =>
      (aI M 0 v4 x2).bind fun v5 =>
      (f_J6_bitCount_0f7a4 M v5).bind fun v6 =>
      (f_J6_bitCount_0f7a4 M x1).bind fun v7 =>
      (if v7 ≤ v6 then
        some (.inl (x1, (x2 + (1 : Int32))))
      else
        f_X8_smallest_J33 M x0 x2 )))
def f_X8_smallest_L4 (M : Mem) (x0 : Nat) (x1 : Int32) (x2 : Int32) : Option ((Int32)) := iter (fun s : Int32 × Int32 => f_X8_smallest_B4 M x0 s.1 s.2) 1048576 (x1, x2)
set_option maxRecDepth 20000 in
theorem B_X8_smallest_4 {l : Launch} {G : Gv} {lim : Nat × Nat} (M : Mem) (x0 : Nat) (x1 : Int32) (x2 : Int32) (K : (Int32 × Int32) ⊕ ((Int32)) → Option (Option Value × Mem)) (kk1 : ∀ (s1 : Int32) (s2 : Int32), SimR l G Y_X8_smallest lim (K (.inl (s1, s2))) 4 [some (.inr (.inr x0)), some (.inl s1), some (.inl s2)] [] M) (kk2_0 : ∀ (s1 : Int32), SimR l G Y_X8_smallest lim (K (.inr s1)) 46 [none, some (.inl s1), none] [] M) : Sim l G Y_X8_smallest lim (f_X8_smallest_B4 M x0 x1 x2) K 4 [some (.inr (.inr x0)), some (.inl x1), some (.inl x2)] [] M := by
  unfold f_X8_smallest_B4
  refine s_run (b := [(.iload_n 2, 1), (.aload_n 0, 1)]) 6 [some (.inr (.inr x0)), some (.inl x1), some (.inl x2)] [.inr (.inr x0), .inl x2] (by decide +kernel) rfl ?_
  refine s_gI fl_8_36 rfl (by decide +kernel) (fun v1 => ?_)
  refine s_ic_ge (tgt := 46) (off := 37) (by decide +kernel) (by decide) (fun h2 => ?_) (fun h2 => ?_)
  · skip
    exact s_lsub (ls' := [none, some (.inl x1), none]) ⟨rfl, trivial⟩ (kk2_0 x1)
  · skip
    refine s_run (b := [(.iload_n 1, 1), (.iconst (-1), 1)]) 14 [some (.inr (.inr x0)), some (.inl x1), some (.inl x2)] [.inl (-1 : Int32), .inl x1] (by decide +kernel) rfl ?_
    refine s_ic_eq (tgt := 33) (off := 19) (by decide +kernel) (by decide) (fun h3 => ?_) (fun h3 => ?_)
    · skip
      exact s_lsub (ls' := [some (.inr (.inr x0)), none, some (.inl x2)]) ⟨rfl, ⟨rfl, trivial⟩⟩ (J_X8_smallest_33 M x0 x2  K kk1 kk2_0)
    · skip
      refine s_run (b := [(.aload_n 0, 1)]) 18 [some (.inr (.inr x0)), some (.inl x1), some (.inl x2)] [.inr (.inr x0)] (by decide +kernel) rfl ?_
      refine s_gR fl_8_9 rfl (by decide +kernel) (fun v4 => ?_)
      refine s_run (b := [(.iload_n 2, 1)]) 22 [some (.inr (.inr x0)), some (.inl x1), some (.inl x2)] [.inl x2, .inr (.inr v4)] (by decide +kernel) rfl ?_
      refine s_ia (by decide +kernel) (fun v5 => ?_)
      refine s_cS (Z := Y_J6_bitCount_0f7a4) (vs := [.inl v5]) (st := []) (rO := fun z => some (.inl z)) (mO := fun _ => M) zk_J6_bitCount_0f7a4 q819 q1238 ⟨by decide, by decide⟩ ⟨rfl, rfl⟩ rfl rfl (Nat.le_of_ble_eq_true rfl) (by decide +kernel) (fun z hz => c_J6_bitCount_0f7a4 hz) (fun v6 => ?_)
      change Sim l G Y_X8_smallest lim _ _ 26 [some (.inr (.inr x0)), some (.inl x1), some (.inl x2)] [.inl v6] M
      refine s_run (b := [(.iload_n 1, 1)]) 27 [some (.inr (.inr x0)), some (.inl x1), some (.inl x2)] [.inl x1, .inl v6] (by decide +kernel) rfl ?_
      refine s_cS (Z := Y_J6_bitCount_0f7a4) (vs := [.inl x1]) (st := [.inl v6]) (rO := fun z => some (.inl z)) (mO := fun _ => M) zk_J6_bitCount_0f7a4 q819 q1238 ⟨by decide, by decide⟩ ⟨rfl, rfl⟩ rfl rfl (Nat.le_of_ble_eq_true rfl) (by decide +kernel) (fun z hz => c_J6_bitCount_0f7a4 hz) (fun v7 => ?_)
      change Sim l G Y_X8_smallest lim _ _ 30 [some (.inr (.inr x0)), some (.inl x1), some (.inl x2)] [.inl v7, .inl v6] M
      refine s_ic_ge (tgt := 40) (off := 10) (by decide +kernel) (by decide) (fun h8 => ?_) (fun h8 => ?_)
      · skip
        refine s_run (b := [(.iinc 2 1, 3), (.goto (-39), 3)]) 4 [some (.inr (.inr x0)), some (.inl x1), some (.inl (x2 + (1 : Int32)))] [] (by decide +kernel) rfl ?_
        exact s_lsub (ls' := [some (.inr (.inr x0)), some (.inl x1), some (.inl (x2 + (1 : Int32)))]) ⟨rfl, ⟨rfl, ⟨rfl, trivial⟩⟩⟩ (kk1 x1 (x2 + (1 : Int32)))
      · skip
        exact s_lsub (ls' := [some (.inr (.inr x0)), none, some (.inl x2)]) ⟨rfl, ⟨rfl, trivial⟩⟩ (J_X8_smallest_33 M x0 x2  K kk1 kk2_0)
set_option maxRecDepth 20000 in
theorem L_X8_smallest_4 {l : Launch} {G : Gv} {lim : Nat × Nat} (M : Mem) (x0 : Nat) (x1 : Int32) (x2 : Int32) (K : ((Int32)) → Option (Option Value × Mem)) (kk2_0 : ∀ r : Int32, SimR l G Y_X8_smallest lim (K r) 46 [none, some (.inl r), none] [] M) : Sim l G Y_X8_smallest lim (f_X8_smallest_L4 M x0 x1 x2) K 4 [some (.inr (.inr x0)), some (.inl x1), some (.inl x2)] [] M :=
  s_iter (f := fun s : Int32 × Int32 => f_X8_smallest_B4 M x0 s.1 s.2) (hd := 4) (cl := fun s => [some (.inr (.inr x0)), some (.inl s.1), some (.inl s.2)]) (cm := fun s => M) (xp := fun _ => 46) (xl := fun r => [none, some (.inl r), none]) (xm := fun r => M) (fun s K h1 h2 => B_X8_smallest_4 M x0 s.1 s.2 K (fun a1 a2 => h1 (a1, a2)) (fun a1 => h2 a1)) 1048576 (x1, x2) K kk2_0
def f_X8_smallest (M : Mem) (x0 : Nat) : Option (Int32) :=
  (f_X8_smallest_L4 M x0 (-1 : Int32) (0 : Int32)).bind fun r1 =>
  some r1
set_option maxRecDepth 20000 in
theorem S_X8_smallest {l : Launch} {G : Gv} {lim : Nat × Nat} (M : Mem) (x0 : Nat) : Sim l G Y_X8_smallest lim (f_X8_smallest M x0) (fun z => some (some (.int z), M)) 0 [some (.inr (.inr x0)), none, none] [] M := by
  unfold f_X8_smallest
  refine s_run (b := [(.iconst (-1), 1), (.istore_n 1, 1), (.iconst 0, 1), (.istore_n 2, 1)]) 4 [some (.inr (.inr x0)), some (.inl (-1 : Int32)), some (.inl (0 : Int32))] [] (by decide +kernel) rfl ?_
  refine s_lsub (ls' := [some (.inr (.inr x0)), some (.inl (-1 : Int32)), some (.inl (0 : Int32))]) ⟨rfl, ⟨rfl, ⟨rfl, trivial⟩⟩⟩ ?_
  refine sim_bind (L_X8_smallest_4 M x0 (-1 : Int32) (0 : Int32) _ (fun r1 => ?_))
  change Sim l G Y_X8_smallest lim _ _ 46 [none, some (.inl r1), none] [] M
  refine s_run (b := [(.iload_n 1, 1)]) 47 [none, some (.inl r1), none] [.inl r1] (by decide +kernel) rfl ?_
  exact s_iret (by decide +kernel) rfl
set_option maxRecDepth 20000 in
theorem c_X8_smallest {l : Launch} {G : Gv} {M : Mem} {x0 : Nat} {z : Int32} (h : f_X8_smallest M x0 = some z) : MetS l G Y_X8_smallest [.inr (.inr x0)] M (some (.int z)) M :=
  met_of (ls0 := [some (.inr (.inr x0)), none, none]) (by decide) rfl (lv_in (m := 2) rfl) (sl_le (Nat.le_of_ble_eq_true rfl)) (by rw [h]; rfl) (Or.inl ⟨rfl, rfl⟩) (S_X8_smallest M x0)
def f_X9_logAt (M : Mem) (x0 : Nat) (x1 : Int32) : Option (Nat) :=
  (if x1 < 0 then
    some 0
  else
    (gR M 9 x0 4).bind fun v2 =>
    (aI M 0 v2 (2 : Int32)).bind fun v3 =>
    (if v3 ≤ x1 then
      some 0
    else
      (gR M 9 x0 7).bind fun v5 =>
      (aR M 7 v5 x1).bind fun v6 =>
      some v6))
set_option maxRecDepth 20000 in
theorem S_X9_logAt {l : Launch} {G : Gv} {lim : Nat × Nat} (M : Mem) (x0 : Nat) (x1 : Int32) : Sim l G Y_X9_logAt lim (f_X9_logAt M x0 x1) (fun z => some (some (rv G z), M)) 0 [some (.inr (.inr x0)), some (.inl x1)] [] M := by
  unfold f_X9_logAt
  refine s_run (b := [(.iload_n 1, 1)]) 1 [some (.inr (.inr x0)), some (.inl x1)] [.inl x1] (by decide +kernel) rfl ?_
  refine s_if_lt (tgt := 23) (off := 22) (by decide +kernel) (by decide) (fun h1 => ?_) (fun h1 => ?_)
  · skip
    refine s_run (b := [(.aconst_null, 1)]) 24 [some (.inr (.inr x0)), some (.inl x1)] [.inr (.inr 0)] (by decide +kernel) rfl ?_
    exact s_aret (by decide +kernel) rfl (Or.inl ⟨_, rfl⟩)
  · skip
    refine s_run (b := [(.iload_n 1, 1), (.aload_n 0, 1)]) 6 [some (.inr (.inr x0)), some (.inl x1)] [.inr (.inr x0), .inl x1] (by decide +kernel) rfl ?_
    refine s_gR fl_9_19 rfl (by decide +kernel) (fun v2 => ?_)
    refine s_run (b := [(.iconst 2, 1)]) 10 [some (.inr (.inr x0)), some (.inl x1)] [.inl (2 : Int32), .inr (.inr v2), .inl x1] (by decide +kernel) rfl ?_
    refine s_ia (by decide +kernel) (fun v3 => ?_)
    refine s_ic_ge (tgt := 23) (off := 12) (by decide +kernel) (by decide) (fun h4 => ?_) (fun h4 => ?_)
    · skip
      refine s_run (b := [(.aconst_null, 1)]) 24 [some (.inr (.inr x0)), some (.inl x1)] [.inr (.inr 0)] (by decide +kernel) rfl ?_
      exact s_aret (by decide +kernel) rfl (Or.inl ⟨_, rfl⟩)
    · skip
      refine s_run (b := [(.aload_n 0, 1)]) 15 [some (.inr (.inr x0)), some (.inl x1)] [.inr (.inr x0)] (by decide +kernel) rfl ?_
      refine s_gR fl_9_37 rfl (by decide +kernel) (fun v5 => ?_)
      refine s_run (b := [(.iload_n 1, 1)]) 19 [some (.inr (.inr x0)), some (.inl x1)] [.inl x1, .inr (.inr v5)] (by decide +kernel) rfl ?_
      refine s_aa ⟨by decide, by decide⟩ rfl (by decide +kernel) (fun v6 => ?_)
      refine s_run (b := [(.goto 4, 3)]) 24 [some (.inr (.inr x0)), some (.inl x1)] [.inr (.inr v6)] (by decide +kernel) rfl ?_
      exact s_aret (by decide +kernel) rfl (Or.inl ⟨_, rfl⟩)
set_option maxRecDepth 20000 in
theorem c_X9_logAt {l : Launch} {G : Gv} {M : Mem} {x0 : Nat} {x1 : Int32} {z : Nat} (h : f_X9_logAt M x0 x1 = some z) : MetS l G Y_X9_logAt [.inr (.inr x0), .inl x1] M (some (rv G z)) M :=
  met_of (ls0 := [some (.inr (.inr x0)), some (.inl x1)]) (by decide) rfl (lv_in (m := 0) rfl) (sl_le (Nat.le_of_ble_eq_true rfl)) (by rw [h]; rfl) (Or.inl ⟨rfl, rfl⟩) (S_X9_logAt M x0 x1)
def f_X11_blame (M : Mem) (x0 : Nat) (x1 : Int32) (x2 : Int32) (x3 : Int32) : Option (Int32 × Mem) :=
  (gR M 11 x0 0).bind fun v1 =>
  (ob M 9 v1).bind fun _ => (f_X9_officeAt M v1 x1).bind fun v2 =>
  (gR M 11 x0 0).bind fun v3 =>
  (ob M 9 v3).bind fun _ => (f_X9_logAt M v3 x2).bind fun v4 =>
  (if v2 = 0 then
    some ((-2 : Int32), M)
  else
    (if v4 = 0 then
      some ((-2 : Int32), M)
    else
      (ob M 4 v4).bind fun _ => (f_X4_tellsOnlyOf M v4 v2).bind fun v7 =>
      (if v7 = 0 then
        some ((-2 : Int32), M)
      else
        (gR M 11 x0 8).bind fun v9 =>
        (ob M 8 v9).bind fun _ => (f_X8_find M v9 v2 v4).bind fun z10 =>
        (gR z10 11 x0 8).bind fun v11 =>
        (ob z10 8 v11).bind fun _ => (f_X8_smallest z10 v11).bind fun v12 =>
        (if x3 = 0 then
          (if v12 = (-1 : Int32) then
            some (v12, z10)
          else
            (f_J6_bitCount_0f7a4 z10 v12).bind fun v15 =>
            some (v15, z10))
        else
          some (v12, z10)))))
set_option maxRecDepth 20000 in
theorem S_X11_blame {l : Launch} {G : Gv} {lim : Nat × Nat} (M : Mem) (x0 : Nat) (x1 : Int32) (x2 : Int32) (x3 : Int32) : Sim l G Y_X11_blame lim (f_X11_blame M x0 x1 x2 x3) (fun z => some (some (.int z.1), z.2)) 0 [some (.inr (.inr x0)), some (.inl x1), some (.inl x2), some (.inl x3), none, none, none] [] M := by
  unfold f_X11_blame
  refine s_run (b := [(.aload_n 0, 1)]) 1 [some (.inr (.inr x0)), some (.inl x1), some (.inl x2), some (.inl x3), none, none, none] [.inr (.inr x0)] (by decide +kernel) rfl ?_
  refine s_gR fl_11_10 rfl (by decide +kernel) (fun v1 => ?_)
  refine s_run (b := [(.iload_n 1, 1)]) 5 [some (.inr (.inr x0)), some (.inl x1), some (.inl x2), some (.inl x3), none, none, none] [.inl x1, .inr (.inr v1)] (by decide +kernel) rfl ?_
  refine s_cV (Z := Y_X9_officeAt) (c := 9) (vs := [.inl x1]) (st := []) (rO := fun z => some (.inr (.inr z))) (mO := fun _ => M) zk_X9_officeAt zi_X9_officeAt q716 rfl ⟨by decide, by decide⟩ ⟨rfl, rfl⟩ rfl rfl (Nat.le_of_ble_eq_true rfl) (by decide +kernel) (fun z hz => c_X9_officeAt hz) (fun v2 => ?_)
  change Sim l G Y_X11_blame lim _ _ 8 [some (.inr (.inr x0)), some (.inl x1), some (.inl x2), some (.inl x3), none, none, none] [.inr (.inr v2)] M
  refine s_run (b := [(.astore 4, 2), (.aload_n 0, 1)]) 11 [some (.inr (.inr x0)), some (.inl x1), some (.inl x2), some (.inl x3), some (.inr (.inr v2)), none, none] [.inr (.inr x0)] (by decide +kernel) rfl ?_
  refine s_gR fl_11_10 rfl (by decide +kernel) (fun v3 => ?_)
  refine s_run (b := [(.iload_n 2, 1)]) 15 [some (.inr (.inr x0)), some (.inl x1), some (.inl x2), some (.inl x3), some (.inr (.inr v2)), none, none] [.inl x2, .inr (.inr v3)] (by decide +kernel) rfl ?_
  refine s_cV (Z := Y_X9_logAt) (c := 9) (vs := [.inl x2]) (st := []) (rO := fun z => some (.inr (.inr z))) (mO := fun _ => M) zk_X9_logAt zi_X9_logAt q981 rfl ⟨by decide, by decide⟩ ⟨rfl, rfl⟩ rfl rfl (Nat.le_of_ble_eq_true rfl) (by decide +kernel) (fun z hz => c_X9_logAt hz) (fun v4 => ?_)
  change Sim l G Y_X11_blame lim _ _ 18 [some (.inr (.inr x0)), some (.inl x1), some (.inl x2), some (.inl x3), some (.inr (.inr v2)), none, none] [.inr (.inr v4)] M
  refine s_run (b := [(.astore 5, 2), (.aload 4, 2)]) 22 [some (.inr (.inr x0)), some (.inl x1), some (.inl x2), some (.inl x3), some (.inr (.inr v2)), some (.inr (.inr v4)), none] [.inr (.inr v2)] (by decide +kernel) rfl ?_
  refine s_ifnull (tgt := 40) (off := 18) (by decide +kernel) (by decide) (fun h5 => ?_) (fun h5 => ?_)
  · skip
    refine s_run (b := [(.bipush (-2), 2)]) 42 [some (.inr (.inr x0)), some (.inl x1), some (.inl x2), some (.inl x3), some (.inr (.inr v2)), some (.inr (.inr v4)), none] [.inl (-2 : Int32)] (by decide +kernel) rfl ?_
    exact s_iret (by decide +kernel) rfl
  · skip
    refine s_run (b := [(.aload 5, 2)]) 27 [some (.inr (.inr x0)), some (.inl x1), some (.inl x2), some (.inl x3), some (.inr (.inr v2)), some (.inr (.inr v4)), none] [.inr (.inr v4)] (by decide +kernel) rfl ?_
    refine s_ifnull (tgt := 40) (off := 13) (by decide +kernel) (by decide) (fun h6 => ?_) (fun h6 => ?_)
    · skip
      refine s_run (b := [(.bipush (-2), 2)]) 42 [some (.inr (.inr x0)), some (.inl x1), some (.inl x2), some (.inl x3), some (.inr (.inr v2)), some (.inr (.inr v4)), none] [.inl (-2 : Int32)] (by decide +kernel) rfl ?_
      exact s_iret (by decide +kernel) rfl
    · skip
      refine s_run (b := [(.aload 5, 2), (.aload 4, 2)]) 34 [some (.inr (.inr x0)), some (.inl x1), some (.inl x2), some (.inl x3), some (.inr (.inr v2)), some (.inr (.inr v4)), none] [.inr (.inr v2), .inr (.inr v4)] (by decide +kernel) rfl ?_
      refine s_cV (Z := Y_X4_tellsOnlyOf) (c := 4) (vs := [.inr (.inr v2)]) (st := []) (rO := fun z => some (.inl z)) (mO := fun _ => M) zk_X4_tellsOnlyOf zi_X4_tellsOnlyOf q993 rfl ⟨by decide, by decide⟩ ⟨rfl, rfl⟩ rfl rfl (Nat.le_of_ble_eq_true rfl) (by decide +kernel) (fun z hz => c_X4_tellsOnlyOf hz) (fun v7 => ?_)
      change Sim l G Y_X11_blame lim _ _ 37 [some (.inr (.inr x0)), some (.inl x1), some (.inl x2), some (.inl x3), some (.inr (.inr v2)), some (.inr (.inr v4)), none] [.inl v7] M
      refine s_if_ne (tgt := 43) (off := 6) (by decide +kernel) (by decide) (fun h8 => ?_) (fun h8 => ?_)
      · skip
        refine s_run (b := [(.bipush (-2), 2)]) 42 [some (.inr (.inr x0)), some (.inl x1), some (.inl x2), some (.inl x3), some (.inr (.inr v2)), some (.inr (.inr v4)), none] [.inl (-2 : Int32)] (by decide +kernel) rfl ?_
        exact s_iret (by decide +kernel) rfl
      · skip
        refine s_run (b := [(.aload_n 0, 1)]) 44 [some (.inr (.inr x0)), some (.inl x1), some (.inl x2), some (.inl x3), some (.inr (.inr v2)), some (.inr (.inr v4)), none] [.inr (.inr x0)] (by decide +kernel) rfl ?_
        refine s_gR fl_11_62 rfl (by decide +kernel) (fun v9 => ?_)
        refine s_run (b := [(.aload 4, 2), (.aload 5, 2)]) 51 [some (.inr (.inr x0)), some (.inl x1), some (.inl x2), some (.inl x3), some (.inr (.inr v2)), some (.inr (.inr v4)), none] [.inr (.inr v4), .inr (.inr v2), .inr (.inr v9)] (by decide +kernel) rfl ?_
        refine s_cV (Z := Y_X8_find) (c := 8) (vs := [.inr (.inr v2), .inr (.inr v4)]) (st := []) (rO := fun _ => none) (mO := fun z => z) zk_X8_find zi_X8_find q998 rfl ⟨by decide, by decide⟩ ⟨rfl, rfl⟩ rfl rfl (Nat.le_of_ble_eq_true rfl) (by decide +kernel) (fun z hz => c_X8_find hz) (fun z10 => ?_)
        change Sim l G Y_X11_blame lim _ _ 54 [some (.inr (.inr x0)), some (.inl x1), some (.inl x2), some (.inl x3), some (.inr (.inr v2)), some (.inr (.inr v4)), none] [] z10
        refine s_run (b := [(.aload_n 0, 1)]) 55 [some (.inr (.inr x0)), some (.inl x1), some (.inl x2), some (.inl x3), some (.inr (.inr v2)), some (.inr (.inr v4)), none] [.inr (.inr x0)] (by decide +kernel) rfl ?_
        refine s_gR fl_11_62 rfl (by decide +kernel) (fun v11 => ?_)
        refine s_cV (Z := Y_X8_smallest) (c := 8) (vs := []) (st := []) (rO := fun z => some (.inl z)) (mO := fun _ => z10) zk_X8_smallest zi_X8_smallest q1234 rfl ⟨by decide, by decide⟩ ⟨rfl, rfl⟩ rfl rfl (Nat.le_of_ble_eq_true rfl) (by decide +kernel) (fun z hz => c_X8_smallest hz) (fun v12 => ?_)
        change Sim l G Y_X11_blame lim _ _ 61 [some (.inr (.inr x0)), some (.inl x1), some (.inl x2), some (.inl x3), some (.inr (.inr v2)), some (.inr (.inr v4)), none] [.inl v12] z10
        refine s_run (b := [(.istore 6, 2), (.iload_n 3, 1)]) 64 [some (.inr (.inr x0)), some (.inl x1), some (.inl x2), some (.inl x3), some (.inr (.inr v2)), some (.inr (.inr v4)), some (.inl v12)] [.inl x3] (by decide +kernel) rfl ?_
        refine s_if_ne (tgt := 73) (off := 9) (by decide +kernel) (by decide) (fun h13 => ?_) (fun h13 => ?_)
        · skip
          refine s_run (b := [(.iload 6, 2), (.iconst (-1), 1)]) 70 [some (.inr (.inr x0)), some (.inl x1), some (.inl x2), some (.inl x3), some (.inr (.inr v2)), some (.inr (.inr v4)), some (.inl v12)] [.inl (-1 : Int32), .inl v12] (by decide +kernel) rfl ?_
          refine s_ic_ne (tgt := 78) (off := 8) (by decide +kernel) (by decide) (fun h14 => ?_) (fun h14 => ?_)
          · skip
            refine s_run (b := [(.iload 6, 2), (.goto 8, 3)]) 83 [some (.inr (.inr x0)), some (.inl x1), some (.inl x2), some (.inl x3), some (.inr (.inr v2)), some (.inr (.inr v4)), some (.inl v12)] [.inl v12] (by decide +kernel) rfl ?_
            exact s_iret (by decide +kernel) rfl
          · skip
            refine s_run (b := [(.iload 6, 2)]) 80 [some (.inr (.inr x0)), some (.inl x1), some (.inl x2), some (.inl x3), some (.inr (.inr v2)), some (.inr (.inr v4)), some (.inl v12)] [.inl v12] (by decide +kernel) rfl ?_
            refine s_cS (Z := Y_J6_bitCount_0f7a4) (vs := [.inl v12]) (st := []) (rO := fun z => some (.inl z)) (mO := fun _ => z10) zk_J6_bitCount_0f7a4 q819 q1093 ⟨by decide, by decide⟩ ⟨rfl, rfl⟩ rfl rfl (Nat.le_of_ble_eq_true rfl) (by decide +kernel) (fun z hz => c_J6_bitCount_0f7a4 hz) (fun v15 => ?_)
            change Sim l G Y_X11_blame lim _ _ 83 [some (.inr (.inr x0)), some (.inl x1), some (.inl x2), some (.inl x3), some (.inr (.inr v2)), some (.inr (.inr v4)), some (.inl v12)] [.inl v15] z10
            exact s_iret (by decide +kernel) rfl
        · skip
          refine s_run (b := [(.iload 6, 2), (.goto 8, 3)]) 83 [some (.inr (.inr x0)), some (.inl x1), some (.inl x2), some (.inl x3), some (.inr (.inr v2)), some (.inr (.inr v4)), some (.inl v12)] [.inl v12] (by decide +kernel) rfl ?_
          exact s_iret (by decide +kernel) rfl
set_option maxRecDepth 20000 in
theorem c_X11_blame {l : Launch} {G : Gv} {M : Mem} {x0 : Nat} {x1 : Int32} {x2 : Int32} {x3 : Int32} {z : Int32 × Mem} (h : f_X11_blame M x0 x1 x2 x3 = some z) : MetS l G Y_X11_blame [.inr (.inr x0), .inl x1, .inl x2, .inl x3] M (some (.int z.1)) z.2 :=
  met_of (ls0 := [some (.inr (.inr x0)), some (.inl x1), some (.inl x2), some (.inl x3), none, none, none]) (by decide) rfl (lv_in (m := 3) rfl) (sl_le (Nat.le_of_ble_eq_true rfl)) (by rw [h]; rfl) (Or.inl ⟨rfl, rfl⟩) (S_X11_blame M x0 x1 x2 x3)
def f_X5_wayToCalls_B4 (M : Mem) (x0 : Nat) (x1 : Int32) (x2 : Int32) (x3 : Int32) : Option ((Int32 × Int32) ⊕ ((Int32))) :=
  (gI M 5 x0 1).bind fun v1 =>
  (if v1 ≤ x3 then
    some (.inr x2)
  else
    (gR M 5 x0 6).bind fun v3 =>
    (gR M 5 x0 10).bind fun v4 =>
    (aI M 0 v4 x3).bind fun v5 =>
    (aI M 0 v3 v5).bind fun v6 =>
    some (.inl ((x2 + (iabs (v6 - x1))), (x3 + (1 : Int32)))))
def f_X5_wayToCalls_L4 (M : Mem) (x0 : Nat) (x1 : Int32) (x2 : Int32) (x3 : Int32) : Option ((Int32)) := iter (fun s : Int32 × Int32 => f_X5_wayToCalls_B4 M x0 x1 s.1 s.2) 1048576 (x2, x3)
set_option maxRecDepth 20000 in
theorem B_X5_wayToCalls_4 {l : Launch} {G : Gv} {lim : Nat × Nat} (M : Mem) (x0 : Nat) (x1 : Int32) (x2 : Int32) (x3 : Int32) (K : (Int32 × Int32) ⊕ ((Int32)) → Option (Option Value × Mem)) (kk1 : ∀ (s2 : Int32) (s3 : Int32), SimR l G Y_X5_wayToCalls lim (K (.inl (s2, s3))) 4 [some (.inr (.inr x0)), some (.inl x1), some (.inl s2), some (.inl s3)] [] M) (kk2_0 : ∀ (s2 : Int32), SimR l G Y_X5_wayToCalls lim (K (.inr s2)) 37 [none, none, some (.inl s2), none] [] M) : Sim l G Y_X5_wayToCalls lim (f_X5_wayToCalls_B4 M x0 x1 x2 x3) K 4 [some (.inr (.inr x0)), some (.inl x1), some (.inl x2), some (.inl x3)] [] M := by
  unfold f_X5_wayToCalls_B4
  refine s_run (b := [(.iload_n 3, 1), (.aload_n 0, 1)]) 6 [some (.inr (.inr x0)), some (.inl x1), some (.inl x2), some (.inl x3)] [.inr (.inr x0), .inl x3] (by decide +kernel) rfl ?_
  refine s_gI fl_5_49 rfl (by decide +kernel) (fun v1 => ?_)
  refine s_ic_ge (tgt := 37) (off := 28) (by decide +kernel) (by decide) (fun h2 => ?_) (fun h2 => ?_)
  · skip
    exact s_lsub (ls' := [none, none, some (.inl x2), none]) ⟨rfl, trivial⟩ (kk2_0 x2)
  · skip
    refine s_run (b := [(.iload_n 2, 1), (.aload_n 0, 1)]) 14 [some (.inr (.inr x0)), some (.inl x1), some (.inl x2), some (.inl x3)] [.inr (.inr x0), .inl x2] (by decide +kernel) rfl ?_
    refine s_gR fl_5_15 rfl (by decide +kernel) (fun v3 => ?_)
    refine s_run (b := [(.aload_n 0, 1)]) 18 [some (.inr (.inr x0)), some (.inl x1), some (.inl x2), some (.inl x3)] [.inr (.inr x0), .inr (.inr v3), .inl x2] (by decide +kernel) rfl ?_
    refine s_gR fl_5_27 rfl (by decide +kernel) (fun v4 => ?_)
    refine s_run (b := [(.iload_n 3, 1)]) 22 [some (.inr (.inr x0)), some (.inl x1), some (.inl x2), some (.inl x3)] [.inl x3, .inr (.inr v4), .inr (.inr v3), .inl x2] (by decide +kernel) rfl ?_
    refine s_ia (by decide +kernel) (fun v5 => ?_)
    refine s_ia (by decide +kernel) (fun v6 => ?_)
    refine s_run (b := [(.iload_n 1, 1), (.isub, 1)]) 26 [some (.inr (.inr x0)), some (.inl x1), some (.inl x2), some (.inl x3)] [.inl (v6 - x1), .inl x2] (by decide +kernel) rfl ?_
    refine s_iabs q673 ⟨Nat.le_of_ble_eq_true rfl, Nat.le_of_ble_eq_true rfl⟩ (by decide +kernel) ?_
    change Sim l G Y_X5_wayToCalls lim _ _ 29 [some (.inr (.inr x0)), some (.inl x1), some (.inl x2), some (.inl x3)] [.inl (iabs (v6 - x1)), .inl x2] M
    refine s_run (b := [(.iadd, 1), (.istore_n 2, 1), (.iinc 3 1, 3), (.goto (-30), 3)]) 4 [some (.inr (.inr x0)), some (.inl x1), some (.inl (x2 + (iabs (v6 - x1)))), some (.inl (x3 + (1 : Int32)))] [] (by decide +kernel) rfl ?_
    exact s_lsub (ls' := [some (.inr (.inr x0)), some (.inl x1), some (.inl (x2 + (iabs (v6 - x1)))), some (.inl (x3 + (1 : Int32)))]) ⟨rfl, ⟨rfl, ⟨rfl, ⟨rfl, trivial⟩⟩⟩⟩ (kk1 (x2 + (iabs (v6 - x1))) (x3 + (1 : Int32)))
set_option maxRecDepth 20000 in
theorem L_X5_wayToCalls_4 {l : Launch} {G : Gv} {lim : Nat × Nat} (M : Mem) (x0 : Nat) (x1 : Int32) (x2 : Int32) (x3 : Int32) (K : ((Int32)) → Option (Option Value × Mem)) (kk2_0 : ∀ r : Int32, SimR l G Y_X5_wayToCalls lim (K r) 37 [none, none, some (.inl r), none] [] M) : Sim l G Y_X5_wayToCalls lim (f_X5_wayToCalls_L4 M x0 x1 x2 x3) K 4 [some (.inr (.inr x0)), some (.inl x1), some (.inl x2), some (.inl x3)] [] M :=
  s_iter (f := fun s : Int32 × Int32 => f_X5_wayToCalls_B4 M x0 x1 s.1 s.2) (hd := 4) (cl := fun s => [some (.inr (.inr x0)), some (.inl x1), some (.inl s.1), some (.inl s.2)]) (cm := fun s => M) (xp := fun _ => 37) (xl := fun r => [none, none, some (.inl r), none]) (xm := fun r => M) (fun s K h1 h2 => B_X5_wayToCalls_4 M x0 x1 s.1 s.2 K (fun a2 a3 => h1 (a2, a3)) (fun a2 => h2 a2)) 1048576 (x2, x3) K kk2_0
def f_X5_wayToCalls (M : Mem) (x0 : Nat) (x1 : Int32) : Option (Int32) :=
  (f_X5_wayToCalls_L4 M x0 x1 (0 : Int32) (0 : Int32)).bind fun r1 =>
  some r1
set_option maxRecDepth 20000 in
theorem S_X5_wayToCalls {l : Launch} {G : Gv} {lim : Nat × Nat} (M : Mem) (x0 : Nat) (x1 : Int32) : Sim l G Y_X5_wayToCalls lim (f_X5_wayToCalls M x0 x1) (fun z => some (some (.int z), M)) 0 [some (.inr (.inr x0)), some (.inl x1), none, none] [] M := by
  unfold f_X5_wayToCalls
  refine s_run (b := [(.iconst 0, 1), (.istore_n 2, 1), (.iconst 0, 1), (.istore_n 3, 1)]) 4 [some (.inr (.inr x0)), some (.inl x1), some (.inl (0 : Int32)), some (.inl (0 : Int32))] [] (by decide +kernel) rfl ?_
  refine s_lsub (ls' := [some (.inr (.inr x0)), some (.inl x1), some (.inl (0 : Int32)), some (.inl (0 : Int32))]) ⟨rfl, ⟨rfl, ⟨rfl, ⟨rfl, trivial⟩⟩⟩⟩ ?_
  refine sim_bind (L_X5_wayToCalls_4 M x0 x1 (0 : Int32) (0 : Int32) _ (fun r1 => ?_))
  change Sim l G Y_X5_wayToCalls lim _ _ 37 [none, none, some (.inl r1), none] [] M
  refine s_run (b := [(.iload_n 2, 1)]) 38 [none, none, some (.inl r1), none] [.inl r1] (by decide +kernel) rfl ?_
  exact s_iret (by decide +kernel) rfl
set_option maxRecDepth 20000 in
theorem c_X5_wayToCalls {l : Launch} {G : Gv} {M : Mem} {x0 : Nat} {x1 : Int32} {z : Int32} (h : f_X5_wayToCalls M x0 x1 = some z) : MetS l G Y_X5_wayToCalls [.inr (.inr x0), .inl x1] M (some (.int z)) M :=
  met_of (ls0 := [some (.inr (.inr x0)), some (.inl x1), none, none]) (by decide) rfl (lv_in (m := 2) rfl) (sl_le (Nat.le_of_ble_eq_true rfl)) (by rw [h]; rfl) (Or.inl ⟨rfl, rfl⟩) (S_X5_wayToCalls M x0 x1)
