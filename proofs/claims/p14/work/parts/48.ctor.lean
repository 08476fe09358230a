/-! the constructors: what each makes (by program) -/
def m_P_init : MethodName × ByteArray × Nat × Option FieldType × Nat × Nat := (⟨"PointMaps", "<init>", "()V"⟩, prog_1_method_1_code, 1, none, 3, 68)
abbrev b_P_init : ByteArray := prog_1_method_1_code
theorem d_P_init_0 : Dc b_P_init 0 (.aload_n 0) 1 1 := ⟨by decide +kernel, rfl⟩
theorem d_P_init_1 : Dc b_P_init 1 (.invokespecial 1) 3 4 := ⟨by decide +kernel, rfl⟩
theorem d_P_init_4 : Dc b_P_init 4 (.aload_n 0) 1 5 := ⟨by decide +kernel, rfl⟩
theorem d_P_init_5 : Dc b_P_init 5 (.new 7) 3 8 := ⟨by decide +kernel, rfl⟩
theorem d_P_init_8 : Dc b_P_init 8 (.dup) 1 9 := ⟨by decide +kernel, rfl⟩
theorem d_P_init_9 : Dc b_P_init 9 (.invokespecial 9) 3 12 := ⟨by decide +kernel, rfl⟩
theorem d_P_init_12 : Dc b_P_init 12 (.putfield 10) 3 15 := ⟨by decide +kernel, rfl⟩
theorem d_P_init_15 : Dc b_P_init 15 (.aload_n 0) 1 16 := ⟨by decide +kernel, rfl⟩
theorem d_P_init_16 : Dc b_P_init 16 (.new 16) 3 19 := ⟨by decide +kernel, rfl⟩
theorem d_P_init_19 : Dc b_P_init 19 (.dup) 1 20 := ⟨by decide +kernel, rfl⟩
theorem d_P_init_20 : Dc b_P_init 20 (.aload_n 0) 1 21 := ⟨by decide +kernel, rfl⟩
theorem d_P_init_21 : Dc b_P_init 21 (.getfield 10) 3 24 := ⟨by decide +kernel, rfl⟩
theorem d_P_init_24 : Dc b_P_init 24 (.invokespecial 18) 3 27 := ⟨by decide +kernel, rfl⟩
theorem d_P_init_27 : Dc b_P_init 27 (.putfield 21) 3 30 := ⟨by decide +kernel, rfl⟩
theorem d_P_init_30 : Dc b_P_init 30 (.aload_n 0) 1 31 := ⟨by decide +kernel, rfl⟩
theorem d_P_init_31 : Dc b_P_init 31 (.new 25) 3 34 := ⟨by decide +kernel, rfl⟩
theorem d_P_init_34 : Dc b_P_init 34 (.dup) 1 35 := ⟨by decide +kernel, rfl⟩
theorem d_P_init_35 : Dc b_P_init 35 (.aload_n 0) 1 36 := ⟨by decide +kernel, rfl⟩
theorem d_P_init_36 : Dc b_P_init 36 (.getfield 10) 3 39 := ⟨by decide +kernel, rfl⟩
theorem d_P_init_39 : Dc b_P_init 39 (.aload_n 0) 1 40 := ⟨by decide +kernel, rfl⟩
theorem d_P_init_40 : Dc b_P_init 40 (.getfield 21) 3 43 := ⟨by decide +kernel, rfl⟩
theorem d_P_init_43 : Dc b_P_init 43 (.invokespecial 27) 3 46 := ⟨by decide +kernel, rfl⟩
theorem d_P_init_46 : Dc b_P_init 46 (.putfield 30) 3 49 := ⟨by decide +kernel, rfl⟩
theorem d_P_init_49 : Dc b_P_init 49 (.aload_n 0) 1 50 := ⟨by decide +kernel, rfl⟩
theorem d_P_init_50 : Dc b_P_init 50 (.new 34) 3 53 := ⟨by decide +kernel, rfl⟩
theorem d_P_init_53 : Dc b_P_init 53 (.dup) 1 54 := ⟨by decide +kernel, rfl⟩
theorem d_P_init_54 : Dc b_P_init 54 (.aload_n 0) 1 55 := ⟨by decide +kernel, rfl⟩
theorem d_P_init_55 : Dc b_P_init 55 (.getfield 10) 3 58 := ⟨by decide +kernel, rfl⟩
theorem d_P_init_58 : Dc b_P_init 58 (.invokespecial 36) 3 61 := ⟨by decide +kernel, rfl⟩
theorem d_P_init_61 : Dc b_P_init 61 (.putfield 37) 3 64 := ⟨by decide +kernel, rfl⟩
theorem d_P_init_64 : Dc b_P_init 64 (.aload_n 0) 1 65 := ⟨by decide +kernel, rfl⟩
theorem d_P_init_65 : Dc b_P_init 65 (.new 41) 3 68 := ⟨by decide +kernel, rfl⟩
theorem d_P_init_68 : Dc b_P_init 68 (.dup) 1 69 := ⟨by decide +kernel, rfl⟩
theorem d_P_init_69 : Dc b_P_init 69 (.aload_n 0) 1 70 := ⟨by decide +kernel, rfl⟩
theorem d_P_init_70 : Dc b_P_init 70 (.getfield 10) 3 73 := ⟨by decide +kernel, rfl⟩
theorem d_P_init_73 : Dc b_P_init 73 (.iconst 0) 1 74 := ⟨by decide +kernel, rfl⟩
theorem d_P_init_74 : Dc b_P_init 74 (.invokespecial 43) 3 77 := ⟨by decide +kernel, rfl⟩
theorem d_P_init_77 : Dc b_P_init 77 (.putfield 46) 3 80 := ⟨by decide +kernel, rfl⟩
theorem d_P_init_80 : Dc b_P_init 80 (.aload_n 0) 1 81 := ⟨by decide +kernel, rfl⟩
theorem d_P_init_81 : Dc b_P_init 81 (.new 41) 3 84 := ⟨by decide +kernel, rfl⟩
theorem d_P_init_84 : Dc b_P_init 84 (.dup) 1 85 := ⟨by decide +kernel, rfl⟩
theorem d_P_init_85 : Dc b_P_init 85 (.aload_n 0) 1 86 := ⟨by decide +kernel, rfl⟩
theorem d_P_init_86 : Dc b_P_init 86 (.getfield 10) 3 89 := ⟨by decide +kernel, rfl⟩
theorem d_P_init_89 : Dc b_P_init 89 (.iconst 1) 1 90 := ⟨by decide +kernel, rfl⟩
theorem d_P_init_90 : Dc b_P_init 90 (.invokespecial 43) 3 93 := ⟨by decide +kernel, rfl⟩
theorem d_P_init_93 : Dc b_P_init 93 (.putfield 50) 3 96 := ⟨by decide +kernel, rfl⟩
theorem d_P_init_96 : Dc b_P_init 96 (.aload_n 0) 1 97 := ⟨by decide +kernel, rfl⟩
theorem d_P_init_97 : Dc b_P_init 97 (.new 53) 3 100 := ⟨by decide +kernel, rfl⟩
theorem d_P_init_100 : Dc b_P_init 100 (.dup) 1 101 := ⟨by decide +kernel, rfl⟩
theorem d_P_init_101 : Dc b_P_init 101 (.aload_n 0) 1 102 := ⟨by decide +kernel, rfl⟩
theorem d_P_init_102 : Dc b_P_init 102 (.getfield 10) 3 105 := ⟨by decide +kernel, rfl⟩
theorem d_P_init_105 : Dc b_P_init 105 (.aload_n 0) 1 106 := ⟨by decide +kernel, rfl⟩
theorem d_P_init_106 : Dc b_P_init 106 (.getfield 21) 3 109 := ⟨by decide +kernel, rfl⟩
theorem d_P_init_109 : Dc b_P_init 109 (.aload_n 0) 1 110 := ⟨by decide +kernel, rfl⟩
theorem d_P_init_110 : Dc b_P_init 110 (.getfield 37) 3 113 := ⟨by decide +kernel, rfl⟩
theorem d_P_init_113 : Dc b_P_init 113 (.invokespecial 55) 3 116 := ⟨by decide +kernel, rfl⟩
theorem d_P_init_116 : Dc b_P_init 116 (.putfield 58) 3 119 := ⟨by decide +kernel, rfl⟩
theorem d_P_init_119 : Dc b_P_init 119 (.return_) 1 120 := ⟨by decide +kernel, rfl⟩
theorem df_L : ∀ j, j < 4 → defaultValue (fy_L j) = vp_V (([(2, 2), (0, 0), (0, 0), (0, 0)] : List (Nat × Nat)).map cn_df) j := fun j hj => match j, hj with
  | 0, _ => rfl
  | 1, _ => rfl
  | 2, _ => rfl
  | 3, _ => rfl
  | k + 4, h => absurd h (by omega)
def m_L_init : MethodName × ByteArray × Nat × Option FieldType × Nat × Nat := (⟨"PointMaps$Letters", "<init>", "()V"⟩, prog_5_method_1_code, 1, none, 1, 12)
abbrev b_L_init : ByteArray := prog_5_method_1_code
theorem d_L_init_0 : Dc b_L_init 0 (.aload_n 0) 1 1 := ⟨by decide +kernel, rfl⟩
theorem d_L_init_1 : Dc b_L_init 1 (.invokespecial 3) 3 4 := ⟨by decide +kernel, rfl⟩
theorem d_L_init_4 : Dc b_L_init 4 (.aload_n 0) 1 5 := ⟨by decide +kernel, rfl⟩
theorem d_L_init_5 : Dc b_L_init 5 (.iconst 4) 1 6 := ⟨by decide +kernel, rfl⟩
theorem d_L_init_6 : Dc b_L_init 6 (.newarray .int) 2 8 := ⟨by decide +kernel, rfl⟩
theorem d_L_init_8 : Dc b_L_init 8 (.putfield 9) 3 11 := ⟨by decide +kernel, rfl⟩
theorem d_L_init_11 : Dc b_L_init 11 (.aload_n 0) 1 12 := ⟨by decide +kernel, rfl⟩
theorem d_L_init_12 : Dc b_L_init 12 (.iconst 3) 1 13 := ⟨by decide +kernel, rfl⟩
theorem d_L_init_13 : Dc b_L_init 13 (.putfield 15) 3 16 := ⟨by decide +kernel, rfl⟩
theorem d_L_init_16 : Dc b_L_init 16 (.return_) 1 17 := ⟨by decide +kernel, rfl⟩
theorem ff_L_9 : cn_FF "PointMaps$Letters" 9 4 0 (.array .int) := ⟨R_L, F_L, 4, rfl, by decide, rfl, rfl, i_L, tb_1 33 rfl rfl, ⟨fy_L, ty_L⟩, n_L, ty_L 0 (by decide)⟩
theorem ff_L_15 : cn_FF "PointMaps$Letters" 15 4 1 (.int) := ⟨R_L, F_L, 4, rfl, by decide, rfl, rfl, i_L, tb_1 34 rfl rfl, ⟨fy_L, ty_L⟩, n_L, ty_L 1 (by decide)⟩
def sg_1 (σ : Hp) : Hp := (wI (wI σ 1 0 1) 1 1 3)
theorem zz_1 {σ : Hp} (z : Z0 2 σ) : Z0 3 (sg_1 σ) := (((z.up (by decide : 2 ≤ 3)).w (r := 1) (j := 0) (x := 1) (by decide)).w (r := 1) (j := 1) (x := 3) (by decide))
set_option maxHeartbeats 1000000 in
theorem k_1 (σ : Hp) (z : Z0 2 σ) : CM m_L_init 1 4 2 [.ref 1] σ 3 (sg_1 σ) := by
  show CW m_L_init 1 4 0 [.ref 1] [] 2 σ 0 0 3 (sg_1 σ)
  refine cw_aload_n d_L_init_0 rfl ?_
  refine cw_obj d_L_init_1 (tb_1 32 rfl rfl) (tb_1 25 rfl rfl) (tb_1 26 rfl rfl) (Nat.le_of_ble_eq_true rfl) (Nat.le_of_ble_eq_true rfl) ?_
  refine cw_aload_n d_L_init_4 rfl ?_
  refine cw_iconst (v := 4) d_L_init_5 (by decide) ?_
  refine cw_newI d_L_init_6 (tb_1 58 rfl rfl) rfl (by decide) (by decide +kernel) (fun _ _ h => h) rfl (by decide) (by decide) (by decide) z (Nat.le_of_ble_eq_true rfl) (Nat.le_of_ble_eq_true rfl) ?_
  refine cw_putR d_L_init_8 ff_L_9 rfl (by decide) (by decide) rfl (fun _ => rfl) (fun _ => rfl) ?_
  refine cw_aload_n d_L_init_11 rfl ?_
  refine cw_iconst (v := 3) d_L_init_12 (by decide) ?_
  refine cw_putI d_L_init_13 ff_L_15 rfl (by decide) (by decide) rfl (by decide) (by decide) (by decide) ?_
  exact cw_ret d_L_init_16 rfl
theorem li_P_9 : hn_LB "PointMaps" 9 m_L_init 0 := ⟨tb_1 29 rfl rfl, tb_1 2 rfl rfl, tb_1 31 rfl rfl, by decide +kernel, by decide, by decide, by decide +kernel⟩
theorem ff_P_10 : cn_FF "PointMaps" 10 0 0 (.object "PointMaps$Letters") := ⟨R_P, F_P, 7, rfl, by decide, rfl, rfl, i_P, tb_2 70 rfl rfl, ⟨fy_P, ty_P⟩, n_P, ty_P 0 (by decide)⟩
theorem df_E : ∀ j, j < 9 → defaultValue (fy_E j) = vp_V (([(2, 1), (2, 4), (2, 5), (2, 6), (2, 9), (2, 11), (0, 0), (3, 0), (0, 0)] : List (Nat × Nat)).map cn_df) j := fun j hj => match j, hj with
  | 0, _ => rfl
  | 1, _ => rfl
  | 2, _ => rfl
  | 3, _ => rfl
  | 4, _ => rfl
  | 5, _ => rfl
  | 6, _ => rfl
  | 7, _ => rfl
  | 8, _ => rfl
  | k + 9, h => absurd h (by omega)
def m_E_init : MethodName × ByteArray × Nat × Option FieldType × Nat × Nat := (⟨"PointMaps$Elements", "<init>", "(LPointMaps$Letters;)V"⟩, prog_3_method_1_code, 2, none, 2, 46)
abbrev b_E_init : ByteArray := prog_3_method_1_code
theorem d_E_init_0 : Dc b_E_init 0 (.aload_n 0) 1 1 := ⟨by decide +kernel, rfl⟩
theorem d_E_init_1 : Dc b_E_init 1 (.invokespecial 3) 3 4 := ⟨by decide +kernel, rfl⟩
theorem d_E_init_4 : Dc b_E_init 4 (.aload_n 0) 1 5 := ⟨by decide +kernel, rfl⟩
theorem d_E_init_5 : Dc b_E_init 5 (.sipush 1500) 3 8 := ⟨by decide +kernel, rfl⟩
theorem d_E_init_8 : Dc b_E_init 8 (.newarray .int) 2 10 := ⟨by decide +kernel, rfl⟩
theorem d_E_init_10 : Dc b_E_init 10 (.putfield 9) 3 13 := ⟨by decide +kernel, rfl⟩
theorem d_E_init_13 : Dc b_E_init 13 (.aload_n 0) 1 14 := ⟨by decide +kernel, rfl⟩
theorem d_E_init_14 : Dc b_E_init 14 (.sipush 6000) 3 17 := ⟨by decide +kernel, rfl⟩
theorem d_E_init_17 : Dc b_E_init 17 (.newarray .int) 2 19 := ⟨by decide +kernel, rfl⟩
theorem d_E_init_19 : Dc b_E_init 19 (.putfield 15) 3 22 := ⟨by decide +kernel, rfl⟩
theorem d_E_init_22 : Dc b_E_init 22 (.aload_n 0) 1 23 := ⟨by decide +kernel, rfl⟩
theorem d_E_init_23 : Dc b_E_init 23 (.new 18) 3 26 := ⟨by decide +kernel, rfl⟩
theorem d_E_init_26 : Dc b_E_init 26 (.dup) 1 27 := ⟨by decide +kernel, rfl⟩
theorem d_E_init_27 : Dc b_E_init 27 (.invokespecial 20) 3 30 := ⟨by decide +kernel, rfl⟩
theorem d_E_init_30 : Dc b_E_init 30 (.putfield 21) 3 33 := ⟨by decide +kernel, rfl⟩
theorem d_E_init_33 : Dc b_E_init 33 (.aload_n 0) 1 34 := ⟨by decide +kernel, rfl⟩
theorem d_E_init_34 : Dc b_E_init 34 (.new 25) 3 37 := ⟨by decide +kernel, rfl⟩
theorem d_E_init_37 : Dc b_E_init 37 (.dup) 1 38 := ⟨by decide +kernel, rfl⟩
theorem d_E_init_38 : Dc b_E_init 38 (.invokespecial 27) 3 41 := ⟨by decide +kernel, rfl⟩
theorem d_E_init_41 : Dc b_E_init 41 (.putfield 28) 3 44 := ⟨by decide +kernel, rfl⟩
theorem d_E_init_44 : Dc b_E_init 44 (.aload_n 0) 1 45 := ⟨by decide +kernel, rfl⟩
theorem d_E_init_45 : Dc b_E_init 45 (.new 32) 3 48 := ⟨by decide +kernel, rfl⟩
theorem d_E_init_48 : Dc b_E_init 48 (.dup) 1 49 := ⟨by decide +kernel, rfl⟩
theorem d_E_init_49 : Dc b_E_init 49 (.sipush 1500) 3 52 := ⟨by decide +kernel, rfl⟩
theorem d_E_init_52 : Dc b_E_init 52 (.invokespecial 34) 3 55 := ⟨by decide +kernel, rfl⟩
theorem d_E_init_55 : Dc b_E_init 55 (.putfield 37) 3 58 := ⟨by decide +kernel, rfl⟩
theorem d_E_init_58 : Dc b_E_init 58 (.aload_n 0) 1 59 := ⟨by decide +kernel, rfl⟩
theorem d_E_init_59 : Dc b_E_init 59 (.iconst (-1)) 1 60 := ⟨by decide +kernel, rfl⟩
theorem d_E_init_60 : Dc b_E_init 60 (.putfield 41) 3 63 := ⟨by decide +kernel, rfl⟩
theorem d_E_init_63 : Dc b_E_init 63 (.aload_n 0) 1 64 := ⟨by decide +kernel, rfl⟩
theorem d_E_init_64 : Dc b_E_init 64 (.aload_n 1) 1 65 := ⟨by decide +kernel, rfl⟩
theorem d_E_init_65 : Dc b_E_init 65 (.putfield 45) 3 68 := ⟨by decide +kernel, rfl⟩
theorem d_E_init_68 : Dc b_E_init 68 (.return_) 1 69 := ⟨by decide +kernel, rfl⟩
theorem ff_E_9 : cn_FF "PointMaps$Elements" 9 2 1 (.array .int) := ⟨R_E, F_E, 9, rfl, by decide, rfl, rfl, i_E, tb_1 114 rfl rfl, ⟨fy_E, ty_E⟩, n_E, ty_E 1 (by decide)⟩
theorem ff_E_15 : cn_FF "PointMaps$Elements" 15 2 2 (.array .int) := ⟨R_E, F_E, 9, rfl, by decide, rfl, rfl, i_E, tb_1 115 rfl rfl, ⟨fy_E, ty_E⟩, n_E, ty_E 2 (by decide)⟩
theorem df_F : ∀ j, j < 2 → defaultValue (fy_F j) = vp_V (([(2, 7), (2, 8)] : List (Nat × Nat)).map cn_df) j := fun j hj => match j, hj with
  | 0, _ => rfl
  | 1, _ => rfl
  | k + 2, h => absurd h (by omega)
def m_F_init : MethodName × ByteArray × Nat × Option FieldType × Nat × Nat := (⟨"PointMaps$Finder", "<init>", "()V"⟩, prog_4_method_1_code, 1, none, 1, 12)
abbrev b_F_init : ByteArray := prog_4_method_1_code
theorem d_F_init_0 : Dc b_F_init 0 (.aload_n 0) 1 1 := ⟨by decide +kernel, rfl⟩
theorem d_F_init_1 : Dc b_F_init 1 (.invokespecial 3) 3 4 := ⟨by decide +kernel, rfl⟩
theorem d_F_init_4 : Dc b_F_init 4 (.aload_n 0) 1 5 := ⟨by decide +kernel, rfl⟩
theorem d_F_init_5 : Dc b_F_init 5 (.sipush 4096) 3 8 := ⟨by decide +kernel, rfl⟩
theorem d_F_init_8 : Dc b_F_init 8 (.newarray .int) 2 10 := ⟨by decide +kernel, rfl⟩
theorem d_F_init_10 : Dc b_F_init 10 (.putfield 11) 3 13 := ⟨by decide +kernel, rfl⟩
theorem d_F_init_13 : Dc b_F_init 13 (.aload_n 0) 1 14 := ⟨by decide +kernel, rfl⟩
theorem d_F_init_14 : Dc b_F_init 14 (.sipush 4096) 3 17 := ⟨by decide +kernel, rfl⟩
theorem d_F_init_17 : Dc b_F_init 17 (.newarray .int) 2 19 := ⟨by decide +kernel, rfl⟩
theorem d_F_init_19 : Dc b_F_init 19 (.putfield 15) 3 22 := ⟨by decide +kernel, rfl⟩
theorem d_F_init_22 : Dc b_F_init 22 (.return_) 1 23 := ⟨by decide +kernel, rfl⟩
theorem ff_F_11 : cn_FF "PointMaps$Finder" 11 3 0 (.array .int) := ⟨R_F, F_F, 2, rfl, by decide, rfl, rfl, i_F, tb_1 71 rfl rfl, ⟨fy_F, ty_F⟩, n_F, ty_F 0 (by decide)⟩
theorem ff_F_15 : cn_FF "PointMaps$Finder" 15 3 1 (.array .int) := ⟨R_F, F_F, 2, rfl, by decide, rfl, rfl, i_F, tb_1 72 rfl rfl, ⟨fy_F, ty_F⟩, n_F, ty_F 1 (by decide)⟩
def sg_6 (σ : Hp) : Hp := (wI (wI σ 6 0 1) 6 1 1)
theorem zz_6 {σ : Hp} (z : Z0 7 σ) : Z0 9 (sg_6 σ) := ((((z.up (by decide : 7 ≤ 8)).w (r := 6) (j := 0) (x := 1) (by decide)).up (by decide : 8 ≤ 9)).w (r := 6) (j := 1) (x := 1) (by decide))
set_option maxHeartbeats 1000000 in
theorem k_6 (σ : Hp) (z : Z0 7 σ) : CM m_F_init 2 8192 7 [.ref 6] σ 9 (sg_6 σ) := by
  show CW m_F_init 2 8192 0 [.ref 6] [] 7 σ 0 0 9 (sg_6 σ)
  refine cw_aload_n d_F_init_0 rfl ?_
  refine cw_obj d_F_init_1 (tb_1 70 rfl rfl) (tb_1 25 rfl rfl) (tb_1 26 rfl rfl) (Nat.le_of_ble_eq_true rfl) (Nat.le_of_ble_eq_true rfl) ?_
  refine cw_aload_n d_F_init_4 rfl ?_
  refine cw_sipush (v := 4096) d_F_init_5 (by decide) ?_
  refine cw_newI d_F_init_8 (tb_1 58 rfl rfl) rfl (by decide) (by decide +kernel) (fun _ _ h => h) rfl (by decide) (by decide) (by decide) z (Nat.le_of_ble_eq_true rfl) (Nat.le_of_ble_eq_true rfl) ?_
  refine cw_putR d_F_init_10 ff_F_11 rfl (by decide) (by decide) rfl (fun _ => rfl) (fun _ => rfl) ?_
  refine cw_aload_n d_F_init_13 rfl ?_
  refine cw_sipush (v := 4096) d_F_init_14 (by decide) ?_
  refine cw_newI d_F_init_17 (tb_1 58 rfl rfl) rfl (by decide) (by decide +kernel) (fun _ _ h => h) rfl (by decide) (by decide) (by decide) ((z.up (by decide : 7 ≤ 8)).w (r := 6) (j := 0) (x := 1) (by decide)) (Nat.le_of_ble_eq_true rfl) (Nat.le_of_ble_eq_true rfl) ?_
  refine cw_putR d_F_init_19 ff_F_15 rfl (by decide) (by decide) rfl (fun _ => rfl) (fun _ => rfl) ?_
  exact cw_ret d_F_init_22 rfl
theorem lj_E_20 : hn_LN "PointMaps$Elements" 20 m_F_init 0 "PointMaps" := ⟨tn_1 67 rfl rfl, tb_1 4 rfl rfl, tb_1 69 rfl rfl, by decide +kernel, by decide, by decide, by decide +kernel⟩
theorem ff_E_21 : cn_FF "PointMaps$Elements" 21 2 3 (.object "PointMaps$Finder") := ⟨R_E, F_E, 9, rfl, by decide, rfl, rfl, i_E, tb_1 116 rfl rfl, ⟨fy_E, ty_E⟩, n_E, ty_E 3 (by decide)⟩
theorem df_O : ∀ j, j < 3 → defaultValue (fy_O j) = vp_V (([(2, 10), (0, 0), (0, 0)] : List (Nat × Nat)).map cn_df) j := fun j hj => match j, hj with
  | 0, _ => rfl
  | 1, _ => rfl
  | 2, _ => rfl
  | k + 3, h => absurd h (by omega)
def m_O_init : MethodName × ByteArray × Nat × Option FieldType × Nat × Nat := (⟨"PointMaps$Powers", "<init>", "()V"⟩, prog_9_method_1_code, 1, none, 1, 12)
abbrev b_O_init : ByteArray := prog_9_method_1_code
theorem d_O_init_0 : Dc b_O_init 0 (.aload_n 0) 1 1 := ⟨by decide +kernel, rfl⟩
theorem d_O_init_1 : Dc b_O_init 1 (.invokespecial 3) 3 4 := ⟨by decide +kernel, rfl⟩
theorem d_O_init_4 : Dc b_O_init 4 (.aload_n 0) 1 5 := ⟨by decide +kernel, rfl⟩
theorem d_O_init_5 : Dc b_O_init 5 (.bipush 16) 2 7 := ⟨by decide +kernel, rfl⟩
theorem d_O_init_7 : Dc b_O_init 7 (.newarray .int) 2 9 := ⟨by decide +kernel, rfl⟩
theorem d_O_init_9 : Dc b_O_init 9 (.putfield 11) 3 12 := ⟨by decide +kernel, rfl⟩
theorem d_O_init_12 : Dc b_O_init 12 (.return_) 1 13 := ⟨by decide +kernel, rfl⟩
theorem ff_O_11 : cn_FF "PointMaps$Powers" 11 7 0 (.array .int) := ⟨R_O, F_O, 3, rfl, by decide, rfl, rfl, i_O, tb_1 84 rfl rfl, ⟨fy_O, ty_O⟩, n_O, ty_O 0 (by decide)⟩
def sg_9 (σ : Hp) : Hp := (wI σ 9 0 1)
theorem zz_9 {σ : Hp} (z : Z0 10 σ) : Z0 11 (sg_9 σ) := ((z.up (by decide : 10 ≤ 11)).w (r := 9) (j := 0) (x := 1) (by decide))
set_option maxHeartbeats 1000000 in
theorem k_9 (σ : Hp) (z : Z0 10 σ) : CM m_O_init 1 16 10 [.ref 9] σ 11 (sg_9 σ) := by
  show CW m_O_init 1 16 0 [.ref 9] [] 10 σ 0 0 11 (sg_9 σ)
  refine cw_aload_n d_O_init_0 rfl ?_
  refine cw_obj d_O_init_1 (tb_1 83 rfl rfl) (tb_1 25 rfl rfl) (tb_1 26 rfl rfl) (Nat.le_of_ble_eq_true rfl) (Nat.le_of_ble_eq_true rfl) ?_
  refine cw_aload_n d_O_init_4 rfl ?_
  refine cw_bipush (v := 16) d_O_init_5 (by decide) ?_
  refine cw_newI d_O_init_7 (tb_1 58 rfl rfl) rfl (by decide) (by decide +kernel) (fun _ _ h => h) rfl (by decide) (by decide) (by decide) z (Nat.le_of_ble_eq_true rfl) (Nat.le_of_ble_eq_true rfl) ?_
  refine cw_putR d_O_init_9 ff_O_11 rfl (by decide) (by decide) rfl (fun _ => rfl) (fun _ => rfl) ?_
  exact cw_ret d_O_init_12 rfl
theorem lj_E_27 : hn_LN "PointMaps$Elements" 27 m_O_init 0 "PointMaps" := ⟨tn_1 80 rfl rfl, tb_1 5 rfl rfl, tb_1 82 rfl rfl, by decide +kernel, by decide, by decide, by decide +kernel⟩
theorem ff_E_28 : cn_FF "PointMaps$Elements" 28 2 4 (.object "PointMaps$Powers") := ⟨R_E, F_E, 9, rfl, by decide, rfl, rfl, i_E, tb_1 117 rfl rfl, ⟨fy_E, ty_E⟩, n_E, ty_E 4 (by decide)⟩
theorem df_R : ∀ j, j < 3 → defaultValue (fy_R j) = vp_V (([(2, 12), (2, 13), (2, 14)] : List (Nat × Nat)).map cn_df) j := fun j hj => match j, hj with
  | 0, _ => rfl
  | 1, _ => rfl
  | 2, _ => rfl
  | k + 3, h => absurd h (by omega)
def m_R_init : MethodName × ByteArray × Nat × Option FieldType × Nat × Nat := (⟨"PointMaps$Trail", "<init>", "(I)V"⟩, prog_11_method_1_code, 2, none, 1, 25)
abbrev b_R_init : ByteArray := prog_11_method_1_code
theorem d_R_init_0 : Dc b_R_init 0 (.aload_n 0) 1 1 := ⟨by decide +kernel, rfl⟩
theorem d_R_init_1 : Dc b_R_init 1 (.invokespecial 3) 3 4 := ⟨by decide +kernel, rfl⟩
theorem d_R_init_4 : Dc b_R_init 4 (.aload_n 0) 1 5 := ⟨by decide +kernel, rfl⟩
theorem d_R_init_5 : Dc b_R_init 5 (.iconst 0) 1 6 := ⟨by decide +kernel, rfl⟩
theorem d_R_init_6 : Dc b_R_init 6 (.iload_n 1) 1 7 := ⟨by decide +kernel, rfl⟩
theorem d_R_init_7 : Dc b_R_init 7 (.invokestatic 9) 3 10 := ⟨by decide +kernel, rfl⟩
theorem d_R_init_10 : Dc b_R_init 10 (.newarray .int) 2 12 := ⟨by decide +kernel, rfl⟩
theorem d_R_init_12 : Dc b_R_init 12 (.putfield 15) 3 15 := ⟨by decide +kernel, rfl⟩
theorem d_R_init_15 : Dc b_R_init 15 (.aload_n 0) 1 16 := ⟨by decide +kernel, rfl⟩
theorem d_R_init_16 : Dc b_R_init 16 (.iconst 0) 1 17 := ⟨by decide +kernel, rfl⟩
theorem d_R_init_17 : Dc b_R_init 17 (.iload_n 1) 1 18 := ⟨by decide +kernel, rfl⟩
theorem d_R_init_18 : Dc b_R_init 18 (.invokestatic 9) 3 21 := ⟨by decide +kernel, rfl⟩
theorem d_R_init_21 : Dc b_R_init 21 (.newarray .int) 2 23 := ⟨by decide +kernel, rfl⟩
theorem d_R_init_23 : Dc b_R_init 23 (.putfield 21) 3 26 := ⟨by decide +kernel, rfl⟩
theorem d_R_init_26 : Dc b_R_init 26 (.aload_n 0) 1 27 := ⟨by decide +kernel, rfl⟩
theorem d_R_init_27 : Dc b_R_init 27 (.iconst 0) 1 28 := ⟨by decide +kernel, rfl⟩
theorem d_R_init_28 : Dc b_R_init 28 (.iload_n 1) 1 29 := ⟨by decide +kernel, rfl⟩
theorem d_R_init_29 : Dc b_R_init 29 (.invokestatic 9) 3 32 := ⟨by decide +kernel, rfl⟩
theorem d_R_init_32 : Dc b_R_init 32 (.newarray .int) 2 34 := ⟨by decide +kernel, rfl⟩
theorem d_R_init_34 : Dc b_R_init 34 (.putfield 24) 3 37 := ⟨by decide +kernel, rfl⟩
theorem d_R_init_37 : Dc b_R_init 37 (.return_) 1 38 := ⟨by decide +kernel, rfl⟩
theorem ff_R_15 : cn_FF "PointMaps$Trail" 15 9 0 (.array .int) := ⟨R_R, F_R, 3, rfl, by decide, rfl, rfl, i_R, tb_1 103 rfl rfl, ⟨fy_R, ty_R⟩, n_R, ty_R 0 (by decide)⟩
theorem ff_R_21 : cn_FF "PointMaps$Trail" 21 9 1 (.array .int) := ⟨R_R, F_R, 3, rfl, by decide, rfl, rfl, i_R, tb_1 104 rfl rfl, ⟨fy_R, ty_R⟩, n_R, ty_R 1 (by decide)⟩
theorem ff_R_24 : cn_FF "PointMaps$Trail" 24 9 2 (.array .int) := ⟨R_R, F_R, 3, rfl, by decide, rfl, rfl, i_R, tb_1 105 rfl rfl, ⟨fy_R, ty_R⟩, n_R, ty_R 2 (by decide)⟩
def sg_11 (σ : Hp) : Hp := (wI (wI (wI σ 11 0 1) 11 1 1) 11 2 1)
theorem zz_11 {σ : Hp} (z : Z0 12 σ) : Z0 15 (sg_11 σ) := ((((((z.up (by decide : 12 ≤ 13)).w (r := 11) (j := 0) (x := 1) (by decide)).up (by decide : 13 ≤ 14)).w (r := 11) (j := 1) (x := 1) (by decide)).up (by decide : 14 ≤ 15)).w (r := 11) (j := 2) (x := 1) (by decide))
set_option maxHeartbeats 1000000 in
theorem k_11 (σ : Hp) (z : Z0 12 σ) : CM m_R_init 3 4500 12 [.ref 11, .int 1500] σ 15 (sg_11 σ) := by
  show CW m_R_init 3 4500 0 [.ref 11, .int 1500] [] 12 σ 0 0 15 (sg_11 σ)
  refine cw_aload_n d_R_init_0 rfl ?_
  refine cw_obj d_R_init_1 (tb_1 99 rfl rfl) (tb_1 25 rfl rfl) (tb_1 26 rfl rfl) (Nat.le_of_ble_eq_true rfl) (Nat.le_of_ble_eq_true rfl) ?_
  refine cw_aload_n d_R_init_4 rfl ?_
  refine cw_iconst (v := 0) d_R_init_5 (by decide) ?_
  refine cw_iload_n d_R_init_6 rfl ?_
  refine cw_max (w := 1500) d_R_init_7 (tb_1 100 rfl rfl) (tb_1 101 rfl rfl) (tb_1 7 rfl rfl) (tb_1 102 rfl rfl) (Nat.le_of_ble_eq_true rfl) (Nat.le_of_ble_eq_true rfl) (Nat.le_of_ble_eq_true rfl) (Nat.le_of_ble_eq_true rfl) (by decide) ?_
  refine cw_newI d_R_init_10 (tb_1 58 rfl rfl) rfl (by decide) (by decide +kernel) (fun _ _ h => h) rfl (by decide) (by decide) (by decide) z (Nat.le_of_ble_eq_true rfl) (Nat.le_of_ble_eq_true rfl) ?_
  refine cw_putR d_R_init_12 ff_R_15 rfl (by decide) (by decide) rfl (fun _ => rfl) (fun _ => rfl) ?_
  refine cw_aload_n d_R_init_15 rfl ?_
  refine cw_iconst (v := 0) d_R_init_16 (by decide) ?_
  refine cw_iload_n d_R_init_17 rfl ?_
  refine cw_max (w := 1500) d_R_init_18 (tb_1 100 rfl rfl) (tb_1 101 rfl rfl) (tb_1 7 rfl rfl) (tb_1 102 rfl rfl) (Nat.le_of_ble_eq_true rfl) (Nat.le_of_ble_eq_true rfl) (Nat.le_of_ble_eq_true rfl) (Nat.le_of_ble_eq_true rfl) (by decide) ?_
  refine cw_newI d_R_init_21 (tb_1 58 rfl rfl) rfl (by decide) (by decide +kernel) (fun _ _ h => h) rfl (by decide) (by decide) (by decide) ((z.up (by decide : 12 ≤ 13)).w (r := 11) (j := 0) (x := 1) (by decide)) (Nat.le_of_ble_eq_true rfl) (Nat.le_of_ble_eq_true rfl) ?_
  refine cw_putR d_R_init_23 ff_R_21 rfl (by decide) (by decide) rfl (fun _ => rfl) (fun _ => rfl) ?_
  refine cw_aload_n d_R_init_26 rfl ?_
  refine cw_iconst (v := 0) d_R_init_27 (by decide) ?_
  refine cw_iload_n d_R_init_28 rfl ?_
  refine cw_max (w := 1500) d_R_init_29 (tb_1 100 rfl rfl) (tb_1 101 rfl rfl) (tb_1 7 rfl rfl) (tb_1 102 rfl rfl) (Nat.le_of_ble_eq_true rfl) (Nat.le_of_ble_eq_true rfl) (Nat.le_of_ble_eq_true rfl) (Nat.le_of_ble_eq_true rfl) (by decide) ?_
  refine cw_newI d_R_init_32 (tb_1 58 rfl rfl) rfl (by decide) (by decide +kernel) (fun _ _ h => h) rfl (by decide) (by decide) (by decide) ((((z.up (by decide : 12 ≤ 13)).w (r := 11) (j := 0) (x := 1) (by decide)).up (by decide : 13 ≤ 14)).w (r := 11) (j := 1) (x := 1) (by decide)) (Nat.le_of_ble_eq_true rfl) (Nat.le_of_ble_eq_true rfl) ?_
  refine cw_putR d_R_init_34 ff_R_24 rfl (by decide) (by decide) rfl (fun _ => rfl) (fun _ => rfl) ?_
  exact cw_ret d_R_init_37 rfl
theorem li_E_34 : hn_LB "PointMaps$Elements" 34 m_R_init 1 := ⟨tb_1 96 rfl rfl, tb_1 6 rfl rfl, tb_1 98 rfl rfl, by decide +kernel, by decide, by decide, by decide +kernel⟩
theorem ff_E_37 : cn_FF "PointMaps$Elements" 37 2 5 (.object "PointMaps$Trail") := ⟨R_E, F_E, 9, rfl, by decide, rfl, rfl, i_E, tb_1 118 rfl rfl, ⟨fy_E, ty_E⟩, n_E, ty_E 5 (by decide)⟩
theorem ff_E_41 : cn_FF "PointMaps$Elements" 41 2 8 (.int) := ⟨R_E, F_E, 9, rfl, by decide, rfl, rfl, i_E, tb_1 125 rfl rfl, ⟨fy_E, ty_E⟩, n_E, ty_E 8 (by decide)⟩
theorem ff_E_45 : cn_FF "PointMaps$Elements" 45 2 0 (.object "PointMaps$Letters") := ⟨R_E, F_E, 9, rfl, by decide, rfl, rfl, i_E, tb_1 113 rfl rfl, ⟨fy_E, ty_E⟩, n_E, ty_E 0 (by decide)⟩
def sg_3 (σ : Hp) : Hp := (wI (wI (wI (sg_11 (wI (sg_9 (wI (sg_6 (wI (wI σ 3 1 1) 3 2 1)) 3 3 1)) 3 4 1)) 3 5 1) 3 8 (-1)) 3 0 1)
theorem zz_3 {σ : Hp} (z : Z0 4 σ) : Z0 15 (sg_3 σ) := ((((zz_11 (((zz_9 (((zz_6 (((((z.up (by decide : 4 ≤ 5)).w (r := 3) (j := 1) (x := 1) (by decide)).up (by decide : 5 ≤ 6)).w (r := 3) (j := 2) (x := 1) (by decide)).up (by decide : 6 ≤ 7))).w (r := 3) (j := 3) (x := 1) (by decide)).up (by decide : 9 ≤ 10))).w (r := 3) (j := 4) (x := 1) (by decide)).up (by decide : 11 ≤ 12))).w (r := 3) (j := 5) (x := 1) (by decide)).w (r := 3) (j := 8) (x := (-1)) (by decide)).w (r := 3) (j := 0) (x := 1) (by decide))
set_option maxHeartbeats 1000000 in
theorem k_3 (σ : Hp) (z : Z0 4 σ) : CM m_E_init 11 20216 4 [.ref 3, .ref 1] σ 15 (sg_3 σ) := by
  show CW m_E_init 11 20216 0 [.ref 3, .ref 1] [] 4 σ 0 0 15 (sg_3 σ)
  refine cw_aload_n d_E_init_0 rfl ?_
  refine cw_obj d_E_init_1 (tb_1 64 rfl rfl) (tb_1 25 rfl rfl) (tb_1 26 rfl rfl) (Nat.le_of_ble_eq_true rfl) (Nat.le_of_ble_eq_true rfl) ?_
  refine cw_aload_n d_E_init_4 rfl ?_
  refine cw_sipush (v := 1500) d_E_init_5 (by decide) ?_
  refine cw_newI d_E_init_8 (tb_1 58 rfl rfl) rfl (by decide) (by decide +kernel) (fun _ _ h => h) rfl (by decide) (by decide) (by decide) z (Nat.le_of_ble_eq_true rfl) (Nat.le_of_ble_eq_true rfl) ?_
  refine cw_putR d_E_init_10 ff_E_9 rfl (by decide) (by decide) rfl (fun _ => rfl) (fun _ => rfl) ?_
  refine cw_aload_n d_E_init_13 rfl ?_
  refine cw_sipush (v := 6000) d_E_init_14 (by decide) ?_
  refine cw_newI d_E_init_17 (tb_1 58 rfl rfl) rfl (by decide) (by decide +kernel) (fun _ _ h => h) rfl (by decide) (by decide) (by decide) ((z.up (by decide : 4 ≤ 5)).w (r := 3) (j := 1) (x := 1) (by decide)) (Nat.le_of_ble_eq_true rfl) (Nat.le_of_ble_eq_true rfl) ?_
  refine cw_putR d_E_init_19 ff_E_15 rfl (by decide) (by decide) rfl (fun _ => rfl) (fun _ => rfl) ?_
  refine cw_aload_n d_E_init_22 rfl ?_
  refine cw_new (ty := fy_F) d_E_init_23 (tb_1 65 rfl rfl) (tb_1 66 rfl rfl) (tb_1 4 rfl rfl) rfl i_F ty_F rfl df_F ((((z.up (by decide : 4 ≤ 5)).w (r := 3) (j := 1) (x := 1) (by decide)).up (by decide : 5 ≤ 6)).w (r := 3) (j := 2) (x := 1) (by decide)) (Nat.le_of_ble_eq_true rfl) (Nat.le_of_ble_eq_true rfl) ?_
  refine cw_dup d_E_init_26 rfl ?_
  refine cw_callN (as := []) (st := [.ref 6, .ref 3]) d_E_init_27 lj_E_20 (tb_1 68 rfl rfl) rfl rfl ⟨Nat.le_of_ble_eq_true rfl, Nat.le_of_ble_eq_true rfl⟩ (Nat.le_of_ble_eq_true rfl) (by decide) (k_6 _ (((((z.up (by decide : 4 ≤ 5)).w (r := 3) (j := 1) (x := 1) (by decide)).up (by decide : 5 ≤ 6)).w (r := 3) (j := 2) (x := 1) (by decide)).up (by decide : 6 ≤ 7))) rfl (Nat.le_of_ble_eq_true rfl) (Nat.le_of_ble_eq_true rfl) ?_
  refine cw_putR d_E_init_30 ff_E_21 rfl (by decide) (by decide) rfl (fun _ => rfl) (fun _ => rfl) ?_
  refine cw_aload_n d_E_init_33 rfl ?_
  refine cw_new (ty := fy_O) d_E_init_34 (tb_1 78 rfl rfl) (tb_1 79 rfl rfl) (tb_1 5 rfl rfl) rfl i_O ty_O rfl df_O ((zz_6 (((((z.up (by decide : 4 ≤ 5)).w (r := 3) (j := 1) (x := 1) (by decide)).up (by decide : 5 ≤ 6)).w (r := 3) (j := 2) (x := 1) (by decide)).up (by decide : 6 ≤ 7))).w (r := 3) (j := 3) (x := 1) (by decide)) (Nat.le_of_ble_eq_true rfl) (Nat.le_of_ble_eq_true rfl) ?_
  refine cw_dup d_E_init_37 rfl ?_
  refine cw_callN (as := []) (st := [.ref 9, .ref 3]) d_E_init_38 lj_E_27 (tb_1 81 rfl rfl) rfl rfl ⟨Nat.le_of_ble_eq_true rfl, Nat.le_of_ble_eq_true rfl⟩ (Nat.le_of_ble_eq_true rfl) (by decide) (k_9 _ (((zz_6 (((((z.up (by decide : 4 ≤ 5)).w (r := 3) (j := 1) (x := 1) (by decide)).up (by decide : 5 ≤ 6)).w (r := 3) (j := 2) (x := 1) (by decide)).up (by decide : 6 ≤ 7))).w (r := 3) (j := 3) (x := 1) (by decide)).up (by decide : 9 ≤ 10))) rfl (Nat.le_of_ble_eq_true rfl) (Nat.le_of_ble_eq_true rfl) ?_
  refine cw_putR d_E_init_41 ff_E_28 rfl (by decide) (by decide) rfl (fun _ => rfl) (fun _ => rfl) ?_
  refine cw_aload_n d_E_init_44 rfl ?_
  refine cw_new (ty := fy_R) d_E_init_45 (tb_1 94 rfl rfl) (tb_1 95 rfl rfl) (tb_1 6 rfl rfl) rfl i_R ty_R rfl df_R ((zz_9 (((zz_6 (((((z.up (by decide : 4 ≤ 5)).w (r := 3) (j := 1) (x := 1) (by decide)).up (by decide : 5 ≤ 6)).w (r := 3) (j := 2) (x := 1) (by decide)).up (by decide : 6 ≤ 7))).w (r := 3) (j := 3) (x := 1) (by decide)).up (by decide : 9 ≤ 10))).w (r := 3) (j := 4) (x := 1) (by decide)) (Nat.le_of_ble_eq_true rfl) (Nat.le_of_ble_eq_true rfl) ?_
  refine cw_dup d_E_init_48 rfl ?_
  refine cw_sipush (v := 1500) d_E_init_49 (by decide) ?_
  refine cw_call (as := [.int 1500]) (st := [.ref 11, .ref 3]) d_E_init_52 li_E_34 (tb_1 97 rfl rfl) rfl rfl ⟨Nat.le_of_ble_eq_true rfl, Nat.le_of_ble_eq_true rfl⟩ (Nat.le_of_ble_eq_true rfl) (by decide) (k_11 _ (((zz_9 (((zz_6 (((((z.up (by decide : 4 ≤ 5)).w (r := 3) (j := 1) (x := 1) (by decide)).up (by decide : 5 ≤ 6)).w (r := 3) (j := 2) (x := 1) (by decide)).up (by decide : 6 ≤ 7))).w (r := 3) (j := 3) (x := 1) (by decide)).up (by decide : 9 ≤ 10))).w (r := 3) (j := 4) (x := 1) (by decide)).up (by decide : 11 ≤ 12))) rfl (Nat.le_of_ble_eq_true rfl) (Nat.le_of_ble_eq_true rfl) ?_
  refine cw_putR d_E_init_55 ff_E_37 rfl (by decide) (by decide) rfl (fun _ => rfl) (fun _ => rfl) ?_
  refine cw_aload_n d_E_init_58 rfl ?_
  refine cw_iconst (v := -1) d_E_init_59 (by decide) ?_
  refine cw_putI d_E_init_60 ff_E_41 rfl (by decide) (by decide) rfl (by decide) (by decide) (by decide) ?_
  refine cw_aload_n d_E_init_63 rfl ?_
  refine cw_aload_n d_E_init_64 rfl ?_
  refine cw_putR d_E_init_65 ff_E_45 rfl (by decide) (by decide) rfl (fun _ => rfl) (fun _ => rfl) ?_
  exact cw_ret d_E_init_68 rfl
theorem li_P_18 : hn_LB "PointMaps" 18 m_E_init 1 := ⟨tb_1 61 rfl rfl, tb_1 3 rfl rfl, tb_1 63 rfl rfl, by decide +kernel, by decide, by decide, by decide +kernel⟩
theorem ff_P_21 : cn_FF "PointMaps" 21 0 1 (.object "PointMaps$Elements") := ⟨R_P, F_P, 7, rfl, by decide, rfl, rfl, i_P, tb_2 71 rfl rfl, ⟨fy_P, ty_P⟩, n_P, ty_P 1 (by decide)⟩
theorem df_B : ∀ j, j < 14 → defaultValue (fy_B j) = vp_V (([(2, 1), (2, 3), (2, 16), (2, 24), (2, 27), (2, 28), (2, 29), (2, 30), (2, 31), (2, 32), (2, 33), (2, 34), (0, 0), (0, 0)] : List (Nat × Nat)).map cn_df) j := fun j hj => match j, hj with
  | 0, _ => rfl
  | 1, _ => rfl
  | 2, _ => rfl
  | 3, _ => rfl
  | 4, _ => rfl
  | 5, _ => rfl
  | 6, _ => rfl
  | 7, _ => rfl
  | 8, _ => rfl
  | 9, _ => rfl
  | 10, _ => rfl
  | 11, _ => rfl
  | 12, _ => rfl
  | 13, _ => rfl
  | k + 14, h => absurd h (by omega)
def m_B_init : MethodName × ByteArray × Nat × Option FieldType × Nat × Nat := (⟨"PointMaps$Boxes", "<init>", "(LPointMaps$Letters;LPointMaps$Elements;)V"⟩, prog_2_method_1_code, 3, none, 2, 32)
abbrev b_B_init : ByteArray := prog_2_method_1_code
theorem d_B_init_0 : Dc b_B_init 0 (.aload_n 0) 1 1 := ⟨by decide +kernel, rfl⟩
theorem d_B_init_1 : Dc b_B_init 1 (.invokespecial 3) 3 4 := ⟨by decide +kernel, rfl⟩
theorem d_B_init_4 : Dc b_B_init 4 (.aload_n 0) 1 5 := ⟨by decide +kernel, rfl⟩
theorem d_B_init_5 : Dc b_B_init 5 (.new 9) 3 8 := ⟨by decide +kernel, rfl⟩
theorem d_B_init_8 : Dc b_B_init 8 (.dup) 1 9 := ⟨by decide +kernel, rfl⟩
theorem d_B_init_9 : Dc b_B_init 9 (.invokespecial 11) 3 12 := ⟨by decide +kernel, rfl⟩
theorem d_B_init_12 : Dc b_B_init 12 (.putfield 12) 3 15 := ⟨by decide +kernel, rfl⟩
theorem d_B_init_15 : Dc b_B_init 15 (.aload_n 0) 1 16 := ⟨by decide +kernel, rfl⟩
theorem d_B_init_16 : Dc b_B_init 16 (.new 18) 3 19 := ⟨by decide +kernel, rfl⟩
theorem d_B_init_19 : Dc b_B_init 19 (.dup) 1 20 := ⟨by decide +kernel, rfl⟩
theorem d_B_init_20 : Dc b_B_init 20 (.invokespecial 20) 3 23 := ⟨by decide +kernel, rfl⟩
theorem d_B_init_23 : Dc b_B_init 23 (.putfield 21) 3 26 := ⟨by decide +kernel, rfl⟩
theorem d_B_init_26 : Dc b_B_init 26 (.aload_n 0) 1 27 := ⟨by decide +kernel, rfl⟩
theorem d_B_init_27 : Dc b_B_init 27 (.sipush 6000) 3 30 := ⟨by decide +kernel, rfl⟩
theorem d_B_init_30 : Dc b_B_init 30 (.newarray .int) 2 32 := ⟨by decide +kernel, rfl⟩
theorem d_B_init_32 : Dc b_B_init 32 (.putfield 25) 3 35 := ⟨by decide +kernel, rfl⟩
theorem d_B_init_35 : Dc b_B_init 35 (.aload_n 0) 1 36 := ⟨by decide +kernel, rfl⟩
theorem d_B_init_36 : Dc b_B_init 36 (.sipush 6000) 3 39 := ⟨by decide +kernel, rfl⟩
theorem d_B_init_39 : Dc b_B_init 39 (.newarray .int) 2 41 := ⟨by decide +kernel, rfl⟩
theorem d_B_init_41 : Dc b_B_init 41 (.putfield 29) 3 44 := ⟨by decide +kernel, rfl⟩
theorem d_B_init_44 : Dc b_B_init 44 (.aload_n 0) 1 45 := ⟨by decide +kernel, rfl⟩
theorem d_B_init_45 : Dc b_B_init 45 (.iconst 4) 1 46 := ⟨by decide +kernel, rfl⟩
theorem d_B_init_46 : Dc b_B_init 46 (.newarray .int) 2 48 := ⟨by decide +kernel, rfl⟩
theorem d_B_init_48 : Dc b_B_init 48 (.putfield 32) 3 51 := ⟨by decide +kernel, rfl⟩
theorem d_B_init_51 : Dc b_B_init 51 (.aload_n 0) 1 52 := ⟨by decide +kernel, rfl⟩
theorem d_B_init_52 : Dc b_B_init 52 (.sipush 1500) 3 55 := ⟨by decide +kernel, rfl⟩
theorem d_B_init_55 : Dc b_B_init 55 (.newarray .int) 2 57 := ⟨by decide +kernel, rfl⟩
theorem d_B_init_57 : Dc b_B_init 57 (.putfield 35) 3 60 := ⟨by decide +kernel, rfl⟩
theorem d_B_init_60 : Dc b_B_init 60 (.aload_n 0) 1 61 := ⟨by decide +kernel, rfl⟩
theorem d_B_init_61 : Dc b_B_init 61 (.sipush 1500) 3 64 := ⟨by decide +kernel, rfl⟩
theorem d_B_init_64 : Dc b_B_init 64 (.newarray .int) 2 66 := ⟨by decide +kernel, rfl⟩
theorem d_B_init_66 : Dc b_B_init 66 (.putfield 38) 3 69 := ⟨by decide +kernel, rfl⟩
theorem d_B_init_69 : Dc b_B_init 69 (.aload_n 0) 1 70 := ⟨by decide +kernel, rfl⟩
theorem d_B_init_70 : Dc b_B_init 70 (.sipush 1500) 3 73 := ⟨by decide +kernel, rfl⟩
theorem d_B_init_73 : Dc b_B_init 73 (.newarray .int) 2 75 := ⟨by decide +kernel, rfl⟩
theorem d_B_init_75 : Dc b_B_init 75 (.putfield 41) 3 78 := ⟨by decide +kernel, rfl⟩
theorem d_B_init_78 : Dc b_B_init 78 (.aload_n 0) 1 79 := ⟨by decide +kernel, rfl⟩
theorem d_B_init_79 : Dc b_B_init 79 (.sipush 1500) 3 82 := ⟨by decide +kernel, rfl⟩
theorem d_B_init_82 : Dc b_B_init 82 (.newarray .int) 2 84 := ⟨by decide +kernel, rfl⟩
theorem d_B_init_84 : Dc b_B_init 84 (.putfield 44) 3 87 := ⟨by decide +kernel, rfl⟩
theorem d_B_init_87 : Dc b_B_init 87 (.aload_n 0) 1 88 := ⟨by decide +kernel, rfl⟩
theorem d_B_init_88 : Dc b_B_init 88 (.sipush 1500) 3 91 := ⟨by decide +kernel, rfl⟩
theorem d_B_init_91 : Dc b_B_init 91 (.newarray .int) 2 93 := ⟨by decide +kernel, rfl⟩
theorem d_B_init_93 : Dc b_B_init 93 (.putfield 47) 3 96 := ⟨by decide +kernel, rfl⟩
theorem d_B_init_96 : Dc b_B_init 96 (.aload_n 0) 1 97 := ⟨by decide +kernel, rfl⟩
theorem d_B_init_97 : Dc b_B_init 97 (.iconst (-1)) 1 98 := ⟨by decide +kernel, rfl⟩
theorem d_B_init_98 : Dc b_B_init 98 (.putfield 50) 3 101 := ⟨by decide +kernel, rfl⟩
theorem d_B_init_101 : Dc b_B_init 101 (.aload_n 0) 1 102 := ⟨by decide +kernel, rfl⟩
theorem d_B_init_102 : Dc b_B_init 102 (.aload_n 1) 1 103 := ⟨by decide +kernel, rfl⟩
theorem d_B_init_103 : Dc b_B_init 103 (.putfield 54) 3 106 := ⟨by decide +kernel, rfl⟩
theorem d_B_init_106 : Dc b_B_init 106 (.aload_n 0) 1 107 := ⟨by decide +kernel, rfl⟩
theorem d_B_init_107 : Dc b_B_init 107 (.aload_n 2) 1 108 := ⟨by decide +kernel, rfl⟩
theorem d_B_init_108 : Dc b_B_init 108 (.putfield 58) 3 111 := ⟨by decide +kernel, rfl⟩
theorem d_B_init_111 : Dc b_B_init 111 (.return_) 1 112 := ⟨by decide +kernel, rfl⟩
theorem df_T : ∀ j, j < 10 → defaultValue (fy_T j) = vp_V (([(2, 17), (2, 18), (2, 19), (2, 20), (2, 21), (2, 22), (2, 23), (0, 0), (0, 0), (0, 0)] : List (Nat × Nat)).map cn_df) j := fun j hj => match j, hj with
  | 0, _ => rfl
  | 1, _ => rfl
  | 2, _ => rfl
  | 3, _ => rfl
  | 4, _ => rfl
  | 5, _ => rfl
  | 6, _ => rfl
  | 7, _ => rfl
  | 8, _ => rfl
  | 9, _ => rfl
  | k + 10, h => absurd h (by omega)
def m_T_init : MethodName × ByteArray × Nat × Option FieldType × Nat × Nat := (⟨"PointMaps$Steps", "<init>", "()V"⟩, prog_10_method_1_code, 1, none, 1, 12)
abbrev b_T_init : ByteArray := prog_10_method_1_code
theorem d_T_init_0 : Dc b_T_init 0 (.aload_n 0) 1 1 := ⟨by decide +kernel, rfl⟩
theorem d_T_init_1 : Dc b_T_init 1 (.invokespecial 5) 3 4 := ⟨by decide +kernel, rfl⟩
theorem d_T_init_4 : Dc b_T_init 4 (.aload_n 0) 1 5 := ⟨by decide +kernel, rfl⟩
theorem d_T_init_5 : Dc b_T_init 5 (.sipush 12000) 3 8 := ⟨by decide +kernel, rfl⟩
theorem d_T_init_8 : Dc b_T_init 8 (.newarray .int) 2 10 := ⟨by decide +kernel, rfl⟩
theorem d_T_init_10 : Dc b_T_init 10 (.putfield 11) 3 13 := ⟨by decide +kernel, rfl⟩
theorem d_T_init_13 : Dc b_T_init 13 (.aload_n 0) 1 14 := ⟨by decide +kernel, rfl⟩
theorem d_T_init_14 : Dc b_T_init 14 (.sipush 1500) 3 17 := ⟨by decide +kernel, rfl⟩
theorem d_T_init_17 : Dc b_T_init 17 (.newarray .int) 2 19 := ⟨by decide +kernel, rfl⟩
theorem d_T_init_19 : Dc b_T_init 19 (.putfield 15) 3 22 := ⟨by decide +kernel, rfl⟩
theorem d_T_init_22 : Dc b_T_init 22 (.aload_n 0) 1 23 := ⟨by decide +kernel, rfl⟩
theorem d_T_init_23 : Dc b_T_init 23 (.sipush 1500) 3 26 := ⟨by decide +kernel, rfl⟩
theorem d_T_init_26 : Dc b_T_init 26 (.newarray .int) 2 28 := ⟨by decide +kernel, rfl⟩
theorem d_T_init_28 : Dc b_T_init 28 (.putfield 18) 3 31 := ⟨by decide +kernel, rfl⟩
theorem d_T_init_31 : Dc b_T_init 31 (.aload_n 0) 1 32 := ⟨by decide +kernel, rfl⟩
theorem d_T_init_32 : Dc b_T_init 32 (.sipush 1500) 3 35 := ⟨by decide +kernel, rfl⟩
theorem d_T_init_35 : Dc b_T_init 35 (.newarray .int) 2 37 := ⟨by decide +kernel, rfl⟩
theorem d_T_init_37 : Dc b_T_init 37 (.putfield 21) 3 40 := ⟨by decide +kernel, rfl⟩
theorem d_T_init_40 : Dc b_T_init 40 (.aload_n 0) 1 41 := ⟨by decide +kernel, rfl⟩
theorem d_T_init_41 : Dc b_T_init 41 (.sipush 1500) 3 44 := ⟨by decide +kernel, rfl⟩
theorem d_T_init_44 : Dc b_T_init 44 (.newarray .int) 2 46 := ⟨by decide +kernel, rfl⟩
theorem d_T_init_46 : Dc b_T_init 46 (.putfield 24) 3 49 := ⟨by decide +kernel, rfl⟩
theorem d_T_init_49 : Dc b_T_init 49 (.aload_n 0) 1 50 := ⟨by decide +kernel, rfl⟩
theorem d_T_init_50 : Dc b_T_init 50 (.sipush 1500) 3 53 := ⟨by decide +kernel, rfl⟩
theorem d_T_init_53 : Dc b_T_init 53 (.newarray .int) 2 55 := ⟨by decide +kernel, rfl⟩
theorem d_T_init_55 : Dc b_T_init 55 (.putfield 27) 3 58 := ⟨by decide +kernel, rfl⟩
theorem d_T_init_58 : Dc b_T_init 58 (.aload_n 0) 1 59 := ⟨by decide +kernel, rfl⟩
theorem d_T_init_59 : Dc b_T_init 59 (.sipush 1500) 3 62 := ⟨by decide +kernel, rfl⟩
theorem d_T_init_62 : Dc b_T_init 62 (.newarray .int) 2 64 := ⟨by decide +kernel, rfl⟩
theorem d_T_init_64 : Dc b_T_init 64 (.putfield 30) 3 67 := ⟨by decide +kernel, rfl⟩
theorem d_T_init_67 : Dc b_T_init 67 (.return_) 1 68 := ⟨by decide +kernel, rfl⟩
theorem ff_T_11 : cn_FF "PointMaps$Steps" 11 8 0 (.array .int) := ⟨R_T, F_T, 10, rfl, by decide, rfl, rfl, i_T, tb_1 157 rfl rfl, ⟨fy_T, ty_T⟩, n_T, ty_T 0 (by decide)⟩
theorem ff_T_15 : cn_FF "PointMaps$Steps" 15 8 1 (.array .int) := ⟨R_T, F_T, 10, rfl, by decide, rfl, rfl, i_T, tb_1 158 rfl rfl, ⟨fy_T, ty_T⟩, n_T, ty_T 1 (by decide)⟩
theorem ff_T_18 : cn_FF "PointMaps$Steps" 18 8 2 (.array .int) := ⟨R_T, F_T, 10, rfl, by decide, rfl, rfl, i_T, tb_1 159 rfl rfl, ⟨fy_T, ty_T⟩, n_T, ty_T 2 (by decide)⟩
theorem ff_T_21 : cn_FF "PointMaps$Steps" 21 8 3 (.array .int) := ⟨R_T, F_T, 10, rfl, by decide, rfl, rfl, i_T, tb_1 160 rfl rfl, ⟨fy_T, ty_T⟩, n_T, ty_T 3 (by decide)⟩
theorem ff_T_24 : cn_FF "PointMaps$Steps" 24 8 4 (.array .int) := ⟨R_T, F_T, 10, rfl, by decide, rfl, rfl, i_T, tb_1 161 rfl rfl, ⟨fy_T, ty_T⟩, n_T, ty_T 4 (by decide)⟩
theorem ff_T_27 : cn_FF "PointMaps$Steps" 27 8 5 (.array .int) := ⟨R_T, F_T, 10, rfl, by decide, rfl, rfl, i_T, tb_1 162 rfl rfl, ⟨fy_T, ty_T⟩, n_T, ty_T 5 (by decide)⟩
theorem ff_T_30 : cn_FF "PointMaps$Steps" 30 8 6 (.array .int) := ⟨R_T, F_T, 10, rfl, by decide, rfl, rfl, i_T, tb_1 163 rfl rfl, ⟨fy_T, ty_T⟩, n_T, ty_T 6 (by decide)⟩
def sg_16 (σ : Hp) : Hp := (wI (wI (wI (wI (wI (wI (wI σ 16 0 1) 16 1 1) 16 2 1) 16 3 1) 16 4 1) 16 5 1) 16 6 1)
theorem zz_16 {σ : Hp} (z : Z0 17 σ) : Z0 24 (sg_16 σ) := ((((((((((((((z.up (by decide : 17 ≤ 18)).w (r := 16) (j := 0) (x := 1) (by decide)).up (by decide : 18 ≤ 19)).w (r := 16) (j := 1) (x := 1) (by decide)).up (by decide : 19 ≤ 20)).w (r := 16) (j := 2) (x := 1) (by decide)).up (by decide : 20 ≤ 21)).w (r := 16) (j := 3) (x := 1) (by decide)).up (by decide : 21 ≤ 22)).w (r := 16) (j := 4) (x := 1) (by decide)).up (by decide : 22 ≤ 23)).w (r := 16) (j := 5) (x := 1) (by decide)).up (by decide : 23 ≤ 24)).w (r := 16) (j := 6) (x := 1) (by decide))
set_option maxHeartbeats 1000000 in
theorem k_16 (σ : Hp) (z : Z0 17 σ) : CM m_T_init 7 21000 17 [.ref 16] σ 24 (sg_16 σ) := by
  show CW m_T_init 7 21000 0 [.ref 16] [] 17 σ 0 0 24 (sg_16 σ)
  refine cw_aload_n d_T_init_0 rfl ?_
  refine cw_obj d_T_init_1 (tb_1 156 rfl rfl) (tb_1 25 rfl rfl) (tb_1 26 rfl rfl) (Nat.le_of_ble_eq_true rfl) (Nat.le_of_ble_eq_true rfl) ?_
  refine cw_aload_n d_T_init_4 rfl ?_
  refine cw_sipush (v := 12000) d_T_init_5 (by decide) ?_
  refine cw_newI d_T_init_8 (tb_1 58 rfl rfl) rfl (by decide) (by decide +kernel) (fun _ _ h => h) rfl (by decide) (by decide) (by decide) z (Nat.le_of_ble_eq_true rfl) (Nat.le_of_ble_eq_true rfl) ?_
  refine cw_putR d_T_init_10 ff_T_11 rfl (by decide) (by decide) rfl (fun _ => rfl) (fun _ => rfl) ?_
  refine cw_aload_n d_T_init_13 rfl ?_
  refine cw_sipush (v := 1500) d_T_init_14 (by decide) ?_
  refine cw_newI d_T_init_17 (tb_1 58 rfl rfl) rfl (by decide) (by decide +kernel) (fun _ _ h => h) rfl (by decide) (by decide) (by decide) ((z.up (by decide : 17 ≤ 18)).w (r := 16) (j := 0) (x := 1) (by decide)) (Nat.le_of_ble_eq_true rfl) (Nat.le_of_ble_eq_true rfl) ?_
  refine cw_putR d_T_init_19 ff_T_15 rfl (by decide) (by decide) rfl (fun _ => rfl) (fun _ => rfl) ?_
  refine cw_aload_n d_T_init_22 rfl ?_
  refine cw_sipush (v := 1500) d_T_init_23 (by decide) ?_
  refine cw_newI d_T_init_26 (tb_1 58 rfl rfl) rfl (by decide) (by decide +kernel) (fun _ _ h => h) rfl (by decide) (by decide) (by decide) ((((z.up (by decide : 17 ≤ 18)).w (r := 16) (j := 0) (x := 1) (by decide)).up (by decide : 18 ≤ 19)).w (r := 16) (j := 1) (x := 1) (by decide)) (Nat.le_of_ble_eq_true rfl) (Nat.le_of_ble_eq_true rfl) ?_
  refine cw_putR d_T_init_28 ff_T_18 rfl (by decide) (by decide) rfl (fun _ => rfl) (fun _ => rfl) ?_
  refine cw_aload_n d_T_init_31 rfl ?_
  refine cw_sipush (v := 1500) d_T_init_32 (by decide) ?_
  refine cw_newI d_T_init_35 (tb_1 58 rfl rfl) rfl (by decide) (by decide +kernel) (fun _ _ h => h) rfl (by decide) (by decide) (by decide) ((((((z.up (by decide : 17 ≤ 18)).w (r := 16) (j := 0) (x := 1) (by decide)).up (by decide : 18 ≤ 19)).w (r := 16) (j := 1) (x := 1) (by decide)).up (by decide : 19 ≤ 20)).w (r := 16) (j := 2) (x := 1) (by decide)) (Nat.le_of_ble_eq_true rfl) (Nat.le_of_ble_eq_true rfl) ?_
  refine cw_putR d_T_init_37 ff_T_21 rfl (by decide) (by decide) rfl (fun _ => rfl) (fun _ => rfl) ?_
  refine cw_aload_n d_T_init_40 rfl ?_
  refine cw_sipush (v := 1500) d_T_init_41 (by decide) ?_
  refine cw_newI d_T_init_44 (tb_1 58 rfl rfl) rfl (by decide) (by decide +kernel) (fun _ _ h => h) rfl (by decide) (by decide) (by decide) ((((((((z.up (by decide : 17 ≤ 18)).w (r := 16) (j := 0) (x := 1) (by decide)).up (by decide : 18 ≤ 19)).w (r := 16) (j := 1) (x := 1) (by decide)).up (by decide : 19 ≤ 20)).w (r := 16) (j := 2) (x := 1) (by decide)).up (by decide : 20 ≤ 21)).w (r := 16) (j := 3) (x := 1) (by decide)) (Nat.le_of_ble_eq_true rfl) (Nat.le_of_ble_eq_true rfl) ?_
  refine cw_putR d_T_init_46 ff_T_24 rfl (by decide) (by decide) rfl (fun _ => rfl) (fun _ => rfl) ?_
  refine cw_aload_n d_T_init_49 rfl ?_
  refine cw_sipush (v := 1500) d_T_init_50 (by decide) ?_
  refine cw_newI d_T_init_53 (tb_1 58 rfl rfl) rfl (by decide) (by decide +kernel) (fun _ _ h => h) rfl (by decide) (by decide) (by decide) ((((((((((z.up (by decide : 17 ≤ 18)).w (r := 16) (j := 0) (x := 1) (by decide)).up (by decide : 18 ≤ 19)).w (r := 16) (j := 1) (x := 1) (by decide)).up (by decide : 19 ≤ 20)).w (r := 16) (j := 2) (x := 1) (by decide)).up (by decide : 20 ≤ 21)).w (r := 16) (j := 3) (x := 1) (by decide)).up (by decide : 21 ≤ 22)).w (r := 16) (j := 4) (x := 1) (by decide)) (Nat.le_of_ble_eq_true rfl) (Nat.le_of_ble_eq_true rfl) ?_
  refine cw_putR d_T_init_55 ff_T_27 rfl (by decide) (by decide) rfl (fun _ => rfl) (fun _ => rfl) ?_
  refine cw_aload_n d_T_init_58 rfl ?_
  refine cw_sipush (v := 1500) d_T_init_59 (by decide) ?_
  refine cw_newI d_T_init_62 (tb_1 58 rfl rfl) rfl (by decide) (by decide +kernel) (fun _ _ h => h) rfl (by decide) (by decide) (by decide) ((((((((((((z.up (by decide : 17 ≤ 18)).w (r := 16) (j := 0) (x := 1) (by decide)).up (by decide : 18 ≤ 19)).w (r := 16) (j := 1) (x := 1) (by decide)).up (by decide : 19 ≤ 20)).w (r := 16) (j := 2) (x := 1) (by decide)).up (by decide : 20 ≤ 21)).w (r := 16) (j := 3) (x := 1) (by decide)).up (by decide : 21 ≤ 22)).w (r := 16) (j := 4) (x := 1) (by decide)).up (by decide : 22 ≤ 23)).w (r := 16) (j := 5) (x := 1) (by decide)) (Nat.le_of_ble_eq_true rfl) (Nat.le_of_ble_eq_true rfl) ?_
  refine cw_putR d_T_init_64 ff_T_30 rfl (by decide) (by decide) rfl (fun _ => rfl) (fun _ => rfl) ?_
  exact cw_ret d_T_init_67 rfl
theorem lj_B_11 : hn_LN "PointMaps$Boxes" 11 m_T_init 0 "PointMaps" := ⟨tn_1 153 rfl rfl, tb_1 9 rfl rfl, tb_1 155 rfl rfl, by decide +kernel, by decide, by decide, by decide +kernel⟩
theorem ff_B_12 : cn_FF "PointMaps$Boxes" 12 1 2 (.object "PointMaps$Steps") := ⟨R_B, F_B, 14, rfl, by decide, rfl, rfl, i_B, tb_1 192 rfl rfl, ⟨fy_B, ty_B⟩, n_B, ty_B 2 (by decide)⟩
def sg_24 (σ : Hp) : Hp := (wI (wI σ 24 0 1) 24 1 1)
theorem zz_24 {σ : Hp} (z : Z0 25 σ) : Z0 27 (sg_24 σ) := ((((z.up (by decide : 25 ≤ 26)).w (r := 24) (j := 0) (x := 1) (by decide)).up (by decide : 26 ≤ 27)).w (r := 24) (j := 1) (x := 1) (by decide))
set_option maxHeartbeats 1000000 in
theorem k_24 (σ : Hp) (z : Z0 25 σ) : CM m_F_init 2 8192 25 [.ref 24] σ 27 (sg_24 σ) := by
  show CW m_F_init 2 8192 0 [.ref 24] [] 25 σ 0 0 27 (sg_24 σ)
  refine cw_aload_n d_F_init_0 rfl ?_
  refine cw_obj d_F_init_1 (tb_1 70 rfl rfl) (tb_1 25 rfl rfl) (tb_1 26 rfl rfl) (Nat.le_of_ble_eq_true rfl) (Nat.le_of_ble_eq_true rfl) ?_
  refine cw_aload_n d_F_init_4 rfl ?_
  refine cw_sipush (v := 4096) d_F_init_5 (by decide) ?_
  refine cw_newI d_F_init_8 (tb_1 58 rfl rfl) rfl (by decide) (by decide +kernel) (fun _ _ h => h) rfl (by decide) (by decide) (by decide) z (Nat.le_of_ble_eq_true rfl) (Nat.le_of_ble_eq_true rfl) ?_
  refine cw_putR d_F_init_10 ff_F_11 rfl (by decide) (by decide) rfl (fun _ => rfl) (fun _ => rfl) ?_
  refine cw_aload_n d_F_init_13 rfl ?_
  refine cw_sipush (v := 4096) d_F_init_14 (by decide) ?_
  refine cw_newI d_F_init_17 (tb_1 58 rfl rfl) rfl (by decide) (by decide +kernel) (fun _ _ h => h) rfl (by decide) (by decide) (by decide) ((z.up (by decide : 25 ≤ 26)).w (r := 24) (j := 0) (x := 1) (by decide)) (Nat.le_of_ble_eq_true rfl) (Nat.le_of_ble_eq_true rfl) ?_
  refine cw_putR d_F_init_19 ff_F_15 rfl (by decide) (by decide) rfl (fun _ => rfl) (fun _ => rfl) ?_
  exact cw_ret d_F_init_22 rfl
theorem lj_B_20 : hn_LN "PointMaps$Boxes" 20 m_F_init 0 "PointMaps" := ⟨tn_1 189 rfl rfl, tb_1 4 rfl rfl, tb_1 69 rfl rfl, by decide +kernel, by decide, by decide, by decide +kernel⟩
theorem ff_B_21 : cn_FF "PointMaps$Boxes" 21 1 3 (.object "PointMaps$Finder") := ⟨R_B, F_B, 14, rfl, by decide, rfl, rfl, i_B, tb_1 193 rfl rfl, ⟨fy_B, ty_B⟩, n_B, ty_B 3 (by decide)⟩
theorem ff_B_25 : cn_FF "PointMaps$Boxes" 25 1 4 (.array .int) := ⟨R_B, F_B, 14, rfl, by decide, rfl, rfl, i_B, tb_1 194 rfl rfl, ⟨fy_B, ty_B⟩, n_B, ty_B 4 (by decide)⟩
theorem ff_B_29 : cn_FF "PointMaps$Boxes" 29 1 5 (.array .int) := ⟨R_B, F_B, 14, rfl, by decide, rfl, rfl, i_B, tb_1 195 rfl rfl, ⟨fy_B, ty_B⟩, n_B, ty_B 5 (by decide)⟩
theorem ff_B_32 : cn_FF "PointMaps$Boxes" 32 1 6 (.array .int) := ⟨R_B, F_B, 14, rfl, by decide, rfl, rfl, i_B, tb_1 196 rfl rfl, ⟨fy_B, ty_B⟩, n_B, ty_B 6 (by decide)⟩
theorem ff_B_35 : cn_FF "PointMaps$Boxes" 35 1 7 (.array .int) := ⟨R_B, F_B, 14, rfl, by decide, rfl, rfl, i_B, tb_1 197 rfl rfl, ⟨fy_B, ty_B⟩, n_B, ty_B 7 (by decide)⟩
theorem ff_B_38 : cn_FF "PointMaps$Boxes" 38 1 8 (.array .int) := ⟨R_B, F_B, 14, rfl, by decide, rfl, rfl, i_B, tb_1 198 rfl rfl, ⟨fy_B, ty_B⟩, n_B, ty_B 8 (by decide)⟩
theorem ff_B_41 : cn_FF "PointMaps$Boxes" 41 1 9 (.array .int) := ⟨R_B, F_B, 14, rfl, by decide, rfl, rfl, i_B, tb_1 199 rfl rfl, ⟨fy_B, ty_B⟩, n_B, ty_B 9 (by decide)⟩
theorem ff_B_44 : cn_FF "PointMaps$Boxes" 44 1 10 (.array .int) := ⟨R_B, F_B, 14, rfl, by decide, rfl, rfl, i_B, tb_1 200 rfl rfl, ⟨fy_B, ty_B⟩, n_B, ty_B 10 (by decide)⟩
theorem ff_B_47 : cn_FF "PointMaps$Boxes" 47 1 11 (.array .int) := ⟨R_B, F_B, 14, rfl, by decide, rfl, rfl, i_B, tb_1 201 rfl rfl, ⟨fy_B, ty_B⟩, n_B, ty_B 11 (by decide)⟩
theorem ff_B_50 : cn_FF "PointMaps$Boxes" 50 1 13 (.int) := ⟨R_B, F_B, 14, rfl, by decide, rfl, rfl, i_B, tb_1 203 rfl rfl, ⟨fy_B, ty_B⟩, n_B, ty_B 13 (by decide)⟩
theorem ff_B_54 : cn_FF "PointMaps$Boxes" 54 1 0 (.object "PointMaps$Letters") := ⟨R_B, F_B, 14, rfl, by decide, rfl, rfl, i_B, tb_1 190 rfl rfl, ⟨fy_B, ty_B⟩, n_B, ty_B 0 (by decide)⟩
theorem ff_B_58 : cn_FF "PointMaps$Boxes" 58 1 1 (.object "PointMaps$Elements") := ⟨R_B, F_B, 14, rfl, by decide, rfl, rfl, i_B, tb_1 191 rfl rfl, ⟨fy_B, ty_B⟩, n_B, ty_B 1 (by decide)⟩
def sg_15 (σ : Hp) : Hp := (wI (wI (wI (wI (wI (wI (wI (wI (wI (wI (wI (wI (sg_24 (wI (sg_16 σ) 15 2 1)) 15 3 1) 15 4 1) 15 5 1) 15 6 1) 15 7 1) 15 8 1) 15 9 1) 15 10 1) 15 11 1) 15 13 (-1)) 15 0 1) 15 1 1)
theorem zz_15 {σ : Hp} (z : Z0 16 σ) : Z0 35 (sg_15 σ) := (((((((((((((((((((((zz_24 (((zz_16 (z.up (by decide : 16 ≤ 17))).w (r := 15) (j := 2) (x := 1) (by decide)).up (by decide : 24 ≤ 25))).w (r := 15) (j := 3) (x := 1) (by decide)).up (by decide : 27 ≤ 28)).w (r := 15) (j := 4) (x := 1) (by decide)).up (by decide : 28 ≤ 29)).w (r := 15) (j := 5) (x := 1) (by decide)).up (by decide : 29 ≤ 30)).w (r := 15) (j := 6) (x := 1) (by decide)).up (by decide : 30 ≤ 31)).w (r := 15) (j := 7) (x := 1) (by decide)).up (by decide : 31 ≤ 32)).w (r := 15) (j := 8) (x := 1) (by decide)).up (by decide : 32 ≤ 33)).w (r := 15) (j := 9) (x := 1) (by decide)).up (by decide : 33 ≤ 34)).w (r := 15) (j := 10) (x := 1) (by decide)).up (by decide : 34 ≤ 35)).w (r := 15) (j := 11) (x := 1) (by decide)).w (r := 15) (j := 13) (x := (-1)) (by decide)).w (r := 15) (j := 0) (x := 1) (by decide)).w (r := 15) (j := 1) (x := 1) (by decide))
set_option maxHeartbeats 1000000 in
theorem k_15 (σ : Hp) (z : Z0 16 σ) : CM m_B_init 19 48708 16 [.ref 15, .ref 1, .ref 3] σ 35 (sg_15 σ) := by
  show CW m_B_init 19 48708 0 [.ref 15, .ref 1, .ref 3] [] 16 σ 0 0 35 (sg_15 σ)
  refine cw_aload_n d_B_init_0 rfl ?_
  refine cw_obj d_B_init_1 (tb_1 150 rfl rfl) (tb_1 25 rfl rfl) (tb_1 26 rfl rfl) (Nat.le_of_ble_eq_true rfl) (Nat.le_of_ble_eq_true rfl) ?_
  refine cw_aload_n d_B_init_4 rfl ?_
  refine cw_new (ty := fy_T) d_B_init_5 (tb_1 151 rfl rfl) (tb_1 152 rfl rfl) (tb_1 9 rfl rfl) rfl i_T ty_T rfl df_T z (Nat.le_of_ble_eq_true rfl) (Nat.le_of_ble_eq_true rfl) ?_
  refine cw_dup d_B_init_8 rfl ?_
  refine cw_callN (as := []) (st := [.ref 16, .ref 15]) d_B_init_9 lj_B_11 (tb_1 154 rfl rfl) rfl rfl ⟨Nat.le_of_ble_eq_true rfl, Nat.le_of_ble_eq_true rfl⟩ (Nat.le_of_ble_eq_true rfl) (by decide) (k_16 _ (z.up (by decide : 16 ≤ 17))) rfl (Nat.le_of_ble_eq_true rfl) (Nat.le_of_ble_eq_true rfl) ?_
  refine cw_putR d_B_init_12 ff_B_12 rfl (by decide) (by decide) rfl (fun _ => rfl) (fun _ => rfl) ?_
  refine cw_aload_n d_B_init_15 rfl ?_
  refine cw_new (ty := fy_F) d_B_init_16 (tb_1 188 rfl rfl) (tb_1 66 rfl rfl) (tb_1 4 rfl rfl) rfl i_F ty_F rfl df_F ((zz_16 (z.up (by decide : 16 ≤ 17))).w (r := 15) (j := 2) (x := 1) (by decide)) (Nat.le_of_ble_eq_true rfl) (Nat.le_of_ble_eq_true rfl) ?_
  refine cw_dup d_B_init_19 rfl ?_
  refine cw_callN (as := []) (st := [.ref 24, .ref 15]) d_B_init_20 lj_B_20 (tb_1 68 rfl rfl) rfl rfl ⟨Nat.le_of_ble_eq_true rfl, Nat.le_of_ble_eq_true rfl⟩ (Nat.le_of_ble_eq_true rfl) (by decide) (k_24 _ (((zz_16 (z.up (by decide : 16 ≤ 17))).w (r := 15) (j := 2) (x := 1) (by decide)).up (by decide : 24 ≤ 25))) rfl (Nat.le_of_ble_eq_true rfl) (Nat.le_of_ble_eq_true rfl) ?_
  refine cw_putR d_B_init_23 ff_B_21 rfl (by decide) (by decide) rfl (fun _ => rfl) (fun _ => rfl) ?_
  refine cw_aload_n d_B_init_26 rfl ?_
  refine cw_sipush (v := 6000) d_B_init_27 (by decide) ?_
  refine cw_newI d_B_init_30 (tb_1 58 rfl rfl) rfl (by decide) (by decide +kernel) (fun _ _ h => h) rfl (by decide) (by decide) (by decide) ((zz_24 (((zz_16 (z.up (by decide : 16 ≤ 17))).w (r := 15) (j := 2) (x := 1) (by decide)).up (by decide : 24 ≤ 25))).w (r := 15) (j := 3) (x := 1) (by decide)) (Nat.le_of_ble_eq_true rfl) (Nat.le_of_ble_eq_true rfl) ?_
  refine cw_putR d_B_init_32 ff_B_25 rfl (by decide) (by decide) rfl (fun _ => rfl) (fun _ => rfl) ?_
  refine cw_aload_n d_B_init_35 rfl ?_
  refine cw_sipush (v := 6000) d_B_init_36 (by decide) ?_
  refine cw_newI d_B_init_39 (tb_1 58 rfl rfl) rfl (by decide) (by decide +kernel) (fun _ _ h => h) rfl (by decide) (by decide) (by decide) ((((zz_24 (((zz_16 (z.up (by decide : 16 ≤ 17))).w (r := 15) (j := 2) (x := 1) (by decide)).up (by decide : 24 ≤ 25))).w (r := 15) (j := 3) (x := 1) (by decide)).up (by decide : 27 ≤ 28)).w (r := 15) (j := 4) (x := 1) (by decide)) (Nat.le_of_ble_eq_true rfl) (Nat.le_of_ble_eq_true rfl) ?_
  refine cw_putR d_B_init_41 ff_B_29 rfl (by decide) (by decide) rfl (fun _ => rfl) (fun _ => rfl) ?_
  refine cw_aload_n d_B_init_44 rfl ?_
  refine cw_iconst (v := 4) d_B_init_45 (by decide) ?_
  refine cw_newI d_B_init_46 (tb_1 58 rfl rfl) rfl (by decide) (by decide +kernel) (fun _ _ h => h) rfl (by decide) (by decide) (by decide) ((((((zz_24 (((zz_16 (z.up (by decide : 16 ≤ 17))).w (r := 15) (j := 2) (x := 1) (by decide)).up (by decide : 24 ≤ 25))).w (r := 15) (j := 3) (x := 1) (by decide)).up (by decide : 27 ≤ 28)).w (r := 15) (j := 4) (x := 1) (by decide)).up (by decide : 28 ≤ 29)).w (r := 15) (j := 5) (x := 1) (by decide)) (Nat.le_of_ble_eq_true rfl) (Nat.le_of_ble_eq_true rfl) ?_
  refine cw_putR d_B_init_48 ff_B_32 rfl (by decide) (by decide) rfl (fun _ => rfl) (fun _ => rfl) ?_
  refine cw_aload_n d_B_init_51 rfl ?_
  refine cw_sipush (v := 1500) d_B_init_52 (by decide) ?_
  refine cw_newI d_B_init_55 (tb_1 58 rfl rfl) rfl (by decide) (by decide +kernel) (fun _ _ h => h) rfl (by decide) (by decide) (by decide) ((((((((zz_24 (((zz_16 (z.up (by decide : 16 ≤ 17))).w (r := 15) (j := 2) (x := 1) (by decide)).up (by decide : 24 ≤ 25))).w (r := 15) (j := 3) (x := 1) (by decide)).up (by decide : 27 ≤ 28)).w (r := 15) (j := 4) (x := 1) (by decide)).up (by decide : 28 ≤ 29)).w (r := 15) (j := 5) (x := 1) (by decide)).up (by decide : 29 ≤ 30)).w (r := 15) (j := 6) (x := 1) (by decide)) (Nat.le_of_ble_eq_true rfl) (Nat.le_of_ble_eq_true rfl) ?_
  refine cw_putR d_B_init_57 ff_B_35 rfl (by decide) (by decide) rfl (fun _ => rfl) (fun _ => rfl) ?_
  refine cw_aload_n d_B_init_60 rfl ?_
  refine cw_sipush (v := 1500) d_B_init_61 (by decide) ?_
  refine cw_newI d_B_init_64 (tb_1 58 rfl rfl) rfl (by decide) (by decide +kernel) (fun _ _ h => h) rfl (by decide) (by decide) (by decide) ((((((((((zz_24 (((zz_16 (z.up (by decide : 16 ≤ 17))).w (r := 15) (j := 2) (x := 1) (by decide)).up (by decide : 24 ≤ 25))).w (r := 15) (j := 3) (x := 1) (by decide)).up (by decide : 27 ≤ 28)).w (r := 15) (j := 4) (x := 1) (by decide)).up (by decide : 28 ≤ 29)).w (r := 15) (j := 5) (x := 1) (by decide)).up (by decide : 29 ≤ 30)).w (r := 15) (j := 6) (x := 1) (by decide)).up (by decide : 30 ≤ 31)).w (r := 15) (j := 7) (x := 1) (by decide)) (Nat.le_of_ble_eq_true rfl) (Nat.le_of_ble_eq_true rfl) ?_
  refine cw_putR d_B_init_66 ff_B_38 rfl (by decide) (by decide) rfl (fun _ => rfl) (fun _ => rfl) ?_
  refine cw_aload_n d_B_init_69 rfl ?_
  refine cw_sipush (v := 1500) d_B_init_70 (by decide) ?_
  refine cw_newI d_B_init_73 (tb_1 58 rfl rfl) rfl (by decide) (by decide +kernel) (fun _ _ h => h) rfl (by decide) (by decide) (by decide) ((((((((((((zz_24 (((zz_16 (z.up (by decide : 16 ≤ 17))).w (r := 15) (j := 2) (x := 1) (by decide)).up (by decide : 24 ≤ 25))).w (r := 15) (j := 3) (x := 1) (by decide)).up (by decide : 27 ≤ 28)).w (r := 15) (j := 4) (x := 1) (by decide)).up (by decide : 28 ≤ 29)).w (r := 15) (j := 5) (x := 1) (by decide)).up (by decide : 29 ≤ 30)).w (r := 15) (j := 6) (x := 1) (by decide)).up (by decide : 30 ≤ 31)).w (r := 15) (j := 7) (x := 1) (by decide)).up (by decide : 31 ≤ 32)).w (r := 15) (j := 8) (x := 1) (by decide)) (Nat.le_of_ble_eq_true rfl) (Nat.le_of_ble_eq_true rfl) ?_
  refine cw_putR d_B_init_75 ff_B_41 rfl (by decide) (by decide) rfl (fun _ => rfl) (fun _ => rfl) ?_
  refine cw_aload_n d_B_init_78 rfl ?_
  refine cw_sipush (v := 1500) d_B_init_79 (by decide) ?_
  refine cw_newI d_B_init_82 (tb_1 58 rfl rfl) rfl (by decide) (by decide +kernel) (fun _ _ h => h) rfl (by decide) (by decide) (by decide) ((((((((((((((zz_24 (((zz_16 (z.up (by decide : 16 ≤ 17))).w (r := 15) (j := 2) (x := 1) (by decide)).up (by decide : 24 ≤ 25))).w (r := 15) (j := 3) (x := 1) (by decide)).up (by decide : 27 ≤ 28)).w (r := 15) (j := 4) (x := 1) (by decide)).up (by decide : 28 ≤ 29)).w (r := 15) (j := 5) (x := 1) (by decide)).up (by decide : 29 ≤ 30)).w (r := 15) (j := 6) (x := 1) (by decide)).up (by decide : 30 ≤ 31)).w (r := 15) (j := 7) (x := 1) (by decide)).up (by decide : 31 ≤ 32)).w (r := 15) (j := 8) (x := 1) (by decide)).up (by decide : 32 ≤ 33)).w (r := 15) (j := 9) (x := 1) (by decide)) (Nat.le_of_ble_eq_true rfl) (Nat.le_of_ble_eq_true rfl) ?_
  refine cw_putR d_B_init_84 ff_B_44 rfl (by decide) (by decide) rfl (fun _ => rfl) (fun _ => rfl) ?_
  refine cw_aload_n d_B_init_87 rfl ?_
  refine cw_sipush (v := 1500) d_B_init_88 (by decide) ?_
  refine cw_newI d_B_init_91 (tb_1 58 rfl rfl) rfl (by decide) (by decide +kernel) (fun _ _ h => h) rfl (by decide) (by decide) (by decide) ((((((((((((((((zz_24 (((zz_16 (z.up (by decide : 16 ≤ 17))).w (r := 15) (j := 2) (x := 1) (by decide)).up (by decide : 24 ≤ 25))).w (r := 15) (j := 3) (x := 1) (by decide)).up (by decide : 27 ≤ 28)).w (r := 15) (j := 4) (x := 1) (by decide)).up (by decide : 28 ≤ 29)).w (r := 15) (j := 5) (x := 1) (by decide)).up (by decide : 29 ≤ 30)).w (r := 15) (j := 6) (x := 1) (by decide)).up (by decide : 30 ≤ 31)).w (r := 15) (j := 7) (x := 1) (by decide)).up (by decide : 31 ≤ 32)).w (r := 15) (j := 8) (x := 1) (by decide)).up (by decide : 32 ≤ 33)).w (r := 15) (j := 9) (x := 1) (by decide)).up (by decide : 33 ≤ 34)).w (r := 15) (j := 10) (x := 1) (by decide)) (Nat.le_of_ble_eq_true rfl) (Nat.le_of_ble_eq_true rfl) ?_
  refine cw_putR d_B_init_93 ff_B_47 rfl (by decide) (by decide) rfl (fun _ => rfl) (fun _ => rfl) ?_
  refine cw_aload_n d_B_init_96 rfl ?_
  refine cw_iconst (v := -1) d_B_init_97 (by decide) ?_
  refine cw_putI d_B_init_98 ff_B_50 rfl (by decide) (by decide) rfl (by decide) (by decide) (by decide) ?_
  refine cw_aload_n d_B_init_101 rfl ?_
  refine cw_aload_n d_B_init_102 rfl ?_
  refine cw_putR d_B_init_103 ff_B_54 rfl (by decide) (by decide) rfl (fun _ => rfl) (fun _ => rfl) ?_
  refine cw_aload_n d_B_init_106 rfl ?_
  refine cw_aload_n d_B_init_107 rfl ?_
  refine cw_putR d_B_init_108 ff_B_58 rfl (by decide) (by decide) rfl (fun _ => rfl) (fun _ => rfl) ?_
  exact cw_ret d_B_init_111 rfl
theorem li_P_27 : hn_LB "PointMaps" 27 m_B_init 2 := ⟨tb_1 147 rfl rfl, tb_1 8 rfl rfl, tb_1 149 rfl rfl, by decide +kernel, by decide, by decide, by decide +kernel⟩
theorem ff_P_30 : cn_FF "PointMaps" 30 0 2 (.object "PointMaps$Boxes") := ⟨R_P, F_P, 7, rfl, by decide, rfl, rfl, i_P, tb_2 72 rfl rfl, ⟨fy_P, ty_P⟩, n_P, ty_P 2 (by decide)⟩
theorem df_S : ∀ j, j < 1 → defaultValue (fy_S j) = vp_V (([(2, 1)] : List (Nat × Nat)).map cn_df) j := fun j hj => match j, hj with
  | 0, _ => rfl
  | k + 1, h => absurd h (by omega)
def m_S_init : MethodName × ByteArray × Nat × Option FieldType × Nat × Nat := (⟨"PointMaps$PointSets", "<init>", "(LPointMaps$Letters;)V"⟩, prog_8_method_1_code, 2, none, 1, 12)
abbrev b_S_init : ByteArray := prog_8_method_1_code
theorem d_S_init_0 : Dc b_S_init 0 (.aload_n 0) 1 1 := ⟨by decide +kernel, rfl⟩
theorem d_S_init_1 : Dc b_S_init 1 (.invokespecial 1) 3 4 := ⟨by decide +kernel, rfl⟩
theorem d_S_init_4 : Dc b_S_init 4 (.aload_n 0) 1 5 := ⟨by decide +kernel, rfl⟩
theorem d_S_init_5 : Dc b_S_init 5 (.aload_n 1) 1 6 := ⟨by decide +kernel, rfl⟩
theorem d_S_init_6 : Dc b_S_init 6 (.putfield 7) 3 9 := ⟨by decide +kernel, rfl⟩
theorem d_S_init_9 : Dc b_S_init 9 (.return_) 1 10 := ⟨by decide +kernel, rfl⟩
theorem ff_S_7 : cn_FF "PointMaps$PointSets" 7 6 0 (.object "PointMaps$Letters") := ⟨R_S, F_S, 1, rfl, by decide, rfl, rfl, i_S, tb_1 239 rfl rfl, ⟨fy_S, ty_S⟩, n_S, ty_S 0 (by decide)⟩
def sg_35 (σ : Hp) : Hp := (wI σ 35 0 1)
theorem zz_35 {σ : Hp} (z : Z0 36 σ) : Z0 36 (sg_35 σ) := (z.w (r := 35) (j := 0) (x := 1) (by decide))
set_option maxHeartbeats 1000000 in
theorem k_35 (σ : Hp) (z : Z0 36 σ) : CM m_S_init 0 0 36 [.ref 35, .ref 1] σ 36 (sg_35 σ) := by
  show CW m_S_init 0 0 0 [.ref 35, .ref 1] [] 36 σ 0 0 36 (sg_35 σ)
  refine cw_aload_n d_S_init_0 rfl ?_
  refine cw_obj d_S_init_1 (tb_1 238 rfl rfl) (tb_1 25 rfl rfl) (tb_1 26 rfl rfl) (Nat.le_of_ble_eq_true rfl) (Nat.le_of_ble_eq_true rfl) ?_
  refine cw_aload_n d_S_init_4 rfl ?_
  refine cw_aload_n d_S_init_5 rfl ?_
  refine cw_putR d_S_init_6 ff_S_7 rfl (by decide) (by decide) rfl (fun _ => rfl) (fun _ => rfl) ?_
  exact cw_ret d_S_init_9 rfl
theorem li_P_36 : hn_LB "PointMaps" 36 m_S_init 1 := ⟨tb_1 235 rfl rfl, tb_1 10 rfl rfl, tb_1 237 rfl rfl, by decide +kernel, by decide, by decide, by decide +kernel⟩
theorem ff_P_37 : cn_FF "PointMaps" 37 0 3 (.object "PointMaps$PointSets") := ⟨R_P, F_P, 7, rfl, by decide, rfl, rfl, i_P, tb_2 73 rfl rfl, ⟨fy_P, ty_P⟩, n_P, ty_P 3 (by decide)⟩
theorem df_K : ∀ j, j < 6 → defaultValue (fy_K j) = vp_V (([(2, 1), (3, 0), (2, 37), (2, 38), (0, 0), (1, 0)] : List (Nat × Nat)).map cn_df) j := fun j hj => match j, hj with
  | 0, _ => rfl
  | 1, _ => rfl
  | 2, _ => rfl
  | 3, _ => rfl
  | 4, _ => rfl
  | 5, _ => rfl
  | k + 6, h => absurd h (by omega)
def m_K_init : MethodName × ByteArray × Nat × Option FieldType × Nat × Nat := (⟨"PointMaps$Walks", "<init>", "(LPointMaps$Letters;Z)V"⟩, prog_12_method_1_code, 3, none, 2, 46)
abbrev b_K_init : ByteArray := prog_12_method_1_code
theorem d_K_init_0 : Dc b_K_init 0 (.aload_n 0) 1 1 := ⟨by decide +kernel, rfl⟩
theorem d_K_init_1 : Dc b_K_init 1 (.invokespecial 3) 3 4 := ⟨by decide +kernel, rfl⟩
theorem d_K_init_4 : Dc b_K_init 4 (.aload_n 0) 1 5 := ⟨by decide +kernel, rfl⟩
theorem d_K_init_5 : Dc b_K_init 5 (.bipush 64) 2 7 := ⟨by decide +kernel, rfl⟩
theorem d_K_init_7 : Dc b_K_init 7 (.newarray .int) 2 9 := ⟨by decide +kernel, rfl⟩
theorem d_K_init_9 : Dc b_K_init 9 (.putfield 11) 3 12 := ⟨by decide +kernel, rfl⟩
theorem d_K_init_12 : Dc b_K_init 12 (.aload_n 0) 1 13 := ⟨by decide +kernel, rfl⟩
theorem d_K_init_13 : Dc b_K_init 13 (.new 15) 3 16 := ⟨by decide +kernel, rfl⟩
theorem d_K_init_16 : Dc b_K_init 16 (.dup) 1 17 := ⟨by decide +kernel, rfl⟩
theorem d_K_init_17 : Dc b_K_init 17 (.bipush 64) 2 19 := ⟨by decide +kernel, rfl⟩
theorem d_K_init_19 : Dc b_K_init 19 (.invokespecial 17) 3 22 := ⟨by decide +kernel, rfl⟩
theorem d_K_init_22 : Dc b_K_init 22 (.putfield 20) 3 25 := ⟨by decide +kernel, rfl⟩
theorem d_K_init_25 : Dc b_K_init 25 (.aload_n 0) 1 26 := ⟨by decide +kernel, rfl⟩
theorem d_K_init_26 : Dc b_K_init 26 (.aload_n 1) 1 27 := ⟨by decide +kernel, rfl⟩
theorem d_K_init_27 : Dc b_K_init 27 (.putfield 24) 3 30 := ⟨by decide +kernel, rfl⟩
theorem d_K_init_30 : Dc b_K_init 30 (.aload_n 0) 1 31 := ⟨by decide +kernel, rfl⟩
theorem d_K_init_31 : Dc b_K_init 31 (.iload_n 2) 1 32 := ⟨by decide +kernel, rfl⟩
theorem d_K_init_32 : Dc b_K_init 32 (.putfield 28) 3 35 := ⟨by decide +kernel, rfl⟩
theorem d_K_init_35 : Dc b_K_init 35 (.return_) 1 36 := ⟨by decide +kernel, rfl⟩
theorem ff_K_11 : cn_FF "PointMaps$Walks" 11 10 2 (.array .int) := ⟨R_K, F_K, 6, rfl, by decide, rfl, rfl, i_K, tb_2 13 rfl rfl, ⟨fy_K, ty_K⟩, n_K, ty_K 2 (by decide)⟩
def sg_38 (σ : Hp) : Hp := (wI (wI (wI σ 38 0 1) 38 1 1) 38 2 1)
theorem zz_38 {σ : Hp} (z : Z0 39 σ) : Z0 42 (sg_38 σ) := ((((((z.up (by decide : 39 ≤ 40)).w (r := 38) (j := 0) (x := 1) (by decide)).up (by decide : 40 ≤ 41)).w (r := 38) (j := 1) (x := 1) (by decide)).up (by decide : 41 ≤ 42)).w (r := 38) (j := 2) (x := 1) (by decide))
set_option maxHeartbeats 1000000 in
theorem k_38 (σ : Hp) (z : Z0 39 σ) : CM m_R_init 3 192 39 [.ref 38, .int 64] σ 42 (sg_38 σ) := by
  show CW m_R_init 3 192 0 [.ref 38, .int 64] [] 39 σ 0 0 42 (sg_38 σ)
  refine cw_aload_n d_R_init_0 rfl ?_
  refine cw_obj d_R_init_1 (tb_1 99 rfl rfl) (tb_1 25 rfl rfl) (tb_1 26 rfl rfl) (Nat.le_of_ble_eq_true rfl) (Nat.le_of_ble_eq_true rfl) ?_
  refine cw_aload_n d_R_init_4 rfl ?_
  refine cw_iconst (v := 0) d_R_init_5 (by decide) ?_
  refine cw_iload_n d_R_init_6 rfl ?_
  refine cw_max (w := 64) d_R_init_7 (tb_1 100 rfl rfl) (tb_1 101 rfl rfl) (tb_1 7 rfl rfl) (tb_1 102 rfl rfl) (Nat.le_of_ble_eq_true rfl) (Nat.le_of_ble_eq_true rfl) (Nat.le_of_ble_eq_true rfl) (Nat.le_of_ble_eq_true rfl) (by decide) ?_
  refine cw_newI d_R_init_10 (tb_1 58 rfl rfl) rfl (by decide) (by decide +kernel) (fun _ _ h => h) rfl (by decide) (by decide) (by decide) z (Nat.le_of_ble_eq_true rfl) (Nat.le_of_ble_eq_true rfl) ?_
  refine cw_putR d_R_init_12 ff_R_15 rfl (by decide) (by decide) rfl (fun _ => rfl) (fun _ => rfl) ?_
  refine cw_aload_n d_R_init_15 rfl ?_
  refine cw_iconst (v := 0) d_R_init_16 (by decide) ?_
  refine cw_iload_n d_R_init_17 rfl ?_
  refine cw_max (w := 64) d_R_init_18 (tb_1 100 rfl rfl) (tb_1 101 rfl rfl) (tb_1 7 rfl rfl) (tb_1 102 rfl rfl) (Nat.le_of_ble_eq_true rfl) (Nat.le_of_ble_eq_true rfl) (Nat.le_of_ble_eq_true rfl) (Nat.le_of_ble_eq_true rfl) (by decide) ?_
  refine cw_newI d_R_init_21 (tb_1 58 rfl rfl) rfl (by decide) (by decide +kernel) (fun _ _ h => h) rfl (by decide) (by decide) (by decide) ((z.up (by decide : 39 ≤ 40)).w (r := 38) (j := 0) (x := 1) (by decide)) (Nat.le_of_ble_eq_true rfl) (Nat.le_of_ble_eq_true rfl) ?_
  refine cw_putR d_R_init_23 ff_R_21 rfl (by decide) (by decide) rfl (fun _ => rfl) (fun _ => rfl) ?_
  refine cw_aload_n d_R_init_26 rfl ?_
  refine cw_iconst (v := 0) d_R_init_27 (by decide) ?_
  refine cw_iload_n d_R_init_28 rfl ?_
  refine cw_max (w := 64) d_R_init_29 (tb_1 100 rfl rfl) (tb_1 101 rfl rfl) (tb_1 7 rfl rfl) (tb_1 102 rfl rfl) (Nat.le_of_ble_eq_true rfl) (Nat.le_of_ble_eq_true rfl) (Nat.le_of_ble_eq_true rfl) (Nat.le_of_ble_eq_true rfl) (by decide) ?_
  refine cw_newI d_R_init_32 (tb_1 58 rfl rfl) rfl (by decide) (by decide +kernel) (fun _ _ h => h) rfl (by decide) (by decide) (by decide) ((((z.up (by decide : 39 ≤ 40)).w (r := 38) (j := 0) (x := 1) (by decide)).up (by decide : 40 ≤ 41)).w (r := 38) (j := 1) (x := 1) (by decide)) (Nat.le_of_ble_eq_true rfl) (Nat.le_of_ble_eq_true rfl) ?_
  refine cw_putR d_R_init_34 ff_R_24 rfl (by decide) (by decide) rfl (fun _ => rfl) (fun _ => rfl) ?_
  exact cw_ret d_R_init_37 rfl
theorem li_K_17 : hn_LB "PointMaps$Walks" 17 m_R_init 1 := ⟨tb_2 10 rfl rfl, tb_1 6 rfl rfl, tb_1 98 rfl rfl, by decide +kernel, by decide, by decide, by decide +kernel⟩
theorem ff_K_20 : cn_FF "PointMaps$Walks" 20 10 3 (.object "PointMaps$Trail") := ⟨R_K, F_K, 6, rfl, by decide, rfl, rfl, i_K, tb_2 14 rfl rfl, ⟨fy_K, ty_K⟩, n_K, ty_K 3 (by decide)⟩
theorem ff_K_24 : cn_FF "PointMaps$Walks" 24 10 0 (.object "PointMaps$Letters") := ⟨R_K, F_K, 6, rfl, by decide, rfl, rfl, i_K, tb_2 11 rfl rfl, ⟨fy_K, ty_K⟩, n_K, ty_K 0 (by decide)⟩
theorem ff_K_28 : cn_FF "PointMaps$Walks" 28 10 1 (.boolean) := ⟨R_K, F_K, 6, rfl, by decide, rfl, rfl, i_K, tb_2 12 rfl rfl, ⟨fy_K, ty_K⟩, n_K, ty_K 1 (by decide)⟩
def sg_36 (σ : Hp) : Hp := (wI (wI (wI (sg_38 (wI σ 36 2 1)) 36 3 1) 36 0 1) 36 1 0)
theorem zz_36 {σ : Hp} (z : Z0 37 σ) : Z0 42 (sg_36 σ) := ((((zz_38 (((z.up (by decide : 37 ≤ 38)).w (r := 36) (j := 2) (x := 1) (by decide)).up (by decide : 38 ≤ 39))).w (r := 36) (j := 3) (x := 1) (by decide)).w (r := 36) (j := 0) (x := 1) (by decide)).w (r := 36) (j := 1) (x := 0) (by decide))
set_option maxHeartbeats 1000000 in
theorem k_36 (σ : Hp) (z : Z0 37 σ) : CM m_K_init 5 259 37 [.ref 36, .ref 1, .int 0] σ 42 (sg_36 σ) := by
  show CW m_K_init 5 259 0 [.ref 36, .ref 1, .int 0] [] 37 σ 0 0 42 (sg_36 σ)
  refine cw_aload_n d_K_init_0 rfl ?_
  refine cw_obj d_K_init_1 (tb_2 8 rfl rfl) (tb_1 25 rfl rfl) (tb_1 26 rfl rfl) (Nat.le_of_ble_eq_true rfl) (Nat.le_of_ble_eq_true rfl) ?_
  refine cw_aload_n d_K_init_4 rfl ?_
  refine cw_bipush (v := 64) d_K_init_5 (by decide) ?_
  refine cw_newI d_K_init_7 (tb_1 58 rfl rfl) rfl (by decide) (by decide +kernel) (fun _ _ h => h) rfl (by decide) (by decide) (by decide) z (Nat.le_of_ble_eq_true rfl) (Nat.le_of_ble_eq_true rfl) ?_
  refine cw_putR d_K_init_9 ff_K_11 rfl (by decide) (by decide) rfl (fun _ => rfl) (fun _ => rfl) ?_
  refine cw_aload_n d_K_init_12 rfl ?_
  refine cw_new (ty := fy_R) d_K_init_13 (tb_2 9 rfl rfl) (tb_1 95 rfl rfl) (tb_1 6 rfl rfl) rfl i_R ty_R rfl df_R ((z.up (by decide : 37 ≤ 38)).w (r := 36) (j := 2) (x := 1) (by decide)) (Nat.le_of_ble_eq_true rfl) (Nat.le_of_ble_eq_true rfl) ?_
  refine cw_dup d_K_init_16 rfl ?_
  refine cw_bipush (v := 64) d_K_init_17 (by decide) ?_
  refine cw_call (as := [.int 64]) (st := [.ref 38, .ref 36]) d_K_init_19 li_K_17 (tb_1 97 rfl rfl) rfl rfl ⟨Nat.le_of_ble_eq_true rfl, Nat.le_of_ble_eq_true rfl⟩ (Nat.le_of_ble_eq_true rfl) (by decide) (k_38 _ (((z.up (by decide : 37 ≤ 38)).w (r := 36) (j := 2) (x := 1) (by decide)).up (by decide : 38 ≤ 39))) rfl (Nat.le_of_ble_eq_true rfl) (Nat.le_of_ble_eq_true rfl) ?_
  refine cw_putR d_K_init_22 ff_K_20 rfl (by decide) (by decide) rfl (fun _ => rfl) (fun _ => rfl) ?_
  refine cw_aload_n d_K_init_25 rfl ?_
  refine cw_aload_n d_K_init_26 rfl ?_
  refine cw_putR d_K_init_27 ff_K_24 rfl (by decide) (by decide) rfl (fun _ => rfl) (fun _ => rfl) ?_
  refine cw_aload_n d_K_init_30 rfl ?_
  refine cw_iload_n d_K_init_31 rfl ?_
  refine cw_putI d_K_init_32 ff_K_28 rfl (by decide) (by decide) rfl (by decide) (by decide) (by decide) ?_
  exact cw_ret d_K_init_35 rfl
theorem li_P_43 : hn_LB "PointMaps" 43 m_K_init 2 := ⟨tb_2 5 rfl rfl, tb_1 11 rfl rfl, tb_2 7 rfl rfl, by decide +kernel, by decide, by decide, by decide +kernel⟩
theorem ff_P_46 : cn_FF "PointMaps" 46 0 4 (.object "PointMaps$Walks") := ⟨R_P, F_P, 7, rfl, by decide, rfl, rfl, i_P, tb_2 74 rfl rfl, ⟨fy_P, ty_P⟩, n_P, ty_P 4 (by decide)⟩
def sg_44 (σ : Hp) : Hp := (wI (wI (wI σ 44 0 1) 44 1 1) 44 2 1)
theorem zz_44 {σ : Hp} (z : Z0 45 σ) : Z0 48 (sg_44 σ) := ((((((z.up (by decide : 45 ≤ 46)).w (r := 44) (j := 0) (x := 1) (by decide)).up (by decide : 46 ≤ 47)).w (r := 44) (j := 1) (x := 1) (by decide)).up (by decide : 47 ≤ 48)).w (r := 44) (j := 2) (x := 1) (by decide))
set_option maxHeartbeats 1000000 in
theorem k_44 (σ : Hp) (z : Z0 45 σ) : CM m_R_init 3 192 45 [.ref 44, .int 64] σ 48 (sg_44 σ) := by
  show CW m_R_init 3 192 0 [.ref 44, .int 64] [] 45 σ 0 0 48 (sg_44 σ)
  refine cw_aload_n d_R_init_0 rfl ?_
  refine cw_obj d_R_init_1 (tb_1 99 rfl rfl) (tb_1 25 rfl rfl) (tb_1 26 rfl rfl) (Nat.le_of_ble_eq_true rfl) (Nat.le_of_ble_eq_true rfl) ?_
  refine cw_aload_n d_R_init_4 rfl ?_
  refine cw_iconst (v := 0) d_R_init_5 (by decide) ?_
  refine cw_iload_n d_R_init_6 rfl ?_
  refine cw_max (w := 64) d_R_init_7 (tb_1 100 rfl rfl) (tb_1 101 rfl rfl) (tb_1 7 rfl rfl) (tb_1 102 rfl rfl) (Nat.le_of_ble_eq_true rfl) (Nat.le_of_ble_eq_true rfl) (Nat.le_of_ble_eq_true rfl) (Nat.le_of_ble_eq_true rfl) (by decide) ?_
  refine cw_newI d_R_init_10 (tb_1 58 rfl rfl) rfl (by decide) (by decide +kernel) (fun _ _ h => h) rfl (by decide) (by decide) (by decide) z (Nat.le_of_ble_eq_true rfl) (Nat.le_of_ble_eq_true rfl) ?_
  refine cw_putR d_R_init_12 ff_R_15 rfl (by decide) (by decide) rfl (fun _ => rfl) (fun _ => rfl) ?_
  refine cw_aload_n d_R_init_15 rfl ?_
  refine cw_iconst (v := 0) d_R_init_16 (by decide) ?_
  refine cw_iload_n d_R_init_17 rfl ?_
  refine cw_max (w := 64) d_R_init_18 (tb_1 100 rfl rfl) (tb_1 101 rfl rfl) (tb_1 7 rfl rfl) (tb_1 102 rfl rfl) (Nat.le_of_ble_eq_true rfl) (Nat.le_of_ble_eq_true rfl) (Nat.le_of_ble_eq_true rfl) (Nat.le_of_ble_eq_true rfl) (by decide) ?_
  refine cw_newI d_R_init_21 (tb_1 58 rfl rfl) rfl (by decide) (by decide +kernel) (fun _ _ h => h) rfl (by decide) (by decide) (by decide) ((z.up (by decide : 45 ≤ 46)).w (r := 44) (j := 0) (x := 1) (by decide)) (Nat.le_of_ble_eq_true rfl) (Nat.le_of_ble_eq_true rfl) ?_
  refine cw_putR d_R_init_23 ff_R_21 rfl (by decide) (by decide) rfl (fun _ => rfl) (fun _ => rfl) ?_
  refine cw_aload_n d_R_init_26 rfl ?_
  refine cw_iconst (v := 0) d_R_init_27 (by decide) ?_
  refine cw_iload_n d_R_init_28 rfl ?_
  refine cw_max (w := 64) d_R_init_29 (tb_1 100 rfl rfl) (tb_1 101 rfl rfl) (tb_1 7 rfl rfl) (tb_1 102 rfl rfl) (Nat.le_of_ble_eq_true rfl) (Nat.le_of_ble_eq_true rfl) (Nat.le_of_ble_eq_true rfl) (Nat.le_of_ble_eq_true rfl) (by decide) ?_
  refine cw_newI d_R_init_32 (tb_1 58 rfl rfl) rfl (by decide) (by decide +kernel) (fun _ _ h => h) rfl (by decide) (by decide) (by decide) ((((z.up (by decide : 45 ≤ 46)).w (r := 44) (j := 0) (x := 1) (by decide)).up (by decide : 46 ≤ 47)).w (r := 44) (j := 1) (x := 1) (by decide)) (Nat.le_of_ble_eq_true rfl) (Nat.le_of_ble_eq_true rfl) ?_
  refine cw_putR d_R_init_34 ff_R_24 rfl (by decide) (by decide) rfl (fun _ => rfl) (fun _ => rfl) ?_
  exact cw_ret d_R_init_37 rfl
def sg_42 (σ : Hp) : Hp := (wI (wI (wI (sg_44 (wI σ 42 2 1)) 42 3 1) 42 0 1) 42 1 1)
theorem zz_42 {σ : Hp} (z : Z0 43 σ) : Z0 48 (sg_42 σ) := ((((zz_44 (((z.up (by decide : 43 ≤ 44)).w (r := 42) (j := 2) (x := 1) (by decide)).up (by decide : 44 ≤ 45))).w (r := 42) (j := 3) (x := 1) (by decide)).w (r := 42) (j := 0) (x := 1) (by decide)).w (r := 42) (j := 1) (x := 1) (by decide))
set_option maxHeartbeats 1000000 in
theorem k_42 (σ : Hp) (z : Z0 43 σ) : CM m_K_init 5 259 43 [.ref 42, .ref 1, .int 1] σ 48 (sg_42 σ) := by
  show CW m_K_init 5 259 0 [.ref 42, .ref 1, .int 1] [] 43 σ 0 0 48 (sg_42 σ)
  refine cw_aload_n d_K_init_0 rfl ?_
  refine cw_obj d_K_init_1 (tb_2 8 rfl rfl) (tb_1 25 rfl rfl) (tb_1 26 rfl rfl) (Nat.le_of_ble_eq_true rfl) (Nat.le_of_ble_eq_true rfl) ?_
  refine cw_aload_n d_K_init_4 rfl ?_
  refine cw_bipush (v := 64) d_K_init_5 (by decide) ?_
  refine cw_newI d_K_init_7 (tb_1 58 rfl rfl) rfl (by decide) (by decide +kernel) (fun _ _ h => h) rfl (by decide) (by decide) (by decide) z (Nat.le_of_ble_eq_true rfl) (Nat.le_of_ble_eq_true rfl) ?_
  refine cw_putR d_K_init_9 ff_K_11 rfl (by decide) (by decide) rfl (fun _ => rfl) (fun _ => rfl) ?_
  refine cw_aload_n d_K_init_12 rfl ?_
  refine cw_new (ty := fy_R) d_K_init_13 (tb_2 9 rfl rfl) (tb_1 95 rfl rfl) (tb_1 6 rfl rfl) rfl i_R ty_R rfl df_R ((z.up (by decide : 43 ≤ 44)).w (r := 42) (j := 2) (x := 1) (by decide)) (Nat.le_of_ble_eq_true rfl) (Nat.le_of_ble_eq_true rfl) ?_
  refine cw_dup d_K_init_16 rfl ?_
  refine cw_bipush (v := 64) d_K_init_17 (by decide) ?_
  refine cw_call (as := [.int 64]) (st := [.ref 44, .ref 42]) d_K_init_19 li_K_17 (tb_1 97 rfl rfl) rfl rfl ⟨Nat.le_of_ble_eq_true rfl, Nat.le_of_ble_eq_true rfl⟩ (Nat.le_of_ble_eq_true rfl) (by decide) (k_44 _ (((z.up (by decide : 43 ≤ 44)).w (r := 42) (j := 2) (x := 1) (by decide)).up (by decide : 44 ≤ 45))) rfl (Nat.le_of_ble_eq_true rfl) (Nat.le_of_ble_eq_true rfl) ?_
  refine cw_putR d_K_init_22 ff_K_20 rfl (by decide) (by decide) rfl (fun _ => rfl) (fun _ => rfl) ?_
  refine cw_aload_n d_K_init_25 rfl ?_
  refine cw_aload_n d_K_init_26 rfl ?_
  refine cw_putR d_K_init_27 ff_K_24 rfl (by decide) (by decide) rfl (fun _ => rfl) (fun _ => rfl) ?_
  refine cw_aload_n d_K_init_30 rfl ?_
  refine cw_iload_n d_K_init_31 rfl ?_
  refine cw_putI d_K_init_32 ff_K_28 rfl (by decide) (by decide) rfl (by decide) (by decide) (by decide) ?_
  exact cw_ret d_K_init_35 rfl
theorem ff_P_50 : cn_FF "PointMaps" 50 0 5 (.object "PointMaps$Walks") := ⟨R_P, F_P, 7, rfl, by decide, rfl, rfl, i_P, tb_2 75 rfl rfl, ⟨fy_P, ty_P⟩, n_P, ty_P 5 (by decide)⟩
theorem df_A : ∀ j, j < 9 → defaultValue (fy_A j) = vp_V (([(2, 1), (2, 3), (2, 35), (2, 49), (2, 51), (2, 54), (2, 55), (0, 0), (0, 0)] : List (Nat × Nat)).map cn_df) j := fun j hj => match j, hj with
  | 0, _ => rfl
  | 1, _ => rfl
  | 2, _ => rfl
  | 3, _ => rfl
  | 4, _ => rfl
  | 5, _ => rfl
  | 6, _ => rfl
  | 7, _ => rfl
  | 8, _ => rfl
  | k + 9, h => absurd h (by omega)
def m_A_init : MethodName × ByteArray × Nat × Option FieldType × Nat × Nat := (⟨"PointMaps$Machine", "<init>", "(LPointMaps$Letters;LPointMaps$Elements;LPointMaps$PointSets;)V"⟩, prog_6_method_1_code, 4, none, 2, 32)
abbrev b_A_init : ByteArray := prog_6_method_1_code
theorem d_A_init_0 : Dc b_A_init 0 (.aload_n 0) 1 1 := ⟨by decide +kernel, rfl⟩
theorem d_A_init_1 : Dc b_A_init 1 (.invokespecial 3) 3 4 := ⟨by decide +kernel, rfl⟩
theorem d_A_init_4 : Dc b_A_init 4 (.aload_n 0) 1 5 := ⟨by decide +kernel, rfl⟩
theorem d_A_init_5 : Dc b_A_init 5 (.new 9) 3 8 := ⟨by decide +kernel, rfl⟩
theorem d_A_init_8 : Dc b_A_init 8 (.dup) 1 9 := ⟨by decide +kernel, rfl⟩
theorem d_A_init_9 : Dc b_A_init 9 (.invokespecial 11) 3 12 := ⟨by decide +kernel, rfl⟩
theorem d_A_init_12 : Dc b_A_init 12 (.putfield 12) 3 15 := ⟨by decide +kernel, rfl⟩
theorem d_A_init_15 : Dc b_A_init 15 (.aload_n 0) 1 16 := ⟨by decide +kernel, rfl⟩
theorem d_A_init_16 : Dc b_A_init 16 (.new 18) 3 19 := ⟨by decide +kernel, rfl⟩
theorem d_A_init_19 : Dc b_A_init 19 (.dup) 1 20 := ⟨by decide +kernel, rfl⟩
theorem d_A_init_20 : Dc b_A_init 20 (.invokespecial 20) 3 23 := ⟨by decide +kernel, rfl⟩
theorem d_A_init_23 : Dc b_A_init 23 (.putfield 21) 3 26 := ⟨by decide +kernel, rfl⟩
theorem d_A_init_26 : Dc b_A_init 26 (.aload_n 0) 1 27 := ⟨by decide +kernel, rfl⟩
theorem d_A_init_27 : Dc b_A_init 27 (.bipush 6) 2 29 := ⟨by decide +kernel, rfl⟩
theorem d_A_init_29 : Dc b_A_init 29 (.newarray .int) 2 31 := ⟨by decide +kernel, rfl⟩
theorem d_A_init_31 : Dc b_A_init 31 (.putfield 25) 3 34 := ⟨by decide +kernel, rfl⟩
theorem d_A_init_34 : Dc b_A_init 34 (.aload_n 0) 1 35 := ⟨by decide +kernel, rfl⟩
theorem d_A_init_35 : Dc b_A_init 35 (.bipush 6) 2 37 := ⟨by decide +kernel, rfl⟩
theorem d_A_init_37 : Dc b_A_init 37 (.newarray .int) 2 39 := ⟨by decide +kernel, rfl⟩
theorem d_A_init_39 : Dc b_A_init 39 (.putfield 29) 3 42 := ⟨by decide +kernel, rfl⟩
theorem d_A_init_42 : Dc b_A_init 42 (.aload_n 0) 1 43 := ⟨by decide +kernel, rfl⟩
theorem d_A_init_43 : Dc b_A_init 43 (.aload_n 1) 1 44 := ⟨by decide +kernel, rfl⟩
theorem d_A_init_44 : Dc b_A_init 44 (.putfield 32) 3 47 := ⟨by decide +kernel, rfl⟩
theorem d_A_init_47 : Dc b_A_init 47 (.aload_n 0) 1 48 := ⟨by decide +kernel, rfl⟩
theorem d_A_init_48 : Dc b_A_init 48 (.aload_n 2) 1 49 := ⟨by decide +kernel, rfl⟩
theorem d_A_init_49 : Dc b_A_init 49 (.putfield 36) 3 52 := ⟨by decide +kernel, rfl⟩
theorem d_A_init_52 : Dc b_A_init 52 (.aload_n 0) 1 53 := ⟨by decide +kernel, rfl⟩
theorem d_A_init_53 : Dc b_A_init 53 (.aload_n 3) 1 54 := ⟨by decide +kernel, rfl⟩
theorem d_A_init_54 : Dc b_A_init 54 (.putfield 40) 3 57 := ⟨by decide +kernel, rfl⟩
theorem d_A_init_57 : Dc b_A_init 57 (.return_) 1 58 := ⟨by decide +kernel, rfl⟩
def sg_49 (σ : Hp) : Hp := (wI σ 49 0 1)
theorem zz_49 {σ : Hp} (z : Z0 50 σ) : Z0 51 (sg_49 σ) := ((z.up (by decide : 50 ≤ 51)).w (r := 49) (j := 0) (x := 1) (by decide))
set_option maxHeartbeats 1000000 in
theorem k_49 (σ : Hp) (z : Z0 50 σ) : CM m_O_init 1 16 50 [.ref 49] σ 51 (sg_49 σ) := by
  show CW m_O_init 1 16 0 [.ref 49] [] 50 σ 0 0 51 (sg_49 σ)
  refine cw_aload_n d_O_init_0 rfl ?_
  refine cw_obj d_O_init_1 (tb_1 83 rfl rfl) (tb_1 25 rfl rfl) (tb_1 26 rfl rfl) (Nat.le_of_ble_eq_true rfl) (Nat.le_of_ble_eq_true rfl) ?_
  refine cw_aload_n d_O_init_4 rfl ?_
  refine cw_bipush (v := 16) d_O_init_5 (by decide) ?_
  refine cw_newI d_O_init_7 (tb_1 58 rfl rfl) rfl (by decide) (by decide +kernel) (fun _ _ h => h) rfl (by decide) (by decide) (by decide) z (Nat.le_of_ble_eq_true rfl) (Nat.le_of_ble_eq_true rfl) ?_
  refine cw_putR d_O_init_9 ff_O_11 rfl (by decide) (by decide) rfl (fun _ => rfl) (fun _ => rfl) ?_
  exact cw_ret d_O_init_12 rfl
theorem lj_A_11 : hn_LN "PointMaps$Machine" 11 m_O_init 0 "PointMaps" := ⟨tn_2 37 rfl rfl, tb_1 5 rfl rfl, tb_1 82 rfl rfl, by decide +kernel, by decide, by decide, by decide +kernel⟩
theorem ff_A_12 : cn_FF "PointMaps$Machine" 12 5 3 (.object "PointMaps$Powers") := ⟨R_A, F_A, 9, rfl, by decide, rfl, rfl, i_A, tb_2 43 rfl rfl, ⟨fy_A, ty_A⟩, n_A, ty_A 3 (by decide)⟩
def sg_51 (σ : Hp) : Hp := (wI (wI σ 51 0 1) 51 1 1)
theorem zz_51 {σ : Hp} (z : Z0 52 σ) : Z0 54 (sg_51 σ) := ((((z.up (by decide : 52 ≤ 53)).w (r := 51) (j := 0) (x := 1) (by decide)).up (by decide : 53 ≤ 54)).w (r := 51) (j := 1) (x := 1) (by decide))
set_option maxHeartbeats 1000000 in
theorem k_51 (σ : Hp) (z : Z0 52 σ) : CM m_F_init 2 8192 52 [.ref 51] σ 54 (sg_51 σ) := by
  show CW m_F_init 2 8192 0 [.ref 51] [] 52 σ 0 0 54 (sg_51 σ)
  refine cw_aload_n d_F_init_0 rfl ?_
  refine cw_obj d_F_init_1 (tb_1 70 rfl rfl) (tb_1 25 rfl rfl) (tb_1 26 rfl rfl) (Nat.le_of_ble_eq_true rfl) (Nat.le_of_ble_eq_true rfl) ?_
  refine cw_aload_n d_F_init_4 rfl ?_
  refine cw_sipush (v := 4096) d_F_init_5 (by decide) ?_
  refine cw_newI d_F_init_8 (tb_1 58 rfl rfl) rfl (by decide) (by decide +kernel) (fun _ _ h => h) rfl (by decide) (by decide) (by decide) z (Nat.le_of_ble_eq_true rfl) (Nat.le_of_ble_eq_true rfl) ?_
  refine cw_putR d_F_init_10 ff_F_11 rfl (by decide) (by decide) rfl (fun _ => rfl) (fun _ => rfl) ?_
  refine cw_aload_n d_F_init_13 rfl ?_
  refine cw_sipush (v := 4096) d_F_init_14 (by decide) ?_
  refine cw_newI d_F_init_17 (tb_1 58 rfl rfl) rfl (by decide) (by decide +kernel) (fun _ _ h => h) rfl (by decide) (by decide) (by decide) ((z.up (by decide : 52 ≤ 53)).w (r := 51) (j := 0) (x := 1) (by decide)) (Nat.le_of_ble_eq_true rfl) (Nat.le_of_ble_eq_true rfl) ?_
  refine cw_putR d_F_init_19 ff_F_15 rfl (by decide) (by decide) rfl (fun _ => rfl) (fun _ => rfl) ?_
  exact cw_ret d_F_init_22 rfl
theorem lj_A_20 : hn_LN "PointMaps$Machine" 20 m_F_init 0 "PointMaps" := ⟨tn_2 39 rfl rfl, tb_1 4 rfl rfl, tb_1 69 rfl rfl, by decide +kernel, by decide, by decide, by decide +kernel⟩
theorem ff_A_21 : cn_FF "PointMaps$Machine" 21 5 4 (.object "PointMaps$Finder") := ⟨R_A, F_A, 9, rfl, by decide, rfl, rfl, i_A, tb_2 44 rfl rfl, ⟨fy_A, ty_A⟩, n_A, ty_A 4 (by decide)⟩
theorem ff_A_25 : cn_FF "PointMaps$Machine" 25 5 5 (.array .int) := ⟨R_A, F_A, 9, rfl, by decide, rfl, rfl, i_A, tb_2 45 rfl rfl, ⟨fy_A, ty_A⟩, n_A, ty_A 5 (by decide)⟩
theorem ff_A_29 : cn_FF "PointMaps$Machine" 29 5 6 (.array .int) := ⟨R_A, F_A, 9, rfl, by decide, rfl, rfl, i_A, tb_2 46 rfl rfl, ⟨fy_A, ty_A⟩, n_A, ty_A 6 (by decide)⟩
theorem ff_A_32 : cn_FF "PointMaps$Machine" 32 5 0 (.object "PointMaps$Letters") := ⟨R_A, F_A, 9, rfl, by decide, rfl, rfl, i_A, tb_2 40 rfl rfl, ⟨fy_A, ty_A⟩, n_A, ty_A 0 (by decide)⟩
theorem ff_A_36 : cn_FF "PointMaps$Machine" 36 5 1 (.object "PointMaps$Elements") := ⟨R_A, F_A, 9, rfl, by decide, rfl, rfl, i_A, tb_2 41 rfl rfl, ⟨fy_A, ty_A⟩, n_A, ty_A 1 (by decide)⟩
theorem ff_A_40 : cn_FF "PointMaps$Machine" 40 5 2 (.object "PointMaps$PointSets") := ⟨R_A, F_A, 9, rfl, by decide, rfl, rfl, i_A, tb_2 42 rfl rfl, ⟨fy_A, ty_A⟩, n_A, ty_A 2 (by decide)⟩
def sg_48 (σ : Hp) : Hp := (wI (wI (wI (wI (wI (wI (sg_51 (wI (sg_49 σ) 48 3 1)) 48 4 1) 48 5 1) 48 6 1) 48 0 1) 48 1 1) 48 2 1)
theorem zz_48 {σ : Hp} (z : Z0 49 σ) : Z0 56 (sg_48 σ) := (((((((((zz_51 (((zz_49 (z.up (by decide : 49 ≤ 50))).w (r := 48) (j := 3) (x := 1) (by decide)).up (by decide : 51 ≤ 52))).w (r := 48) (j := 4) (x := 1) (by decide)).up (by decide : 54 ≤ 55)).w (r := 48) (j := 5) (x := 1) (by decide)).up (by decide : 55 ≤ 56)).w (r := 48) (j := 6) (x := 1) (by decide)).w (r := 48) (j := 0) (x := 1) (by decide)).w (r := 48) (j := 1) (x := 1) (by decide)).w (r := 48) (j := 2) (x := 1) (by decide))
set_option maxHeartbeats 1000000 in
theorem k_48 (σ : Hp) (z : Z0 49 σ) : CM m_A_init 7 8225 49 [.ref 48, .ref 1, .ref 3, .ref 35] σ 56 (sg_48 σ) := by
  show CW m_A_init 7 8225 0 [.ref 48, .ref 1, .ref 3, .ref 35] [] 49 σ 0 0 56 (sg_48 σ)
  refine cw_aload_n d_A_init_0 rfl ?_
  refine cw_obj d_A_init_1 (tb_2 35 rfl rfl) (tb_1 25 rfl rfl) (tb_1 26 rfl rfl) (Nat.le_of_ble_eq_true rfl) (Nat.le_of_ble_eq_true rfl) ?_
  refine cw_aload_n d_A_init_4 rfl ?_
  refine cw_new (ty := fy_O) d_A_init_5 (tb_2 36 rfl rfl) (tb_1 79 rfl rfl) (tb_1 5 rfl rfl) rfl i_O ty_O rfl df_O z (Nat.le_of_ble_eq_true rfl) (Nat.le_of_ble_eq_true rfl) ?_
  refine cw_dup d_A_init_8 rfl ?_
  refine cw_callN (as := []) (st := [.ref 49, .ref 48]) d_A_init_9 lj_A_11 (tb_1 81 rfl rfl) rfl rfl ⟨Nat.le_of_ble_eq_true rfl, Nat.le_of_ble_eq_true rfl⟩ (Nat.le_of_ble_eq_true rfl) (by decide) (k_49 _ (z.up (by decide : 49 ≤ 50))) rfl (Nat.le_of_ble_eq_true rfl) (Nat.le_of_ble_eq_true rfl) ?_
  refine cw_putR d_A_init_12 ff_A_12 rfl (by decide) (by decide) rfl (fun _ => rfl) (fun _ => rfl) ?_
  refine cw_aload_n d_A_init_15 rfl ?_
  refine cw_new (ty := fy_F) d_A_init_16 (tb_2 38 rfl rfl) (tb_1 66 rfl rfl) (tb_1 4 rfl rfl) rfl i_F ty_F rfl df_F ((zz_49 (z.up (by decide : 49 ≤ 50))).w (r := 48) (j := 3) (x := 1) (by decide)) (Nat.le_of_ble_eq_true rfl) (Nat.le_of_ble_eq_true rfl) ?_
  refine cw_dup d_A_init_19 rfl ?_
  refine cw_callN (as := []) (st := [.ref 51, .ref 48]) d_A_init_20 lj_A_20 (tb_1 68 rfl rfl) rfl rfl ⟨Nat.le_of_ble_eq_true rfl, Nat.le_of_ble_eq_true rfl⟩ (Nat.le_of_ble_eq_true rfl) (by decide) (k_51 _ (((zz_49 (z.up (by decide : 49 ≤ 50))).w (r := 48) (j := 3) (x := 1) (by decide)).up (by decide : 51 ≤ 52))) rfl (Nat.le_of_ble_eq_true rfl) (Nat.le_of_ble_eq_true rfl) ?_
  refine cw_putR d_A_init_23 ff_A_21 rfl (by decide) (by decide) rfl (fun _ => rfl) (fun _ => rfl) ?_
  refine cw_aload_n d_A_init_26 rfl ?_
  refine cw_bipush (v := 6) d_A_init_27 (by decide) ?_
  refine cw_newI d_A_init_29 (tb_1 58 rfl rfl) rfl (by decide) (by decide +kernel) (fun _ _ h => h) rfl (by decide) (by decide) (by decide) ((zz_51 (((zz_49 (z.up (by decide : 49 ≤ 50))).w (r := 48) (j := 3) (x := 1) (by decide)).up (by decide : 51 ≤ 52))).w (r := 48) (j := 4) (x := 1) (by decide)) (Nat.le_of_ble_eq_true rfl) (Nat.le_of_ble_eq_true rfl) ?_
  refine cw_putR d_A_init_31 ff_A_25 rfl (by decide) (by decide) rfl (fun _ => rfl) (fun _ => rfl) ?_
  refine cw_aload_n d_A_init_34 rfl ?_
  refine cw_bipush (v := 6) d_A_init_35 (by decide) ?_
  refine cw_newI d_A_init_37 (tb_1 58 rfl rfl) rfl (by decide) (by decide +kernel) (fun _ _ h => h) rfl (by decide) (by decide) (by decide) ((((zz_51 (((zz_49 (z.up (by decide : 49 ≤ 50))).w (r := 48) (j := 3) (x := 1) (by decide)).up (by decide : 51 ≤ 52))).w (r := 48) (j := 4) (x := 1) (by decide)).up (by decide : 54 ≤ 55)).w (r := 48) (j := 5) (x := 1) (by decide)) (Nat.le_of_ble_eq_true rfl) (Nat.le_of_ble_eq_true rfl) ?_
  refine cw_putR d_A_init_39 ff_A_29 rfl (by decide) (by decide) rfl (fun _ => rfl) (fun _ => rfl) ?_
  refine cw_aload_n d_A_init_42 rfl ?_
  refine cw_aload_n d_A_init_43 rfl ?_
  refine cw_putR d_A_init_44 ff_A_32 rfl (by decide) (by decide) rfl (fun _ => rfl) (fun _ => rfl) ?_
  refine cw_aload_n d_A_init_47 rfl ?_
  refine cw_aload_n d_A_init_48 rfl ?_
  refine cw_putR d_A_init_49 ff_A_36 rfl (by decide) (by decide) rfl (fun _ => rfl) (fun _ => rfl) ?_
  refine cw_aload_n d_A_init_52 rfl ?_
  refine cw_aload_n d_A_init_53 rfl ?_
  refine cw_putR d_A_init_54 ff_A_40 rfl (by decide) (by decide) rfl (fun _ => rfl) (fun _ => rfl) ?_
  exact cw_ret d_A_init_57 rfl
theorem li_P_55 : hn_LB "PointMaps" 55 m_A_init 3 := ⟨tb_2 32 rfl rfl, tb_1 12 rfl rfl, tb_2 34 rfl rfl, by decide +kernel, by decide, by decide, by decide +kernel⟩
theorem ff_P_58 : cn_FF "PointMaps" 58 0 6 (.object "PointMaps$Machine") := ⟨R_P, F_P, 7, rfl, by decide, rfl, rfl, i_P, tb_2 76 rfl rfl, ⟨fy_P, ty_P⟩, n_P, ty_P 6 (by decide)⟩
def sg_0 (σ : Hp) : Hp := (wI (sg_48 (wI (sg_42 (wI (sg_36 (wI (sg_35 (wI (sg_15 (wI (sg_3 (wI (sg_1 σ) 0 0 1)) 0 1 1)) 0 2 1)) 0 3 1)) 0 4 1)) 0 5 1)) 0 6 1)
theorem zz_0 {σ : Hp} (z : Z0 1 σ) : Z0 56 (sg_0 σ) := ((zz_48 (((zz_42 (((zz_36 (((zz_35 (((zz_15 (((zz_3 (((zz_1 (z.up (by decide : 1 ≤ 2))).w (r := 0) (j := 0) (x := 1) (by decide)).up (by decide : 3 ≤ 4))).w (r := 0) (j := 1) (x := 1) (by decide)).up (by decide : 15 ≤ 16))).w (r := 0) (j := 2) (x := 1) (by decide)).up (by decide : 35 ≤ 36))).w (r := 0) (j := 3) (x := 1) (by decide)).up (by decide : 36 ≤ 37))).w (r := 0) (j := 4) (x := 1) (by decide)).up (by decide : 42 ≤ 43))).w (r := 0) (j := 5) (x := 1) (by decide)).up (by decide : 48 ≤ 49))).w (r := 0) (j := 6) (x := 1) (by decide))
set_option maxHeartbeats 1000000 in
theorem k_0 (σ : Hp) (z : Z0 1 σ) : CM m_P_init 55 77720 1 [.ref 0] σ 56 (sg_0 σ) := by
  show CW m_P_init 55 77720 0 [.ref 0] [] 1 σ 0 0 56 (sg_0 σ)
  refine cw_aload_n d_P_init_0 rfl ?_
  refine cw_obj d_P_init_1 (tb_1 24 rfl rfl) (tb_1 25 rfl rfl) (tb_1 26 rfl rfl) (Nat.le_of_ble_eq_true rfl) (Nat.le_of_ble_eq_true rfl) ?_
  refine cw_aload_n d_P_init_4 rfl ?_
  refine cw_new (ty := fy_L) d_P_init_5 (tb_1 27 rfl rfl) (tb_1 28 rfl rfl) (tb_1 2 rfl rfl) rfl i_L ty_L rfl df_L z (Nat.le_of_ble_eq_true rfl) (Nat.le_of_ble_eq_true rfl) ?_
  refine cw_dup d_P_init_8 rfl ?_
  refine cw_call (as := []) (st := [.ref 1, .ref 0]) d_P_init_9 li_P_9 (tb_1 30 rfl rfl) rfl rfl ⟨Nat.le_of_ble_eq_true rfl, Nat.le_of_ble_eq_true rfl⟩ (Nat.le_of_ble_eq_true rfl) (by decide) (k_1 _ (z.up (by decide : 1 ≤ 2))) rfl (Nat.le_of_ble_eq_true rfl) (Nat.le_of_ble_eq_true rfl) ?_
  refine cw_putR d_P_init_12 ff_P_10 rfl (by decide) (by decide) rfl (fun _ => rfl) (fun _ => rfl) ?_
  refine cw_aload_n d_P_init_15 rfl ?_
  refine cw_new (ty := fy_E) d_P_init_16 (tb_1 59 rfl rfl) (tb_1 60 rfl rfl) (tb_1 3 rfl rfl) rfl i_E ty_E rfl df_E ((zz_1 (z.up (by decide : 1 ≤ 2))).w (r := 0) (j := 0) (x := 1) (by decide)) (Nat.le_of_ble_eq_true rfl) (Nat.le_of_ble_eq_true rfl) ?_
  refine cw_dup d_P_init_19 rfl ?_
  refine cw_aload_n d_P_init_20 rfl ?_
  refine cw_getR d_P_init_21 fl_P_10 rfl (by decide) rfl rfl ?_
  refine cw_call (as := [.ref 1]) (st := [.ref 3, .ref 0]) d_P_init_24 li_P_18 (tb_1 62 rfl rfl) rfl rfl ⟨Nat.le_of_ble_eq_true rfl, Nat.le_of_ble_eq_true rfl⟩ (Nat.le_of_ble_eq_true rfl) (by decide) (k_3 _ (((zz_1 (z.up (by decide : 1 ≤ 2))).w (r := 0) (j := 0) (x := 1) (by decide)).up (by decide : 3 ≤ 4))) rfl (Nat.le_of_ble_eq_true rfl) (Nat.le_of_ble_eq_true rfl) ?_
  refine cw_putR d_P_init_27 ff_P_21 rfl (by decide) (by decide) rfl (fun _ => rfl) (fun _ => rfl) ?_
  refine cw_aload_n d_P_init_30 rfl ?_
  refine cw_new (ty := fy_B) d_P_init_31 (tb_1 145 rfl rfl) (tb_1 146 rfl rfl) (tb_1 8 rfl rfl) rfl i_B ty_B rfl df_B ((zz_3 (((zz_1 (z.up (by decide : 1 ≤ 2))).w (r := 0) (j := 0) (x := 1) (by decide)).up (by decide : 3 ≤ 4))).w (r := 0) (j := 1) (x := 1) (by decide)) (Nat.le_of_ble_eq_true rfl) (Nat.le_of_ble_eq_true rfl) ?_
  refine cw_dup d_P_init_34 rfl ?_
  refine cw_aload_n d_P_init_35 rfl ?_
  refine cw_getR d_P_init_36 fl_P_10 rfl (by decide) rfl rfl ?_
  refine cw_aload_n d_P_init_39 rfl ?_
  refine cw_getR d_P_init_40 fl_P_21 rfl (by decide) rfl rfl ?_
  refine cw_call (as := [.ref 1, .ref 3]) (st := [.ref 15, .ref 0]) d_P_init_43 li_P_27 (tb_1 148 rfl rfl) rfl rfl ⟨Nat.le_of_ble_eq_true rfl, Nat.le_of_ble_eq_true rfl⟩ (Nat.le_of_ble_eq_true rfl) (by decide) (k_15 _ (((zz_3 (((zz_1 (z.up (by decide : 1 ≤ 2))).w (r := 0) (j := 0) (x := 1) (by decide)).up (by decide : 3 ≤ 4))).w (r := 0) (j := 1) (x := 1) (by decide)).up (by decide : 15 ≤ 16))) rfl (Nat.le_of_ble_eq_true rfl) (Nat.le_of_ble_eq_true rfl) ?_
  refine cw_putR d_P_init_46 ff_P_30 rfl (by decide) (by decide) rfl (fun _ => rfl) (fun _ => rfl) ?_
  refine cw_aload_n d_P_init_49 rfl ?_
  refine cw_new (ty := fy_S) d_P_init_50 (tb_1 233 rfl rfl) (tb_1 234 rfl rfl) (tb_1 10 rfl rfl) rfl i_S ty_S rfl df_S ((zz_15 (((zz_3 (((zz_1 (z.up (by decide : 1 ≤ 2))).w (r := 0) (j := 0) (x := 1) (by decide)).up (by decide : 3 ≤ 4))).w (r := 0) (j := 1) (x := 1) (by decide)).up (by decide : 15 ≤ 16))).w (r := 0) (j := 2) (x := 1) (by decide)) (Nat.le_of_ble_eq_true rfl) (Nat.le_of_ble_eq_true rfl) ?_
  refine cw_dup d_P_init_53 rfl ?_
  refine cw_aload_n d_P_init_54 rfl ?_
  refine cw_getR d_P_init_55 fl_P_10 rfl (by decide) rfl rfl ?_
  refine cw_call (as := [.ref 1]) (st := [.ref 35, .ref 0]) d_P_init_58 li_P_36 (tb_1 236 rfl rfl) rfl rfl ⟨Nat.le_of_ble_eq_true rfl, Nat.le_of_ble_eq_true rfl⟩ (Nat.le_of_ble_eq_true rfl) (by decide) (k_35 _ (((zz_15 (((zz_3 (((zz_1 (z.up (by decide : 1 ≤ 2))).w (r := 0) (j := 0) (x := 1) (by decide)).up (by decide : 3 ≤ 4))).w (r := 0) (j := 1) (x := 1) (by decide)).up (by decide : 15 ≤ 16))).w (r := 0) (j := 2) (x := 1) (by decide)).up (by decide : 35 ≤ 36))) rfl (Nat.le_of_ble_eq_true rfl) (Nat.le_of_ble_eq_true rfl) ?_
  refine cw_putR d_P_init_61 ff_P_37 rfl (by decide) (by decide) rfl (fun _ => rfl) (fun _ => rfl) ?_
  refine cw_aload_n d_P_init_64 rfl ?_
  refine cw_new (ty := fy_K) d_P_init_65 (tb_2 3 rfl rfl) (tb_2 4 rfl rfl) (tb_1 11 rfl rfl) rfl i_K ty_K rfl df_K ((zz_35 (((zz_15 (((zz_3 (((zz_1 (z.up (by decide : 1 ≤ 2))).w (r := 0) (j := 0) (x := 1) (by decide)).up (by decide : 3 ≤ 4))).w (r := 0) (j := 1) (x := 1) (by decide)).up (by decide : 15 ≤ 16))).w (r := 0) (j := 2) (x := 1) (by decide)).up (by decide : 35 ≤ 36))).w (r := 0) (j := 3) (x := 1) (by decide)) (Nat.le_of_ble_eq_true rfl) (Nat.le_of_ble_eq_true rfl) ?_
  refine cw_dup d_P_init_68 rfl ?_
  refine cw_aload_n d_P_init_69 rfl ?_
  refine cw_getR d_P_init_70 fl_P_10 rfl (by decide) rfl rfl ?_
  refine cw_iconst (v := 0) d_P_init_73 (by decide) ?_
  refine cw_call (as := [.ref 1, .int 0]) (st := [.ref 36, .ref 0]) d_P_init_74 li_P_43 (tb_2 6 rfl rfl) rfl rfl ⟨Nat.le_of_ble_eq_true rfl, Nat.le_of_ble_eq_true rfl⟩ (Nat.le_of_ble_eq_true rfl) (by decide) (k_36 _ (((zz_35 (((zz_15 (((zz_3 (((zz_1 (z.up (by decide : 1 ≤ 2))).w (r := 0) (j := 0) (x := 1) (by decide)).up (by decide : 3 ≤ 4))).w (r := 0) (j := 1) (x := 1) (by decide)).up (by decide : 15 ≤ 16))).w (r := 0) (j := 2) (x := 1) (by decide)).up (by decide : 35 ≤ 36))).w (r := 0) (j := 3) (x := 1) (by decide)).up (by decide : 36 ≤ 37))) rfl (Nat.le_of_ble_eq_true rfl) (Nat.le_of_ble_eq_true rfl) ?_
  refine cw_putR d_P_init_77 ff_P_46 rfl (by decide) (by decide) rfl (fun _ => rfl) (fun _ => rfl) ?_
  refine cw_aload_n d_P_init_80 rfl ?_
  refine cw_new (ty := fy_K) d_P_init_81 (tb_2 3 rfl rfl) (tb_2 4 rfl rfl) (tb_1 11 rfl rfl) rfl i_K ty_K rfl df_K ((zz_36 (((zz_35 (((zz_15 (((zz_3 (((zz_1 (z.up (by decide : 1 ≤ 2))).w (r := 0) (j := 0) (x := 1) (by decide)).up (by decide : 3 ≤ 4))).w (r := 0) (j := 1) (x := 1) (by decide)).up (by decide : 15 ≤ 16))).w (r := 0) (j := 2) (x := 1) (by decide)).up (by decide : 35 ≤ 36))).w (r := 0) (j := 3) (x := 1) (by decide)).up (by decide : 36 ≤ 37))).w (r := 0) (j := 4) (x := 1) (by decide)) (Nat.le_of_ble_eq_true rfl) (Nat.le_of_ble_eq_true rfl) ?_
  refine cw_dup d_P_init_84 rfl ?_
  refine cw_aload_n d_P_init_85 rfl ?_
  refine cw_getR d_P_init_86 fl_P_10 rfl (by decide) rfl rfl ?_
  refine cw_iconst (v := 1) d_P_init_89 (by decide) ?_
  refine cw_call (as := [.ref 1, .int 1]) (st := [.ref 42, .ref 0]) d_P_init_90 li_P_43 (tb_2 6 rfl rfl) rfl rfl ⟨Nat.le_of_ble_eq_true rfl, Nat.le_of_ble_eq_true rfl⟩ (Nat.le_of_ble_eq_true rfl) (by decide) (k_42 _ (((zz_36 (((zz_35 (((zz_15 (((zz_3 (((zz_1 (z.up (by decide : 1 ≤ 2))).w (r := 0) (j := 0) (x := 1) (by decide)).up (by decide : 3 ≤ 4))).w (r := 0) (j := 1) (x := 1) (by decide)).up (by decide : 15 ≤ 16))).w (r := 0) (j := 2) (x := 1) (by decide)).up (by decide : 35 ≤ 36))).w (r := 0) (j := 3) (x := 1) (by decide)).up (by decide : 36 ≤ 37))).w (r := 0) (j := 4) (x := 1) (by decide)).up (by decide : 42 ≤ 43))) rfl (Nat.le_of_ble_eq_true rfl) (Nat.le_of_ble_eq_true rfl) ?_
  refine cw_putR d_P_init_93 ff_P_50 rfl (by decide) (by decide) rfl (fun _ => rfl) (fun _ => rfl) ?_
  refine cw_aload_n d_P_init_96 rfl ?_
  refine cw_new (ty := fy_A) d_P_init_97 (tb_2 30 rfl rfl) (tb_2 31 rfl rfl) (tb_1 12 rfl rfl) rfl i_A ty_A rfl df_A ((zz_42 (((zz_36 (((zz_35 (((zz_15 (((zz_3 (((zz_1 (z.up (by decide : 1 ≤ 2))).w (r := 0) (j := 0) (x := 1) (by decide)).up (by decide : 3 ≤ 4))).w (r := 0) (j := 1) (x := 1) (by decide)).up (by decide : 15 ≤ 16))).w (r := 0) (j := 2) (x := 1) (by decide)).up (by decide : 35 ≤ 36))).w (r := 0) (j := 3) (x := 1) (by decide)).up (by decide : 36 ≤ 37))).w (r := 0) (j := 4) (x := 1) (by decide)).up (by decide : 42 ≤ 43))).w (r := 0) (j := 5) (x := 1) (by decide)) (Nat.le_of_ble_eq_true rfl) (Nat.le_of_ble_eq_true rfl) ?_
  refine cw_dup d_P_init_100 rfl ?_
  refine cw_aload_n d_P_init_101 rfl ?_
  refine cw_getR d_P_init_102 fl_P_10 rfl (by decide) rfl rfl ?_
  refine cw_aload_n d_P_init_105 rfl ?_
  refine cw_getR d_P_init_106 fl_P_21 rfl (by decide) rfl rfl ?_
  refine cw_aload_n d_P_init_109 rfl ?_
  refine cw_getR d_P_init_110 fl_P_37 rfl (by decide) rfl rfl ?_
  refine cw_call (as := [.ref 1, .ref 3, .ref 35]) (st := [.ref 48, .ref 0]) d_P_init_113 li_P_55 (tb_2 33 rfl rfl) rfl rfl ⟨Nat.le_of_ble_eq_true rfl, Nat.le_of_ble_eq_true rfl⟩ (Nat.le_of_ble_eq_true rfl) (by decide) (k_48 _ (((zz_42 (((zz_36 (((zz_35 (((zz_15 (((zz_3 (((zz_1 (z.up (by decide : 1 ≤ 2))).w (r := 0) (j := 0) (x := 1) (by decide)).up (by decide : 3 ≤ 4))).w (r := 0) (j := 1) (x := 1) (by decide)).up (by decide : 15 ≤ 16))).w (r := 0) (j := 2) (x := 1) (by decide)).up (by decide : 35 ≤ 36))).w (r := 0) (j := 3) (x := 1) (by decide)).up (by decide : 36 ≤ 37))).w (r := 0) (j := 4) (x := 1) (by decide)).up (by decide : 42 ≤ 43))).w (r := 0) (j := 5) (x := 1) (by decide)).up (by decide : 48 ≤ 49))) rfl (Nat.le_of_ble_eq_true rfl) (Nat.le_of_ble_eq_true rfl) ?_
  refine cw_putR d_P_init_116 ff_P_58 rfl (by decide) (by decide) rfl (fun _ => rfl) (fun _ => rfl) ?_
  exact cw_ret d_P_init_119 rfl
def m_M_init : MethodName × ByteArray × Nat × Option FieldType × Nat × Nat := (⟨"PointMapsModel", "<init>", "()V"⟩, prog_14_method_1_code, 1, none, 1, 12)
abbrev b_M_init : ByteArray := prog_14_method_1_code
theorem d_M_init_0 : Dc b_M_init 0 (.aload_n 0) 1 1 := ⟨by decide +kernel, rfl⟩
theorem d_M_init_1 : Dc b_M_init 1 (.invokespecial 1) 3 4 := ⟨by decide +kernel, rfl⟩
theorem d_M_init_4 : Dc b_M_init 4 (.aload_n 0) 1 5 := ⟨by decide +kernel, rfl⟩
theorem d_M_init_5 : Dc b_M_init 5 (.iconst 3) 1 6 := ⟨by decide +kernel, rfl⟩
theorem d_M_init_6 : Dc b_M_init 6 (.putfield 7) 3 9 := ⟨by decide +kernel, rfl⟩
theorem d_M_init_9 : Dc b_M_init 9 (.aload_n 0) 1 10 := ⟨by decide +kernel, rfl⟩
theorem d_M_init_10 : Dc b_M_init 10 (.iconst 4) 1 11 := ⟨by decide +kernel, rfl⟩
theorem d_M_init_11 : Dc b_M_init 11 (.newarray .int) 2 13 := ⟨by decide +kernel, rfl⟩
theorem d_M_init_13 : Dc b_M_init 13 (.putfield 13) 3 16 := ⟨by decide +kernel, rfl⟩
theorem d_M_init_16 : Dc b_M_init 16 (.aload_n 0) 1 17 := ⟨by decide +kernel, rfl⟩
theorem d_M_init_17 : Dc b_M_init 17 (.sipush 1500) 3 20 := ⟨by decide +kernel, rfl⟩
theorem d_M_init_20 : Dc b_M_init 20 (.newarray .int) 2 22 := ⟨by decide +kernel, rfl⟩
theorem d_M_init_22 : Dc b_M_init 22 (.putfield 17) 3 25 := ⟨by decide +kernel, rfl⟩
theorem d_M_init_25 : Dc b_M_init 25 (.aload_n 0) 1 26 := ⟨by decide +kernel, rfl⟩
theorem d_M_init_26 : Dc b_M_init 26 (.ldc 20) 2 28 := ⟨by decide +kernel, rfl⟩
theorem d_M_init_28 : Dc b_M_init 28 (.newarray .int) 2 30 := ⟨by decide +kernel, rfl⟩
theorem d_M_init_30 : Dc b_M_init 30 (.putfield 21) 3 33 := ⟨by decide +kernel, rfl⟩
theorem d_M_init_33 : Dc b_M_init 33 (.aload_n 0) 1 34 := ⟨by decide +kernel, rfl⟩
theorem d_M_init_34 : Dc b_M_init 34 (.sipush 6000) 3 37 := ⟨by decide +kernel, rfl⟩
theorem d_M_init_37 : Dc b_M_init 37 (.newarray .int) 2 39 := ⟨by decide +kernel, rfl⟩
theorem d_M_init_39 : Dc b_M_init 39 (.putfield 24) 3 42 := ⟨by decide +kernel, rfl⟩
theorem d_M_init_42 : Dc b_M_init 42 (.aload_n 0) 1 43 := ⟨by decide +kernel, rfl⟩
theorem d_M_init_43 : Dc b_M_init 43 (.sipush 6000) 3 46 := ⟨by decide +kernel, rfl⟩
theorem d_M_init_46 : Dc b_M_init 46 (.newarray .int) 2 48 := ⟨by decide +kernel, rfl⟩
theorem d_M_init_48 : Dc b_M_init 48 (.putfield 27) 3 51 := ⟨by decide +kernel, rfl⟩
theorem d_M_init_51 : Dc b_M_init 51 (.aload_n 0) 1 52 := ⟨by decide +kernel, rfl⟩
theorem d_M_init_52 : Dc b_M_init 52 (.sipush 1500) 3 55 := ⟨by decide +kernel, rfl⟩
theorem d_M_init_55 : Dc b_M_init 55 (.newarray .int) 2 57 := ⟨by decide +kernel, rfl⟩
theorem d_M_init_57 : Dc b_M_init 57 (.putfield 30) 3 60 := ⟨by decide +kernel, rfl⟩
theorem d_M_init_60 : Dc b_M_init 60 (.aload_n 0) 1 61 := ⟨by decide +kernel, rfl⟩
theorem d_M_init_61 : Dc b_M_init 61 (.sipush 1500) 3 64 := ⟨by decide +kernel, rfl⟩
theorem d_M_init_64 : Dc b_M_init 64 (.newarray .int) 2 66 := ⟨by decide +kernel, rfl⟩
theorem d_M_init_66 : Dc b_M_init 66 (.putfield 33) 3 69 := ⟨by decide +kernel, rfl⟩
theorem d_M_init_69 : Dc b_M_init 69 (.aload_n 0) 1 70 := ⟨by decide +kernel, rfl⟩
theorem d_M_init_70 : Dc b_M_init 70 (.sipush 1500) 3 73 := ⟨by decide +kernel, rfl⟩
theorem d_M_init_73 : Dc b_M_init 73 (.newarray .int) 2 75 := ⟨by decide +kernel, rfl⟩
theorem d_M_init_75 : Dc b_M_init 75 (.putfield 36) 3 78 := ⟨by decide +kernel, rfl⟩
theorem d_M_init_78 : Dc b_M_init 78 (.aload_n 0) 1 79 := ⟨by decide +kernel, rfl⟩
theorem d_M_init_79 : Dc b_M_init 79 (.sipush 6000) 3 82 := ⟨by decide +kernel, rfl⟩
theorem d_M_init_82 : Dc b_M_init 82 (.newarray .int) 2 84 := ⟨by decide +kernel, rfl⟩
theorem d_M_init_84 : Dc b_M_init 84 (.putfield 39) 3 87 := ⟨by decide +kernel, rfl⟩
theorem d_M_init_87 : Dc b_M_init 87 (.aload_n 0) 1 88 := ⟨by decide +kernel, rfl⟩
theorem d_M_init_88 : Dc b_M_init 88 (.iconst 4) 1 89 := ⟨by decide +kernel, rfl⟩
theorem d_M_init_89 : Dc b_M_init 89 (.newarray .int) 2 91 := ⟨by decide +kernel, rfl⟩
theorem d_M_init_91 : Dc b_M_init 91 (.putfield 42) 3 94 := ⟨by decide +kernel, rfl⟩
theorem d_M_init_94 : Dc b_M_init 94 (.aload_n 0) 1 95 := ⟨by decide +kernel, rfl⟩
theorem d_M_init_95 : Dc b_M_init 95 (.sipush 1500) 3 98 := ⟨by decide +kernel, rfl⟩
theorem d_M_init_98 : Dc b_M_init 98 (.newarray .int) 2 100 := ⟨by decide +kernel, rfl⟩
theorem d_M_init_100 : Dc b_M_init 100 (.putfield 45) 3 103 := ⟨by decide +kernel, rfl⟩
theorem d_M_init_103 : Dc b_M_init 103 (.aload_n 0) 1 104 := ⟨by decide +kernel, rfl⟩
theorem d_M_init_104 : Dc b_M_init 104 (.sipush 1500) 3 107 := ⟨by decide +kernel, rfl⟩
theorem d_M_init_107 : Dc b_M_init 107 (.newarray .int) 2 109 := ⟨by decide +kernel, rfl⟩
theorem d_M_init_109 : Dc b_M_init 109 (.putfield 48) 3 112 := ⟨by decide +kernel, rfl⟩
theorem d_M_init_112 : Dc b_M_init 112 (.aload_n 0) 1 113 := ⟨by decide +kernel, rfl⟩
theorem d_M_init_113 : Dc b_M_init 113 (.sipush 1500) 3 116 := ⟨by decide +kernel, rfl⟩
theorem d_M_init_116 : Dc b_M_init 116 (.newarray .int) 2 118 := ⟨by decide +kernel, rfl⟩
theorem d_M_init_118 : Dc b_M_init 118 (.putfield 51) 3 121 := ⟨by decide +kernel, rfl⟩
theorem d_M_init_121 : Dc b_M_init 121 (.aload_n 0) 1 122 := ⟨by decide +kernel, rfl⟩
theorem d_M_init_122 : Dc b_M_init 122 (.sipush 1500) 3 125 := ⟨by decide +kernel, rfl⟩
theorem d_M_init_125 : Dc b_M_init 125 (.newarray .int) 2 127 := ⟨by decide +kernel, rfl⟩
theorem d_M_init_127 : Dc b_M_init 127 (.putfield 54) 3 130 := ⟨by decide +kernel, rfl⟩
theorem d_M_init_130 : Dc b_M_init 130 (.aload_n 0) 1 131 := ⟨by decide +kernel, rfl⟩
theorem d_M_init_131 : Dc b_M_init 131 (.sipush 1500) 3 134 := ⟨by decide +kernel, rfl⟩
theorem d_M_init_134 : Dc b_M_init 134 (.newarray .int) 2 136 := ⟨by decide +kernel, rfl⟩
theorem d_M_init_136 : Dc b_M_init 136 (.putfield 57) 3 139 := ⟨by decide +kernel, rfl⟩
theorem d_M_init_139 : Dc b_M_init 139 (.aload_n 0) 1 140 := ⟨by decide +kernel, rfl⟩
theorem d_M_init_140 : Dc b_M_init 140 (.sipush 1500) 3 143 := ⟨by decide +kernel, rfl⟩
theorem d_M_init_143 : Dc b_M_init 143 (.newarray .boolean) 2 145 := ⟨by decide +kernel, rfl⟩
theorem d_M_init_145 : Dc b_M_init 145 (.putfield 60) 3 148 := ⟨by decide +kernel, rfl⟩
theorem d_M_init_148 : Dc b_M_init 148 (.aload_n 0) 1 149 := ⟨by decide +kernel, rfl⟩
theorem d_M_init_149 : Dc b_M_init 149 (.sipush 1500) 3 152 := ⟨by decide +kernel, rfl⟩
theorem d_M_init_152 : Dc b_M_init 152 (.newarray .int) 2 154 := ⟨by decide +kernel, rfl⟩
theorem d_M_init_154 : Dc b_M_init 154 (.putfield 64) 3 157 := ⟨by decide +kernel, rfl⟩
theorem d_M_init_157 : Dc b_M_init 157 (.aload_n 0) 1 158 := ⟨by decide +kernel, rfl⟩
theorem d_M_init_158 : Dc b_M_init 158 (.bipush 64) 2 160 := ⟨by decide +kernel, rfl⟩
theorem d_M_init_160 : Dc b_M_init 160 (.newarray .int) 2 162 := ⟨by decide +kernel, rfl⟩
theorem d_M_init_162 : Dc b_M_init 162 (.putfield 67) 3 165 := ⟨by decide +kernel, rfl⟩
theorem d_M_init_165 : Dc b_M_init 165 (.aload_n 0) 1 166 := ⟨by decide +kernel, rfl⟩
theorem d_M_init_166 : Dc b_M_init 166 (.bipush 64) 2 168 := ⟨by decide +kernel, rfl⟩
theorem d_M_init_168 : Dc b_M_init 168 (.newarray .int) 2 170 := ⟨by decide +kernel, rfl⟩
theorem d_M_init_170 : Dc b_M_init 170 (.putfield 70) 3 173 := ⟨by decide +kernel, rfl⟩
theorem d_M_init_173 : Dc b_M_init 173 (.aload_n 0) 1 174 := ⟨by decide +kernel, rfl⟩
theorem d_M_init_174 : Dc b_M_init 174 (.bipush 6) 2 176 := ⟨by decide +kernel, rfl⟩
theorem d_M_init_176 : Dc b_M_init 176 (.newarray .int) 2 178 := ⟨by decide +kernel, rfl⟩
theorem d_M_init_178 : Dc b_M_init 178 (.putfield 73) 3 181 := ⟨by decide +kernel, rfl⟩
theorem d_M_init_181 : Dc b_M_init 181 (.aload_n 0) 1 182 := ⟨by decide +kernel, rfl⟩
theorem d_M_init_182 : Dc b_M_init 182 (.bipush 6) 2 184 := ⟨by decide +kernel, rfl⟩
theorem d_M_init_184 : Dc b_M_init 184 (.newarray .int) 2 186 := ⟨by decide +kernel, rfl⟩
theorem d_M_init_186 : Dc b_M_init 186 (.putfield 76) 3 189 := ⟨by decide +kernel, rfl⟩
theorem d_M_init_189 : Dc b_M_init 189 (.aload_n 0) 1 190 := ⟨by decide +kernel, rfl⟩
theorem d_M_init_190 : Dc b_M_init 190 (.sipush 1500) 3 193 := ⟨by decide +kernel, rfl⟩
theorem d_M_init_193 : Dc b_M_init 193 (.newarray .int) 2 195 := ⟨by decide +kernel, rfl⟩
theorem d_M_init_195 : Dc b_M_init 195 (.putfield 79) 3 198 := ⟨by decide +kernel, rfl⟩
theorem d_M_init_198 : Dc b_M_init 198 (.aload_n 0) 1 199 := ⟨by decide +kernel, rfl⟩
theorem d_M_init_199 : Dc b_M_init 199 (.bipush 6) 2 201 := ⟨by decide +kernel, rfl⟩
theorem d_M_init_201 : Dc b_M_init 201 (.newarray .long) 2 203 := ⟨by decide +kernel, rfl⟩
theorem d_M_init_203 : Dc b_M_init 203 (.putfield 82) 3 206 := ⟨by decide +kernel, rfl⟩
theorem d_M_init_206 : Dc b_M_init 206 (.aload_n 0) 1 207 := ⟨by decide +kernel, rfl⟩
theorem d_M_init_207 : Dc b_M_init 207 (.bipush 6) 2 209 := ⟨by decide +kernel, rfl⟩
theorem d_M_init_209 : Dc b_M_init 209 (.newarray .long) 2 211 := ⟨by decide +kernel, rfl⟩
theorem d_M_init_211 : Dc b_M_init 211 (.putfield 86) 3 214 := ⟨by decide +kernel, rfl⟩
theorem d_M_init_214 : Dc b_M_init 214 (.return_) 1 215 := ⟨by decide +kernel, rfl⟩
theorem ff_M_7 : cn_FF "PointMapsModel" 7 11 1 (.int) := ⟨R_M, F_M, 31, rfl, by decide, rfl, rfl, i_M, tb_5 74 rfl rfl, ⟨fy_M, ty_M⟩, n_M, ty_M 1 (by decide)⟩
theorem ff_M_13 : cn_FF "PointMapsModel" 13 11 3 (.array .int) := ⟨R_M, F_M, 31, rfl, by decide, rfl, rfl, i_M, tb_5 76 rfl rfl, ⟨fy_M, ty_M⟩, n_M, ty_M 3 (by decide)⟩
theorem ff_M_17 : cn_FF "PointMapsModel" 17 11 8 (.array .int) := ⟨R_M, F_M, 31, rfl, by decide, rfl, rfl, i_M, tb_5 81 rfl rfl, ⟨fy_M, ty_M⟩, n_M, ty_M 8 (by decide)⟩
theorem ff_M_21 : cn_FF "PointMapsModel" 21 11 9 (.array .int) := ⟨R_M, F_M, 31, rfl, by decide, rfl, rfl, i_M, tb_5 82 rfl rfl, ⟨fy_M, ty_M⟩, n_M, ty_M 9 (by decide)⟩
theorem ff_M_24 : cn_FF "PointMapsModel" 24 11 10 (.array .int) := ⟨R_M, F_M, 31, rfl, by decide, rfl, rfl, i_M, tb_5 83 rfl rfl, ⟨fy_M, ty_M⟩, n_M, ty_M 10 (by decide)⟩
theorem ff_M_27 : cn_FF "PointMapsModel" 27 11 11 (.array .int) := ⟨R_M, F_M, 31, rfl, by decide, rfl, rfl, i_M, tb_5 84 rfl rfl, ⟨fy_M, ty_M⟩, n_M, ty_M 11 (by decide)⟩
theorem ff_M_30 : cn_FF "PointMapsModel" 30 11 12 (.array .int) := ⟨R_M, F_M, 31, rfl, by decide, rfl, rfl, i_M, tb_5 85 rfl rfl, ⟨fy_M, ty_M⟩, n_M, ty_M 12 (by decide)⟩
theorem ff_M_33 : cn_FF "PointMapsModel" 33 11 13 (.array .int) := ⟨R_M, F_M, 31, rfl, by decide, rfl, rfl, i_M, tb_5 86 rfl rfl, ⟨fy_M, ty_M⟩, n_M, ty_M 13 (by decide)⟩
theorem ff_M_36 : cn_FF "PointMapsModel" 36 11 14 (.array .int) := ⟨R_M, F_M, 31, rfl, by decide, rfl, rfl, i_M, tb_5 87 rfl rfl, ⟨fy_M, ty_M⟩, n_M, ty_M 14 (by decide)⟩
theorem ff_M_39 : cn_FF "PointMapsModel" 39 11 15 (.array .int) := ⟨R_M, F_M, 31, rfl, by decide, rfl, rfl, i_M, tb_5 88 rfl rfl, ⟨fy_M, ty_M⟩, n_M, ty_M 15 (by decide)⟩
theorem ff_M_42 : cn_FF "PointMapsModel" 42 11 16 (.array .int) := ⟨R_M, F_M, 31, rfl, by decide, rfl, rfl, i_M, tb_5 89 rfl rfl, ⟨fy_M, ty_M⟩, n_M, ty_M 16 (by decide)⟩
theorem ff_M_45 : cn_FF "PointMapsModel" 45 11 17 (.array .int) := ⟨R_M, F_M, 31, rfl, by decide, rfl, rfl, i_M, tb_5 90 rfl rfl, ⟨fy_M, ty_M⟩, n_M, ty_M 17 (by decide)⟩
theorem ff_M_48 : cn_FF "PointMapsModel" 48 11 18 (.array .int) := ⟨R_M, F_M, 31, rfl, by decide, rfl, rfl, i_M, tb_5 91 rfl rfl, ⟨fy_M, ty_M⟩, n_M, ty_M 18 (by decide)⟩
theorem ff_M_51 : cn_FF "PointMapsModel" 51 11 19 (.array .int) := ⟨R_M, F_M, 31, rfl, by decide, rfl, rfl, i_M, tb_5 92 rfl rfl, ⟨fy_M, ty_M⟩, n_M, ty_M 19 (by decide)⟩
theorem ff_M_54 : cn_FF "PointMapsModel" 54 11 20 (.array .int) := ⟨R_M, F_M, 31, rfl, by decide, rfl, rfl, i_M, tb_5 93 rfl rfl, ⟨fy_M, ty_M⟩, n_M, ty_M 20 (by decide)⟩
theorem ff_M_57 : cn_FF "PointMapsModel" 57 11 21 (.array .int) := ⟨R_M, F_M, 31, rfl, by decide, rfl, rfl, i_M, tb_5 94 rfl rfl, ⟨fy_M, ty_M⟩, n_M, ty_M 21 (by decide)⟩
theorem ff_M_60 : cn_FF "PointMapsModel" 60 11 22 (.array .boolean) := ⟨R_M, F_M, 31, rfl, by decide, rfl, rfl, i_M, tb_5 95 rfl rfl, ⟨fy_M, ty_M⟩, n_M, ty_M 22 (by decide)⟩
theorem ff_M_64 : cn_FF "PointMapsModel" 64 11 23 (.array .int) := ⟨R_M, F_M, 31, rfl, by decide, rfl, rfl, i_M, tb_5 96 rfl rfl, ⟨fy_M, ty_M⟩, n_M, ty_M 23 (by decide)⟩
theorem ff_M_67 : cn_FF "PointMapsModel" 67 11 24 (.array .int) := ⟨R_M, F_M, 31, rfl, by decide, rfl, rfl, i_M, tb_5 97 rfl rfl, ⟨fy_M, ty_M⟩, n_M, ty_M 24 (by decide)⟩
theorem ff_M_70 : cn_FF "PointMapsModel" 70 11 25 (.array .int) := ⟨R_M, F_M, 31, rfl, by decide, rfl, rfl, i_M, tb_5 98 rfl rfl, ⟨fy_M, ty_M⟩, n_M, ty_M 25 (by decide)⟩
theorem ff_M_73 : cn_FF "PointMapsModel" 73 11 26 (.array .int) := ⟨R_M, F_M, 31, rfl, by decide, rfl, rfl, i_M, tb_5 99 rfl rfl, ⟨fy_M, ty_M⟩, n_M, ty_M 26 (by decide)⟩
theorem ff_M_76 : cn_FF "PointMapsModel" 76 11 27 (.array .int) := ⟨R_M, F_M, 31, rfl, by decide, rfl, rfl, i_M, tb_5 100 rfl rfl, ⟨fy_M, ty_M⟩, n_M, ty_M 27 (by decide)⟩
theorem ff_M_79 : cn_FF "PointMapsModel" 79 11 28 (.array .int) := ⟨R_M, F_M, 31, rfl, by decide, rfl, rfl, i_M, tb_5 101 rfl rfl, ⟨fy_M, ty_M⟩, n_M, ty_M 28 (by decide)⟩
theorem ff_M_82 : cn_FF "PointMapsModel" 82 11 29 (.array .long) := ⟨R_M, F_M, 31, rfl, by decide, rfl, rfl, i_M, tb_5 102 rfl rfl, ⟨fy_M, ty_M⟩, n_M, ty_M 29 (by decide)⟩
theorem ff_M_86 : cn_FF "PointMapsModel" 86 11 30 (.array .long) := ⟨R_M, F_M, 31, rfl, by decide, rfl, rfl, i_M, tb_5 103 rfl rfl, ⟨fy_M, ty_M⟩, n_M, ty_M 30 (by decide)⟩
def sg_56 (σ : Hp) : Hp := (wI (wI (wI (wI (wI (wI (wI (wI (wI (wI (wI (wI (wI (wI (wI (wI (wI (wI (wI (wI (wI (wI (wI (wI (wI σ 56 1 3) 56 3 1) 56 8 1) 56 9 1) 56 10 1) 56 11 1) 56 12 1) 56 13 1) 56 14 1) 56 15 1) 56 16 1) 56 17 1) 56 18 1) 56 19 1) 56 20 1) 56 21 1) 56 22 1) 56 23 1) 56 24 1) 56 25 1) 56 26 1) 56 27 1) 56 28 1) 56 29 1) 56 30 1)
theorem zz_56 {σ : Hp} (z : Z0 57 σ) : Z0 81 (sg_56 σ) := (((((((((((((((((((((((((((((((((((((((((((((((((z.w (r := 56) (j := 1) (x := 3) (by decide)).up (by decide : 57 ≤ 58)).w (r := 56) (j := 3) (x := 1) (by decide)).up (by decide : 58 ≤ 59)).w (r := 56) (j := 8) (x := 1) (by decide)).up (by decide : 59 ≤ 60)).w (r := 56) (j := 9) (x := 1) (by decide)).up (by decide : 60 ≤ 61)).w (r := 56) (j := 10) (x := 1) (by decide)).up (by decide : 61 ≤ 62)).w (r := 56) (j := 11) (x := 1) (by decide)).up (by decide : 62 ≤ 63)).w (r := 56) (j := 12) (x := 1) (by decide)).up (by decide : 63 ≤ 64)).w (r := 56) (j := 13) (x := 1) (by decide)).up (by decide : 64 ≤ 65)).w (r := 56) (j := 14) (x := 1) (by decide)).up (by decide : 65 ≤ 66)).w (r := 56) (j := 15) (x := 1) (by decide)).up (by decide : 66 ≤ 67)).w (r := 56) (j := 16) (x := 1) (by decide)).up (by decide : 67 ≤ 68)).w (r := 56) (j := 17) (x := 1) (by decide)).up (by decide : 68 ≤ 69)).w (r := 56) (j := 18) (x := 1) (by decide)).up (by decide : 69 ≤ 70)).w (r := 56) (j := 19) (x := 1) (by decide)).up (by decide : 70 ≤ 71)).w (r := 56) (j := 20) (x := 1) (by decide)).up (by decide : 71 ≤ 72)).w (r := 56) (j := 21) (x := 1) (by decide)).up (by decide : 72 ≤ 73)).w (r := 56) (j := 22) (x := 1) (by decide)).up (by decide : 73 ≤ 74)).w (r := 56) (j := 23) (x := 1) (by decide)).up (by decide : 74 ≤ 75)).w (r := 56) (j := 24) (x := 1) (by decide)).up (by decide : 75 ≤ 76)).w (r := 56) (j := 25) (x := 1) (by decide)).up (by decide : 76 ≤ 77)).w (r := 56) (j := 26) (x := 1) (by decide)).up (by decide : 77 ≤ 78)).w (r := 56) (j := 27) (x := 1) (by decide)).up (by decide : 78 ≤ 79)).w (r := 56) (j := 28) (x := 1) (by decide)).up (by decide : 79 ≤ 80)).w (r := 56) (j := 29) (x := 1) (by decide)).up (by decide : 80 ≤ 81)).w (r := 56) (j := 30) (x := 1) (by decide))
set_option maxHeartbeats 1000000 in
theorem k_56 (σ : Hp) (z : Z0 57 σ) : CM m_M_init 24 82816 57 [.ref 56] σ 81 (sg_56 σ) := by
  show CW m_M_init 24 82816 0 [.ref 56] [] 57 σ 0 0 81 (sg_56 σ)
  refine cw_aload_n d_M_init_0 rfl ?_
  refine cw_obj d_M_init_1 (tb_5 71 rfl rfl) (tb_1 25 rfl rfl) (tb_1 26 rfl rfl) (Nat.le_of_ble_eq_true rfl) (Nat.le_of_ble_eq_true rfl) ?_
  refine cw_aload_n d_M_init_4 rfl ?_
  refine cw_iconst (v := 3) d_M_init_5 (by decide) ?_
  refine cw_putI d_M_init_6 ff_M_7 rfl (by decide) (by decide) rfl (by decide) (by decide) (by decide) ?_
  refine cw_aload_n d_M_init_9 rfl ?_
  refine cw_iconst (v := 4) d_M_init_10 (by decide) ?_
  refine cw_newI d_M_init_11 (tb_1 58 rfl rfl) rfl (by decide) (by decide +kernel) (fun _ _ h => h) rfl (by decide) (by decide) (by decide) (z.w (r := 56) (j := 1) (x := 3) (by decide)) (Nat.le_of_ble_eq_true rfl) (Nat.le_of_ble_eq_true rfl) ?_
  refine cw_putR d_M_init_13 ff_M_13 rfl (by decide) (by decide) rfl (fun _ => rfl) (fun _ => rfl) ?_
  refine cw_aload_n d_M_init_16 rfl ?_
  refine cw_sipush (v := 1500) d_M_init_17 (by decide) ?_
  refine cw_newI d_M_init_20 (tb_1 58 rfl rfl) rfl (by decide) (by decide +kernel) (fun _ _ h => h) rfl (by decide) (by decide) (by decide) (((z.w (r := 56) (j := 1) (x := 3) (by decide)).up (by decide : 57 ≤ 58)).w (r := 56) (j := 3) (x := 1) (by decide)) (Nat.le_of_ble_eq_true rfl) (Nat.le_of_ble_eq_true rfl) ?_
  refine cw_putR d_M_init_22 ff_M_17 rfl (by decide) (by decide) rfl (fun _ => rfl) (fun _ => rfl) ?_
  refine cw_aload_n d_M_init_25 rfl ?_
  refine cw_ldc (v := 46656) d_M_init_26 (tb_5 72 rfl rfl) ?_
  refine cw_newI d_M_init_28 (tb_1 58 rfl rfl) rfl (by decide) (by decide +kernel) (fun _ _ h => h) rfl (by decide) (by decide) (by decide) (((((z.w (r := 56) (j := 1) (x := 3) (by decide)).up (by decide : 57 ≤ 58)).w (r := 56) (j := 3) (x := 1) (by decide)).up (by decide : 58 ≤ 59)).w (r := 56) (j := 8) (x := 1) (by decide)) (Nat.le_of_ble_eq_true rfl) (Nat.le_of_ble_eq_true rfl) ?_
  refine cw_putR d_M_init_30 ff_M_21 rfl (by decide) (by decide) rfl (fun _ => rfl) (fun _ => rfl) ?_
  refine cw_aload_n d_M_init_33 rfl ?_
  refine cw_sipush (v := 6000) d_M_init_34 (by decide) ?_
  refine cw_newI d_M_init_37 (tb_1 58 rfl rfl) rfl (by decide) (by decide +kernel) (fun _ _ h => h) rfl (by decide) (by decide) (by decide) (((((((z.w (r := 56) (j := 1) (x := 3) (by decide)).up (by decide : 57 ≤ 58)).w (r := 56) (j := 3) (x := 1) (by decide)).up (by decide : 58 ≤ 59)).w (r := 56) (j := 8) (x := 1) (by decide)).up (by decide : 59 ≤ 60)).w (r := 56) (j := 9) (x := 1) (by decide)) (Nat.le_of_ble_eq_true rfl) (Nat.le_of_ble_eq_true rfl) ?_
  refine cw_putR d_M_init_39 ff_M_24 rfl (by decide) (by decide) rfl (fun _ => rfl) (fun _ => rfl) ?_
  refine cw_aload_n d_M_init_42 rfl ?_
  refine cw_sipush (v := 6000) d_M_init_43 (by decide) ?_
  refine cw_newI d_M_init_46 (tb_1 58 rfl rfl) rfl (by decide) (by decide +kernel) (fun _ _ h => h) rfl (by decide) (by decide) (by decide) (((((((((z.w (r := 56) (j := 1) (x := 3) (by decide)).up (by decide : 57 ≤ 58)).w (r := 56) (j := 3) (x := 1) (by decide)).up (by decide : 58 ≤ 59)).w (r := 56) (j := 8) (x := 1) (by decide)).up (by decide : 59 ≤ 60)).w (r := 56) (j := 9) (x := 1) (by decide)).up (by decide : 60 ≤ 61)).w (r := 56) (j := 10) (x := 1) (by decide)) (Nat.le_of_ble_eq_true rfl) (Nat.le_of_ble_eq_true rfl) ?_
  refine cw_putR d_M_init_48 ff_M_27 rfl (by decide) (by decide) rfl (fun _ => rfl) (fun _ => rfl) ?_
  refine cw_aload_n d_M_init_51 rfl ?_
  refine cw_sipush (v := 1500) d_M_init_52 (by decide) ?_
  refine cw_newI d_M_init_55 (tb_1 58 rfl rfl) rfl (by decide) (by decide +kernel) (fun _ _ h => h) rfl (by decide) (by decide) (by decide) (((((((((((z.w (r := 56) (j := 1) (x := 3) (by decide)).up (by decide : 57 ≤ 58)).w (r := 56) (j := 3) (x := 1) (by decide)).up (by decide : 58 ≤ 59)).w (r := 56) (j := 8) (x := 1) (by decide)).up (by decide : 59 ≤ 60)).w (r := 56) (j := 9) (x := 1) (by decide)).up (by decide : 60 ≤ 61)).w (r := 56) (j := 10) (x := 1) (by decide)).up (by decide : 61 ≤ 62)).w (r := 56) (j := 11) (x := 1) (by decide)) (Nat.le_of_ble_eq_true rfl) (Nat.le_of_ble_eq_true rfl) ?_
  refine cw_putR d_M_init_57 ff_M_30 rfl (by decide) (by decide) rfl (fun _ => rfl) (fun _ => rfl) ?_
  refine cw_aload_n d_M_init_60 rfl ?_
  refine cw_sipush (v := 1500) d_M_init_61 (by decide) ?_
  refine cw_newI d_M_init_64 (tb_1 58 rfl rfl) rfl (by decide) (by decide +kernel) (fun _ _ h => h) rfl (by decide) (by decide) (by decide) (((((((((((((z.w (r := 56) (j := 1) (x := 3) (by decide)).up (by decide : 57 ≤ 58)).w (r := 56) (j := 3) (x := 1) (by decide)).up (by decide : 58 ≤ 59)).w (r := 56) (j := 8) (x := 1) (by decide)).up (by decide : 59 ≤ 60)).w (r := 56) (j := 9) (x := 1) (by decide)).up (by decide : 60 ≤ 61)).w (r := 56) (j := 10) (x := 1) (by decide)).up (by decide : 61 ≤ 62)).w (r := 56) (j := 11) (x := 1) (by decide)).up (by decide : 62 ≤ 63)).w (r := 56) (j := 12) (x := 1) (by decide)) (Nat.le_of_ble_eq_true rfl) (Nat.le_of_ble_eq_true rfl) ?_
  refine cw_putR d_M_init_66 ff_M_33 rfl (by decide) (by decide) rfl (fun _ => rfl) (fun _ => rfl) ?_
  refine cw_aload_n d_M_init_69 rfl ?_
  refine cw_sipush (v := 1500) d_M_init_70 (by decide) ?_
  refine cw_newI d_M_init_73 (tb_1 58 rfl rfl) rfl (by decide) (by decide +kernel) (fun _ _ h => h) rfl (by decide) (by decide) (by decide) (((((((((((((((z.w (r := 56) (j := 1) (x := 3) (by decide)).up (by decide : 57 ≤ 58)).w (r := 56) (j := 3) (x := 1) (by decide)).up (by decide : 58 ≤ 59)).w (r := 56) (j := 8) (x := 1) (by decide)).up (by decide : 59 ≤ 60)).w (r := 56) (j := 9) (x := 1) (by decide)).up (by decide : 60 ≤ 61)).w (r := 56) (j := 10) (x := 1) (by decide)).up (by decide : 61 ≤ 62)).w (r := 56) (j := 11) (x := 1) (by decide)).up (by decide : 62 ≤ 63)).w (r := 56) (j := 12) (x := 1) (by decide)).up (by decide : 63 ≤ 64)).w (r := 56) (j := 13) (x := 1) (by decide)) (Nat.le_of_ble_eq_true rfl) (Nat.le_of_ble_eq_true rfl) ?_
  refine cw_putR d_M_init_75 ff_M_36 rfl (by decide) (by decide) rfl (fun _ => rfl) (fun _ => rfl) ?_
  refine cw_aload_n d_M_init_78 rfl ?_
  refine cw_sipush (v := 6000) d_M_init_79 (by decide) ?_
  refine cw_newI d_M_init_82 (tb_1 58 rfl rfl) rfl (by decide) (by decide +kernel) (fun _ _ h => h) rfl (by decide) (by decide) (by decide) (((((((((((((((((z.w (r := 56) (j := 1) (x := 3) (by decide)).up (by decide : 57 ≤ 58)).w (r := 56) (j := 3) (x := 1) (by decide)).up (by decide : 58 ≤ 59)).w (r := 56) (j := 8) (x := 1) (by decide)).up (by decide : 59 ≤ 60)).w (r := 56) (j := 9) (x := 1) (by decide)).up (by decide : 60 ≤ 61)).w (r := 56) (j := 10) (x := 1) (by decide)).up (by decide : 61 ≤ 62)).w (r := 56) (j := 11) (x := 1) (by decide)).up (by decide : 62 ≤ 63)).w (r := 56) (j := 12) (x := 1) (by decide)).up (by decide : 63 ≤ 64)).w (r := 56) (j := 13) (x := 1) (by decide)).up (by decide : 64 ≤ 65)).w (r := 56) (j := 14) (x := 1) (by decide)) (Nat.le_of_ble_eq_true rfl) (Nat.le_of_ble_eq_true rfl) ?_
  refine cw_putR d_M_init_84 ff_M_39 rfl (by decide) (by decide) rfl (fun _ => rfl) (fun _ => rfl) ?_
  refine cw_aload_n d_M_init_87 rfl ?_
  refine cw_iconst (v := 4) d_M_init_88 (by decide) ?_
  refine cw_newI d_M_init_89 (tb_1 58 rfl rfl) rfl (by decide) (by decide +kernel) (fun _ _ h => h) rfl (by decide) (by decide) (by decide) (((((((((((((((((((z.w (r := 56) (j := 1) (x := 3) (by decide)).up (by decide : 57 ≤ 58)).w (r := 56) (j := 3) (x := 1) (by decide)).up (by decide : 58 ≤ 59)).w (r := 56) (j := 8) (x := 1) (by decide)).up (by decide : 59 ≤ 60)).w (r := 56) (j := 9) (x := 1) (by decide)).up (by decide : 60 ≤ 61)).w (r := 56) (j := 10) (x := 1) (by decide)).up (by decide : 61 ≤ 62)).w (r := 56) (j := 11) (x := 1) (by decide)).up (by decide : 62 ≤ 63)).w (r := 56) (j := 12) (x := 1) (by decide)).up (by decide : 63 ≤ 64)).w (r := 56) (j := 13) (x := 1) (by decide)).up (by decide : 64 ≤ 65)).w (r := 56) (j := 14) (x := 1) (by decide)).up (by decide : 65 ≤ 66)).w (r := 56) (j := 15) (x := 1) (by decide)) (Nat.le_of_ble_eq_true rfl) (Nat.le_of_ble_eq_true rfl) ?_
  refine cw_putR d_M_init_91 ff_M_42 rfl (by decide) (by decide) rfl (fun _ => rfl) (fun _ => rfl) ?_
  refine cw_aload_n d_M_init_94 rfl ?_
  refine cw_sipush (v := 1500) d_M_init_95 (by decide) ?_
  refine cw_newI d_M_init_98 (tb_1 58 rfl rfl) rfl (by decide) (by decide +kernel) (fun _ _ h => h) rfl (by decide) (by decide) (by decide) (((((((((((((((((((((z.w (r := 56) (j := 1) (x := 3) (by decide)).up (by decide : 57 ≤ 58)).w (r := 56) (j := 3) (x := 1) (by decide)).up (by decide : 58 ≤ 59)).w (r := 56) (j := 8) (x := 1) (by decide)).up (by decide : 59 ≤ 60)).w (r := 56) (j := 9) (x := 1) (by decide)).up (by decide : 60 ≤ 61)).w (r := 56) (j := 10) (x := 1) (by decide)).up (by decide : 61 ≤ 62)).w (r := 56) (j := 11) (x := 1) (by decide)).up (by decide : 62 ≤ 63)).w (r := 56) (j := 12) (x := 1) (by decide)).up (by decide : 63 ≤ 64)).w (r := 56) (j := 13) (x := 1) (by decide)).up (by decide : 64 ≤ 65)).w (r := 56) (j := 14) (x := 1) (by decide)).up (by decide : 65 ≤ 66)).w (r := 56) (j := 15) (x := 1) (by decide)).up (by decide : 66 ≤ 67)).w (r := 56) (j := 16) (x := 1) (by decide)) (Nat.le_of_ble_eq_true rfl) (Nat.le_of_ble_eq_true rfl) ?_
  refine cw_putR d_M_init_100 ff_M_45 rfl (by decide) (by decide) rfl (fun _ => rfl) (fun _ => rfl) ?_
  refine cw_aload_n d_M_init_103 rfl ?_
  refine cw_sipush (v := 1500) d_M_init_104 (by decide) ?_
  refine cw_newI d_M_init_107 (tb_1 58 rfl rfl) rfl (by decide) (by decide +kernel) (fun _ _ h => h) rfl (by decide) (by decide) (by decide) (((((((((((((((((((((((z.w (r := 56) (j := 1) (x := 3) (by decide)).up (by decide : 57 ≤ 58)).w (r := 56) (j := 3) (x := 1) (by decide)).up (by decide : 58 ≤ 59)).w (r := 56) (j := 8) (x := 1) (by decide)).up (by decide : 59 ≤ 60)).w (r := 56) (j := 9) (x := 1) (by decide)).up (by decide : 60 ≤ 61)).w (r := 56) (j := 10) (x := 1) (by decide)).up (by decide : 61 ≤ 62)).w (r := 56) (j := 11) (x := 1) (by decide)).up (by decide : 62 ≤ 63)).w (r := 56) (j := 12) (x := 1) (by decide)).up (by decide : 63 ≤ 64)).w (r := 56) (j := 13) (x := 1) (by decide)).up (by decide : 64 ≤ 65)).w (r := 56) (j := 14) (x := 1) (by decide)).up (by decide : 65 ≤ 66)).w (r := 56) (j := 15) (x := 1) (by decide)).up (by decide : 66 ≤ 67)).w (r := 56) (j := 16) (x := 1) (by decide)).up (by decide : 67 ≤ 68)).w (r := 56) (j := 17) (x := 1) (by decide)) (Nat.le_of_ble_eq_true rfl) (Nat.le_of_ble_eq_true rfl) ?_
  refine cw_putR d_M_init_109 ff_M_48 rfl (by decide) (by decide) rfl (fun _ => rfl) (fun _ => rfl) ?_
  refine cw_aload_n d_M_init_112 rfl ?_
  refine cw_sipush (v := 1500) d_M_init_113 (by decide) ?_
  refine cw_newI d_M_init_116 (tb_1 58 rfl rfl) rfl (by decide) (by decide +kernel) (fun _ _ h => h) rfl (by decide) (by decide) (by decide) (((((((((((((((((((((((((z.w (r := 56) (j := 1) (x := 3) (by decide)).up (by decide : 57 ≤ 58)).w (r := 56) (j := 3) (x := 1) (by decide)).up (by decide : 58 ≤ 59)).w (r := 56) (j := 8) (x := 1) (by decide)).up (by decide : 59 ≤ 60)).w (r := 56) (j := 9) (x := 1) (by decide)).up (by decide : 60 ≤ 61)).w (r := 56) (j := 10) (x := 1) (by decide)).up (by decide : 61 ≤ 62)).w (r := 56) (j := 11) (x := 1) (by decide)).up (by decide : 62 ≤ 63)).w (r := 56) (j := 12) (x := 1) (by decide)).up (by decide : 63 ≤ 64)).w (r := 56) (j := 13) (x := 1) (by decide)).up (by decide : 64 ≤ 65)).w (r := 56) (j := 14) (x := 1) (by decide)).up (by decide : 65 ≤ 66)).w (r := 56) (j := 15) (x := 1) (by decide)).up (by decide : 66 ≤ 67)).w (r := 56) (j := 16) (x := 1) (by decide)).up (by decide : 67 ≤ 68)).w (r := 56) (j := 17) (x := 1) (by decide)).up (by decide : 68 ≤ 69)).w (r := 56) (j := 18) (x := 1) (by decide)) (Nat.le_of_ble_eq_true rfl) (Nat.le_of_ble_eq_true rfl) ?_
  refine cw_putR d_M_init_118 ff_M_51 rfl (by decide) (by decide) rfl (fun _ => rfl) (fun _ => rfl) ?_
  refine cw_aload_n d_M_init_121 rfl ?_
  refine cw_sipush (v := 1500) d_M_init_122 (by decide) ?_
  refine cw_newI d_M_init_125 (tb_1 58 rfl rfl) rfl (by decide) (by decide +kernel) (fun _ _ h => h) rfl (by decide) (by decide) (by decide) (((((((((((((((((((((((((((z.w (r := 56) (j := 1) (x := 3) (by decide)).up (by decide : 57 ≤ 58)).w (r := 56) (j := 3) (x := 1) (by decide)).up (by decide : 58 ≤ 59)).w (r := 56) (j := 8) (x := 1) (by decide)).up (by decide : 59 ≤ 60)).w (r := 56) (j := 9) (x := 1) (by decide)).up (by decide : 60 ≤ 61)).w (r := 56) (j := 10) (x := 1) (by decide)).up (by decide : 61 ≤ 62)).w (r := 56) (j := 11) (x := 1) (by decide)).up (by decide : 62 ≤ 63)).w (r := 56) (j := 12) (x := 1) (by decide)).up (by decide : 63 ≤ 64)).w (r := 56) (j := 13) (x := 1) (by decide)).up (by decide : 64 ≤ 65)).w (r := 56) (j := 14) (x := 1) (by decide)).up (by decide : 65 ≤ 66)).w (r := 56) (j := 15) (x := 1) (by decide)).up (by decide : 66 ≤ 67)).w (r := 56) (j := 16) (x := 1) (by decide)).up (by decide : 67 ≤ 68)).w (r := 56) (j := 17) (x := 1) (by decide)).up (by decide : 68 ≤ 69)).w (r := 56) (j := 18) (x := 1) (by decide)).up (by decide : 69 ≤ 70)).w (r := 56) (j := 19) (x := 1) (by decide)) (Nat.le_of_ble_eq_true rfl) (Nat.le_of_ble_eq_true rfl) ?_
  refine cw_putR d_M_init_127 ff_M_54 rfl (by decide) (by decide) rfl (fun _ => rfl) (fun _ => rfl) ?_
  refine cw_aload_n d_M_init_130 rfl ?_
  refine cw_sipush (v := 1500) d_M_init_131 (by decide) ?_
  refine cw_newI d_M_init_134 (tb_1 58 rfl rfl) rfl (by decide) (by decide +kernel) (fun _ _ h => h) rfl (by decide) (by decide) (by decide) (((((((((((((((((((((((((((((z.w (r := 56) (j := 1) (x := 3) (by decide)).up (by decide : 57 ≤ 58)).w (r := 56) (j := 3) (x := 1) (by decide)).up (by decide : 58 ≤ 59)).w (r := 56) (j := 8) (x := 1) (by decide)).up (by decide : 59 ≤ 60)).w (r := 56) (j := 9) (x := 1) (by decide)).up (by decide : 60 ≤ 61)).w (r := 56) (j := 10) (x := 1) (by decide)).up (by decide : 61 ≤ 62)).w (r := 56) (j := 11) (x := 1) (by decide)).up (by decide : 62 ≤ 63)).w (r := 56) (j := 12) (x := 1) (by decide)).up (by decide : 63 ≤ 64)).w (r := 56) (j := 13) (x := 1) (by decide)).up (by decide : 64 ≤ 65)).w (r := 56) (j := 14) (x := 1) (by decide)).up (by decide : 65 ≤ 66)).w (r := 56) (j := 15) (x := 1) (by decide)).up (by decide : 66 ≤ 67)).w (r := 56) (j := 16) (x := 1) (by decide)).up (by decide : 67 ≤ 68)).w (r := 56) (j := 17) (x := 1) (by decide)).up (by decide : 68 ≤ 69)).w (r := 56) (j := 18) (x := 1) (by decide)).up (by decide : 69 ≤ 70)).w (r := 56) (j := 19) (x := 1) (by decide)).up (by decide : 70 ≤ 71)).w (r := 56) (j := 20) (x := 1) (by decide)) (Nat.le_of_ble_eq_true rfl) (Nat.le_of_ble_eq_true rfl) ?_
  refine cw_putR d_M_init_136 ff_M_57 rfl (by decide) (by decide) rfl (fun _ => rfl) (fun _ => rfl) ?_
  refine cw_aload_n d_M_init_139 rfl ?_
  refine cw_sipush (v := 1500) d_M_init_140 (by decide) ?_
  refine cw_newI d_M_init_143 (tb_5 167 rfl rfl) rfl (by decide) (by decide +kernel) (fun _ _ h => h) rfl (by decide) (by decide) (by decide) (((((((((((((((((((((((((((((((z.w (r := 56) (j := 1) (x := 3) (by decide)).up (by decide : 57 ≤ 58)).w (r := 56) (j := 3) (x := 1) (by decide)).up (by decide : 58 ≤ 59)).w (r := 56) (j := 8) (x := 1) (by decide)).up (by decide : 59 ≤ 60)).w (r := 56) (j := 9) (x := 1) (by decide)).up (by decide : 60 ≤ 61)).w (r := 56) (j := 10) (x := 1) (by decide)).up (by decide : 61 ≤ 62)).w (r := 56) (j := 11) (x := 1) (by decide)).up (by decide : 62 ≤ 63)).w (r := 56) (j := 12) (x := 1) (by decide)).up (by decide : 63 ≤ 64)).w (r := 56) (j := 13) (x := 1) (by decide)).up (by decide : 64 ≤ 65)).w (r := 56) (j := 14) (x := 1) (by decide)).up (by decide : 65 ≤ 66)).w (r := 56) (j := 15) (x := 1) (by decide)).up (by decide : 66 ≤ 67)).w (r := 56) (j := 16) (x := 1) (by decide)).up (by decide : 67 ≤ 68)).w (r := 56) (j := 17) (x := 1) (by decide)).up (by decide : 68 ≤ 69)).w (r := 56) (j := 18) (x := 1) (by decide)).up (by decide : 69 ≤ 70)).w (r := 56) (j := 19) (x := 1) (by decide)).up (by decide : 70 ≤ 71)).w (r := 56) (j := 20) (x := 1) (by decide)).up (by decide : 71 ≤ 72)).w (r := 56) (j := 21) (x := 1) (by decide)) (Nat.le_of_ble_eq_true rfl) (Nat.le_of_ble_eq_true rfl) ?_
  refine cw_putR d_M_init_145 ff_M_60 rfl (by decide) (by decide) rfl (fun _ => rfl) (fun _ => rfl) ?_
  refine cw_aload_n d_M_init_148 rfl ?_
  refine cw_sipush (v := 1500) d_M_init_149 (by decide) ?_
  refine cw_newI d_M_init_152 (tb_1 58 rfl rfl) rfl (by decide) (by decide +kernel) (fun _ _ h => h) rfl (by decide) (by decide) (by decide) (((((((((((((((((((((((((((((((((z.w (r := 56) (j := 1) (x := 3) (by decide)).up (by decide : 57 ≤ 58)).w (r := 56) (j := 3) (x := 1) (by decide)).up (by decide : 58 ≤ 59)).w (r := 56) (j := 8) (x := 1) (by decide)).up (by decide : 59 ≤ 60)).w (r := 56) (j := 9) (x := 1) (by decide)).up (by decide : 60 ≤ 61)).w (r := 56) (j := 10) (x := 1) (by decide)).up (by decide : 61 ≤ 62)).w (r := 56) (j := 11) (x := 1) (by decide)).up (by decide : 62 ≤ 63)).w (r := 56) (j := 12) (x := 1) (by decide)).up (by decide : 63 ≤ 64)).w (r := 56) (j := 13) (x := 1) (by decide)).up (by decide : 64 ≤ 65)).w (r := 56) (j := 14) (x := 1) (by decide)).up (by decide : 65 ≤ 66)).w (r := 56) (j := 15) (x := 1) (by decide)).up (by decide : 66 ≤ 67)).w (r := 56) (j := 16) (x := 1) (by decide)).up (by decide : 67 ≤ 68)).w (r := 56) (j := 17) (x := 1) (by decide)).up (by decide : 68 ≤ 69)).w (r := 56) (j := 18) (x := 1) (by decide)).up (by decide : 69 ≤ 70)).w (r := 56) (j := 19) (x := 1) (by decide)).up (by decide : 70 ≤ 71)).w (r := 56) (j := 20) (x := 1) (by decide)).up (by decide : 71 ≤ 72)).w (r := 56) (j := 21) (x := 1) (by decide)).up (by decide : 72 ≤ 73)).w (r := 56) (j := 22) (x := 1) (by decide)) (Nat.le_of_ble_eq_true rfl) (Nat.le_of_ble_eq_true rfl) ?_
  refine cw_putR d_M_init_154 ff_M_64 rfl (by decide) (by decide) rfl (fun _ => rfl) (fun _ => rfl) ?_
  refine cw_aload_n d_M_init_157 rfl ?_
  refine cw_bipush (v := 64) d_M_init_158 (by decide) ?_
  refine cw_newI d_M_init_160 (tb_1 58 rfl rfl) rfl (by decide) (by decide +kernel) (fun _ _ h => h) rfl (by decide) (by decide) (by decide) (((((((((((((((((((((((((((((((((((z.w (r := 56) (j := 1) (x := 3) (by decide)).up (by decide : 57 ≤ 58)).w (r := 56) (j := 3) (x := 1) (by decide)).up (by decide : 58 ≤ 59)).w (r := 56) (j := 8) (x := 1) (by decide)).up (by decide : 59 ≤ 60)).w (r := 56) (j := 9) (x := 1) (by decide)).up (by decide : 60 ≤ 61)).w (r := 56) (j := 10) (x := 1) (by decide)).up (by decide : 61 ≤ 62)).w (r := 56) (j := 11) (x := 1) (by decide)).up (by decide : 62 ≤ 63)).w (r := 56) (j := 12) (x := 1) (by decide)).up (by decide : 63 ≤ 64)).w (r := 56) (j := 13) (x := 1) (by decide)).up (by decide : 64 ≤ 65)).w (r := 56) (j := 14) (x := 1) (by decide)).up (by decide : 65 ≤ 66)).w (r := 56) (j := 15) (x := 1) (by decide)).up (by decide : 66 ≤ 67)).w (r := 56) (j := 16) (x := 1) (by decide)).up (by decide : 67 ≤ 68)).w (r := 56) (j := 17) (x := 1) (by decide)).up (by decide : 68 ≤ 69)).w (r := 56) (j := 18) (x := 1) (by decide)).up (by decide : 69 ≤ 70)).w (r := 56) (j := 19) (x := 1) (by decide)).up (by decide : 70 ≤ 71)).w (r := 56) (j := 20) (x := 1) (by decide)).up (by decide : 71 ≤ 72)).w (r := 56) (j := 21) (x := 1) (by decide)).up (by decide : 72 ≤ 73)).w (r := 56) (j := 22) (x := 1) (by decide)).up (by decide : 73 ≤ 74)).w (r := 56) (j := 23) (x := 1) (by decide)) (Nat.le_of_ble_eq_true rfl) (Nat.le_of_ble_eq_true rfl) ?_
  refine cw_putR d_M_init_162 ff_M_67 rfl (by decide) (by decide) rfl (fun _ => rfl) (fun _ => rfl) ?_
  refine cw_aload_n d_M_init_165 rfl ?_
  refine cw_bipush (v := 64) d_M_init_166 (by decide) ?_
  refine cw_newI d_M_init_168 (tb_1 58 rfl rfl) rfl (by decide) (by decide +kernel) (fun _ _ h => h) rfl (by decide) (by decide) (by decide) (((((((((((((((((((((((((((((((((((((z.w (r := 56) (j := 1) (x := 3) (by decide)).up (by decide : 57 ≤ 58)).w (r := 56) (j := 3) (x := 1) (by decide)).up (by decide : 58 ≤ 59)).w (r := 56) (j := 8) (x := 1) (by decide)).up (by decide : 59 ≤ 60)).w (r := 56) (j := 9) (x := 1) (by decide)).up (by decide : 60 ≤ 61)).w (r := 56) (j := 10) (x := 1) (by decide)).up (by decide : 61 ≤ 62)).w (r := 56) (j := 11) (x := 1) (by decide)).up (by decide : 62 ≤ 63)).w (r := 56) (j := 12) (x := 1) (by decide)).up (by decide : 63 ≤ 64)).w (r := 56) (j := 13) (x := 1) (by decide)).up (by decide : 64 ≤ 65)).w (r := 56) (j := 14) (x := 1) (by decide)).up (by decide : 65 ≤ 66)).w (r := 56) (j := 15) (x := 1) (by decide)).up (by decide : 66 ≤ 67)).w (r := 56) (j := 16) (x := 1) (by decide)).up (by decide : 67 ≤ 68)).w (r := 56) (j := 17) (x := 1) (by decide)).up (by decide : 68 ≤ 69)).w (r := 56) (j := 18) (x := 1) (by decide)).up (by decide : 69 ≤ 70)).w (r := 56) (j := 19) (x := 1) (by decide)).up (by decide : 70 ≤ 71)).w (r := 56) (j := 20) (x := 1) (by decide)).up (by decide : 71 ≤ 72)).w (r := 56) (j := 21) (x := 1) (by decide)).up (by decide : 72 ≤ 73)).w (r := 56) (j := 22) (x := 1) (by decide)).up (by decide : 73 ≤ 74)).w (r := 56) (j := 23) (x := 1) (by decide)).up (by decide : 74 ≤ 75)).w (r := 56) (j := 24) (x := 1) (by decide)) (Nat.le_of_ble_eq_true rfl) (Nat.le_of_ble_eq_true rfl) ?_
  refine cw_putR d_M_init_170 ff_M_70 rfl (by decide) (by decide) rfl (fun _ => rfl) (fun _ => rfl) ?_
  refine cw_aload_n d_M_init_173 rfl ?_
  refine cw_bipush (v := 6) d_M_init_174 (by decide) ?_
  refine cw_newI d_M_init_176 (tb_1 58 rfl rfl) rfl (by decide) (by decide +kernel) (fun _ _ h => h) rfl (by decide) (by decide) (by decide) (((((((((((((((((((((((((((((((((((((((z.w (r := 56) (j := 1) (x := 3) (by decide)).up (by decide : 57 ≤ 58)).w (r := 56) (j := 3) (x := 1) (by decide)).up (by decide : 58 ≤ 59)).w (r := 56) (j := 8) (x := 1) (by decide)).up (by decide : 59 ≤ 60)).w (r := 56) (j := 9) (x := 1) (by decide)).up (by decide : 60 ≤ 61)).w (r := 56) (j := 10) (x := 1) (by decide)).up (by decide : 61 ≤ 62)).w (r := 56) (j := 11) (x := 1) (by decide)).up (by decide : 62 ≤ 63)).w (r := 56) (j := 12) (x := 1) (by decide)).up (by decide : 63 ≤ 64)).w (r := 56) (j := 13) (x := 1) (by decide)).up (by decide : 64 ≤ 65)).w (r := 56) (j := 14) (x := 1) (by decide)).up (by decide : 65 ≤ 66)).w (r := 56) (j := 15) (x := 1) (by decide)).up (by decide : 66 ≤ 67)).w (r := 56) (j := 16) (x := 1) (by decide)).up (by decide : 67 ≤ 68)).w (r := 56) (j := 17) (x := 1) (by decide)).up (by decide : 68 ≤ 69)).w (r := 56) (j := 18) (x := 1) (by decide)).up (by decide : 69 ≤ 70)).w (r := 56) (j := 19) (x := 1) (by decide)).up (by decide : 70 ≤ 71)).w (r := 56) (j := 20) (x := 1) (by decide)).up (by decide : 71 ≤ 72)).w (r := 56) (j := 21) (x := 1) (by decide)).up (by decide : 72 ≤ 73)).w (r := 56) (j := 22) (x := 1) (by decide)).up (by decide : 73 ≤ 74)).w (r := 56) (j := 23) (x := 1) (by decide)).up (by decide : 74 ≤ 75)).w (r := 56) (j := 24) (x := 1) (by decide)).up (by decide : 75 ≤ 76)).w (r := 56) (j := 25) (x := 1) (by decide)) (Nat.le_of_ble_eq_true rfl) (Nat.le_of_ble_eq_true rfl) ?_
  refine cw_putR d_M_init_178 ff_M_73 rfl (by decide) (by decide) rfl (fun _ => rfl) (fun _ => rfl) ?_
  refine cw_aload_n d_M_init_181 rfl ?_
  refine cw_bipush (v := 6) d_M_init_182 (by decide) ?_
  refine cw_newI d_M_init_184 (tb_1 58 rfl rfl) rfl (by decide) (by decide +kernel) (fun _ _ h => h) rfl (by decide) (by decide) (by decide) (((((((((((((((((((((((((((((((((((((((((z.w (r := 56) (j := 1) (x := 3) (by decide)).up (by decide : 57 ≤ 58)).w (r := 56) (j := 3) (x := 1) (by decide)).up (by decide : 58 ≤ 59)).w (r := 56) (j := 8) (x := 1) (by decide)).up (by decide : 59 ≤ 60)).w (r := 56) (j := 9) (x := 1) (by decide)).up (by decide : 60 ≤ 61)).w (r := 56) (j := 10) (x := 1) (by decide)).up (by decide : 61 ≤ 62)).w (r := 56) (j := 11) (x := 1) (by decide)).up (by decide : 62 ≤ 63)).w (r := 56) (j := 12) (x := 1) (by decide)).up (by decide : 63 ≤ 64)).w (r := 56) (j := 13) (x := 1) (by decide)).up (by decide : 64 ≤ 65)).w (r := 56) (j := 14) (x := 1) (by decide)).up (by decide : 65 ≤ 66)).w (r := 56) (j := 15) (x := 1) (by decide)).up (by decide : 66 ≤ 67)).w (r := 56) (j := 16) (x := 1) (by decide)).up (by decide : 67 ≤ 68)).w (r := 56) (j := 17) (x := 1) (by decide)).up (by decide : 68 ≤ 69)).w (r := 56) (j := 18) (x := 1) (by decide)).up (by decide : 69 ≤ 70)).w (r := 56) (j := 19) (x := 1) (by decide)).up (by decide : 70 ≤ 71)).w (r := 56) (j := 20) (x := 1) (by decide)).up (by decide : 71 ≤ 72)).w (r := 56) (j := 21) (x := 1) (by decide)).up (by decide : 72 ≤ 73)).w (r := 56) (j := 22) (x := 1) (by decide)).up (by decide : 73 ≤ 74)).w (r := 56) (j := 23) (x := 1) (by decide)).up (by decide : 74 ≤ 75)).w (r := 56) (j := 24) (x := 1) (by decide)).up (by decide : 75 ≤ 76)).w (r := 56) (j := 25) (x := 1) (by decide)).up (by decide : 76 ≤ 77)).w (r := 56) (j := 26) (x := 1) (by decide)) (Nat.le_of_ble_eq_true rfl) (Nat.le_of_ble_eq_true rfl) ?_
  refine cw_putR d_M_init_186 ff_M_76 rfl (by decide) (by decide) rfl (fun _ => rfl) (fun _ => rfl) ?_
  refine cw_aload_n d_M_init_189 rfl ?_
  refine cw_sipush (v := 1500) d_M_init_190 (by decide) ?_
  refine cw_newI d_M_init_193 (tb_1 58 rfl rfl) rfl (by decide) (by decide +kernel) (fun _ _ h => h) rfl (by decide) (by decide) (by decide) (((((((((((((((((((((((((((((((((((((((((((z.w (r := 56) (j := 1) (x := 3) (by decide)).up (by decide : 57 ≤ 58)).w (r := 56) (j := 3) (x := 1) (by decide)).up (by decide : 58 ≤ 59)).w (r := 56) (j := 8) (x := 1) (by decide)).up (by decide : 59 ≤ 60)).w (r := 56) (j := 9) (x := 1) (by decide)).up (by decide : 60 ≤ 61)).w (r := 56) (j := 10) (x := 1) (by decide)).up (by decide : 61 ≤ 62)).w (r := 56) (j := 11) (x := 1) (by decide)).up (by decide : 62 ≤ 63)).w (r := 56) (j := 12) (x := 1) (by decide)).up (by decide : 63 ≤ 64)).w (r := 56) (j := 13) (x := 1) (by decide)).up (by decide : 64 ≤ 65)).w (r := 56) (j := 14) (x := 1) (by decide)).up (by decide : 65 ≤ 66)).w (r := 56) (j := 15) (x := 1) (by decide)).up (by decide : 66 ≤ 67)).w (r := 56) (j := 16) (x := 1) (by decide)).up (by decide : 67 ≤ 68)).w (r := 56) (j := 17) (x := 1) (by decide)).up (by decide : 68 ≤ 69)).w (r := 56) (j := 18) (x := 1) (by decide)).up (by decide : 69 ≤ 70)).w (r := 56) (j := 19) (x := 1) (by decide)).up (by decide : 70 ≤ 71)).w (r := 56) (j := 20) (x := 1) (by decide)).up (by decide : 71 ≤ 72)).w (r := 56) (j := 21) (x := 1) (by decide)).up (by decide : 72 ≤ 73)).w (r := 56) (j := 22) (x := 1) (by decide)).up (by decide : 73 ≤ 74)).w (r := 56) (j := 23) (x := 1) (by decide)).up (by decide : 74 ≤ 75)).w (r := 56) (j := 24) (x := 1) (by decide)).up (by decide : 75 ≤ 76)).w (r := 56) (j := 25) (x := 1) (by decide)).up (by decide : 76 ≤ 77)).w (r := 56) (j := 26) (x := 1) (by decide)).up (by decide : 77 ≤ 78)).w (r := 56) (j := 27) (x := 1) (by decide)) (Nat.le_of_ble_eq_true rfl) (Nat.le_of_ble_eq_true rfl) ?_
  refine cw_putR d_M_init_195 ff_M_79 rfl (by decide) (by decide) rfl (fun _ => rfl) (fun _ => rfl) ?_
  refine cw_aload_n d_M_init_198 rfl ?_
  refine cw_bipush (v := 6) d_M_init_199 (by decide) ?_
  refine cw_newL d_M_init_201 (tb_5 168 rfl rfl) rfl (by decide) (by decide) (by decide) (((((((((((((((((((((((((((((((((((((((((((((z.w (r := 56) (j := 1) (x := 3) (by decide)).up (by decide : 57 ≤ 58)).w (r := 56) (j := 3) (x := 1) (by decide)).up (by decide : 58 ≤ 59)).w (r := 56) (j := 8) (x := 1) (by decide)).up (by decide : 59 ≤ 60)).w (r := 56) (j := 9) (x := 1) (by decide)).up (by decide : 60 ≤ 61)).w (r := 56) (j := 10) (x := 1) (by decide)).up (by decide : 61 ≤ 62)).w (r := 56) (j := 11) (x := 1) (by decide)).up (by decide : 62 ≤ 63)).w (r := 56) (j := 12) (x := 1) (by decide)).up (by decide : 63 ≤ 64)).w (r := 56) (j := 13) (x := 1) (by decide)).up (by decide : 64 ≤ 65)).w (r := 56) (j := 14) (x := 1) (by decide)).up (by decide : 65 ≤ 66)).w (r := 56) (j := 15) (x := 1) (by decide)).up (by decide : 66 ≤ 67)).w (r := 56) (j := 16) (x := 1) (by decide)).up (by decide : 67 ≤ 68)).w (r := 56) (j := 17) (x := 1) (by decide)).up (by decide : 68 ≤ 69)).w (r := 56) (j := 18) (x := 1) (by decide)).up (by decide : 69 ≤ 70)).w (r := 56) (j := 19) (x := 1) (by decide)).up (by decide : 70 ≤ 71)).w (r := 56) (j := 20) (x := 1) (by decide)).up (by decide : 71 ≤ 72)).w (r := 56) (j := 21) (x := 1) (by decide)).up (by decide : 72 ≤ 73)).w (r := 56) (j := 22) (x := 1) (by decide)).up (by decide : 73 ≤ 74)).w (r := 56) (j := 23) (x := 1) (by decide)).up (by decide : 74 ≤ 75)).w (r := 56) (j := 24) (x := 1) (by decide)).up (by decide : 75 ≤ 76)).w (r := 56) (j := 25) (x := 1) (by decide)).up (by decide : 76 ≤ 77)).w (r := 56) (j := 26) (x := 1) (by decide)).up (by decide : 77 ≤ 78)).w (r := 56) (j := 27) (x := 1) (by decide)).up (by decide : 78 ≤ 79)).w (r := 56) (j := 28) (x := 1) (by decide)) (Nat.le_of_ble_eq_true rfl) (Nat.le_of_ble_eq_true rfl) ?_
  refine cw_putR d_M_init_203 ff_M_82 rfl (by decide) (by decide) rfl (fun _ => rfl) (fun _ => rfl) ?_
  refine cw_aload_n d_M_init_206 rfl ?_
  refine cw_bipush (v := 6) d_M_init_207 (by decide) ?_
  refine cw_newL d_M_init_209 (tb_5 168 rfl rfl) rfl (by decide) (by decide) (by decide) (((((((((((((((((((((((((((((((((((((((((((((((z.w (r := 56) (j := 1) (x := 3) (by decide)).up (by decide : 57 ≤ 58)).w (r := 56) (j := 3) (x := 1) (by decide)).up (by decide : 58 ≤ 59)).w (r := 56) (j := 8) (x := 1) (by decide)).up (by decide : 59 ≤ 60)).w (r := 56) (j := 9) (x := 1) (by decide)).up (by decide : 60 ≤ 61)).w (r := 56) (j := 10) (x := 1) (by decide)).up (by decide : 61 ≤ 62)).w (r := 56) (j := 11) (x := 1) (by decide)).up (by decide : 62 ≤ 63)).w (r := 56) (j := 12) (x := 1) (by decide)).up (by decide : 63 ≤ 64)).w (r := 56) (j := 13) (x := 1) (by decide)).up (by decide : 64 ≤ 65)).w (r := 56) (j := 14) (x := 1) (by decide)).up (by decide : 65 ≤ 66)).w (r := 56) (j := 15) (x := 1) (by decide)).up (by decide : 66 ≤ 67)).w (r := 56) (j := 16) (x := 1) (by decide)).up (by decide : 67 ≤ 68)).w (r := 56) (j := 17) (x := 1) (by decide)).up (by decide : 68 ≤ 69)).w (r := 56) (j := 18) (x := 1) (by decide)).up (by decide : 69 ≤ 70)).w (r := 56) (j := 19) (x := 1) (by decide)).up (by decide : 70 ≤ 71)).w (r := 56) (j := 20) (x := 1) (by decide)).up (by decide : 71 ≤ 72)).w (r := 56) (j := 21) (x := 1) (by decide)).up (by decide : 72 ≤ 73)).w (r := 56) (j := 22) (x := 1) (by decide)).up (by decide : 73 ≤ 74)).w (r := 56) (j := 23) (x := 1) (by decide)).up (by decide : 74 ≤ 75)).w (r := 56) (j := 24) (x := 1) (by decide)).up (by decide : 75 ≤ 76)).w (r := 56) (j := 25) (x := 1) (by decide)).up (by decide : 76 ≤ 77)).w (r := 56) (j := 26) (x := 1) (by decide)).up (by decide : 77 ≤ 78)).w (r := 56) (j := 27) (x := 1) (by decide)).up (by decide : 78 ≤ 79)).w (r := 56) (j := 28) (x := 1) (by decide)).up (by decide : 79 ≤ 80)).w (r := 56) (j := 29) (x := 1) (by decide)) (Nat.le_of_ble_eq_true rfl) (Nat.le_of_ble_eq_true rfl) ?_
  refine cw_putR d_M_init_211 ff_M_86 rfl (by decide) (by decide) rfl (fun _ => rfl) (fun _ => rfl) ?_
  exact cw_ret d_M_init_214 rfl
theorem df_P : ∀ j, j < 7 → defaultValue (fy_P j) = vp_V (([(2, 1), (2, 3), (2, 15), (2, 35), (2, 36), (2, 42), (2, 48)] : List (Nat × Nat)).map cn_df) j := fun j hj => match j, hj with
  | 0, _ => rfl
  | 1, _ => rfl
  | 2, _ => rfl
  | 3, _ => rfl
  | 4, _ => rfl
  | 5, _ => rfl
  | 6, _ => rfl
  | k + 7, h => absurd h (by omega)
theorem lz_P : Cond.classLink "PointMapsLaw" 7 "PointMaps" ∈ lw_big ∧ Cond.instantiable "PointMaps" 7 ∈ lw_big ∧ Cond.initialized "PointMaps" ∈ lw_big ∧ Cond.instanceMethod (hn_nm m_P_init) ∈ lw_big := ⟨tb_1 19 rfl rfl, tb_1 20 rfl rfl, tb_1 1 rfl rfl, tb_1 22 rfl rfl⟩
theorem li_Law_9 : hn_LB "PointMapsLaw" 9 m_P_init 0 := ⟨tb_1 21 rfl rfl, tb_1 1 rfl rfl, tb_1 23 rfl rfl, by decide +kernel, by decide, by decide, by decide +kernel⟩
theorem df_M : ∀ j, j < 31 → defaultValue (fy_M j) = vp_V (([(0, 0), (0, 0), (0, 0), (2, 57), (0, 0), (0, 0), (3, 0), (0, 0), (2, 58), (2, 59), (2, 60), (2, 61), (2, 62), (2, 63), (2, 64), (2, 65), (2, 66), (2, 67), (2, 68), (2, 69), (2, 70), (2, 71), (2, 72), (2, 73), (2, 74), (2, 75), (2, 76), (2, 77), (2, 78), (2, 79), (2, 80)] : List (Nat × Nat)).map cn_df) j := fun j hj => match j, hj with
  | 0, _ => rfl
  | 1, _ => rfl
  | 2, _ => rfl
  | 3, _ => rfl
  | 4, _ => rfl
  | 5, _ => rfl
  | 6, _ => rfl
  | 7, _ => rfl
  | 8, _ => rfl
  | 9, _ => rfl
  | 10, _ => rfl
  | 11, _ => rfl
  | 12, _ => rfl
  | 13, _ => rfl
  | 14, _ => rfl
  | 15, _ => rfl
  | 16, _ => rfl
  | 17, _ => rfl
  | 18, _ => rfl
  | 19, _ => rfl
  | 20, _ => rfl
  | 21, _ => rfl
  | 22, _ => rfl
  | 23, _ => rfl
  | 24, _ => rfl
  | 25, _ => rfl
  | 26, _ => rfl
  | 27, _ => rfl
  | 28, _ => rfl
  | 29, _ => rfl
  | 30, _ => rfl
  | k + 31, h => absurd h (by omega)
theorem lz_M : Cond.classLink "PointMapsLaw" 10 "PointMapsModel" ∈ lw_big ∧ Cond.instantiable "PointMapsModel" 31 ∈ lw_big ∧ Cond.initialized "PointMapsModel" ∈ lw_big ∧ Cond.instanceMethod (hn_nm m_M_init) ∈ lw_big := ⟨tb_5 66 rfl rfl, tb_5 67 rfl rfl, tb_1 13 rfl rfl, tb_5 69 rfl rfl⟩
theorem li_Law_12 : hn_LB "PointMapsLaw" 12 m_M_init 0 := ⟨tb_5 68 rfl rfl, tb_1 13 rfl rfl, tb_5 70 rfl rfl, by decide +kernel, by decide, by decide, by decide +kernel⟩
def hp0 : Hp := (fun _ _ => 0, fun _ _ => 0)
theorem z_hp0 : Z0 0 hp0 := fun _ _ => ⟨rfl, rfl⟩
def hp_made : Hp := sg_56 (sg_0 hp0)
theorem hp_made_all : cn_all hp_made = true := by decide +kernel
