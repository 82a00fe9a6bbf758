set_option maxRecDepth 20000 in
theorem am_P_0 : am_P 0 = some (am_k0, 3, 0, 9, 3576) := rfl
theorem am_mi_0 : am_mi 0 = (2, 2, 0) := by decide +kernel
set_option maxRecDepth 20000 in
theorem am_P_1 : am_P 1 = some (am_k1, 6, 0, 0, 0) := rfl
theorem am_mi_1 : am_mi 1 = (0, 3, 0) := by decide +kernel
set_option maxRecDepth 20000 in
theorem am_P_2 : am_P 2 = some (am_k2, 6, 0, 0, 0) := rfl
theorem am_mi_2 : am_mi 2 = (0, 0, 0) := by decide +kernel
set_option maxRecDepth 20000 in
theorem am_P_3 : am_P 3 = some (am_k3, 4, 0, 0, 0) := rfl
theorem am_mi_3 : am_mi 3 = (0, 3, 0) := by decide +kernel
set_option maxRecDepth 20000 in
theorem am_P_4 : am_P 4 = some (am_k4, 4, 0, 0, 0) := rfl
theorem am_mi_4 : am_mi 4 = (0, 1, 0) := by decide +kernel
set_option maxRecDepth 20000 in
theorem am_P_5 : am_P 5 = some (am_k5, 4, 0, 0, 0) := rfl
theorem am_mi_5 : am_mi 5 = (0, 1, 0) := by decide +kernel
set_option maxRecDepth 20000 in
theorem am_P_6 : am_P 6 = some (am_k6, 8, 0, 0, 0) := rfl
theorem am_mi_6 : am_mi 6 = (0, 2, 0) := by decide +kernel
set_option maxRecDepth 20000 in
theorem am_P_7 : am_P 7 = some (am_k7, 3, 1, 0, 0) := rfl
theorem am_mi_7 : am_mi 7 = (0, 2, 0) := by decide +kernel
set_option maxRecDepth 20000 in
theorem am_P_8 : am_P 8 = some (am_k8, 4, 4, 0, 0) := rfl
theorem am_mi_8 : am_mi 8 = (0, 3, 0) := by decide +kernel
set_option maxRecDepth 20000 in
theorem am_P_9 : am_P 9 = some (am_k9, 5, 1, 0, 0) := rfl
theorem am_mi_9 : am_mi 9 = (0, 4, 0) := by decide +kernel
set_option maxRecDepth 20000 in
theorem am_P_10 : am_P 10 = some (am_k10, 1, 4, 0, 0) := rfl
theorem am_mi_10 : am_mi 10 = (0, 0, 0) := by decide +kernel
set_option maxRecDepth 20000 in
theorem am_P_11 : am_P 11 = some (am_k11, 2, 4, 0, 0) := rfl
theorem am_mi_11 : am_mi 11 = (0, 1, 0) := by decide +kernel
set_option maxRecDepth 20000 in
theorem am_P_12 : am_P 12 = some (am_k12, 3, 1, 0, 0) := rfl
theorem am_mi_12 : am_mi 12 = (0, 2, 0) := by decide +kernel
set_option maxRecDepth 20000 in
theorem am_P_13 : am_P 13 = some (am_k13, 3, 0, 0, 0) := rfl
theorem am_mi_13 : am_mi 13 = (0, 0, 0) := by decide +kernel
set_option maxRecDepth 20000 in
theorem am_P_14 : am_P 14 = some (am_k14, 4, 0, 0, 0) := rfl
theorem am_mi_14 : am_mi 14 = (0, 3, 0) := by decide +kernel
set_option maxRecDepth 20000 in
theorem am_P_15 : am_P 15 = some (am_k15, 9, 0, 0, 0) := rfl
theorem am_mi_15 : am_mi 15 = (0, 3, 0) := by decide +kernel
set_option maxRecDepth 20000 in
theorem am_P_16 : am_P 16 = some (am_k16, 5, 1, 0, 0) := rfl
theorem am_mi_16 : am_mi 16 = (0, 3, 0) := by decide +kernel
set_option maxRecDepth 20000 in
theorem am_P_17 : am_P 17 = some (am_k17, 3, 0, 58, 4952) := rfl
theorem am_mi_17 : am_mi 17 = (2, 1, 1) := by decide +kernel
set_option maxRecDepth 20000 in
theorem am_P_18 : am_P 18 = some (am_k18, 2, 0, 0, 0) := rfl
theorem am_mi_18 : am_mi 18 = (0, 0, 1) := by decide +kernel
set_option maxRecDepth 20000 in
theorem am_P_19 : am_P 19 = some (am_k19, 2, 4, 0, 0) := rfl
theorem am_mi_19 : am_mi 19 = (0, 1, 1) := by decide +kernel
set_option maxRecDepth 20000 in
theorem am_P_20 : am_P 20 = some (am_k20, 2, 1, 0, 0) := rfl
theorem am_mi_20 : am_mi 20 = (0, 1, 1) := by decide +kernel
set_option maxRecDepth 20000 in
theorem am_P_21 : am_P 21 = some (am_k21, 2, 1, 0, 0) := rfl
theorem am_mi_21 : am_mi 21 = (0, 1, 1) := by decide +kernel
set_option maxRecDepth 20000 in
theorem am_P_22 : am_P 22 = some (am_k22, 2, 1, 0, 0) := rfl
theorem am_mi_22 : am_mi 22 = (0, 1, 1) := by decide +kernel
set_option maxRecDepth 20000 in
theorem am_P_23 : am_P 23 = some (am_k23, 2, 4, 0, 0) := rfl
theorem am_mi_23 : am_mi 23 = (0, 1, 1) := by decide +kernel
set_option maxRecDepth 20000 in
theorem am_P_24 : am_P 24 = some (am_k24, 2, 1, 0, 0) := rfl
theorem am_mi_24 : am_mi 24 = (0, 1, 1) := by decide +kernel
set_option maxRecDepth 20000 in
theorem am_P_25 : am_P 25 = some (am_k25, 2, 1, 0, 0) := rfl
theorem am_mi_25 : am_mi 25 = (0, 1, 1) := by decide +kernel
set_option maxRecDepth 20000 in
theorem am_P_26 : am_P 26 = some (am_k26, 2, 1, 0, 0) := rfl
theorem am_mi_26 : am_mi 26 = (0, 1, 1) := by decide +kernel
set_option maxRecDepth 20000 in
theorem am_P_27 : am_P 27 = some (am_k27, 2, 1, 0, 0) := rfl
theorem am_mi_27 : am_mi 27 = (0, 1, 1) := by decide +kernel
set_option maxRecDepth 20000 in
theorem am_P_28 : am_P 28 = some (am_k28, 2, 4, 0, 0) := rfl
theorem am_mi_28 : am_mi 28 = (0, 1, 1) := by decide +kernel
set_option maxRecDepth 20000 in
theorem am_P_29 : am_P 29 = some (am_k29, 2, 1, 0, 0) := rfl
theorem am_mi_29 : am_mi 29 = (0, 1, 1) := by decide +kernel
set_option maxRecDepth 20000 in
theorem am_P_30 : am_P 30 = some (am_k30, 5, 4, 0, 0) := rfl
theorem am_mi_30 : am_mi 30 = (0, 2, 1) := by decide +kernel
set_option maxRecDepth 20000 in
theorem am_P_31 : am_P 31 = some (am_k31, 3, 1, 0, 0) := rfl
theorem am_mi_31 : am_mi 31 = (0, 2, 1) := by decide +kernel
set_option maxRecDepth 20000 in
theorem am_P_32 : am_P 32 = some (am_k32, 3, 1, 0, 0) := rfl
theorem am_mi_32 : am_mi 32 = (0, 2, 1) := by decide +kernel
set_option maxRecDepth 20000 in
theorem am_P_33 : am_P 33 = some (am_k33, 4, 0, 0, 0) := rfl
theorem am_mi_33 : am_mi 33 = (0, 0, 1) := by decide +kernel
set_option maxRecDepth 20000 in
theorem am_P_34 : am_P 34 = some (am_k34, 4, 4, 0, 0) := rfl
theorem am_mi_34 : am_mi 34 = (0, 1, 1) := by decide +kernel
set_option maxRecDepth 20000 in
theorem am_P_35 : am_P 35 = some (am_k35, 7, 0, 0, 0) := rfl
theorem am_mi_35 : am_mi 35 = (0, 1, 1) := by decide +kernel
set_option maxRecDepth 20000 in
theorem am_P_36 : am_P 36 = some (am_k36, 4, 0, 0, 0) := rfl
theorem am_mi_36 : am_mi 36 = (0, 0, 1) := by decide +kernel
set_option maxRecDepth 20000 in
theorem am_P_37 : am_P 37 = some (am_k37, 7, 4, 0, 0) := rfl
theorem am_mi_37 : am_mi 37 = (0, 1, 1) := by decide +kernel
set_option maxRecDepth 20000 in
theorem am_P_38 : am_P 38 = some (am_k38, 5, 1, 0, 0) := rfl
theorem am_mi_38 : am_mi 38 = (1, 2, 1) := by decide +kernel
set_option maxRecDepth 20000 in
theorem am_P_39 : am_P 39 = some (am_k39, 7, 0, 0, 0) := rfl
theorem am_mi_39 : am_mi 39 = (0, 4, 1) := by decide +kernel
set_option maxRecDepth 20000 in
theorem am_P_40 : am_P 40 = some (am_k40, 3, 0, 0, 0) := rfl
theorem am_mi_40 : am_mi 40 = (0, 1, 1) := by decide +kernel
set_option maxRecDepth 20000 in
theorem am_P_41 : am_P 41 = some (am_k41, 7, 0, 0, 0) := rfl
theorem am_mi_41 : am_mi 41 = (0, 1, 1) := by decide +kernel
set_option maxRecDepth 20000 in
theorem am_P_42 : am_P 42 = some (am_k42, 3, 0, 6, 5136) := rfl
theorem am_mi_42 : am_mi 42 = (2, 2, 2) := by decide +kernel
set_option maxRecDepth 20000 in
theorem am_P_43 : am_P 43 = some (am_k43, 1, 0, 0, 0) := rfl
theorem am_mi_43 : am_mi 43 = (0, 0, 2) := by decide +kernel
set_option maxRecDepth 20000 in
theorem am_P_44 : am_P 44 = some (am_k44, 3, 0, 0, 0) := rfl
theorem am_mi_44 : am_mi 44 = (0, 0, 2) := by decide +kernel
set_option maxRecDepth 20000 in
theorem am_P_45 : am_P 45 = some (am_k45, 7, 0, 0, 0) := rfl
theorem am_mi_45 : am_mi 45 = (0, 1, 2) := by decide +kernel
set_option maxRecDepth 20000 in
theorem am_P_46 : am_P 46 = some (am_k46, 3, 0, 0, 0) := rfl
theorem am_mi_46 : am_mi 46 = (0, 0, 2) := by decide +kernel
set_option maxRecDepth 20000 in
theorem am_P_47 : am_P 47 = some (am_k47, 4, 0, 0, 0) := rfl
theorem am_mi_47 : am_mi 47 = (0, 2, 2) := by decide +kernel
set_option maxRecDepth 20000 in
theorem am_P_48 : am_P 48 = some (am_k48, 3, 4, 0, 0) := rfl
theorem am_mi_48 : am_mi 48 = (0, 1, 2) := by decide +kernel
set_option maxRecDepth 20000 in
theorem am_P_49 : am_P 49 = some (am_k49, 3, 1, 0, 0) := rfl
theorem am_mi_49 : am_mi 49 = (0, 1, 2) := by decide +kernel
set_option maxRecDepth 20000 in
theorem am_P_50 : am_P 50 = some (am_k50, 5, 1, 0, 0) := rfl
theorem am_mi_50 : am_mi 50 = (0, 1, 2) := by decide +kernel
set_option maxRecDepth 20000 in
theorem am_P_51 : am_P 51 = some (am_k51, 5, 1, 0, 0) := rfl
theorem am_mi_51 : am_mi 51 = (0, 1, 2) := by decide +kernel
set_option maxRecDepth 20000 in
theorem am_P_52 : am_P 52 = some (am_k52, 8, 1, 0, 0) := rfl
theorem am_mi_52 : am_mi 52 = (0, 2, 2) := by decide +kernel
set_option maxRecDepth 20000 in
theorem am_P_53 : am_P 53 = some (am_k53, 4, 1, 0, 0) := rfl
theorem am_mi_53 : am_mi 53 = (1, 2, 2) := by decide +kernel
set_option maxRecDepth 20000 in
theorem am_P_54 : am_P 54 = some (am_k54, 1, 1, 0, 0) := rfl
theorem am_mi_54 : am_mi 54 = (0, 0, 2) := by decide +kernel
set_option maxRecDepth 20000 in
theorem am_P_55 : am_P 55 = some (am_k55, 5, 1, 0, 0) := rfl
theorem am_mi_55 : am_mi 55 = (0, 0, 2) := by decide +kernel
set_option maxRecDepth 20000 in
theorem am_P_56 : am_P 56 = some (am_k56, 2, 0, 5, 120) := rfl
theorem am_mi_56 : am_mi 56 = (2, 0, 3) := by decide +kernel
set_option maxRecDepth 20000 in
theorem am_P_57 : am_P 57 = some (am_k57, 1, 0, 0, 0) := rfl
theorem am_mi_57 : am_mi 57 = (0, 0, 3) := by decide +kernel
set_option maxRecDepth 20000 in
theorem am_P_58 : am_P 58 = some (am_k58, 2, 0, 0, 0) := rfl
theorem am_mi_58 : am_mi 58 = (0, 1, 3) := by decide +kernel
set_option maxRecDepth 20000 in
theorem am_P_59 : am_P 59 = some (am_k59, 2, 4, 0, 0) := rfl
theorem am_mi_59 : am_mi 59 = (0, 1, 3) := by decide +kernel
set_option maxRecDepth 20000 in
theorem am_P_60 : am_P 60 = some (am_k60, 2, 4, 0, 0) := rfl
theorem am_mi_60 : am_mi 60 = (0, 1, 3) := by decide +kernel
set_option maxRecDepth 20000 in
theorem am_P_61 : am_P 61 = some (am_k61, 2, 4, 0, 0) := rfl
theorem am_mi_61 : am_mi 61 = (0, 1, 3) := by decide +kernel
set_option maxRecDepth 20000 in
theorem am_P_62 : am_P 62 = some (am_k62, 2, 0, 0, 0) := rfl
theorem am_mi_62 : am_mi 62 = (0, 1, 3) := by decide +kernel
set_option maxRecDepth 20000 in
theorem am_P_63 : am_P 63 = some (am_k63, 3, 0, 0, 0) := rfl
theorem am_mi_63 : am_mi 63 = (0, 2, 3) := by decide +kernel
set_option maxRecDepth 20000 in
theorem am_P_64 : am_P 64 = some (am_k64, 2, 0, 0, 0) := rfl
theorem am_mi_64 : am_mi 64 = (0, 1, 3) := by decide +kernel
set_option maxRecDepth 20000 in
theorem am_P_65 : am_P 65 = some (am_k65, 3, 1, 0, 0) := rfl
theorem am_mi_65 : am_mi 65 = (0, 2, 3) := by decide +kernel
set_option maxRecDepth 20000 in
theorem am_P_66 : am_P 66 = some (am_k66, 2, 4, 0, 0) := rfl
theorem am_mi_66 : am_mi 66 = (0, 1, 3) := by decide +kernel
set_option maxRecDepth 20000 in
theorem am_P_67 : am_P 67 = some (am_k67, 3, 4, 0, 0) := rfl
theorem am_mi_67 : am_mi 67 = (0, 1, 3) := by decide +kernel
set_option maxRecDepth 20000 in
theorem am_P_68 : am_P 68 = some (am_k68, 2, 1, 0, 0) := rfl
theorem am_mi_68 : am_mi 68 = (0, 1, 3) := by decide +kernel
set_option maxRecDepth 20000 in
theorem am_P_69 : am_P 69 = some (am_k69, 4, 1, 0, 0) := rfl
theorem am_mi_69 : am_mi 69 = (0, 2, 3) := by decide +kernel
set_option maxRecDepth 20000 in
theorem am_P_70 : am_P 70 = some (am_k70, 5, 1, 0, 0) := rfl
theorem am_mi_70 : am_mi 70 = (0, 1, 3) := by decide +kernel
set_option maxRecDepth 20000 in
theorem am_P_71 : am_P 71 = some (am_k71, 5, 4, 0, 0) := rfl
theorem am_mi_71 : am_mi 71 = (0, 0, 3) := by decide +kernel
set_option maxRecDepth 20000 in
theorem am_P_72 : am_P 72 = some (am_k72, 4, 1, 0, 0) := rfl
theorem am_mi_72 : am_mi 72 = (0, 1, 3) := by decide +kernel
set_option maxRecDepth 20000 in
theorem am_P_73 : am_P 73 = some (am_k73, 1, 0, 1, 200) := rfl
theorem am_mi_73 : am_mi 73 = (2, 0, 4) := by decide +kernel
set_option maxRecDepth 20000 in
theorem am_P_74 : am_P 74 = some (am_k74, 1, 0, 0, 0) := rfl
theorem am_mi_74 : am_mi 74 = (0, 0, 4) := by decide +kernel
set_option maxRecDepth 20000 in
theorem am_P_75 : am_P 75 = some (am_k75, 2, 0, 0, 0) := rfl
theorem am_mi_75 : am_mi 75 = (0, 1, 4) := by decide +kernel
set_option maxRecDepth 20000 in
theorem am_P_76 : am_P 76 = some (am_k76, 3, 0, 0, 0) := rfl
theorem am_mi_76 : am_mi 76 = (0, 1, 4) := by decide +kernel
set_option maxRecDepth 20000 in
theorem am_P_77 : am_P 77 = some (am_k77, 2, 1, 0, 0) := rfl
theorem am_mi_77 : am_mi 77 = (0, 1, 4) := by decide +kernel
set_option maxRecDepth 20000 in
theorem am_P_78 : am_P 78 = some (am_k78, 3, 0, 11, 6731) := rfl
theorem am_mi_78 : am_mi 78 = (2, 2, 5) := by decide +kernel
set_option maxRecDepth 20000 in
theorem am_P_79 : am_P 79 = some (am_k79, 1, 0, 0, 0) := rfl
theorem am_mi_79 : am_mi 79 = (0, 0, 5) := by decide +kernel
set_option maxRecDepth 20000 in
theorem am_P_80 : am_P 80 = some (am_k80, 2, 1, 0, 0) := rfl
theorem am_mi_80 : am_mi 80 = (0, 1, 5) := by decide +kernel
set_option maxRecDepth 20000 in
theorem am_P_81 : am_P 81 = some (am_k81, 2, 1, 0, 0) := rfl
theorem am_mi_81 : am_mi 81 = (0, 1, 5) := by decide +kernel
set_option maxRecDepth 20000 in
theorem am_P_82 : am_P 82 = some (am_k82, 2, 1, 0, 0) := rfl
theorem am_mi_82 : am_mi 82 = (0, 1, 5) := by decide +kernel
set_option maxRecDepth 20000 in
theorem am_P_83 : am_P 83 = some (am_k83, 2, 1, 0, 0) := rfl
theorem am_mi_83 : am_mi 83 = (0, 1, 5) := by decide +kernel
set_option maxRecDepth 20000 in
theorem am_P_84 : am_P 84 = some (am_k84, 4, 1, 0, 0) := rfl
theorem am_mi_84 : am_mi 84 = (0, 3, 5) := by decide +kernel
set_option maxRecDepth 20000 in
theorem am_P_85 : am_P 85 = some (am_k85, 4, 0, 0, 0) := rfl
theorem am_mi_85 : am_mi 85 = (0, 0, 5) := by decide +kernel
set_option maxRecDepth 20000 in
theorem am_P_86 : am_P 86 = some (am_k86, 7, 0, 0, 0) := rfl
theorem am_mi_86 : am_mi 86 = (0, 3, 5) := by decide +kernel
set_option maxRecDepth 20000 in
theorem am_P_87 : am_P 87 = some (am_k87, 4, 0, 0, 0) := rfl
theorem am_mi_87 : am_mi 87 = (0, 0, 5) := by decide +kernel
set_option maxRecDepth 20000 in
theorem am_P_88 : am_P 88 = some (am_k88, 3, 0, 0, 0) := rfl
theorem am_mi_88 : am_mi 88 = (0, 1, 5) := by decide +kernel
set_option maxRecDepth 20000 in
theorem am_P_89 : am_P 89 = some (am_k89, 4, 0, 0, 0) := rfl
theorem am_mi_89 : am_mi 89 = (0, 0, 5) := by decide +kernel
set_option maxRecDepth 20000 in
theorem am_P_90 : am_P 90 = some (am_k90, 8, 0, 0, 0) := rfl
theorem am_mi_90 : am_mi 90 = (0, 1, 5) := by decide +kernel
set_option maxRecDepth 20000 in
theorem am_P_91 : am_P 91 = some (am_k91, 7, 0, 0, 0) := rfl
theorem am_mi_91 : am_mi 91 = (0, 4, 5) := by decide +kernel
set_option maxRecDepth 20000 in
theorem am_P_92 : am_P 92 = some (am_k92, 3, 0, 0, 0) := rfl
theorem am_mi_92 : am_mi 92 = (1, 3, 5) := by decide +kernel
set_option maxRecDepth 20000 in
theorem am_P_93 : am_P 93 = some (am_k93, 6, 0, 0, 0) := rfl
theorem am_mi_93 : am_mi 93 = (0, 4, 5) := by decide +kernel
set_option maxRecDepth 20000 in
theorem am_P_94 : am_P 94 = some (am_k94, 7, 0, 0, 0) := rfl
theorem am_mi_94 : am_mi 94 = (0, 0, 5) := by decide +kernel
set_option maxRecDepth 20000 in
theorem am_P_95 : am_P 95 = some (am_k95, 3, 4, 0, 0) := rfl
theorem am_mi_95 : am_mi 95 = (0, 2, 5) := by decide +kernel
set_option maxRecDepth 20000 in
theorem am_P_96 : am_P 96 = some (am_k96, 3, 4, 0, 0) := rfl
theorem am_mi_96 : am_mi 96 = (0, 2, 5) := by decide +kernel
set_option maxRecDepth 20000 in
theorem am_P_97 : am_P 97 = some (am_k97, 6, 1, 0, 0) := rfl
theorem am_mi_97 : am_mi 97 = (0, 1, 5) := by decide +kernel
set_option maxRecDepth 20000 in
theorem am_P_98 : am_P 98 = some (am_k98, 10, 1, 0, 0) := rfl
theorem am_mi_98 : am_mi 98 = (0, 2, 5) := by decide +kernel
set_option maxRecDepth 20000 in
theorem am_P_99 : am_P 99 = some (am_k99, 3, 1, 0, 0) := rfl
theorem am_mi_99 : am_mi 99 = (1, 3, 5) := by decide +kernel
set_option maxRecDepth 20000 in
theorem am_P_100 : am_P 100 = some (am_k100, 6, 0, 0, 0) := rfl
theorem am_mi_100 : am_mi 100 = (0, 2, 5) := by decide +kernel
set_option maxRecDepth 20000 in
theorem am_P_101 : am_P 101 = some (am_k101, 10, 1, 0, 0) := rfl
theorem am_mi_101 : am_mi 101 = (0, 2, 5) := by decide +kernel
set_option maxRecDepth 20000 in
theorem am_P_102 : am_P 102 = some (am_k102, 9, 1, 0, 0) := rfl
theorem am_mi_102 : am_mi 102 = (0, 4, 5) := by decide +kernel
set_option maxRecDepth 20000 in
theorem am_P_103 : am_P 103 = some (am_k103, 6, 3, 0, 0) := rfl
theorem am_mi_103 : am_mi 103 = (0, 1, 5) := by decide +kernel
set_option maxRecDepth 20000 in
theorem am_P_104 : am_P 104 = some (am_k104, 1, 0, 6, 130) := rfl
theorem am_mi_104 : am_mi 104 = (2, 0, 6) := by decide +kernel
set_option maxRecDepth 20000 in
theorem am_P_105 : am_P 105 = some (am_k105, 4, 0, 0, 0) := rfl
theorem am_mi_105 : am_mi 105 = (0, 2, 6) := by decide +kernel
set_option maxRecDepth 20000 in
theorem am_P_106 : am_P 106 = some (am_k106, 3, 1, 0, 0) := rfl
theorem am_mi_106 : am_mi 106 = (0, 1, 6) := by decide +kernel
set_option maxRecDepth 20000 in
theorem am_P_107 : am_P 107 = some (am_k107, 1, 1, 0, 0) := rfl
theorem am_mi_107 : am_mi 107 = (1, 1, 6) := by decide +kernel
set_option maxRecDepth 20000 in
theorem am_P_108 : am_P 108 = some (am_k108, 1, 4, 0, 0) := rfl
theorem am_mi_108 : am_mi 108 = (1, 1, 6) := by decide +kernel
set_option maxRecDepth 20000 in
theorem am_P_109 : am_P 109 = some (am_k109, 1, 4, 0, 0) := rfl
theorem am_mi_109 : am_mi 109 = (1, 1, 6) := by decide +kernel
set_option maxRecDepth 20000 in
theorem am_P_110 : am_P 110 = some (am_k110, 2, 1, 0, 0) := rfl
theorem am_mi_110 : am_mi 110 = (0, 1, 6) := by decide +kernel
set_option maxRecDepth 20000 in
theorem am_P_111 : am_P 111 = some (am_k111, 2, 1, 0, 0) := rfl
theorem am_mi_111 : am_mi 111 = (0, 1, 6) := by decide +kernel
set_option maxRecDepth 20000 in
theorem am_P_112 : am_P 112 = some (am_k112, 2, 1, 0, 0) := rfl
theorem am_mi_112 : am_mi 112 = (0, 1, 6) := by decide +kernel
set_option maxRecDepth 20000 in
theorem am_P_113 : am_P 113 = some (am_k113, 2, 1, 0, 0) := rfl
theorem am_mi_113 : am_mi 113 = (0, 1, 6) := by decide +kernel
set_option maxRecDepth 20000 in
theorem am_P_114 : am_P 114 = some (am_k114, 3, 1, 0, 0) := rfl
theorem am_mi_114 : am_mi 114 = (0, 2, 6) := by decide +kernel
set_option maxRecDepth 20000 in
theorem am_P_115 : am_P 115 = some (am_k115, 2, 1, 0, 0) := rfl
theorem am_mi_115 : am_mi 115 = (0, 1, 6) := by decide +kernel
set_option maxRecDepth 20000 in
theorem am_P_116 : am_P 116 = some (am_k116, 3, 1, 0, 0) := rfl
theorem am_mi_116 : am_mi 116 = (0, 0, 6) := by decide +kernel
set_option maxRecDepth 20000 in
theorem am_P_117 : am_P 117 = some (am_k117, 2, 0, 5, 64) := rfl
theorem am_mi_117 : am_mi 117 = (2, 1, 7) := by decide +kernel
set_option maxRecDepth 20000 in
theorem am_P_118 : am_P 118 = some (am_k118, 2, 0, 0, 0) := rfl
theorem am_mi_118 : am_mi 118 = (0, 0, 7) := by decide +kernel
set_option maxRecDepth 20000 in
theorem am_P_119 : am_P 119 = some (am_k119, 2, 4, 0, 0) := rfl
theorem am_mi_119 : am_mi 119 = (0, 1, 7) := by decide +kernel
set_option maxRecDepth 20000 in
theorem am_P_120 : am_P 120 = some (am_k120, 2, 4, 0, 0) := rfl
theorem am_mi_120 : am_mi 120 = (0, 1, 7) := by decide +kernel
set_option maxRecDepth 20000 in
theorem am_P_121 : am_P 121 = some (am_k121, 5, 0, 0, 0) := rfl
theorem am_mi_121 : am_mi 121 = (0, 0, 7) := by decide +kernel
set_option maxRecDepth 20000 in
theorem am_P_122 : am_P 122 = some (am_k122, 2, 4, 0, 0) := rfl
theorem am_mi_122 : am_mi 122 = (0, 1, 7) := by decide +kernel
set_option maxRecDepth 20000 in
theorem am_P_123 : am_P 123 = some (am_k123, 5, 0, 0, 0) := rfl
theorem am_mi_123 : am_mi 123 = (0, 0, 7) := by decide +kernel
set_option maxRecDepth 20000 in
theorem am_P_124 : am_P 124 = some (am_k124, 4, 0, 0, 0) := rfl
theorem am_mi_124 : am_mi 124 = (0, 0, 7) := by decide +kernel
set_option maxRecDepth 20000 in
theorem am_P_125 : am_P 125 = some (am_k125, 2, 1, 0, 0) := rfl
theorem am_mi_125 : am_mi 125 = (0, 1, 7) := by decide +kernel
set_option maxRecDepth 20000 in
theorem am_P_126 : am_P 126 = some (am_k126, 2, 1, 0, 0) := rfl
theorem am_mi_126 : am_mi 126 = (0, 1, 7) := by decide +kernel
set_option maxRecDepth 20000 in
theorem am_P_127 : am_P 127 = some (am_k127, 4, 0, 0, 0) := rfl
theorem am_mi_127 : am_mi 127 = (0, 0, 7) := by decide +kernel
set_option maxRecDepth 20000 in
theorem am_P_128 : am_P 128 = some (am_k128, 6, 4, 0, 0) := rfl
theorem am_mi_128 : am_mi 128 = (0, 1, 7) := by decide +kernel
set_option maxRecDepth 20000 in
theorem am_P_129 : am_P 129 = some (am_k129, 3, 0, 0, 0) := rfl
theorem am_mi_129 : am_mi 129 = (0, 0, 7) := by decide +kernel
set_option maxRecDepth 20000 in
theorem am_P_130 : am_P 130 = some (am_k130, 4, 0, 0, 0) := rfl
theorem am_mi_130 : am_mi 130 = (0, 2, 7) := by decide +kernel
set_option maxRecDepth 20000 in
theorem am_P_131 : am_P 131 = some (am_k131, 3, 4, 0, 0) := rfl
theorem am_mi_131 : am_mi 131 = (0, 2, 7) := by decide +kernel
set_option maxRecDepth 20000 in
theorem am_P_132 : am_P 132 = some (am_k132, 2, 4, 0, 0) := rfl
theorem am_mi_132 : am_mi 132 = (0, 1, 7) := by decide +kernel
set_option maxRecDepth 20000 in
theorem am_P_133 : am_P 133 = some (am_k133, 2, 4, 0, 0) := rfl
theorem am_mi_133 : am_mi 133 = (0, 1, 7) := by decide +kernel
set_option maxRecDepth 20000 in
theorem am_P_134 : am_P 134 = some (am_k134, 5, 1, 0, 0) := rfl
theorem am_mi_134 : am_mi 134 = (0, 2, 7) := by decide +kernel
set_option maxRecDepth 20000 in
theorem am_P_135 : am_P 135 = some (am_k135, 5, 1, 0, 0) := rfl
theorem am_mi_135 : am_mi 135 = (0, 2, 7) := by decide +kernel
set_option maxRecDepth 20000 in
theorem am_P_136 : am_P 136 = some (am_k136, 7, 1, 0, 0) := rfl
theorem am_mi_136 : am_mi 136 = (0, 0, 7) := by decide +kernel
set_option maxRecDepth 20000 in
theorem am_P_137 : am_P 137 = some (am_k137, 4, 0, 3, 48) := rfl
theorem am_mi_137 : am_mi 137 = (2, 3, 8) := by decide +kernel
set_option maxRecDepth 20000 in
theorem am_P_138 : am_P 138 = some (am_k138, 5, 4, 0, 0) := rfl
theorem am_mi_138 : am_mi 138 = (0, 3, 8) := by decide +kernel
set_option maxRecDepth 20000 in
theorem am_P_139 : am_P 139 = some (am_k139, 6, 0, 0, 0) := rfl
theorem am_mi_139 : am_mi 139 = (0, 3, 8) := by decide +kernel
set_option maxRecDepth 20000 in
theorem am_P_140 : am_P 140 = some (am_k140, 3, 4, 0, 0) := rfl
theorem am_mi_140 : am_mi 140 = (0, 0, 8) := by decide +kernel
set_option maxRecDepth 20000 in
theorem am_P_141 : am_P 141 = some (am_k141, 4, 4, 0, 0) := rfl
theorem am_mi_141 : am_mi 141 = (0, 2, 8) := by decide +kernel
set_option maxRecDepth 20000 in
theorem am_P_142 : am_P 142 = some (am_k142, 3, 4, 0, 0) := rfl
theorem am_mi_142 : am_mi 142 = (0, 2, 8) := by decide +kernel
set_option maxRecDepth 20000 in
theorem am_P_143 : am_P 143 = some (am_k143, 3, 0, 7, 3272) := rfl
theorem am_mi_143 : am_mi 143 = (2, 1, 9) := by decide +kernel
set_option maxRecDepth 20000 in
theorem am_P_144 : am_P 144 = some (am_k144, 3, 0, 0, 0) := rfl
theorem am_mi_144 : am_mi 144 = (0, 1, 9) := by decide +kernel
set_option maxRecDepth 20000 in
theorem am_P_145 : am_P 145 = some (am_k145, 3, 2, 0, 0) := rfl
theorem am_mi_145 : am_mi 145 = (0, 2, 9) := by decide +kernel
set_option maxRecDepth 20000 in
theorem am_P_146 : am_P 146 = some (am_k146, 4, 2, 0, 0) := rfl
theorem am_mi_146 : am_mi 146 = (1, 2, 9) := by decide +kernel
set_option maxRecDepth 20000 in
theorem am_P_147 : am_P 147 = some (am_k147, 4, 2, 0, 0) := rfl
theorem am_mi_147 : am_mi 147 = (1, 2, 9) := by decide +kernel
set_option maxRecDepth 20000 in
theorem am_P_148 : am_P 148 = some (am_k148, 5, 0, 0, 0) := rfl
theorem am_mi_148 : am_mi 148 = (0, 1, 9) := by decide +kernel
set_option maxRecDepth 20000 in
theorem am_P_149 : am_P 149 = some (am_k149, 6, 2, 0, 0) := rfl
theorem am_mi_149 : am_mi 149 = (0, 3, 9) := by decide +kernel
set_option maxRecDepth 20000 in
theorem am_P_150 : am_P 150 = some (am_k150, 10, 2, 0, 0) := rfl
theorem am_mi_150 : am_mi 150 = (0, 4, 9) := by decide +kernel
set_option maxRecDepth 20000 in
theorem am_P_151 : am_P 151 = some (am_k151, 7, 2, 0, 0) := rfl
theorem am_mi_151 : am_mi 151 = (0, 3, 9) := by decide +kernel
set_option maxRecDepth 20000 in
theorem am_P_152 : am_P 152 = some (am_k152, 5, 0, 0, 0) := rfl
theorem am_mi_152 : am_mi 152 = (0, 3, 9) := by decide +kernel
set_option maxRecDepth 20000 in
theorem am_P_153 : am_P 153 = some (am_k153, 5, 0, 0, 0) := rfl
theorem am_mi_153 : am_mi 153 = (0, 3, 9) := by decide +kernel
set_option maxRecDepth 20000 in
theorem am_P_154 : am_P 154 = some (am_k154, 5, 0, 0, 0) := rfl
theorem am_mi_154 : am_mi 154 = (0, 3, 9) := by decide +kernel
set_option maxRecDepth 20000 in
theorem am_P_155 : am_P 155 = some (am_k155, 10, 0, 0, 0) := rfl
theorem am_mi_155 : am_mi 155 = (0, 3, 9) := by decide +kernel
set_option maxRecDepth 20000 in
theorem am_P_156 : am_P 156 = some (am_k156, 15, 0, 0, 0) := rfl
theorem am_mi_156 : am_mi 156 = (0, 4, 9) := by decide +kernel
set_option maxRecDepth 20000 in
theorem am_P_157 : am_P 157 = some (am_k157, 13, 2, 0, 0) := rfl
theorem am_mi_157 : am_mi 157 = (0, 1, 9) := by decide +kernel
set_option maxRecDepth 20000 in
theorem am_P_158 : am_P 158 = some (am_k158, 10, 2, 0, 0) := rfl
theorem am_mi_158 : am_mi 158 = (0, 5, 9) := by decide +kernel
set_option maxRecDepth 20000 in
theorem am_P_159 : am_P 159 = some (am_k159, 3, 0, 2, 3400) := rfl
theorem am_mi_159 : am_mi 159 = (2, 2, 10) := by decide +kernel
set_option maxRecDepth 20000 in
theorem am_P_160 : am_P 160 = some (am_k160, 1, 1, 0, 0) := rfl
theorem am_mi_160 : am_mi 160 = (0, 0, 10) := by decide +kernel
set_option maxRecDepth 20000 in
theorem am_P_161 : am_P 161 = some (am_k161, 3, 1, 0, 0) := rfl
theorem am_mi_161 : am_mi 161 = (0, 0, 10) := by decide +kernel
set_option maxRecDepth 20000 in
theorem am_P_162 : am_P 162 = some (am_k162, 3, 1, 0, 0) := rfl
theorem am_mi_162 : am_mi 162 = (1, 3, 10) := by decide +kernel
set_option maxRecDepth 20000 in
theorem am_P_163 : am_P 163 = some (am_k163, 8, 0, 0, 0) := rfl
theorem am_mi_163 : am_mi 163 = (0, 2, 10) := by decide +kernel
set_option maxRecDepth 20000 in
theorem am_P_164 : am_P 164 = some (am_k164, 10, 1, 0, 0) := rfl
theorem am_mi_164 : am_mi 164 = (0, 4, 10) := by decide +kernel
set_option maxRecDepth 20000 in
theorem am_P_165 : am_P 165 = some (am_k165, 4, 1, 0, 0) := rfl
theorem am_mi_165 : am_mi 165 = (0, 3, 10) := by decide +kernel
set_option maxRecDepth 20000 in
theorem am_P_166 : am_P 166 = some (am_k166, 2, 0, 172, 29000) := rfl
theorem am_mi_166 : am_mi 166 = (2, 0, 11) := by decide +kernel
set_option maxRecDepth 20000 in
theorem am_P_167 : am_P 167 = some (am_k167, 1, 1, 0, 0) := rfl
theorem am_mi_167 : am_mi 167 = (0, 0, 11) := by decide +kernel
set_option maxRecDepth 20000 in
theorem am_P_168 : am_P 168 = some (am_k168, 6, 1, 0, 0) := rfl
theorem am_mi_168 : am_mi 168 = (0, 5, 11) := by decide +kernel
set_option maxRecDepth 20000 in
theorem am_P_169 : am_P 169 = some (am_k169, 2, 1, 0, 0) := rfl
theorem am_mi_169 : am_mi 169 = (0, 1, 11) := by decide +kernel
set_option maxRecDepth 20000 in
theorem am_P_170 : am_P 170 = some (am_k170, 2, 1, 0, 0) := rfl
theorem am_mi_170 : am_mi 170 = (0, 1, 11) := by decide +kernel
set_option maxRecDepth 20000 in
theorem am_P_171 : am_P 171 = some (am_k171, 3, 1, 0, 0) := rfl
theorem am_mi_171 : am_mi 171 = (0, 2, 11) := by decide +kernel
set_option maxRecDepth 20000 in
theorem am_P_172 : am_P 172 = some (am_k172, 4, 1, 0, 0) := rfl
theorem am_mi_172 : am_mi 172 = (0, 2, 11) := by decide +kernel
set_option maxRecDepth 20000 in
theorem am_P_173 : am_P 173 = some (am_k173, 4, 1, 0, 0) := rfl
theorem am_mi_173 : am_mi 173 = (0, 1, 11) := by decide +kernel
set_option maxRecDepth 20000 in
theorem am_P_174 : am_P 174 = some (am_k174, 1, 1, 0, 0) := rfl
theorem am_mi_174 : am_mi 174 = (0, 0, 11) := by decide +kernel
set_option maxRecDepth 20000 in
theorem am_P_175 : am_P 175 = some (am_k175, 2, 1, 0, 0) := rfl
theorem am_mi_175 : am_mi 175 = (0, 1, 11) := by decide +kernel
set_option maxRecDepth 20000 in
theorem am_P_176 : am_P 176 = some (am_k176, 3, 1, 0, 0) := rfl
theorem am_mi_176 : am_mi 176 = (0, 2, 11) := by decide +kernel
set_option maxRecDepth 20000 in
theorem am_P_177 : am_P 177 = some (am_k177, 3, 1, 0, 0) := rfl
theorem am_mi_177 : am_mi 177 = (0, 2, 11) := by decide +kernel
set_option maxRecDepth 20000 in
theorem am_P_178 : am_P 178 = some (am_k178, 4, 1, 0, 0) := rfl
theorem am_mi_178 : am_mi 178 = (0, 2, 11) := by decide +kernel
set_option maxRecDepth 20000 in
theorem am_P_179 : am_P 179 = some (am_k179, 2, 1, 0, 0) := rfl
theorem am_mi_179 : am_mi 179 = (0, 1, 11) := by decide +kernel
set_option maxRecDepth 20000 in
theorem am_P_180 : am_P 180 = some (am_k180, 4, 1, 0, 0) := rfl
theorem am_mi_180 : am_mi 180 = (0, 2, 11) := by decide +kernel
set_option maxRecDepth 20000 in
theorem am_P_181 : am_P 181 = some (am_k181, 4, 1, 0, 0) := rfl
theorem am_mi_181 : am_mi 181 = (0, 2, 11) := by decide +kernel
set_option maxRecDepth 20000 in
theorem am_P_182 : am_P 182 = some (am_k182, 4, 1, 0, 0) := rfl
theorem am_mi_182 : am_mi 182 = (0, 2, 11) := by decide +kernel
set_option maxRecDepth 20000 in
theorem am_P_183 : am_P 183 = some (am_k183, 5, 1, 0, 0) := rfl
theorem am_mi_183 : am_mi 183 = (0, 3, 11) := by decide +kernel
set_option maxRecDepth 20000 in
theorem am_P_184 : am_P 184 = some (am_k184, 4, 1, 0, 0) := rfl
theorem am_mi_184 : am_mi 184 = (0, 2, 11) := by decide +kernel
set_option maxRecDepth 20000 in
theorem am_P_185 : am_P 185 = some (am_k185, 4, 1, 0, 0) := rfl
theorem am_mi_185 : am_mi 185 = (0, 2, 11) := by decide +kernel
set_option maxRecDepth 20000 in
theorem am_P_186 : am_P 186 = some (am_k186, 5, 1, 0, 0) := rfl
theorem am_mi_186 : am_mi 186 = (0, 3, 11) := by decide +kernel
set_option maxRecDepth 20000 in
theorem am_P_187 : am_P 187 = some (am_k187, 4, 1, 0, 0) := rfl
theorem am_mi_187 : am_mi 187 = (0, 2, 11) := by decide +kernel
set_option maxRecDepth 20000 in
theorem am_P_188 : am_P 188 = some (am_k188, 4, 1, 0, 0) := rfl
theorem am_mi_188 : am_mi 188 = (0, 2, 11) := by decide +kernel
set_option maxRecDepth 20000 in
theorem am_P_189 : am_P 189 = some (am_k189, 4, 1, 0, 0) := rfl
theorem am_mi_189 : am_mi 189 = (0, 1, 11) := by decide +kernel
set_option maxRecDepth 20000 in
theorem am_P_190 : am_P 190 = some (am_k190, 5, 1, 0, 0) := rfl
theorem am_mi_190 : am_mi 190 = (0, 3, 11) := by decide +kernel
set_option maxRecDepth 20000 in
theorem am_P_191 : am_P 191 = some (am_k191, 4, 1, 0, 0) := rfl
theorem am_mi_191 : am_mi 191 = (0, 2, 11) := by decide +kernel
set_option maxRecDepth 20000 in
theorem am_P_192 : am_P 192 = some (am_k192, 1, 1, 0, 0) := rfl
theorem am_mi_192 : am_mi 192 = (0, 0, 11) := by decide +kernel
set_option maxRecDepth 20000 in
theorem am_P_193 : am_P 193 = some (am_k193, 1, 1, 0, 0) := rfl
theorem am_mi_193 : am_mi 193 = (0, 0, 11) := by decide +kernel
set_option maxRecDepth 20000 in
theorem am_P_194 : am_P 194 = some (am_k194, 4, 2, 0, 0) := rfl
theorem am_mi_194 : am_mi 194 = (0, 2, 11) := by decide +kernel
set_option maxRecDepth 20000 in
theorem am_P_195 : am_P 195 = some (am_k195, 6, 1, 0, 0) := rfl
theorem am_mi_195 : am_mi 195 = (0, 4, 11) := by decide +kernel
set_option maxRecDepth 20000 in
theorem am_P_196 : am_P 196 = some (am_k196, 6, 1, 0, 0) := rfl
theorem am_mi_196 : am_mi 196 = (0, 4, 11) := by decide +kernel
set_option maxRecDepth 20000 in
theorem am_P_197 : am_P 197 = some (am_k197, 3, 2, 0, 0) := rfl
theorem am_mi_197 : am_mi 197 = (0, 1, 11) := by decide +kernel
set_option maxRecDepth 20000 in
theorem am_P_198 : am_P 198 = some (am_k198, 3, 1, 0, 0) := rfl
theorem am_mi_198 : am_mi 198 = (0, 1, 11) := by decide +kernel
set_option maxRecDepth 20000 in
theorem am_P_199 : am_P 199 = some (am_k199, 3, 1, 0, 0) := rfl
theorem am_mi_199 : am_mi 199 = (0, 1, 11) := by decide +kernel
set_option maxRecDepth 20000 in
theorem am_P_200 : am_P 200 = some (am_k200, 4, 1, 0, 0) := rfl
theorem am_mi_200 : am_mi 200 = (0, 2, 11) := by decide +kernel
set_option maxRecDepth 20000 in
theorem am_P_201 : am_P 201 = some (am_k201, 4, 1, 0, 0) := rfl
theorem am_mi_201 : am_mi 201 = (0, 2, 11) := by decide +kernel
set_option maxRecDepth 20000 in
theorem am_P_202 : am_P 202 = some (am_k202, 5, 1, 0, 0) := rfl
theorem am_mi_202 : am_mi 202 = (0, 3, 11) := by decide +kernel
set_option maxRecDepth 20000 in
theorem am_P_203 : am_P 203 = some (am_k203, 2, 1, 0, 0) := rfl
theorem am_mi_203 : am_mi 203 = (0, 1, 11) := by decide +kernel
set_option maxRecDepth 20000 in
theorem am_P_204 : am_P 204 = some (am_k204, 2, 1, 0, 0) := rfl
theorem am_mi_204 : am_mi 204 = (0, 1, 11) := by decide +kernel
set_option maxRecDepth 20000 in
theorem am_P_205 : am_P 205 = some (am_k205, 2, 1, 0, 0) := rfl
theorem am_mi_205 : am_mi 205 = (0, 1, 11) := by decide +kernel
set_option maxRecDepth 20000 in
theorem am_P_206 : am_P 206 = some (am_k206, 3, 1, 0, 0) := rfl
theorem am_mi_206 : am_mi 206 = (0, 2, 11) := by decide +kernel
set_option maxRecDepth 20000 in
theorem am_P_207 : am_P 207 = some (am_k207, 3, 0, 0, 0) := rfl
theorem am_mi_207 : am_mi 207 = (0, 1, 11) := by decide +kernel
set_option maxRecDepth 20000 in
theorem am_P_208 : am_P 208 = some (am_k208, 1, 0, 0, 0) := rfl
theorem am_mi_208 : am_mi 208 = (0, 0, 11) := by decide +kernel
set_option maxRecDepth 20000 in
theorem am_P_209 : am_P 209 = some (am_k209, 2, 1, 0, 0) := rfl
theorem am_mi_209 : am_mi 209 = (0, 1, 11) := by decide +kernel
set_option maxRecDepth 20000 in
theorem am_P_210 : am_P 210 = some (am_k210, 1, 0, 0, 0) := rfl
theorem am_mi_210 : am_mi 210 = (0, 0, 11) := by decide +kernel
set_option maxRecDepth 20000 in
theorem am_P_211 : am_P 211 = some (am_k211, 1, 0, 0, 0) := rfl
theorem am_mi_211 : am_mi 211 = (0, 0, 11) := by decide +kernel
set_option maxRecDepth 20000 in
theorem am_P_212 : am_P 212 = some (am_k212, 2, 1, 0, 0) := rfl
theorem am_mi_212 : am_mi 212 = (0, 1, 11) := by decide +kernel
set_option maxRecDepth 20000 in
theorem am_P_213 : am_P 213 = some (am_k213, 3, 1, 0, 0) := rfl
theorem am_mi_213 : am_mi 213 = (0, 1, 11) := by decide +kernel
set_option maxRecDepth 20000 in
theorem am_P_214 : am_P 214 = some (am_k214, 3, 1, 0, 0) := rfl
theorem am_mi_214 : am_mi 214 = (0, 1, 11) := by decide +kernel
set_option maxRecDepth 20000 in
theorem am_P_215 : am_P 215 = some (am_k215, 2, 1, 0, 0) := rfl
theorem am_mi_215 : am_mi 215 = (0, 1, 11) := by decide +kernel
set_option maxRecDepth 20000 in
theorem am_P_216 : am_P 216 = some (am_k216, 5, 1, 0, 0) := rfl
theorem am_mi_216 : am_mi 216 = (0, 3, 11) := by decide +kernel
set_option maxRecDepth 20000 in
theorem am_P_217 : am_P 217 = some (am_k217, 2, 4, 0, 0) := rfl
theorem am_mi_217 : am_mi 217 = (0, 1, 11) := by decide +kernel
set_option maxRecDepth 20000 in
theorem am_P_218 : am_P 218 = some (am_k218, 3, 1, 0, 0) := rfl
theorem am_mi_218 : am_mi 218 = (0, 1, 11) := by decide +kernel
set_option maxRecDepth 20000 in
theorem am_P_219 : am_P 219 = some (am_k219, 2, 0, 0, 0) := rfl
theorem am_mi_219 : am_mi 219 = (0, 1, 11) := by decide +kernel
set_option maxRecDepth 20000 in
theorem am_P_220 : am_P 220 = some (am_k220, 3, 1, 0, 0) := rfl
theorem am_mi_220 : am_mi 220 = (0, 1, 11) := by decide +kernel
set_option maxRecDepth 20000 in
theorem am_P_221 : am_P 221 = some (am_k221, 3, 1, 0, 0) := rfl
theorem am_mi_221 : am_mi 221 = (0, 2, 11) := by decide +kernel
set_option maxRecDepth 20000 in
theorem am_P_222 : am_P 222 = some (am_k222, 1, 0, 25, 43446) := rfl
theorem am_mi_222 : am_mi 222 = (2, 0, 12) := by decide +kernel
set_option maxRecDepth 20000 in
theorem am_P_223 : am_P 223 = some (am_k223, 1, 1, 0, 0) := rfl
theorem am_mi_223 : am_mi 223 = (0, 0, 12) := by decide +kernel
set_option maxRecDepth 20000 in
theorem am_P_224 : am_P 224 = some (am_k224, 2, 1, 0, 0) := rfl
theorem am_mi_224 : am_mi 224 = (0, 1, 12) := by decide +kernel
set_option maxRecDepth 20000 in
theorem am_P_225 : am_P 225 = some (am_k225, 3, 4, 0, 0) := rfl
theorem am_mi_225 : am_mi 225 = (1, 3, 12) := by decide +kernel
set_option maxRecDepth 20000 in
theorem am_P_226 : am_P 226 = some (am_k226, 2, 4, 0, 0) := rfl
theorem am_mi_226 : am_mi 226 = (1, 2, 12) := by decide +kernel
set_option maxRecDepth 20000 in
theorem am_P_227 : am_P 227 = some (am_k227, 3, 1, 0, 0) := rfl
theorem am_mi_227 : am_mi 227 = (1, 1, 12) := by decide +kernel
set_option maxRecDepth 20000 in
theorem am_P_228 : am_P 228 = some (am_k228, 1, 1, 0, 0) := rfl
theorem am_mi_228 : am_mi 228 = (0, 0, 12) := by decide +kernel
set_option maxRecDepth 20000 in
theorem am_P_229 : am_P 229 = some (am_k229, 2, 4, 0, 0) := rfl
theorem am_mi_229 : am_mi 229 = (0, 1, 12) := by decide +kernel
set_option maxRecDepth 20000 in
theorem am_P_230 : am_P 230 = some (am_k230, 2, 4, 0, 0) := rfl
theorem am_mi_230 : am_mi 230 = (0, 1, 12) := by decide +kernel
set_option maxRecDepth 20000 in
theorem am_P_231 : am_P 231 = some (am_k231, 2, 1, 0, 0) := rfl
theorem am_mi_231 : am_mi 231 = (0, 1, 12) := by decide +kernel
set_option maxRecDepth 20000 in
theorem am_P_232 : am_P 232 = some (am_k232, 2, 1, 0, 0) := rfl
theorem am_mi_232 : am_mi 232 = (0, 1, 12) := by decide +kernel
set_option maxRecDepth 20000 in
theorem am_P_233 : am_P 233 = some (am_k233, 3, 1, 0, 0) := rfl
theorem am_mi_233 : am_mi 233 = (0, 2, 12) := by decide +kernel
set_option maxRecDepth 20000 in
theorem am_P_234 : am_P 234 = some (am_k234, 3, 4, 0, 0) := rfl
theorem am_mi_234 : am_mi 234 = (0, 1, 12) := by decide +kernel
set_option maxRecDepth 20000 in
theorem am_P_235 : am_P 235 = some (am_k235, 2, 4, 0, 0) := rfl
theorem am_mi_235 : am_mi 235 = (0, 1, 12) := by decide +kernel
set_option maxRecDepth 20000 in
theorem am_P_236 : am_P 236 = some (am_k236, 4, 0, 0, 0) := rfl
theorem am_mi_236 : am_mi 236 = (0, 2, 12) := by decide +kernel
set_option maxRecDepth 20000 in
theorem am_P_237 : am_P 237 = some (am_k237, 2, 0, 0, 0) := rfl
theorem am_mi_237 : am_mi 237 = (0, 0, 12) := by decide +kernel
set_option maxRecDepth 20000 in
theorem am_P_238 : am_P 238 = some (am_k238, 3, 0, 0, 0) := rfl
theorem am_mi_238 : am_mi 238 = (0, 1, 12) := by decide +kernel
set_option maxRecDepth 20000 in
theorem am_P_239 : am_P 239 = some (am_k239, 6, 1, 0, 0) := rfl
theorem am_mi_239 : am_mi 239 = (0, 5, 12) := by decide +kernel
set_option maxRecDepth 20000 in
theorem am_P_240 : am_P 240 = some (am_k240, 2, 1, 0, 0) := rfl
theorem am_mi_240 : am_mi 240 = (0, 1, 12) := by decide +kernel
set_option maxRecDepth 20000 in
theorem am_P_241 : am_P 241 = some (am_k241, 1, 4, 0, 0) := rfl
theorem am_mi_241 : am_mi 241 = (1, 1, 12) := by decide +kernel
set_option maxRecDepth 20000 in
theorem am_P_242 : am_P 242 = some (am_k242, 1, 4, 0, 0) := rfl
theorem am_mi_242 : am_mi 242 = (1, 1, 12) := by decide +kernel
set_option maxRecDepth 20000 in
theorem am_P_243 : am_P 243 = some (am_k243, 1, 4, 0, 0) := rfl
theorem am_mi_243 : am_mi 243 = (1, 1, 12) := by decide +kernel
set_option maxRecDepth 20000 in
theorem am_P_244 : am_P 244 = some (am_k244, 3, 0, 0, 0) := rfl
theorem am_mi_244 : am_mi 244 = (0, 1, 12) := by decide +kernel
set_option maxRecDepth 20000 in
theorem am_P_245 : am_P 245 = some (am_k245, 2, 1, 0, 0) := rfl
theorem am_mi_245 : am_mi 245 = (0, 1, 12) := by decide +kernel
set_option maxRecDepth 20000 in
theorem am_P_246 : am_P 246 = some (am_k246, 3, 1, 0, 0) := rfl
theorem am_mi_246 : am_mi 246 = (0, 1, 12) := by decide +kernel
set_option maxRecDepth 20000 in
theorem am_P_247 : am_P 247 = some (am_k247, 2, 1, 0, 0) := rfl
theorem am_mi_247 : am_mi 247 = (0, 1, 12) := by decide +kernel
set_option maxRecDepth 20000 in
theorem am_P_248 : am_P 248 = some (am_k248, 2, 1, 0, 0) := rfl
theorem am_mi_248 : am_mi 248 = (0, 1, 12) := by decide +kernel
set_option maxRecDepth 20000 in
theorem am_P_249 : am_P 249 = some (am_k249, 2, 1, 0, 0) := rfl
theorem am_mi_249 : am_mi 249 = (0, 1, 12) := by decide +kernel
set_option maxRecDepth 20000 in
theorem am_P_250 : am_P 250 = some (am_k250, 2, 1, 0, 0) := rfl
theorem am_mi_250 : am_mi 250 = (0, 1, 12) := by decide +kernel
set_option maxRecDepth 20000 in
theorem am_P_251 : am_P 251 = some (am_k251, 4, 4, 0, 0) := rfl
theorem am_mi_251 : am_mi 251 = (0, 0, 12) := by decide +kernel
set_option maxRecDepth 20000 in
theorem am_P_252 : am_P 252 = some (am_k252, 7, 4, 0, 0) := rfl
theorem am_mi_252 : am_mi 252 = (0, 0, 12) := by decide +kernel
set_option maxRecDepth 20000 in
theorem am_P_253 : am_P 253 = some (am_k253, 3, 1, 0, 0) := rfl
theorem am_mi_253 : am_mi 253 = (0, 1, 12) := by decide +kernel
set_option maxRecDepth 20000 in
theorem am_P_254 : am_P 254 = some (am_k254, 2, 1, 0, 0) := rfl
theorem am_mi_254 : am_mi 254 = (0, 1, 12) := by decide +kernel
set_option maxRecDepth 20000 in
theorem am_P_255 : am_P 255 = some (am_k255, 3, 1, 0, 0) := rfl
theorem am_mi_255 : am_mi 255 = (0, 2, 12) := by decide +kernel
set_option maxRecDepth 20000 in
theorem am_P_256 : am_P 256 = some (am_k256, 4, 1, 0, 0) := rfl
theorem am_mi_256 : am_mi 256 = (0, 2, 12) := by decide +kernel
set_option maxRecDepth 20000 in
theorem am_P_257 : am_P 257 = some (am_k257, 3, 1, 0, 0) := rfl
theorem am_mi_257 : am_mi 257 = (0, 1, 12) := by decide +kernel
set_option maxRecDepth 20000 in
theorem am_P_258 : am_P 258 = some (am_k258, 1, 1, 0, 0) := rfl
theorem am_mi_258 : am_mi 258 = (0, 0, 12) := by decide +kernel
set_option maxRecDepth 20000 in
theorem am_P_259 : am_P 259 = some (am_k259, 3, 4, 0, 0) := rfl
theorem am_mi_259 : am_mi 259 = (0, 1, 12) := by decide +kernel
set_option maxRecDepth 20000 in
theorem am_P_260 : am_P 260 = some (am_k260, 4, 0, 0, 0) := rfl
theorem am_mi_260 : am_mi 260 = (0, 0, 12) := by decide +kernel
set_option maxRecDepth 20000 in
theorem am_P_261 : am_P 261 = some (am_k261, 2, 1, 0, 0) := rfl
theorem am_mi_261 : am_mi 261 = (0, 1, 12) := by decide +kernel
set_option maxRecDepth 20000 in
theorem am_P_262 : am_P 262 = some (am_k262, 2, 1, 0, 0) := rfl
theorem am_mi_262 : am_mi 262 = (0, 1, 12) := by decide +kernel
set_option maxRecDepth 20000 in
theorem am_P_263 : am_P 263 = some (am_k263, 4, 0, 0, 0) := rfl
theorem am_mi_263 : am_mi 263 = (0, 0, 12) := by decide +kernel
set_option maxRecDepth 20000 in
theorem am_P_264 : am_P 264 = some (am_k264, 5, 4, 0, 0) := rfl
theorem am_mi_264 : am_mi 264 = (0, 2, 12) := by decide +kernel
set_option maxRecDepth 20000 in
theorem am_P_265 : am_P 265 = some (am_k265, 6, 0, 0, 0) := rfl
theorem am_mi_265 : am_mi 265 = (0, 0, 12) := by decide +kernel
set_option maxRecDepth 20000 in
theorem am_P_266 : am_P 266 = some (am_k266, 12, 0, 0, 0) := rfl
theorem am_mi_266 : am_mi 266 = (0, 0, 12) := by decide +kernel
set_option maxRecDepth 20000 in
theorem am_P_267 : am_P 267 = some (am_k267, 4, 0, 0, 0) := rfl
theorem am_mi_267 : am_mi 267 = (0, 1, 12) := by decide +kernel
set_option maxRecDepth 20000 in
theorem am_P_268 : am_P 268 = some (am_k268, 5, 0, 0, 0) := rfl
theorem am_mi_268 : am_mi 268 = (0, 3, 12) := by decide +kernel
set_option maxRecDepth 20000 in
theorem am_P_269 : am_P 269 = some (am_k269, 3, 0, 0, 0) := rfl
theorem am_mi_269 : am_mi 269 = (0, 1, 12) := by decide +kernel
set_option maxRecDepth 20000 in
theorem am_P_270 : am_P 270 = some (am_k270, 3, 0, 0, 0) := rfl
theorem am_mi_270 : am_mi 270 = (0, 1, 12) := by decide +kernel
set_option maxRecDepth 20000 in
theorem am_P_271 : am_P 271 = some (am_k271, 3, 1, 0, 0) := rfl
theorem am_mi_271 : am_mi 271 = (1, 3, 12) := by decide +kernel
set_option maxRecDepth 20000 in
theorem am_P_272 : am_P 272 = some (am_k272, 3, 0, 0, 0) := rfl
theorem am_mi_272 : am_mi 272 = (0, 2, 12) := by decide +kernel
set_option maxRecDepth 20000 in
theorem am_P_273 : am_P 273 = some (am_k273, 3, 0, 0, 0) := rfl
theorem am_mi_273 : am_mi 273 = (0, 2, 12) := by decide +kernel
set_option maxRecDepth 20000 in
theorem am_P_274 : am_P 274 = some (am_k274, 6, 0, 0, 0) := rfl
theorem am_mi_274 : am_mi 274 = (0, 3, 12) := by decide +kernel
set_option maxRecDepth 20000 in
theorem am_P_275 : am_P 275 = some (am_k275, 9, 0, 0, 0) := rfl
theorem am_mi_275 : am_mi 275 = (0, 4, 12) := by decide +kernel
set_option maxRecDepth 20000 in
theorem am_P_276 : am_P 276 = some (am_k276, 5, 0, 0, 0) := rfl
theorem am_mi_276 : am_mi 276 = (0, 3, 12) := by decide +kernel
set_option maxRecDepth 20000 in
theorem am_P_277 : am_P 277 = some (am_k277, 5, 0, 0, 0) := rfl
theorem am_mi_277 : am_mi 277 = (0, 0, 12) := by decide +kernel
set_option maxRecDepth 20000 in
theorem am_P_278 : am_P 278 = some (am_k278, 3, 4, 0, 0) := rfl
theorem am_mi_278 : am_mi 278 = (0, 2, 12) := by decide +kernel
set_option maxRecDepth 20000 in
theorem am_P_279 : am_P 279 = some (am_k279, 4, 1, 0, 0) := rfl
theorem am_mi_279 : am_mi 279 = (0, 1, 12) := by decide +kernel
set_option maxRecDepth 20000 in
theorem am_P_280 : am_P 280 = some (am_k280, 2, 4, 0, 0) := rfl
theorem am_mi_280 : am_mi 280 = (0, 0, 12) := by decide +kernel
set_option maxRecDepth 20000 in
theorem am_P_281 : am_P 281 = some (am_k281, 5, 4, 0, 0) := rfl
theorem am_mi_281 : am_mi 281 = (0, 1, 12) := by decide +kernel
set_option maxRecDepth 20000 in
theorem am_P_282 : am_P 282 = some (am_k282, 5, 0, 0, 0) := rfl
theorem am_mi_282 : am_mi 282 = (0, 0, 12) := by decide +kernel
set_option maxRecDepth 20000 in
theorem am_P_283 : am_P 283 = some (am_k283, 1, 0, 0, 0) := rfl
theorem am_mi_283 : am_mi 283 = (0, 0, 12) := by decide +kernel
set_option maxRecDepth 20000 in
theorem am_P_284 : am_P 284 = some (am_k284, 3, 1, 0, 0) := rfl
theorem am_mi_284 : am_mi 284 = (0, 0, 12) := by decide +kernel
set_option maxRecDepth 20000 in
theorem am_P_285 : am_P 285 = some (am_k285, 2, 1, 0, 0) := rfl
theorem am_mi_285 : am_mi 285 = (0, 1, 12) := by decide +kernel
set_option maxRecDepth 20000 in
theorem am_P_286 : am_P 286 = some (am_k286, 3, 1, 0, 0) := rfl
theorem am_mi_286 : am_mi 286 = (0, 2, 12) := by decide +kernel
set_option maxRecDepth 20000 in
theorem am_P_287 : am_P 287 = some (am_k287, 3, 1, 0, 0) := rfl
theorem am_mi_287 : am_mi 287 = (0, 2, 12) := by decide +kernel
set_option maxRecDepth 20000 in
theorem am_P_288 : am_P 288 = some (am_k288, 3, 4, 0, 0) := rfl
theorem am_mi_288 : am_mi 288 = (0, 2, 12) := by decide +kernel
set_option maxRecDepth 20000 in
theorem am_P_289 : am_P 289 = some (am_k289, 3, 1, 0, 0) := rfl
theorem am_mi_289 : am_mi 289 = (0, 2, 12) := by decide +kernel
set_option maxRecDepth 20000 in
theorem am_P_290 : am_P 290 = some (am_k290, 1, 1, 0, 0) := rfl
theorem am_mi_290 : am_mi 290 = (0, 0, 12) := by decide +kernel
set_option maxRecDepth 20000 in
theorem am_P_291 : am_P 291 = some (am_k291, 1, 1, 0, 0) := rfl
theorem am_mi_291 : am_mi 291 = (0, 0, 12) := by decide +kernel
set_option maxRecDepth 20000 in
theorem am_P_292 : am_P 292 = some (am_k292, 2, 1, 0, 0) := rfl
theorem am_mi_292 : am_mi 292 = (0, 1, 12) := by decide +kernel
set_option maxRecDepth 20000 in
theorem am_P_293 : am_P 293 = some (am_k293, 4, 4, 0, 0) := rfl
theorem am_mi_293 : am_mi 293 = (0, 3, 12) := by decide +kernel
set_option maxRecDepth 20000 in
theorem am_P_294 : am_P 294 = some (am_k294, 5, 1, 0, 0) := rfl
theorem am_mi_294 : am_mi 294 = (0, 2, 12) := by decide +kernel
set_option maxRecDepth 20000 in
theorem am_P_295 : am_P 295 = some (am_k295, 3, 1, 0, 0) := rfl
theorem am_mi_295 : am_mi 295 = (0, 2, 12) := by decide +kernel
set_option maxRecDepth 20000 in
theorem am_P_296 : am_P 296 = some (am_k296, 4, 1, 0, 0) := rfl
theorem am_mi_296 : am_mi 296 = (0, 0, 12) := by decide +kernel
set_option maxRecDepth 20000 in
theorem am_P_297 : am_P 297 = some (am_k297, 3, 1, 0, 0) := rfl
theorem am_mi_297 : am_mi 297 = (0, 2, 12) := by decide +kernel
set_option maxRecDepth 20000 in
theorem am_P_298 : am_P 298 = some (am_k298, 3, 1, 0, 0) := rfl
theorem am_mi_298 : am_mi 298 = (0, 2, 12) := by decide +kernel
set_option maxRecDepth 20000 in
theorem am_P_299 : am_P 299 = some (am_k299, 3, 1, 0, 0) := rfl
theorem am_mi_299 : am_mi 299 = (0, 2, 12) := by decide +kernel
set_option maxRecDepth 20000 in
theorem am_P_300 : am_P 300 = some (am_k300, 3, 1, 0, 0) := rfl
theorem am_mi_300 : am_mi 300 = (0, 2, 12) := by decide +kernel
set_option maxRecDepth 20000 in
theorem am_P_301 : am_P 301 = some (am_k301, 4, 1, 0, 0) := rfl
theorem am_mi_301 : am_mi 301 = (0, 3, 12) := by decide +kernel
set_option maxRecDepth 20000 in
theorem am_P_302 : am_P 302 = some (am_k302, 2, 1, 0, 0) := rfl
theorem am_mi_302 : am_mi 302 = (0, 1, 12) := by decide +kernel
set_option maxRecDepth 20000 in
theorem am_P_303 : am_P 303 = some (am_k303, 2, 1, 0, 0) := rfl
theorem am_mi_303 : am_mi 303 = (0, 1, 12) := by decide +kernel
set_option maxRecDepth 20000 in
theorem am_P_304 : am_P 304 = some (am_k304, 2, 1, 0, 0) := rfl
theorem am_mi_304 : am_mi 304 = (0, 1, 12) := by decide +kernel
set_option maxRecDepth 20000 in
theorem am_P_305 : am_P 305 = some (am_k305, 4, 0, 0, 0) := rfl
theorem am_mi_305 : am_mi 305 = (0, 1, 12) := by decide +kernel
set_option maxRecDepth 20000 in
theorem am_P_306 : am_P 306 = some (am_k306, 3, 4, 0, 0) := rfl
theorem am_mi_306 : am_mi 306 = (0, 2, 12) := by decide +kernel
set_option maxRecDepth 20000 in
theorem am_P_307 : am_P 307 = some (am_k307, 4, 1, 0, 0) := rfl
theorem am_mi_307 : am_mi 307 = (0, 1, 12) := by decide +kernel
set_option maxRecDepth 20000 in
theorem am_P_308 : am_P 308 = some (am_k308, 3, 1, 0, 0) := rfl
theorem am_mi_308 : am_mi 308 = (0, 2, 12) := by decide +kernel
set_option maxRecDepth 20000 in
theorem am_P_309 : am_P 309 = some (am_k309, 3, 1, 0, 0) := rfl
theorem am_mi_309 : am_mi 309 = (0, 2, 12) := by decide +kernel
set_option maxRecDepth 20000 in
theorem am_P_310 : am_P 310 = some (am_k310, 5, 1, 0, 0) := rfl
theorem am_mi_310 : am_mi 310 = (0, 3, 12) := by decide +kernel
set_option maxRecDepth 20000 in
theorem am_P_311 : am_P 311 = some (am_k311, 3, 1, 0, 0) := rfl
theorem am_mi_311 : am_mi 311 = (0, 2, 12) := by decide +kernel
set_option maxRecDepth 20000 in
theorem am_P_312 : am_P 312 = some (am_k312, 3, 4, 0, 0) := rfl
theorem am_mi_312 : am_mi 312 = (0, 2, 12) := by decide +kernel
set_option maxRecDepth 20000 in
theorem am_P_313 : am_P 313 = some (am_k313, 6, 1, 0, 0) := rfl
theorem am_mi_313 : am_mi 313 = (0, 1, 12) := by decide +kernel
set_option maxRecDepth 20000 in
theorem am_P_314 : am_P 314 = some (am_k314, 3, 4, 0, 0) := rfl
theorem am_mi_314 : am_mi 314 = (0, 2, 12) := by decide +kernel
set_option maxRecDepth 20000 in
theorem am_P_315 : am_P 315 = some (am_k315, 5, 1, 0, 0) := rfl
theorem am_mi_315 : am_mi 315 = (0, 1, 12) := by decide +kernel
set_option maxRecDepth 20000 in
theorem am_P_316 : am_P 316 = some (am_k316, 3, 1, 0, 0) := rfl
theorem am_mi_316 : am_mi 316 = (0, 2, 12) := by decide +kernel
set_option maxRecDepth 20000 in
theorem am_P_317 : am_P 317 = some (am_k317, 3, 1, 0, 0) := rfl
theorem am_mi_317 : am_mi 317 = (0, 1, 12) := by decide +kernel
set_option maxRecDepth 20000 in
theorem am_P_318 : am_P 318 = some (am_k318, 5, 1, 0, 0) := rfl
theorem am_mi_318 : am_mi 318 = (0, 3, 12) := by decide +kernel
set_option maxRecDepth 20000 in
theorem am_P_319 : am_P 319 = some (am_k319, 4, 4, 0, 0) := rfl
theorem am_mi_319 : am_mi 319 = (0, 1, 12) := by decide +kernel
set_option maxRecDepth 20000 in
theorem am_P_320 : am_P 320 = some (am_k320, 3, 1, 0, 0) := rfl
theorem am_mi_320 : am_mi 320 = (0, 0, 12) := by decide +kernel
set_option maxRecDepth 20000 in
theorem am_P_321 : am_P 321 = some (am_k321, 2, 0, 0, 0) := rfl
theorem am_mi_321 : am_mi 321 = (0, 0, 12) := by decide +kernel
set_option maxRecDepth 20000 in
theorem am_P_322 : am_P 322 = some (am_k322, 4, 2, 0, 0) := rfl
theorem am_mi_322 : am_mi 322 = (1, 2, 12) := by decide +kernel
set_option maxRecDepth 20000 in
theorem am_P_323 : am_P 323 = some (am_k323, 4, 2, 0, 0) := rfl
theorem am_mi_323 : am_mi 323 = (1, 2, 12) := by decide +kernel
set_option maxRecDepth 20000 in
theorem am_P_324 : am_P 324 = some (am_k324, 7, 2, 0, 0) := rfl
theorem am_mi_324 : am_mi 324 = (0, 2, 12) := by decide +kernel
set_option maxRecDepth 20000 in
theorem am_P_325 : am_P 325 = some (am_k325, 9, 2, 0, 0) := rfl
theorem am_mi_325 : am_mi 325 = (0, 3, 12) := by decide +kernel
set_option maxRecDepth 20000 in
theorem am_P_326 : am_P 326 = some (am_k326, 7, 2, 0, 0) := rfl
theorem am_mi_326 : am_mi 326 = (0, 4, 12) := by decide +kernel
set_option maxRecDepth 20000 in
theorem am_P_327 : am_P 327 = some (am_k327, 13, 0, 0, 0) := rfl
theorem am_mi_327 : am_mi 327 = (0, 3, 12) := by decide +kernel
set_option maxRecDepth 20000 in
theorem am_P_328 : am_P 328 = some (am_k328, 3, 2, 0, 0) := rfl
theorem am_mi_328 : am_mi 328 = (0, 2, 12) := by decide +kernel
set_option maxRecDepth 20000 in
theorem am_P_329 : am_P 329 = some (am_k329, 5, 4, 0, 0) := rfl
theorem am_mi_329 : am_mi 329 = (0, 4, 12) := by decide +kernel
set_option maxRecDepth 20000 in
theorem am_P_330 : am_P 330 = some (am_k330, 5, 1, 0, 0) := rfl
theorem am_mi_330 : am_mi 330 = (0, 4, 12) := by decide +kernel
set_option maxRecDepth 20000 in
theorem am_P_331 : am_P 331 = some (am_k331, 5, 1, 0, 0) := rfl
theorem am_mi_331 : am_mi 331 = (0, 4, 12) := by decide +kernel
set_option maxRecDepth 20000 in
theorem am_P_332 : am_P 332 = some (am_k332, 11, 2, 0, 0) := rfl
theorem am_mi_332 : am_mi 332 = (0, 3, 12) := by decide +kernel
set_option maxRecDepth 20000 in
theorem am_P_333 : am_P 333 = some (am_k333, 2, 2, 0, 0) := rfl
theorem am_mi_333 : am_mi 333 = (0, 1, 12) := by decide +kernel
set_option maxRecDepth 20000 in
theorem am_P_334 : am_P 334 = some (am_k334, 3, 1, 0, 0) := rfl
theorem am_mi_334 : am_mi 334 = (0, 1, 12) := by decide +kernel
set_option maxRecDepth 20000 in
theorem am_P_335 : am_P 335 = some (am_k335, 2, 0, 0, 0) := rfl
theorem am_mi_335 : am_mi 335 = (0, 0, 12) := by decide +kernel
set_option maxRecDepth 20000 in
theorem am_P_336 : am_P 336 = some (am_k336, 2, 1, 0, 0) := rfl
theorem am_mi_336 : am_mi 336 = (1, 1, 12) := by decide +kernel
set_option maxRecDepth 20000 in
theorem am_P_337 : am_P 337 = some (am_k337, 8, 1, 0, 0) := rfl
theorem am_mi_337 : am_mi 337 = (0, 3, 12) := by decide +kernel
set_option maxRecDepth 20000 in
theorem am_P_338 : am_P 338 = some (am_k338, 10, 1, 0, 0) := rfl
theorem am_mi_338 : am_mi 338 = (0, 4, 12) := by decide +kernel
set_option maxRecDepth 20000 in
theorem am_P_339 : am_P 339 = some (am_k339, 1, 4, 0, 0) := rfl
theorem am_mi_339 : am_mi 339 = (0, 0, 12) := by decide +kernel
set_option maxRecDepth 20000 in
theorem am_P_340 : am_P 340 = some (am_k340, 2, 1, 0, 0) := rfl
theorem am_mi_340 : am_mi 340 = (0, 1, 12) := by decide +kernel
set_option maxRecDepth 20000 in
theorem am_P_341 : am_P 341 = some (am_k341, 7, 1, 0, 0) := rfl
theorem am_mi_341 : am_mi 341 = (0, 4, 12) := by decide +kernel
set_option maxRecDepth 20000 in
theorem am_P_342 : am_P 342 = some (am_k342, 8, 0, 0, 0) := rfl
theorem am_mi_342 : am_mi 342 = (0, 3, 12) := by decide +kernel
set_option maxRecDepth 20000 in
theorem am_P_343 : am_P 343 = some (am_k343, 1, 0, 0, 0) := rfl
theorem am_mi_343 : am_mi 343 = (0, 0, 12) := by decide +kernel
set_option maxRecDepth 20000 in
theorem am_P_344 : am_P 344 = some (am_k344, 2, 1, 0, 0) := rfl
theorem am_mi_344 : am_mi 344 = (0, 1, 12) := by decide +kernel
set_option maxRecDepth 20000 in
theorem am_P_345 : am_P 345 = some (am_k345, 3, 1, 0, 0) := rfl
theorem am_mi_345 : am_mi 345 = (0, 2, 12) := by decide +kernel
set_option maxRecDepth 20000 in
theorem am_P_346 : am_P 346 = some (am_k346, 3, 4, 0, 0) := rfl
theorem am_mi_346 : am_mi 346 = (0, 1, 12) := by decide +kernel
set_option maxRecDepth 20000 in
theorem am_P_347 : am_P 347 = some (am_k347, 6, 4, 0, 0) := rfl
theorem am_mi_347 : am_mi 347 = (0, 3, 12) := by decide +kernel
set_option maxRecDepth 20000 in
theorem am_P_348 : am_P 348 = some (am_k348, 4, 4, 0, 0) := rfl
theorem am_mi_348 : am_mi 348 = (0, 1, 12) := by decide +kernel
set_option maxRecDepth 20000 in
theorem am_P_349 : am_P 349 = some (am_k349, 5, 1, 0, 0) := rfl
theorem am_mi_349 : am_mi 349 = (0, 2, 12) := by decide +kernel
set_option maxRecDepth 20000 in
theorem am_P_350 : am_P 350 = some (am_k350, 3, 1, 0, 0) := rfl
theorem am_mi_350 : am_mi 350 = (0, 2, 12) := by decide +kernel
set_option maxRecDepth 20000 in
theorem am_P_351 : am_P 351 = some (am_k351, 4, 1, 0, 0) := rfl
theorem am_mi_351 : am_mi 351 = (0, 3, 12) := by decide +kernel
set_option maxRecDepth 20000 in
theorem am_P_352 : am_P 352 = some (am_k352, 2, 1, 0, 0) := rfl
theorem am_mi_352 : am_mi 352 = (1, 1, 0) := by decide +kernel
set_option maxRecDepth 20000 in
theorem am_P_353 : am_P 353 = some (am_k353, 1, 1, 0, 0) := rfl
theorem am_mi_353 : am_mi 353 = (1, 1, 0) := by decide +kernel
set_option maxRecDepth 20000 in
theorem am_P_354 : am_P 354 = some (am_k354, 3, 1, 0, 0) := rfl
theorem am_mi_354 : am_mi 354 = (1, 1, 0) := by decide +kernel
set_option maxRecDepth 20000 in
theorem am_P_355 : am_P 355 = some (am_k355, 2, 1, 0, 0) := rfl
theorem am_mi_355 : am_mi 355 = (1, 1, 0) := by decide +kernel
set_option maxRecDepth 20000 in
theorem am_P_356 : am_P 356 = some (am_k356, 3, 0, 0, 0) := rfl
theorem am_mi_356 : am_mi 356 = (1, 3, 0) := by decide +kernel
set_option maxRecDepth 20000 in
theorem am_P_357 : am_P 357 = some (am_k357, 5, 0, 0, 0) := rfl
theorem am_mi_357 : am_mi 357 = (1, 2, 0) := by decide +kernel
set_option maxRecDepth 20000 in
theorem am_P_358 : am_P 358 = some (am_k358, 6, 0, 0, 0) := rfl
theorem am_mi_358 : am_mi 358 = (1, 4, 0) := by decide +kernel
set_option maxRecDepth 20000 in
theorem am_P_359 : am_P 359 = some (am_k359, 4, 0, 0, 0) := rfl
theorem am_mi_359 : am_mi 359 = (1, 2, 0) := by decide +kernel
set_option maxRecDepth 20000 in
theorem am_P_360 : am_P 360 = some (am_k360, 5, 0, 0, 0) := rfl
theorem am_mi_360 : am_mi 360 = (1, 4, 0) := by decide +kernel
