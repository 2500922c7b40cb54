theorem okc_0 : ∀ L, ok_b (sv_o 0) (am_pr 0).2.1 (sv_k 0) (sv_i 0) (sv_c 0) L (am_b0 L) = true := by
  intro L; unfold am_b0; split
  all_goals first | decide +kernel | rfl
theorem okc_1 : ∀ L, ok_b (sv_o 1) (am_pr 1).2.1 (sv_k 1) (sv_i 1) (sv_c 1) L (am_b1 L) = true := by
  intro L; unfold am_b1; split
  all_goals first | decide +kernel | rfl
theorem okc_2 : ∀ L, ok_b (sv_o 2) (am_pr 2).2.1 (sv_k 2) (sv_i 2) (sv_c 2) L (am_b2 L) = true := by
  intro L; unfold am_b2; split
  all_goals first | decide +kernel | rfl
theorem okc_3 : ∀ L, ok_b (sv_o 3) (am_pr 3).2.1 (sv_k 3) (sv_i 3) (sv_c 3) L (am_b3 L) = true := by
  intro L; unfold am_b3; split
  all_goals first | decide +kernel | rfl
theorem okc_4 : ∀ L, ok_b (sv_o 4) (am_pr 4).2.1 (sv_k 4) (sv_i 4) (sv_c 4) L (am_b4 L) = true := by
  intro L; unfold am_b4; split
  all_goals first | decide +kernel | rfl
theorem okc_5 : ∀ L, ok_b (sv_o 5) (am_pr 5).2.1 (sv_k 5) (sv_i 5) (sv_c 5) L (am_b5 L) = true := by
  intro L; unfold am_b5; split
  all_goals first | decide +kernel | rfl
theorem okc_6 : ∀ L, ok_b (sv_o 6) (am_pr 6).2.1 (sv_k 6) (sv_i 6) (sv_c 6) L (am_b6 L) = true := by
  intro L; unfold am_b6; split
  all_goals first | decide +kernel | rfl
theorem okc_7 : ∀ L, ok_b (sv_o 7) (am_pr 7).2.1 (sv_k 7) (sv_i 7) (sv_c 7) L (am_b7 L) = true := by
  intro L; unfold am_b7; split
  all_goals first | decide +kernel | rfl
theorem okc_8 : ∀ L, ok_b (sv_o 8) (am_pr 8).2.1 (sv_k 8) (sv_i 8) (sv_c 8) L (am_b8 L) = true := by
  intro L; unfold am_b8; split
  all_goals first | decide +kernel | rfl
theorem okc_9 : ∀ L, ok_b (sv_o 9) (am_pr 9).2.1 (sv_k 9) (sv_i 9) (sv_c 9) L (am_b9 L) = true := by
  intro L; unfold am_b9; split
  all_goals first | decide +kernel | rfl
theorem okc_10 : ∀ L, ok_b (sv_o 10) (am_pr 10).2.1 (sv_k 10) (sv_i 10) (sv_c 10) L (am_b10 L) = true := by
  intro L; unfold am_b10; split
  all_goals first | decide +kernel | rfl
theorem okc_11 : ∀ L, ok_b (sv_o 11) (am_pr 11).2.1 (sv_k 11) (sv_i 11) (sv_c 11) L (am_b11 L) = true := by
  intro L; unfold am_b11; split
  all_goals first | decide +kernel | rfl
theorem okc_12 : ∀ L, ok_b (sv_o 12) (am_pr 12).2.1 (sv_k 12) (sv_i 12) (sv_c 12) L (am_b12 L) = true := by
  intro L; unfold am_b12; split
  all_goals first | decide +kernel | rfl
theorem okc_13 : ∀ L, ok_b (sv_o 13) (am_pr 13).2.1 (sv_k 13) (sv_i 13) (sv_c 13) L (am_b13 L) = true := by
  intro L; unfold am_b13; split
  all_goals first | decide +kernel | rfl
theorem okc_14 : ∀ L, ok_b (sv_o 14) (am_pr 14).2.1 (sv_k 14) (sv_i 14) (sv_c 14) L (am_b14 L) = true := by
  intro L; unfold am_b14; split
  all_goals first | decide +kernel | rfl
theorem okc_15 : ∀ L, ok_b (sv_o 15) (am_pr 15).2.1 (sv_k 15) (sv_i 15) (sv_c 15) L (am_b15 L) = true := by
  intro L; unfold am_b15; split
  all_goals first | decide +kernel | rfl
theorem okc_16 : ∀ L, ok_b (sv_o 16) (am_pr 16).2.1 (sv_k 16) (sv_i 16) (sv_c 16) L (am_b16 L) = true := by
  intro L; unfold am_b16; split
  all_goals first | decide +kernel | rfl
theorem okc_17 : ∀ L, ok_b (sv_o 17) (am_pr 17).2.1 (sv_k 17) (sv_i 17) (sv_c 17) L (am_b17 L) = true := by
  intro L; unfold am_b17; split
  all_goals first | decide +kernel | rfl
theorem okc_18 : ∀ L, ok_b (sv_o 18) (am_pr 18).2.1 (sv_k 18) (sv_i 18) (sv_c 18) L (am_b18 L) = true := by
  intro L; unfold am_b18; split
  all_goals first | decide +kernel | rfl
theorem okc_19 : ∀ L, ok_b (sv_o 19) (am_pr 19).2.1 (sv_k 19) (sv_i 19) (sv_c 19) L (am_b19 L) = true := by
  intro L; unfold am_b19; split
  all_goals first | decide +kernel | rfl
theorem okc_20 : ∀ L, ok_b (sv_o 20) (am_pr 20).2.1 (sv_k 20) (sv_i 20) (sv_c 20) L (am_b20 L) = true := by
  intro L; unfold am_b20; split
  all_goals first | decide +kernel | rfl
theorem okc_21 : ∀ L, ok_b (sv_o 21) (am_pr 21).2.1 (sv_k 21) (sv_i 21) (sv_c 21) L (am_b21 L) = true := by
  intro L; unfold am_b21; split
  all_goals first | decide +kernel | rfl
theorem okc_22 : ∀ L, ok_b (sv_o 22) (am_pr 22).2.1 (sv_k 22) (sv_i 22) (sv_c 22) L (am_b22 L) = true := by
  intro L; unfold am_b22; split
  all_goals first | decide +kernel | rfl
theorem okc_23 : ∀ L, ok_b (sv_o 23) (am_pr 23).2.1 (sv_k 23) (sv_i 23) (sv_c 23) L (am_b23 L) = true := by
  intro L; unfold am_b23; split
  all_goals first | decide +kernel | rfl
theorem okc_24 : ∀ L, ok_b (sv_o 24) (am_pr 24).2.1 (sv_k 24) (sv_i 24) (sv_c 24) L (am_b24 L) = true := by
  intro L; unfold am_b24; split
  all_goals first | decide +kernel | rfl
theorem okc_25 : ∀ L, ok_b (sv_o 25) (am_pr 25).2.1 (sv_k 25) (sv_i 25) (sv_c 25) L (am_b25 L) = true := by
  intro L; unfold am_b25; split
  all_goals first | decide +kernel | rfl
theorem okc_26 : ∀ L, ok_b (sv_o 26) (am_pr 26).2.1 (sv_k 26) (sv_i 26) (sv_c 26) L (am_b26 L) = true := by
  intro L; unfold am_b26; split
  all_goals first | decide +kernel | rfl
theorem okc_27 : ∀ L, ok_b (sv_o 27) (am_pr 27).2.1 (sv_k 27) (sv_i 27) (sv_c 27) L (am_b27 L) = true := by
  intro L; unfold am_b27; split
  all_goals first | decide +kernel | rfl
theorem okc_28 : ∀ L, ok_b (sv_o 28) (am_pr 28).2.1 (sv_k 28) (sv_i 28) (sv_c 28) L (am_b28 L) = true := by
  intro L; unfold am_b28; split
  all_goals first | decide +kernel | rfl
theorem okc_29 : ∀ L, ok_b (sv_o 29) (am_pr 29).2.1 (sv_k 29) (sv_i 29) (sv_c 29) L (am_b29 L) = true := by
  intro L; unfold am_b29; split
  all_goals first | decide +kernel | rfl
theorem okc_30 : ∀ L, ok_b (sv_o 30) (am_pr 30).2.1 (sv_k 30) (sv_i 30) (sv_c 30) L (am_b30 L) = true := by
  intro L; unfold am_b30; split
  all_goals first | decide +kernel | rfl
theorem okc_31 : ∀ L, ok_b (sv_o 31) (am_pr 31).2.1 (sv_k 31) (sv_i 31) (sv_c 31) L (am_b31 L) = true := by
  intro L; unfold am_b31; split
  all_goals first | decide +kernel | rfl
theorem okc_32 : ∀ L, ok_b (sv_o 32) (am_pr 32).2.1 (sv_k 32) (sv_i 32) (sv_c 32) L (am_b32 L) = true := by
  intro L; unfold am_b32; split
  all_goals first | decide +kernel | rfl
theorem okc_33 : ∀ L, ok_b (sv_o 33) (am_pr 33).2.1 (sv_k 33) (sv_i 33) (sv_c 33) L (am_b33 L) = true := by
  intro L; unfold am_b33; split
  all_goals first | decide +kernel | rfl
theorem okc_34 : ∀ L, ok_b (sv_o 34) (am_pr 34).2.1 (sv_k 34) (sv_i 34) (sv_c 34) L (am_b34 L) = true := by
  intro L; unfold am_b34; split
  all_goals first | decide +kernel | rfl
theorem okc_35 : ∀ L, ok_b (sv_o 35) (am_pr 35).2.1 (sv_k 35) (sv_i 35) (sv_c 35) L (am_b35 L) = true := by
  intro L; unfold am_b35; split
  all_goals first | decide +kernel | rfl
theorem okc_36 : ∀ L, ok_b (sv_o 36) (am_pr 36).2.1 (sv_k 36) (sv_i 36) (sv_c 36) L (am_b36 L) = true := by
  intro L; unfold am_b36; split
  all_goals first | decide +kernel | rfl
theorem okc_37 : ∀ L, ok_b (sv_o 37) (am_pr 37).2.1 (sv_k 37) (sv_i 37) (sv_c 37) L (am_b37 L) = true := by
  intro L; unfold am_b37; split
  all_goals first | decide +kernel | rfl
theorem okc_38 : ∀ L, ok_b (sv_o 38) (am_pr 38).2.1 (sv_k 38) (sv_i 38) (sv_c 38) L (am_b38 L) = true := by
  intro L; unfold am_b38; split
  all_goals first | decide +kernel | rfl
theorem okc_39 : ∀ L, ok_b (sv_o 39) (am_pr 39).2.1 (sv_k 39) (sv_i 39) (sv_c 39) L (am_b39 L) = true := by
  intro L; unfold am_b39; split
  all_goals first | decide +kernel | rfl
theorem okc_40 : ∀ L, ok_b (sv_o 40) (am_pr 40).2.1 (sv_k 40) (sv_i 40) (sv_c 40) L (am_b40 L) = true := by
  intro L; unfold am_b40; split
  all_goals first | decide +kernel | rfl
theorem okc_41 : ∀ L, ok_b (sv_o 41) (am_pr 41).2.1 (sv_k 41) (sv_i 41) (sv_c 41) L (am_b41 L) = true := by
  intro L; unfold am_b41; split
  all_goals first | decide +kernel | rfl
theorem okc_42 : ∀ L, ok_b (sv_o 42) (am_pr 42).2.1 (sv_k 42) (sv_i 42) (sv_c 42) L (am_b42 L) = true := by
  intro L; unfold am_b42; split
  all_goals first | decide +kernel | rfl
theorem okc_43 : ∀ L, ok_b (sv_o 43) (am_pr 43).2.1 (sv_k 43) (sv_i 43) (sv_c 43) L (am_b43 L) = true := by
  intro L; unfold am_b43; split
  all_goals first | decide +kernel | rfl
theorem okc_44 : ∀ L, ok_b (sv_o 44) (am_pr 44).2.1 (sv_k 44) (sv_i 44) (sv_c 44) L (am_b44 L) = true := by
  intro L; unfold am_b44; split
  all_goals first | decide +kernel | rfl
theorem okc_45 : ∀ L, ok_b (sv_o 45) (am_pr 45).2.1 (sv_k 45) (sv_i 45) (sv_c 45) L (am_b45 L) = true := by
  intro L; unfold am_b45; split
  all_goals first | decide +kernel | rfl
theorem okc_46 : ∀ L, ok_b (sv_o 46) (am_pr 46).2.1 (sv_k 46) (sv_i 46) (sv_c 46) L (am_b46 L) = true := by
  intro L; unfold am_b46; split
  all_goals first | decide +kernel | rfl
theorem okc_47 : ∀ L, ok_b (sv_o 47) (am_pr 47).2.1 (sv_k 47) (sv_i 47) (sv_c 47) L (am_b47 L) = true := by
  intro L; unfold am_b47; split
  all_goals first | decide +kernel | rfl
theorem okc_48 : ∀ L, ok_b (sv_o 48) (am_pr 48).2.1 (sv_k 48) (sv_i 48) (sv_c 48) L (am_b48 L) = true := by
  intro L; unfold am_b48; split
  all_goals first | decide +kernel | rfl
theorem okc_49 : ∀ L, ok_b (sv_o 49) (am_pr 49).2.1 (sv_k 49) (sv_i 49) (sv_c 49) L (am_b49 L) = true := by
  intro L; unfold am_b49; split
  all_goals first | decide +kernel | rfl
theorem okc_50 : ∀ L, ok_b (sv_o 50) (am_pr 50).2.1 (sv_k 50) (sv_i 50) (sv_c 50) L (am_b50 L) = true := by
  intro L; unfold am_b50; split
  all_goals first | decide +kernel | rfl
theorem okc_51 : ∀ L, ok_b (sv_o 51) (am_pr 51).2.1 (sv_k 51) (sv_i 51) (sv_c 51) L (am_b51 L) = true := by
  intro L; unfold am_b51; split
  all_goals first | decide +kernel | rfl
theorem okc_52 : ∀ L, ok_b (sv_o 52) (am_pr 52).2.1 (sv_k 52) (sv_i 52) (sv_c 52) L (am_b52 L) = true := by
  intro L; unfold am_b52; split
  all_goals first | decide +kernel | rfl
theorem okc_53 : ∀ L, ok_b (sv_o 53) (am_pr 53).2.1 (sv_k 53) (sv_i 53) (sv_c 53) L (am_b53 L) = true := by
  intro L; unfold am_b53; split
  all_goals first | decide +kernel | rfl
theorem okc_54 : ∀ L, ok_b (sv_o 54) (am_pr 54).2.1 (sv_k 54) (sv_i 54) (sv_c 54) L (am_b54 L) = true := by
  intro L; unfold am_b54; split
  all_goals first | decide +kernel | rfl
theorem okc_55 : ∀ L, ok_b (sv_o 55) (am_pr 55).2.1 (sv_k 55) (sv_i 55) (sv_c 55) L (am_b55 L) = true := by
  intro L; unfold am_b55; split
  all_goals first | decide +kernel | rfl
theorem okc_56 : ∀ L, ok_b (sv_o 56) (am_pr 56).2.1 (sv_k 56) (sv_i 56) (sv_c 56) L (am_b56 L) = true := by
  intro L; unfold am_b56; split
  all_goals first | decide +kernel | rfl
theorem okc_57 : ∀ L, ok_b (sv_o 57) (am_pr 57).2.1 (sv_k 57) (sv_i 57) (sv_c 57) L (am_b57 L) = true := by
  intro L; unfold am_b57; split
  all_goals first | decide +kernel | rfl
theorem okc_58 : ∀ L, ok_b (sv_o 58) (am_pr 58).2.1 (sv_k 58) (sv_i 58) (sv_c 58) L (am_b58 L) = true := by
  intro L; unfold am_b58; split
  all_goals first | decide +kernel | rfl
theorem okc_59 : ∀ L, ok_b (sv_o 59) (am_pr 59).2.1 (sv_k 59) (sv_i 59) (sv_c 59) L (am_b59 L) = true := by
  intro L; unfold am_b59; split
  all_goals first | decide +kernel | rfl
theorem okc_60 : ∀ L, ok_b (sv_o 60) (am_pr 60).2.1 (sv_k 60) (sv_i 60) (sv_c 60) L (am_b60 L) = true := by
  intro L; unfold am_b60; split
  all_goals first | decide +kernel | rfl
theorem okc_61 : ∀ L, ok_b (sv_o 61) (am_pr 61).2.1 (sv_k 61) (sv_i 61) (sv_c 61) L (am_b61 L) = true := by
  intro L; unfold am_b61; split
  all_goals first | decide +kernel | rfl
theorem okc_62 : ∀ L, ok_b (sv_o 62) (am_pr 62).2.1 (sv_k 62) (sv_i 62) (sv_c 62) L (am_b62 L) = true := by
  intro L; unfold am_b62; split
  all_goals first | decide +kernel | rfl
theorem okc_63 : ∀ L, ok_b (sv_o 63) (am_pr 63).2.1 (sv_k 63) (sv_i 63) (sv_c 63) L (am_b63 L) = true := by
  intro L; unfold am_b63; split
  all_goals first | decide +kernel | rfl
theorem okc_64 : ∀ L, ok_b (sv_o 64) (am_pr 64).2.1 (sv_k 64) (sv_i 64) (sv_c 64) L (am_b64 L) = true := by
  intro L; unfold am_b64; split
  all_goals first | decide +kernel | rfl
theorem okc_65 : ∀ L, ok_b (sv_o 65) (am_pr 65).2.1 (sv_k 65) (sv_i 65) (sv_c 65) L (am_b65 L) = true := by
  intro L; unfold am_b65; split
  all_goals first | decide +kernel | rfl
theorem okc_66 : ∀ L, ok_b (sv_o 66) (am_pr 66).2.1 (sv_k 66) (sv_i 66) (sv_c 66) L (am_b66 L) = true := by
  intro L; unfold am_b66; split
  all_goals first | decide +kernel | rfl
theorem okc_67 : ∀ L, ok_b (sv_o 67) (am_pr 67).2.1 (sv_k 67) (sv_i 67) (sv_c 67) L (am_b67 L) = true := by
  intro L; unfold am_b67; split
  all_goals first | decide +kernel | rfl
theorem okc_68 : ∀ L, ok_b (sv_o 68) (am_pr 68).2.1 (sv_k 68) (sv_i 68) (sv_c 68) L (am_b68 L) = true := by
  intro L; unfold am_b68; split
  all_goals first | decide +kernel | rfl
theorem okc_69 : ∀ L, ok_b (sv_o 69) (am_pr 69).2.1 (sv_k 69) (sv_i 69) (sv_c 69) L (am_b69 L) = true := by
  intro L; unfold am_b69; split
  all_goals first | decide +kernel | rfl
theorem okc_70 : ∀ L, ok_b (sv_o 70) (am_pr 70).2.1 (sv_k 70) (sv_i 70) (sv_c 70) L (am_b70 L) = true := by
  intro L; unfold am_b70; split
  all_goals first | decide +kernel | rfl
theorem okc_71 : ∀ L, ok_b (sv_o 71) (am_pr 71).2.1 (sv_k 71) (sv_i 71) (sv_c 71) L (am_b71 L) = true := by
  intro L; unfold am_b71; split
  all_goals first | decide +kernel | rfl
theorem okc_72 : ∀ L, ok_b (sv_o 72) (am_pr 72).2.1 (sv_k 72) (sv_i 72) (sv_c 72) L (am_b72 L) = true := by
  intro L; unfold am_b72; split
  all_goals first | decide +kernel | rfl
theorem okc_73 : ∀ L, ok_b (sv_o 73) (am_pr 73).2.1 (sv_k 73) (sv_i 73) (sv_c 73) L (am_b73 L) = true := by
  intro L; unfold am_b73; split
  all_goals first | decide +kernel | rfl
theorem okc_74 : ∀ L, ok_b (sv_o 74) (am_pr 74).2.1 (sv_k 74) (sv_i 74) (sv_c 74) L (am_b74 L) = true := by
  intro L; unfold am_b74; split
  all_goals first | decide +kernel | rfl
theorem okc_75 : ∀ L, ok_b (sv_o 75) (am_pr 75).2.1 (sv_k 75) (sv_i 75) (sv_c 75) L (am_b75 L) = true := by
  intro L; unfold am_b75; split
  all_goals first | decide +kernel | rfl
theorem okc_76 : ∀ L, ok_b (sv_o 76) (am_pr 76).2.1 (sv_k 76) (sv_i 76) (sv_c 76) L (am_b76 L) = true := by
  intro L; unfold am_b76; split
  all_goals first | decide +kernel | rfl
theorem okc_77 : ∀ L, ok_b (sv_o 77) (am_pr 77).2.1 (sv_k 77) (sv_i 77) (sv_c 77) L (am_b77 L) = true := by
  intro L; unfold am_b77; split
  all_goals first | decide +kernel | rfl
theorem okc_78 : ∀ L, ok_b (sv_o 78) (am_pr 78).2.1 (sv_k 78) (sv_i 78) (sv_c 78) L (am_b78 L) = true := by
  intro L; unfold am_b78; split
  all_goals first | decide +kernel | rfl
theorem okc_79 : ∀ L, ok_b (sv_o 79) (am_pr 79).2.1 (sv_k 79) (sv_i 79) (sv_c 79) L (am_b79 L) = true := by
  intro L; unfold am_b79; split
  all_goals first | decide +kernel | rfl
theorem okc_80 : ∀ L, ok_b (sv_o 80) (am_pr 80).2.1 (sv_k 80) (sv_i 80) (sv_c 80) L (am_b80 L) = true := by
  intro L; unfold am_b80; split
  all_goals first | decide +kernel | rfl
theorem okc_81 : ∀ L, ok_b (sv_o 81) (am_pr 81).2.1 (sv_k 81) (sv_i 81) (sv_c 81) L (am_b81 L) = true := by
  intro L; unfold am_b81; split
  all_goals first | decide +kernel | rfl
theorem okc_82 : ∀ L, ok_b (sv_o 82) (am_pr 82).2.1 (sv_k 82) (sv_i 82) (sv_c 82) L (am_b82 L) = true := by
  intro L; unfold am_b82; split
  all_goals first | decide +kernel | rfl
theorem okc_83 : ∀ L, ok_b (sv_o 83) (am_pr 83).2.1 (sv_k 83) (sv_i 83) (sv_c 83) L (am_b83 L) = true := by
  intro L; unfold am_b83; split
  all_goals first | decide +kernel | rfl
theorem okc_84 : ∀ L, ok_b (sv_o 84) (am_pr 84).2.1 (sv_k 84) (sv_i 84) (sv_c 84) L (am_b84 L) = true := by
  intro L; unfold am_b84; split
  all_goals first | decide +kernel | rfl
theorem okc_85 : ∀ L, ok_b (sv_o 85) (am_pr 85).2.1 (sv_k 85) (sv_i 85) (sv_c 85) L (am_b85 L) = true := by
  intro L; unfold am_b85; split
  all_goals first | decide +kernel | rfl
theorem okc_86 : ∀ L, ok_b (sv_o 86) (am_pr 86).2.1 (sv_k 86) (sv_i 86) (sv_c 86) L (am_b86 L) = true := by
  intro L; unfold am_b86; split
  all_goals first | decide +kernel | rfl
theorem okc_87 : ∀ L, ok_b (sv_o 87) (am_pr 87).2.1 (sv_k 87) (sv_i 87) (sv_c 87) L (am_b87 L) = true := by
  intro L; unfold am_b87; split
  all_goals first | decide +kernel | rfl
theorem okc_88 : ∀ L, ok_b (sv_o 88) (am_pr 88).2.1 (sv_k 88) (sv_i 88) (sv_c 88) L (am_b88 L) = true := by
  intro L; unfold am_b88; split
  all_goals first | decide +kernel | rfl
theorem okc_89 : ∀ L, ok_b (sv_o 89) (am_pr 89).2.1 (sv_k 89) (sv_i 89) (sv_c 89) L (am_b89 L) = true := by
  intro L; unfold am_b89; split
  all_goals first | decide +kernel | rfl
theorem okc_90 : ∀ L, ok_b (sv_o 90) (am_pr 90).2.1 (sv_k 90) (sv_i 90) (sv_c 90) L (am_b90 L) = true := by
  intro L; unfold am_b90; split
  all_goals first | decide +kernel | rfl
theorem okc_91 : ∀ L, ok_b (sv_o 91) (am_pr 91).2.1 (sv_k 91) (sv_i 91) (sv_c 91) L (am_b91 L) = true := by
  intro L; unfold am_b91; split
  all_goals first | decide +kernel | rfl
theorem okc_92 : ∀ L, ok_b (sv_o 92) (am_pr 92).2.1 (sv_k 92) (sv_i 92) (sv_c 92) L (am_b92 L) = true := by
  intro L; unfold am_b92; split
  all_goals first | decide +kernel | rfl
theorem okc_93 : ∀ L, ok_b (sv_o 93) (am_pr 93).2.1 (sv_k 93) (sv_i 93) (sv_c 93) L (am_b93 L) = true := by
  intro L; unfold am_b93; split
  all_goals first | decide +kernel | rfl
theorem okc_94 : ∀ L, ok_b (sv_o 94) (am_pr 94).2.1 (sv_k 94) (sv_i 94) (sv_c 94) L (am_b94 L) = true := by
  intro L; unfold am_b94; split
  all_goals first | decide +kernel | rfl
theorem okc_95 : ∀ L, ok_b (sv_o 95) (am_pr 95).2.1 (sv_k 95) (sv_i 95) (sv_c 95) L (am_b95 L) = true := by
  intro L; unfold am_b95; split
  all_goals first | decide +kernel | rfl
theorem okc_96 : ∀ L, ok_b (sv_o 96) (am_pr 96).2.1 (sv_k 96) (sv_i 96) (sv_c 96) L (am_b96 L) = true := by
  intro L; unfold am_b96; split
  all_goals first | decide +kernel | rfl
theorem okc_97 : ∀ L, ok_b (sv_o 97) (am_pr 97).2.1 (sv_k 97) (sv_i 97) (sv_c 97) L (am_b97 L) = true := by
  intro L; unfold am_b97; split
  all_goals first | decide +kernel | rfl
theorem okc_98 : ∀ L, ok_b (sv_o 98) (am_pr 98).2.1 (sv_k 98) (sv_i 98) (sv_c 98) L (am_b98 L) = true := by
  intro L; unfold am_b98; split
  all_goals first | decide +kernel | rfl
theorem okc_99 : ∀ L, ok_b (sv_o 99) (am_pr 99).2.1 (sv_k 99) (sv_i 99) (sv_c 99) L (am_b99 L) = true := by
  intro L; unfold am_b99; split
  all_goals first | decide +kernel | rfl
theorem okc_100 : ∀ L, ok_b (sv_o 100) (am_pr 100).2.1 (sv_k 100) (sv_i 100) (sv_c 100) L (am_b100 L) = true := by
  intro L; unfold am_b100; split
  all_goals first | decide +kernel | rfl
theorem okc_101 : ∀ L, ok_b (sv_o 101) (am_pr 101).2.1 (sv_k 101) (sv_i 101) (sv_c 101) L (am_b101 L) = true := by
  intro L; unfold am_b101; split
  all_goals first | decide +kernel | rfl
theorem okc_102 : ∀ L, ok_b (sv_o 102) (am_pr 102).2.1 (sv_k 102) (sv_i 102) (sv_c 102) L (am_b102 L) = true := by
  intro L; unfold am_b102; split
  all_goals first | decide +kernel | rfl
theorem okc_103 : ∀ L, ok_b (sv_o 103) (am_pr 103).2.1 (sv_k 103) (sv_i 103) (sv_c 103) L (am_b103 L) = true := by
  intro L; unfold am_b103; split
  all_goals first | decide +kernel | rfl
theorem okc_104 : ∀ L, ok_b (sv_o 104) (am_pr 104).2.1 (sv_k 104) (sv_i 104) (sv_c 104) L (am_b104 L) = true := by
  intro L; unfold am_b104; split
  all_goals first | decide +kernel | rfl
theorem okc_105 : ∀ L, ok_b (sv_o 105) (am_pr 105).2.1 (sv_k 105) (sv_i 105) (sv_c 105) L (am_b105 L) = true := by
  intro L; unfold am_b105; split
  all_goals first | decide +kernel | rfl
theorem okc_106 : ∀ L, ok_b (sv_o 106) (am_pr 106).2.1 (sv_k 106) (sv_i 106) (sv_c 106) L (am_b106 L) = true := by
  intro L; unfold am_b106; split
  all_goals first | decide +kernel | rfl
theorem okc_107 : ∀ L, ok_b (sv_o 107) (am_pr 107).2.1 (sv_k 107) (sv_i 107) (sv_c 107) L (am_b107 L) = true := by
  intro L; unfold am_b107; split
  all_goals first | decide +kernel | rfl
theorem okc_108 : ∀ L, ok_b (sv_o 108) (am_pr 108).2.1 (sv_k 108) (sv_i 108) (sv_c 108) L (am_b108 L) = true := by
  intro L; unfold am_b108; split
  all_goals first | decide +kernel | rfl
theorem okc_109 : ∀ L, ok_b (sv_o 109) (am_pr 109).2.1 (sv_k 109) (sv_i 109) (sv_c 109) L (am_b109 L) = true := by
  intro L; unfold am_b109; split
  all_goals first | decide +kernel | rfl
theorem okc_110 : ∀ L, ok_b (sv_o 110) (am_pr 110).2.1 (sv_k 110) (sv_i 110) (sv_c 110) L (am_b110 L) = true := by
  intro L; unfold am_b110; split
  all_goals first | decide +kernel | rfl
theorem okc_111 : ∀ L, ok_b (sv_o 111) (am_pr 111).2.1 (sv_k 111) (sv_i 111) (sv_c 111) L (am_b111 L) = true := by
  intro L; unfold am_b111; split
  all_goals first | decide +kernel | rfl
theorem okc_112 : ∀ L, ok_b (sv_o 112) (am_pr 112).2.1 (sv_k 112) (sv_i 112) (sv_c 112) L (am_b112 L) = true := by
  intro L; unfold am_b112; split
  all_goals first | decide +kernel | rfl
theorem okc_113 : ∀ L, ok_b (sv_o 113) (am_pr 113).2.1 (sv_k 113) (sv_i 113) (sv_c 113) L (am_b113 L) = true := by
  intro L; unfold am_b113; split
  all_goals first | decide +kernel | rfl
theorem okc_114 : ∀ L, ok_b (sv_o 114) (am_pr 114).2.1 (sv_k 114) (sv_i 114) (sv_c 114) L (am_b114 L) = true := by
  intro L; unfold am_b114; split
  all_goals first | decide +kernel | rfl
theorem okc_115 : ∀ L, ok_b (sv_o 115) (am_pr 115).2.1 (sv_k 115) (sv_i 115) (sv_c 115) L (am_b115 L) = true := by
  intro L; unfold am_b115; split
  all_goals first | decide +kernel | rfl
theorem okc_116 : ∀ L, ok_b (sv_o 116) (am_pr 116).2.1 (sv_k 116) (sv_i 116) (sv_c 116) L (am_b116 L) = true := by
  intro L; unfold am_b116; split
  all_goals first | decide +kernel | rfl
theorem okc_117 : ∀ L, ok_b (sv_o 117) (am_pr 117).2.1 (sv_k 117) (sv_i 117) (sv_c 117) L (am_b117 L) = true := by
  intro L; unfold am_b117; split
  all_goals first | decide +kernel | rfl
theorem okc_118 : ∀ L, ok_b (sv_o 118) (am_pr 118).2.1 (sv_k 118) (sv_i 118) (sv_c 118) L (am_b118 L) = true := by
  intro L; unfold am_b118; split
  all_goals first | decide +kernel | rfl
theorem okc_119 : ∀ L, ok_b (sv_o 119) (am_pr 119).2.1 (sv_k 119) (sv_i 119) (sv_c 119) L (am_b119 L) = true := by
  intro L; unfold am_b119; split
  all_goals first | decide +kernel | rfl
theorem okc_120 : ∀ L, ok_b (sv_o 120) (am_pr 120).2.1 (sv_k 120) (sv_i 120) (sv_c 120) L (am_b120 L) = true := by
  intro L; unfold am_b120; split
  all_goals first | decide +kernel | rfl
theorem okc_121 : ∀ L, ok_b (sv_o 121) (am_pr 121).2.1 (sv_k 121) (sv_i 121) (sv_c 121) L (am_b121 L) = true := by
  intro L; unfold am_b121; split
  all_goals first | decide +kernel | rfl
theorem okc_122 : ∀ L, ok_b (sv_o 122) (am_pr 122).2.1 (sv_k 122) (sv_i 122) (sv_c 122) L (am_b122 L) = true := by
  intro L; unfold am_b122; split
  all_goals first | decide +kernel | rfl
theorem okc_123 : ∀ L, ok_b (sv_o 123) (am_pr 123).2.1 (sv_k 123) (sv_i 123) (sv_c 123) L (am_b123 L) = true := by
  intro L; unfold am_b123; split
  all_goals first | decide +kernel | rfl
theorem okc_124 : ∀ L, ok_b (sv_o 124) (am_pr 124).2.1 (sv_k 124) (sv_i 124) (sv_c 124) L (am_b124 L) = true := by
  intro L; unfold am_b124; split
  all_goals first | decide +kernel | rfl
theorem okc_125 : ∀ L, ok_b (sv_o 125) (am_pr 125).2.1 (sv_k 125) (sv_i 125) (sv_c 125) L (am_b125 L) = true := by
  intro L; unfold am_b125; split
  all_goals first | decide +kernel | rfl
theorem okc_126 : ∀ L, ok_b (sv_o 126) (am_pr 126).2.1 (sv_k 126) (sv_i 126) (sv_c 126) L (am_b126 L) = true := by
  intro L; unfold am_b126; split
  all_goals first | decide +kernel | rfl
theorem okc_127 : ∀ L, ok_b (sv_o 127) (am_pr 127).2.1 (sv_k 127) (sv_i 127) (sv_c 127) L (am_b127 L) = true := by
  intro L; unfold am_b127; split
  all_goals first | decide +kernel | rfl
theorem okc_128 : ∀ L, ok_b (sv_o 128) (am_pr 128).2.1 (sv_k 128) (sv_i 128) (sv_c 128) L (am_b128 L) = true := by
  intro L; unfold am_b128; split
  all_goals first | decide +kernel | rfl
theorem okc_129 : ∀ L, ok_b (sv_o 129) (am_pr 129).2.1 (sv_k 129) (sv_i 129) (sv_c 129) L (am_b129 L) = true := by
  intro L; unfold am_b129; split
  all_goals first | decide +kernel | rfl
theorem okc_130 : ∀ L, ok_b (sv_o 130) (am_pr 130).2.1 (sv_k 130) (sv_i 130) (sv_c 130) L (am_b130 L) = true := by
  intro L; unfold am_b130; split
  all_goals first | decide +kernel | rfl
theorem okc_131 : ∀ L, ok_b (sv_o 131) (am_pr 131).2.1 (sv_k 131) (sv_i 131) (sv_c 131) L (am_b131 L) = true := by
  intro L; unfold am_b131; split
  all_goals first | decide +kernel | rfl
theorem okc_132 : ∀ L, ok_b (sv_o 132) (am_pr 132).2.1 (sv_k 132) (sv_i 132) (sv_c 132) L (am_b132 L) = true := by
  intro L; unfold am_b132; split
  all_goals first | decide +kernel | rfl
theorem okc_133 : ∀ L, ok_b (sv_o 133) (am_pr 133).2.1 (sv_k 133) (sv_i 133) (sv_c 133) L (am_b133 L) = true := by
  intro L; unfold am_b133; split
  all_goals first | decide +kernel | rfl
theorem okc_134 : ∀ L, ok_b (sv_o 134) (am_pr 134).2.1 (sv_k 134) (sv_i 134) (sv_c 134) L (am_b134 L) = true := by
  intro L; unfold am_b134; split
  all_goals first | decide +kernel | rfl
theorem okc_135 : ∀ L, ok_b (sv_o 135) (am_pr 135).2.1 (sv_k 135) (sv_i 135) (sv_c 135) L (am_b135 L) = true := by
  intro L; unfold am_b135; split
  all_goals first | decide +kernel | rfl
theorem okc_136 : ∀ L, ok_b (sv_o 136) (am_pr 136).2.1 (sv_k 136) (sv_i 136) (sv_c 136) L (am_b136 L) = true := by
  intro L; unfold am_b136; split
  all_goals first | decide +kernel | rfl
theorem okc_137 : ∀ L, ok_b (sv_o 137) (am_pr 137).2.1 (sv_k 137) (sv_i 137) (sv_c 137) L (am_b137 L) = true := by
  intro L; unfold am_b137; split
  all_goals first | decide +kernel | rfl
theorem okc_138 : ∀ L, ok_b (sv_o 138) (am_pr 138).2.1 (sv_k 138) (sv_i 138) (sv_c 138) L (am_b138 L) = true := by
  intro L; unfold am_b138; split
  all_goals first | decide +kernel | rfl
theorem okc_139 : ∀ L, ok_b (sv_o 139) (am_pr 139).2.1 (sv_k 139) (sv_i 139) (sv_c 139) L (am_b139 L) = true := by
  intro L; unfold am_b139; split
  all_goals first | decide +kernel | rfl
theorem okc_140 : ∀ L, ok_b (sv_o 140) (am_pr 140).2.1 (sv_k 140) (sv_i 140) (sv_c 140) L (am_b140 L) = true := by
  intro L; unfold am_b140; split
  all_goals first | decide +kernel | rfl
theorem okc_141 : ∀ L, ok_b (sv_o 141) (am_pr 141).2.1 (sv_k 141) (sv_i 141) (sv_c 141) L (am_b141 L) = true := by
  intro L; unfold am_b141; split
  all_goals first | decide +kernel | rfl
theorem okc_142 : ∀ L, ok_b (sv_o 142) (am_pr 142).2.1 (sv_k 142) (sv_i 142) (sv_c 142) L (am_b142 L) = true := by
  intro L; unfold am_b142; split
  all_goals first | decide +kernel | rfl
theorem okc_143 : ∀ L, ok_b (sv_o 143) (am_pr 143).2.1 (sv_k 143) (sv_i 143) (sv_c 143) L (am_b143 L) = true := by
  intro L; unfold am_b143; split
  all_goals first | decide +kernel | rfl
theorem okc_144 : ∀ L, ok_b (sv_o 144) (am_pr 144).2.1 (sv_k 144) (sv_i 144) (sv_c 144) L (am_b144 L) = true := by
  intro L; unfold am_b144; split
  all_goals first | decide +kernel | rfl
theorem okc_145 : ∀ L, ok_b (sv_o 145) (am_pr 145).2.1 (sv_k 145) (sv_i 145) (sv_c 145) L (am_b145 L) = true := by
  intro L; unfold am_b145; split
  all_goals first | decide +kernel | rfl
theorem okc_146 : ∀ L, ok_b (sv_o 146) (am_pr 146).2.1 (sv_k 146) (sv_i 146) (sv_c 146) L (am_b146 L) = true := by
  intro L; unfold am_b146; split
  all_goals first | decide +kernel | rfl
theorem okc_147 : ∀ L, ok_b (sv_o 147) (am_pr 147).2.1 (sv_k 147) (sv_i 147) (sv_c 147) L (am_b147 L) = true := by
  intro L; unfold am_b147; split
  all_goals first | decide +kernel | rfl
theorem okc_148 : ∀ L, ok_b (sv_o 148) (am_pr 148).2.1 (sv_k 148) (sv_i 148) (sv_c 148) L (am_b148 L) = true := by
  intro L; unfold am_b148; split
  all_goals first | decide +kernel | rfl
theorem okc_149 : ∀ L, ok_b (sv_o 149) (am_pr 149).2.1 (sv_k 149) (sv_i 149) (sv_c 149) L (am_b149 L) = true := by
  intro L; unfold am_b149; split
  all_goals first | decide +kernel | rfl
theorem okc_150 : ∀ L, ok_b (sv_o 150) (am_pr 150).2.1 (sv_k 150) (sv_i 150) (sv_c 150) L (am_b150 L) = true := by
  intro L; unfold am_b150; split
  all_goals first | decide +kernel | rfl
theorem okc_151 : ∀ L, ok_b (sv_o 151) (am_pr 151).2.1 (sv_k 151) (sv_i 151) (sv_c 151) L (am_b151 L) = true := by
  intro L; unfold am_b151; split
  all_goals first | decide +kernel | rfl
theorem okc_152 : ∀ L, ok_b (sv_o 152) (am_pr 152).2.1 (sv_k 152) (sv_i 152) (sv_c 152) L (am_b152 L) = true := by
  intro L; unfold am_b152; split
  all_goals first | decide +kernel | rfl
theorem okc_153 : ∀ L, ok_b (sv_o 153) (am_pr 153).2.1 (sv_k 153) (sv_i 153) (sv_c 153) L (am_b153 L) = true := by
  intro L; unfold am_b153; split
  all_goals first | decide +kernel | rfl
theorem okc_154 : ∀ L, ok_b (sv_o 154) (am_pr 154).2.1 (sv_k 154) (sv_i 154) (sv_c 154) L (am_b154 L) = true := by
  intro L; unfold am_b154; split
  all_goals first | decide +kernel | rfl
theorem okc_155 : ∀ L, ok_b (sv_o 155) (am_pr 155).2.1 (sv_k 155) (sv_i 155) (sv_c 155) L (am_b155 L) = true := by
  intro L; unfold am_b155; split
  all_goals first | decide +kernel | rfl
theorem okc_156 : ∀ L, ok_b (sv_o 156) (am_pr 156).2.1 (sv_k 156) (sv_i 156) (sv_c 156) L (am_b156 L) = true := by
  intro L; unfold am_b156; split
  all_goals first | decide +kernel | rfl
theorem okc_157 : ∀ L, ok_b (sv_o 157) (am_pr 157).2.1 (sv_k 157) (sv_i 157) (sv_c 157) L (am_b157 L) = true := by
  intro L; unfold am_b157; split
  all_goals first | decide +kernel | rfl
theorem okc_158 : ∀ L, ok_b (sv_o 158) (am_pr 158).2.1 (sv_k 158) (sv_i 158) (sv_c 158) L (am_b158 L) = true := by
  intro L; unfold am_b158; split
  all_goals first | decide +kernel | rfl
theorem okc_159 : ∀ L, ok_b (sv_o 159) (am_pr 159).2.1 (sv_k 159) (sv_i 159) (sv_c 159) L (am_b159 L) = true := by
  intro L; unfold am_b159; split
  all_goals first | decide +kernel | rfl
theorem okc_160 : ∀ L, ok_b (sv_o 160) (am_pr 160).2.1 (sv_k 160) (sv_i 160) (sv_c 160) L (am_b160 L) = true := by
  intro L; unfold am_b160; split
  all_goals first | decide +kernel | rfl
theorem okc_161 : ∀ L, ok_b (sv_o 161) (am_pr 161).2.1 (sv_k 161) (sv_i 161) (sv_c 161) L (am_b161 L) = true := by
  intro L; unfold am_b161; split
  all_goals first | decide +kernel | rfl
theorem okc_162 : ∀ L, ok_b (sv_o 162) (am_pr 162).2.1 (sv_k 162) (sv_i 162) (sv_c 162) L (am_b162 L) = true := by
  intro L; unfold am_b162; split
  all_goals first | decide +kernel | rfl
theorem okc_163 : ∀ L, ok_b (sv_o 163) (am_pr 163).2.1 (sv_k 163) (sv_i 163) (sv_c 163) L (am_b163 L) = true := by
  intro L; unfold am_b163; split
  all_goals first | decide +kernel | rfl
theorem okc_164 : ∀ L, ok_b (sv_o 164) (am_pr 164).2.1 (sv_k 164) (sv_i 164) (sv_c 164) L (am_b164 L) = true := by
  intro L; unfold am_b164; split
  all_goals first | decide +kernel | rfl
theorem okc_165 : ∀ L, ok_b (sv_o 165) (am_pr 165).2.1 (sv_k 165) (sv_i 165) (sv_c 165) L (am_b165 L) = true := by
  intro L; unfold am_b165; split
  all_goals first | decide +kernel | rfl
theorem okc_166 : ∀ L, ok_b (sv_o 166) (am_pr 166).2.1 (sv_k 166) (sv_i 166) (sv_c 166) L (am_b166 L) = true := by
  intro L; unfold am_b166; split
  all_goals first | decide +kernel | rfl
theorem okc_167 : ∀ L, ok_b (sv_o 167) (am_pr 167).2.1 (sv_k 167) (sv_i 167) (sv_c 167) L (am_b167 L) = true := by
  intro L; unfold am_b167; split
  all_goals first | decide +kernel | rfl
theorem okc_168 : ∀ L, ok_b (sv_o 168) (am_pr 168).2.1 (sv_k 168) (sv_i 168) (sv_c 168) L (am_b168 L) = true := by
  intro L; unfold am_b168; split
  all_goals first | decide +kernel | rfl
theorem okc_169 : ∀ L, ok_b (sv_o 169) (am_pr 169).2.1 (sv_k 169) (sv_i 169) (sv_c 169) L (am_b169 L) = true := by
  intro L; unfold am_b169; split
  all_goals first | decide +kernel | rfl
theorem okc_170 : ∀ L, ok_b (sv_o 170) (am_pr 170).2.1 (sv_k 170) (sv_i 170) (sv_c 170) L (am_b170 L) = true := by
  intro L; unfold am_b170; split
  all_goals first | decide +kernel | rfl
theorem okc_171 : ∀ L, ok_b (sv_o 171) (am_pr 171).2.1 (sv_k 171) (sv_i 171) (sv_c 171) L (am_b171 L) = true := by
  intro L; unfold am_b171; split
  all_goals first | decide +kernel | rfl
theorem okc_172 : ∀ L, ok_b (sv_o 172) (am_pr 172).2.1 (sv_k 172) (sv_i 172) (sv_c 172) L (am_b172 L) = true := by
  intro L; unfold am_b172; split
  all_goals first | decide +kernel | rfl
theorem okc_173 : ∀ L, ok_b (sv_o 173) (am_pr 173).2.1 (sv_k 173) (sv_i 173) (sv_c 173) L (am_b173 L) = true := by
  intro L; unfold am_b173; split
  all_goals first | decide +kernel | rfl
theorem okc_174 : ∀ L, ok_b (sv_o 174) (am_pr 174).2.1 (sv_k 174) (sv_i 174) (sv_c 174) L (am_b174 L) = true := by
  intro L; unfold am_b174; split
  all_goals first | decide +kernel | rfl
theorem okc_175 : ∀ L, ok_b (sv_o 175) (am_pr 175).2.1 (sv_k 175) (sv_i 175) (sv_c 175) L (am_b175 L) = true := by
  intro L; unfold am_b175; split
  all_goals first | decide +kernel | rfl
theorem okc_176 : ∀ L, ok_b (sv_o 176) (am_pr 176).2.1 (sv_k 176) (sv_i 176) (sv_c 176) L (am_b176 L) = true := by
  intro L; unfold am_b176; split
  all_goals first | decide +kernel | rfl
theorem okc_177 : ∀ L, ok_b (sv_o 177) (am_pr 177).2.1 (sv_k 177) (sv_i 177) (sv_c 177) L (am_b177 L) = true := by
  intro L; unfold am_b177; split
  all_goals first | decide +kernel | rfl
theorem okc_178 : ∀ L, ok_b (sv_o 178) (am_pr 178).2.1 (sv_k 178) (sv_i 178) (sv_c 178) L (am_b178 L) = true := by
  intro L; unfold am_b178; split
  all_goals first | decide +kernel | rfl
theorem okc_179 : ∀ L, ok_b (sv_o 179) (am_pr 179).2.1 (sv_k 179) (sv_i 179) (sv_c 179) L (am_b179 L) = true := by
  intro L; unfold am_b179; split
  all_goals first | decide +kernel | rfl
theorem okc_180 : ∀ L, ok_b (sv_o 180) (am_pr 180).2.1 (sv_k 180) (sv_i 180) (sv_c 180) L (am_b180 L) = true := by
  intro L; unfold am_b180; split
  all_goals first | decide +kernel | rfl
theorem okc_181 : ∀ L, ok_b (sv_o 181) (am_pr 181).2.1 (sv_k 181) (sv_i 181) (sv_c 181) L (am_b181 L) = true := by
  intro L; unfold am_b181; split
  all_goals first | decide +kernel | rfl
theorem okc_182 : ∀ L, ok_b (sv_o 182) (am_pr 182).2.1 (sv_k 182) (sv_i 182) (sv_c 182) L (am_b182 L) = true := by
  intro L; unfold am_b182; split
  all_goals first | decide +kernel | rfl
theorem okc_183 : ∀ L, ok_b (sv_o 183) (am_pr 183).2.1 (sv_k 183) (sv_i 183) (sv_c 183) L (am_b183 L) = true := by
  intro L; unfold am_b183; split
  all_goals first | decide +kernel | rfl
theorem okc_184 : ∀ L, ok_b (sv_o 184) (am_pr 184).2.1 (sv_k 184) (sv_i 184) (sv_c 184) L (am_b184 L) = true := by
  intro L; unfold am_b184; split
  all_goals first | decide +kernel | rfl
theorem okc_185 : ∀ L, ok_b (sv_o 185) (am_pr 185).2.1 (sv_k 185) (sv_i 185) (sv_c 185) L (am_b185 L) = true := by
  intro L; unfold am_b185; split
  all_goals first | decide +kernel | rfl
theorem okc_186 : ∀ L, ok_b (sv_o 186) (am_pr 186).2.1 (sv_k 186) (sv_i 186) (sv_c 186) L (am_b186 L) = true := by
  intro L; unfold am_b186; split
  all_goals first | decide +kernel | rfl
theorem okc_187 : ∀ L, ok_b (sv_o 187) (am_pr 187).2.1 (sv_k 187) (sv_i 187) (sv_c 187) L (am_b187 L) = true := by
  intro L; unfold am_b187; split
  all_goals first | decide +kernel | rfl
theorem okc_188 : ∀ L, ok_b (sv_o 188) (am_pr 188).2.1 (sv_k 188) (sv_i 188) (sv_c 188) L (am_b188 L) = true := by
  intro L; unfold am_b188; split
  all_goals first | decide +kernel | rfl
theorem okc_189 : ∀ L, ok_b (sv_o 189) (am_pr 189).2.1 (sv_k 189) (sv_i 189) (sv_c 189) L (am_b189 L) = true := by
  intro L; unfold am_b189; split
  all_goals first | decide +kernel | rfl
theorem okc_190 : ∀ L, ok_b (sv_o 190) (am_pr 190).2.1 (sv_k 190) (sv_i 190) (sv_c 190) L (am_b190 L) = true := by
  intro L; unfold am_b190; split
  all_goals first | decide +kernel | rfl
theorem okc_191 : ∀ L, ok_b (sv_o 191) (am_pr 191).2.1 (sv_k 191) (sv_i 191) (sv_c 191) L (am_b191 L) = true := by
  intro L; unfold am_b191; split
  all_goals first | decide +kernel | rfl
theorem okc_192 : ∀ L, ok_b (sv_o 192) (am_pr 192).2.1 (sv_k 192) (sv_i 192) (sv_c 192) L (am_b192 L) = true := by
  intro L; unfold am_b192; split
  all_goals first | decide +kernel | rfl
theorem okc_193 : ∀ L, ok_b (sv_o 193) (am_pr 193).2.1 (sv_k 193) (sv_i 193) (sv_c 193) L (am_b193 L) = true := by
  intro L; unfold am_b193; split
  all_goals first | decide +kernel | rfl
theorem okc_194 : ∀ L, ok_b (sv_o 194) (am_pr 194).2.1 (sv_k 194) (sv_i 194) (sv_c 194) L (am_b194 L) = true := by
  intro L; unfold am_b194; split
  all_goals first | decide +kernel | rfl
theorem okc_195 : ∀ L, ok_b (sv_o 195) (am_pr 195).2.1 (sv_k 195) (sv_i 195) (sv_c 195) L (am_b195 L) = true := by
  intro L; unfold am_b195; split
  all_goals first | decide +kernel | rfl
theorem okc_196 : ∀ L, ok_b (sv_o 196) (am_pr 196).2.1 (sv_k 196) (sv_i 196) (sv_c 196) L (am_b196 L) = true := by
  intro L; unfold am_b196; split
  all_goals first | decide +kernel | rfl
theorem okc_197 : ∀ L, ok_b (sv_o 197) (am_pr 197).2.1 (sv_k 197) (sv_i 197) (sv_c 197) L (am_b197 L) = true := by
  intro L; unfold am_b197; split
  all_goals first | decide +kernel | rfl
theorem okc_198 : ∀ L, ok_b (sv_o 198) (am_pr 198).2.1 (sv_k 198) (sv_i 198) (sv_c 198) L (am_b198 L) = true := by
  intro L; unfold am_b198; split
  all_goals first | decide +kernel | rfl
theorem okc_199 : ∀ L, ok_b (sv_o 199) (am_pr 199).2.1 (sv_k 199) (sv_i 199) (sv_c 199) L (am_b199 L) = true := by
  intro L; unfold am_b199; split
  all_goals first | decide +kernel | rfl
theorem okc_200 : ∀ L, ok_b (sv_o 200) (am_pr 200).2.1 (sv_k 200) (sv_i 200) (sv_c 200) L (am_b200 L) = true := by
  intro L; unfold am_b200; split
  all_goals first | decide +kernel | rfl
theorem okc_201 : ∀ L, ok_b (sv_o 201) (am_pr 201).2.1 (sv_k 201) (sv_i 201) (sv_c 201) L (am_b201 L) = true := by
  intro L; unfold am_b201; split
  all_goals first | decide +kernel | rfl
theorem okc_202 : ∀ L, ok_b (sv_o 202) (am_pr 202).2.1 (sv_k 202) (sv_i 202) (sv_c 202) L (am_b202 L) = true := by
  intro L; unfold am_b202; split
  all_goals first | decide +kernel | rfl
theorem okc_203 : ∀ L, ok_b (sv_o 203) (am_pr 203).2.1 (sv_k 203) (sv_i 203) (sv_c 203) L (am_b203 L) = true := by
  intro L; unfold am_b203; split
  all_goals first | decide +kernel | rfl
theorem okc_204 : ∀ L, ok_b (sv_o 204) (am_pr 204).2.1 (sv_k 204) (sv_i 204) (sv_c 204) L (am_b204 L) = true := by
  intro L; unfold am_b204; split
  all_goals first | decide +kernel | rfl
theorem okc_205 : ∀ L, ok_b (sv_o 205) (am_pr 205).2.1 (sv_k 205) (sv_i 205) (sv_c 205) L (am_b205 L) = true := by
  intro L; unfold am_b205; split
  all_goals first | decide +kernel | rfl
theorem okc_206 : ∀ L, ok_b (sv_o 206) (am_pr 206).2.1 (sv_k 206) (sv_i 206) (sv_c 206) L (am_b206 L) = true := by
  intro L; unfold am_b206; split
  all_goals first | decide +kernel | rfl
theorem okc_207 : ∀ L, ok_b (sv_o 207) (am_pr 207).2.1 (sv_k 207) (sv_i 207) (sv_c 207) L (am_b207 L) = true := by
  intro L; unfold am_b207; split
  all_goals first | decide +kernel | rfl
theorem okc_208 : ∀ L, ok_b (sv_o 208) (am_pr 208).2.1 (sv_k 208) (sv_i 208) (sv_c 208) L (am_b208 L) = true := by
  intro L; unfold am_b208; split
  all_goals first | decide +kernel | rfl
theorem okc_209 : ∀ L, ok_b (sv_o 209) (am_pr 209).2.1 (sv_k 209) (sv_i 209) (sv_c 209) L (am_b209 L) = true := by
  intro L; unfold am_b209; split
  all_goals first | decide +kernel | rfl
theorem okc_210 : ∀ L, ok_b (sv_o 210) (am_pr 210).2.1 (sv_k 210) (sv_i 210) (sv_c 210) L (am_b210 L) = true := by
  intro L; unfold am_b210; split
  all_goals first | decide +kernel | rfl
theorem okc_211 : ∀ L, ok_b (sv_o 211) (am_pr 211).2.1 (sv_k 211) (sv_i 211) (sv_c 211) L (am_b211 L) = true := by
  intro L; unfold am_b211; split
  all_goals first | decide +kernel | rfl
theorem okc_212 : ∀ L, ok_b (sv_o 212) (am_pr 212).2.1 (sv_k 212) (sv_i 212) (sv_c 212) L (am_b212 L) = true := by
  intro L; unfold am_b212; split
  all_goals first | decide +kernel | rfl
theorem okc_213 : ∀ L, ok_b (sv_o 213) (am_pr 213).2.1 (sv_k 213) (sv_i 213) (sv_c 213) L (am_b213 L) = true := by
  intro L; unfold am_b213; split
  all_goals first | decide +kernel | rfl
theorem okc_214 : ∀ L, ok_b (sv_o 214) (am_pr 214).2.1 (sv_k 214) (sv_i 214) (sv_c 214) L (am_b214 L) = true := by
  intro L; unfold am_b214; split
  all_goals first | decide +kernel | rfl
theorem okc_215 : ∀ L, ok_b (sv_o 215) (am_pr 215).2.1 (sv_k 215) (sv_i 215) (sv_c 215) L (am_b215 L) = true := by
  intro L; unfold am_b215; split
  all_goals first | decide +kernel | rfl
theorem okc_216 : ∀ L, ok_b (sv_o 216) (am_pr 216).2.1 (sv_k 216) (sv_i 216) (sv_c 216) L (am_b216 L) = true := by
  intro L; unfold am_b216; split
  all_goals first | decide +kernel | rfl
theorem okc_217 : ∀ L, ok_b (sv_o 217) (am_pr 217).2.1 (sv_k 217) (sv_i 217) (sv_c 217) L (am_b217 L) = true := by
  intro L; unfold am_b217; split
  all_goals first | decide +kernel | rfl
theorem okc_218 : ∀ L, ok_b (sv_o 218) (am_pr 218).2.1 (sv_k 218) (sv_i 218) (sv_c 218) L (am_b218 L) = true := by
  intro L; unfold am_b218; split
  all_goals first | decide +kernel | rfl
theorem okc_219 : ∀ L, ok_b (sv_o 219) (am_pr 219).2.1 (sv_k 219) (sv_i 219) (sv_c 219) L (am_b219 L) = true := by
  intro L; unfold am_b219; split
  all_goals first | decide +kernel | rfl
theorem okc_220 : ∀ L, ok_b (sv_o 220) (am_pr 220).2.1 (sv_k 220) (sv_i 220) (sv_c 220) L (am_b220 L) = true := by
  intro L; unfold am_b220; split
  all_goals first | decide +kernel | rfl
theorem okc_221 : ∀ L, ok_b (sv_o 221) (am_pr 221).2.1 (sv_k 221) (sv_i 221) (sv_c 221) L (am_b221 L) = true := by
  intro L; unfold am_b221; split
  all_goals first | decide +kernel | rfl
theorem okc_222 : ∀ L, ok_b (sv_o 222) (am_pr 222).2.1 (sv_k 222) (sv_i 222) (sv_c 222) L (am_b222 L) = true := by
  intro L; unfold am_b222; split
  all_goals first | decide +kernel | rfl
theorem okc_223 : ∀ L, ok_b (sv_o 223) (am_pr 223).2.1 (sv_k 223) (sv_i 223) (sv_c 223) L (am_b223 L) = true := by
  intro L; unfold am_b223; split
  all_goals first | decide +kernel | rfl
theorem okc_224 : ∀ L, ok_b (sv_o 224) (am_pr 224).2.1 (sv_k 224) (sv_i 224) (sv_c 224) L (am_b224 L) = true := by
  intro L; unfold am_b224; split
  all_goals first | decide +kernel | rfl
theorem okc_225 : ∀ L, ok_b (sv_o 225) (am_pr 225).2.1 (sv_k 225) (sv_i 225) (sv_c 225) L (am_b225 L) = true := by
  intro L; unfold am_b225; split
  all_goals first | decide +kernel | rfl
theorem okc_226 : ∀ L, ok_b (sv_o 226) (am_pr 226).2.1 (sv_k 226) (sv_i 226) (sv_c 226) L (am_b226 L) = true := by
  intro L; unfold am_b226; split
  all_goals first | decide +kernel | rfl
theorem okc_227 : ∀ L, ok_b (sv_o 227) (am_pr 227).2.1 (sv_k 227) (sv_i 227) (sv_c 227) L (am_b227 L) = true := by
  intro L; unfold am_b227; split
  all_goals first | decide +kernel | rfl
theorem okc_228 : ∀ L, ok_b (sv_o 228) (am_pr 228).2.1 (sv_k 228) (sv_i 228) (sv_c 228) L (am_b228 L) = true := by
  intro L; unfold am_b228; split
  all_goals first | decide +kernel | rfl
theorem okc_229 : ∀ L, ok_b (sv_o 229) (am_pr 229).2.1 (sv_k 229) (sv_i 229) (sv_c 229) L (am_b229 L) = true := by
  intro L; unfold am_b229; split
  all_goals first | decide +kernel | rfl
theorem okc_230 : ∀ L, ok_b (sv_o 230) (am_pr 230).2.1 (sv_k 230) (sv_i 230) (sv_c 230) L (am_b230 L) = true := by
  intro L; unfold am_b230; split
  all_goals first | decide +kernel | rfl
theorem okc_231 : ∀ L, ok_b (sv_o 231) (am_pr 231).2.1 (sv_k 231) (sv_i 231) (sv_c 231) L (am_b231 L) = true := by
  intro L; unfold am_b231; split
  all_goals first | decide +kernel | rfl
theorem okc_232 : ∀ L, ok_b (sv_o 232) (am_pr 232).2.1 (sv_k 232) (sv_i 232) (sv_c 232) L (am_b232 L) = true := by
  intro L; unfold am_b232; split
  all_goals first | decide +kernel | rfl
theorem okc_233 : ∀ L, ok_b (sv_o 233) (am_pr 233).2.1 (sv_k 233) (sv_i 233) (sv_c 233) L (am_b233 L) = true := by
  intro L; unfold am_b233; split
  all_goals first | decide +kernel | rfl
set_option maxRecDepth 100000 in
theorem okc_a0 : ∀ y ∈ [0, 1, 2, 3, 4, 5, 6, 7, 8, 9, 10, 11, 12, 13, 14, 15, 16, 17, 18, 19, 20, 21, 22, 23, 24, 25, 26, 27, 28, 29, 30, 31, 32, 33, 34, 35, 36, 37, 38, 39], ∀ L, ok_b (sv_o y) (am_pr y).2.1 (sv_k y) (sv_i y) (sv_c y) L ((am_pr y).1 L) = true := List.forall_mem_cons.mpr ⟨okc_0, List.forall_mem_cons.mpr ⟨okc_1, List.forall_mem_cons.mpr ⟨okc_2, List.forall_mem_cons.mpr ⟨okc_3, List.forall_mem_cons.mpr ⟨okc_4, List.forall_mem_cons.mpr ⟨okc_5, List.forall_mem_cons.mpr ⟨okc_6, List.forall_mem_cons.mpr ⟨okc_7, List.forall_mem_cons.mpr ⟨okc_8, List.forall_mem_cons.mpr ⟨okc_9, List.forall_mem_cons.mpr ⟨okc_10, List.forall_mem_cons.mpr ⟨okc_11, List.forall_mem_cons.mpr ⟨okc_12, List.forall_mem_cons.mpr ⟨okc_13, List.forall_mem_cons.mpr ⟨okc_14, List.forall_mem_cons.mpr ⟨okc_15, List.forall_mem_cons.mpr ⟨okc_16, List.forall_mem_cons.mpr ⟨okc_17, List.forall_mem_cons.mpr ⟨okc_18, List.forall_mem_cons.mpr ⟨okc_19, List.forall_mem_cons.mpr ⟨okc_20, List.forall_mem_cons.mpr ⟨okc_21, List.forall_mem_cons.mpr ⟨okc_22, List.forall_mem_cons.mpr ⟨okc_23, List.forall_mem_cons.mpr ⟨okc_24, List.forall_mem_cons.mpr ⟨okc_25, List.forall_mem_cons.mpr ⟨okc_26, List.forall_mem_cons.mpr ⟨okc_27, List.forall_mem_cons.mpr ⟨okc_28, List.forall_mem_cons.mpr ⟨okc_29, List.forall_mem_cons.mpr ⟨okc_30, List.forall_mem_cons.mpr ⟨okc_31, List.forall_mem_cons.mpr ⟨okc_32, List.forall_mem_cons.mpr ⟨okc_33, List.forall_mem_cons.mpr ⟨okc_34, List.forall_mem_cons.mpr ⟨okc_35, List.forall_mem_cons.mpr ⟨okc_36, List.forall_mem_cons.mpr ⟨okc_37, List.forall_mem_cons.mpr ⟨okc_38, List.forall_mem_cons.mpr ⟨okc_39, fun _ h => absurd h List.not_mem_nil⟩⟩⟩⟩⟩⟩⟩⟩⟩⟩⟩⟩⟩⟩⟩⟩⟩⟩⟩⟩⟩⟩⟩⟩⟩⟩⟩⟩⟩⟩⟩⟩⟩⟩⟩⟩⟩⟩⟩⟩
set_option maxRecDepth 100000 in
theorem okc_a40 : ∀ y ∈ [40, 41, 42, 43, 44, 45, 46, 47, 48, 49, 50, 51, 52, 53, 54, 55, 56, 57, 58, 59, 60, 61, 62, 63, 64, 65, 66, 67, 68, 69, 70, 71, 72, 73, 74, 75, 76, 77, 78, 79], ∀ L, ok_b (sv_o y) (am_pr y).2.1 (sv_k y) (sv_i y) (sv_c y) L ((am_pr y).1 L) = true := List.forall_mem_cons.mpr ⟨okc_40, List.forall_mem_cons.mpr ⟨okc_41, List.forall_mem_cons.mpr ⟨okc_42, List.forall_mem_cons.mpr ⟨okc_43, List.forall_mem_cons.mpr ⟨okc_44, List.forall_mem_cons.mpr ⟨okc_45, List.forall_mem_cons.mpr ⟨okc_46, List.forall_mem_cons.mpr ⟨okc_47, List.forall_mem_cons.mpr ⟨okc_48, List.forall_mem_cons.mpr ⟨okc_49, List.forall_mem_cons.mpr ⟨okc_50, List.forall_mem_cons.mpr ⟨okc_51, List.forall_mem_cons.mpr ⟨okc_52, List.forall_mem_cons.mpr ⟨okc_53, List.forall_mem_cons.mpr ⟨okc_54, List.forall_mem_cons.mpr ⟨okc_55, List.forall_mem_cons.mpr ⟨okc_56, List.forall_mem_cons.mpr ⟨okc_57, List.forall_mem_cons.mpr ⟨okc_58, List.forall_mem_cons.mpr ⟨okc_59, List.forall_mem_cons.mpr ⟨okc_60, List.forall_mem_cons.mpr ⟨okc_61, List.forall_mem_cons.mpr ⟨okc_62, List.forall_mem_cons.mpr ⟨okc_63, List.forall_mem_cons.mpr ⟨okc_64, List.forall_mem_cons.mpr ⟨okc_65, List.forall_mem_cons.mpr ⟨okc_66, List.forall_mem_cons.mpr ⟨okc_67, List.forall_mem_cons.mpr ⟨okc_68, List.forall_mem_cons.mpr ⟨okc_69, List.forall_mem_cons.mpr ⟨okc_70, List.forall_mem_cons.mpr ⟨okc_71, List.forall_mem_cons.mpr ⟨okc_72, List.forall_mem_cons.mpr ⟨okc_73, List.forall_mem_cons.mpr ⟨okc_74, List.forall_mem_cons.mpr ⟨okc_75, List.forall_mem_cons.mpr ⟨okc_76, List.forall_mem_cons.mpr ⟨okc_77, List.forall_mem_cons.mpr ⟨okc_78, List.forall_mem_cons.mpr ⟨okc_79, fun _ h => absurd h List.not_mem_nil⟩⟩⟩⟩⟩⟩⟩⟩⟩⟩⟩⟩⟩⟩⟩⟩⟩⟩⟩⟩⟩⟩⟩⟩⟩⟩⟩⟩⟩⟩⟩⟩⟩⟩⟩⟩⟩⟩⟩⟩
set_option maxRecDepth 100000 in
theorem okc_a80 : ∀ y ∈ [80, 81, 82, 83, 84, 85, 86, 87, 88, 89, 90, 91, 92, 93, 94, 95, 96, 97, 98, 99, 100, 101, 102, 103, 104, 105, 106, 107, 108, 109, 110, 111, 112, 113, 114, 115, 116, 117, 118, 119], ∀ L, ok_b (sv_o y) (am_pr y).2.1 (sv_k y) (sv_i y) (sv_c y) L ((am_pr y).1 L) = true := List.forall_mem_cons.mpr ⟨okc_80, List.forall_mem_cons.mpr ⟨okc_81, List.forall_mem_cons.mpr ⟨okc_82, List.forall_mem_cons.mpr ⟨okc_83, List.forall_mem_cons.mpr ⟨okc_84, List.forall_mem_cons.mpr ⟨okc_85, List.forall_mem_cons.mpr ⟨okc_86, List.forall_mem_cons.mpr ⟨okc_87, List.forall_mem_cons.mpr ⟨okc_88, List.forall_mem_cons.mpr ⟨okc_89, List.forall_mem_cons.mpr ⟨okc_90, List.forall_mem_cons.mpr ⟨okc_91, List.forall_mem_cons.mpr ⟨okc_92, List.forall_mem_cons.mpr ⟨okc_93, List.forall_mem_cons.mpr ⟨okc_94, List.forall_mem_cons.mpr ⟨okc_95, List.forall_mem_cons.mpr ⟨okc_96, List.forall_mem_cons.mpr ⟨okc_97, List.forall_mem_cons.mpr ⟨okc_98, List.forall_mem_cons.mpr ⟨okc_99, List.forall_mem_cons.mpr ⟨okc_100, List.forall_mem_cons.mpr ⟨okc_101, List.forall_mem_cons.mpr ⟨okc_102, List.forall_mem_cons.mpr ⟨okc_103, List.forall_mem_cons.mpr ⟨okc_104, List.forall_mem_cons.mpr ⟨okc_105, List.forall_mem_cons.mpr ⟨okc_106, List.forall_mem_cons.mpr ⟨okc_107, List.forall_mem_cons.mpr ⟨okc_108, List.forall_mem_cons.mpr ⟨okc_109, List.forall_mem_cons.mpr ⟨okc_110, List.forall_mem_cons.mpr ⟨okc_111, List.forall_mem_cons.mpr ⟨okc_112, List.forall_mem_cons.mpr ⟨okc_113, List.forall_mem_cons.mpr ⟨okc_114, List.forall_mem_cons.mpr ⟨okc_115, List.forall_mem_cons.mpr ⟨okc_116, List.forall_mem_cons.mpr ⟨okc_117, List.forall_mem_cons.mpr ⟨okc_118, List.forall_mem_cons.mpr ⟨okc_119, fun _ h => absurd h List.not_mem_nil⟩⟩⟩⟩⟩⟩⟩⟩⟩⟩⟩⟩⟩⟩⟩⟩⟩⟩⟩⟩⟩⟩⟩⟩⟩⟩⟩⟩⟩⟩⟩⟩⟩⟩⟩⟩⟩⟩⟩⟩
set_option maxRecDepth 100000 in
theorem okc_a120 : ∀ y ∈ [120, 121, 122, 123, 124, 125, 126, 127, 128, 129, 130, 131, 132, 133, 134, 135, 136, 137, 138, 139, 140, 141, 142, 143, 144, 145, 146, 147, 148, 149, 150, 151, 152, 153, 154, 155, 156, 157, 158, 159], ∀ L, ok_b (sv_o y) (am_pr y).2.1 (sv_k y) (sv_i y) (sv_c y) L ((am_pr y).1 L) = true := List.forall_mem_cons.mpr ⟨okc_120, List.forall_mem_cons.mpr ⟨okc_121, List.forall_mem_cons.mpr ⟨okc_122, List.forall_mem_cons.mpr ⟨okc_123, List.forall_mem_cons.mpr ⟨okc_124, List.forall_mem_cons.mpr ⟨okc_125, List.forall_mem_cons.mpr ⟨okc_126, List.forall_mem_cons.mpr ⟨okc_127, List.forall_mem_cons.mpr ⟨okc_128, List.forall_mem_cons.mpr ⟨okc_129, List.forall_mem_cons.mpr ⟨okc_130, List.forall_mem_cons.mpr ⟨okc_131, List.forall_mem_cons.mpr ⟨okc_132, List.forall_mem_cons.mpr ⟨okc_133, List.forall_mem_cons.mpr ⟨okc_134, List.forall_mem_cons.mpr ⟨okc_135, List.forall_mem_cons.mpr ⟨okc_136, List.forall_mem_cons.mpr ⟨okc_137, List.forall_mem_cons.mpr ⟨okc_138, List.forall_mem_cons.mpr ⟨okc_139, List.forall_mem_cons.mpr ⟨okc_140, List.forall_mem_cons.mpr ⟨okc_141, List.forall_mem_cons.mpr ⟨okc_142, List.forall_mem_cons.mpr ⟨okc_143, List.forall_mem_cons.mpr ⟨okc_144, List.forall_mem_cons.mpr ⟨okc_145, List.forall_mem_cons.mpr ⟨okc_146, List.forall_mem_cons.mpr ⟨okc_147, List.forall_mem_cons.mpr ⟨okc_148, List.forall_mem_cons.mpr ⟨okc_149, List.forall_mem_cons.mpr ⟨okc_150, List.forall_mem_cons.mpr ⟨okc_151, List.forall_mem_cons.mpr ⟨okc_152, List.forall_mem_cons.mpr ⟨okc_153, List.forall_mem_cons.mpr ⟨okc_154, List.forall_mem_cons.mpr ⟨okc_155, List.forall_mem_cons.mpr ⟨okc_156, List.forall_mem_cons.mpr ⟨okc_157, List.forall_mem_cons.mpr ⟨okc_158, List.forall_mem_cons.mpr ⟨okc_159, fun _ h => absurd h List.not_mem_nil⟩⟩⟩⟩⟩⟩⟩⟩⟩⟩⟩⟩⟩⟩⟩⟩⟩⟩⟩⟩⟩⟩⟩⟩⟩⟩⟩⟩⟩⟩⟩⟩⟩⟩⟩⟩⟩⟩⟩⟩
set_option maxRecDepth 100000 in
theorem okc_a160 : ∀ y ∈ [160, 161, 162, 163, 164, 165, 166, 167, 168, 169, 170, 171, 172, 173, 174, 175, 176, 177, 178, 179, 180, 181, 182, 183, 184, 185, 186, 187, 188, 189, 190, 191, 192, 193, 194, 195, 196, 197, 198, 199], ∀ L, ok_b (sv_o y) (am_pr y).2.1 (sv_k y) (sv_i y) (sv_c y) L ((am_pr y).1 L) = true := List.forall_mem_cons.mpr ⟨okc_160, List.forall_mem_cons.mpr ⟨okc_161, List.forall_mem_cons.mpr ⟨okc_162, List.forall_mem_cons.mpr ⟨okc_163, List.forall_mem_cons.mpr ⟨okc_164, List.forall_mem_cons.mpr ⟨okc_165, List.forall_mem_cons.mpr ⟨okc_166, List.forall_mem_cons.mpr ⟨okc_167, List.forall_mem_cons.mpr ⟨okc_168, List.forall_mem_cons.mpr ⟨okc_169, List.forall_mem_cons.mpr ⟨okc_170, List.forall_mem_cons.mpr ⟨okc_171, List.forall_mem_cons.mpr ⟨okc_172, List.forall_mem_cons.mpr ⟨okc_173, List.forall_mem_cons.mpr ⟨okc_174, List.forall_mem_cons.mpr ⟨okc_175, List.forall_mem_cons.mpr ⟨okc_176, List.forall_mem_cons.mpr ⟨okc_177, List.forall_mem_cons.mpr ⟨okc_178, List.forall_mem_cons.mpr ⟨okc_179, List.forall_mem_cons.mpr ⟨okc_180, List.forall_mem_cons.mpr ⟨okc_181, List.forall_mem_cons.mpr ⟨okc_182, List.forall_mem_cons.mpr ⟨okc_183, List.forall_mem_cons.mpr ⟨okc_184, List.forall_mem_cons.mpr ⟨okc_185, List.forall_mem_cons.mpr ⟨okc_186, List.forall_mem_cons.mpr ⟨okc_187, List.forall_mem_cons.mpr ⟨okc_188, List.forall_mem_cons.mpr ⟨okc_189, List.forall_mem_cons.mpr ⟨okc_190, List.forall_mem_cons.mpr ⟨okc_191, List.forall_mem_cons.mpr ⟨okc_192, List.forall_mem_cons.mpr ⟨okc_193, List.forall_mem_cons.mpr ⟨okc_194, List.forall_mem_cons.mpr ⟨okc_195, List.forall_mem_cons.mpr ⟨okc_196, List.forall_mem_cons.mpr ⟨okc_197, List.forall_mem_cons.mpr ⟨okc_198, List.forall_mem_cons.mpr ⟨okc_199, fun _ h => absurd h List.not_mem_nil⟩⟩⟩⟩⟩⟩⟩⟩⟩⟩⟩⟩⟩⟩⟩⟩⟩⟩⟩⟩⟩⟩⟩⟩⟩⟩⟩⟩⟩⟩⟩⟩⟩⟩⟩⟩⟩⟩⟩⟩
set_option maxRecDepth 100000 in
theorem okc_a200 : ∀ y ∈ [200, 201, 202, 203, 204, 205, 206, 207, 208, 209, 210, 211, 212, 213, 214, 215, 216, 217, 218, 219, 220, 221, 222, 223, 224, 225, 226, 227, 228, 229, 230, 231, 232, 233], ∀ L, ok_b (sv_o y) (am_pr y).2.1 (sv_k y) (sv_i y) (sv_c y) L ((am_pr y).1 L) = true := List.forall_mem_cons.mpr ⟨okc_200, List.forall_mem_cons.mpr ⟨okc_201, List.forall_mem_cons.mpr ⟨okc_202, List.forall_mem_cons.mpr ⟨okc_203, List.forall_mem_cons.mpr ⟨okc_204, List.forall_mem_cons.mpr ⟨okc_205, List.forall_mem_cons.mpr ⟨okc_206, List.forall_mem_cons.mpr ⟨okc_207, List.forall_mem_cons.mpr ⟨okc_208, List.forall_mem_cons.mpr ⟨okc_209, List.forall_mem_cons.mpr ⟨okc_210, List.forall_mem_cons.mpr ⟨okc_211, List.forall_mem_cons.mpr ⟨okc_212, List.forall_mem_cons.mpr ⟨okc_213, List.forall_mem_cons.mpr ⟨okc_214, List.forall_mem_cons.mpr ⟨okc_215, List.forall_mem_cons.mpr ⟨okc_216, List.forall_mem_cons.mpr ⟨okc_217, List.forall_mem_cons.mpr ⟨okc_218, List.forall_mem_cons.mpr ⟨okc_219, List.forall_mem_cons.mpr ⟨okc_220, List.forall_mem_cons.mpr ⟨okc_221, List.forall_mem_cons.mpr ⟨okc_222, List.forall_mem_cons.mpr ⟨okc_223, List.forall_mem_cons.mpr ⟨okc_224, List.forall_mem_cons.mpr ⟨okc_225, List.forall_mem_cons.mpr ⟨okc_226, List.forall_mem_cons.mpr ⟨okc_227, List.forall_mem_cons.mpr ⟨okc_228, List.forall_mem_cons.mpr ⟨okc_229, List.forall_mem_cons.mpr ⟨okc_230, List.forall_mem_cons.mpr ⟨okc_231, List.forall_mem_cons.mpr ⟨okc_232, List.forall_mem_cons.mpr ⟨okc_233, fun _ h => absurd h List.not_mem_nil⟩⟩⟩⟩⟩⟩⟩⟩⟩⟩⟩⟩⟩⟩⟩⟩⟩⟩⟩⟩⟩⟩⟩⟩⟩⟩⟩⟩⟩⟩⟩⟩⟩⟩
theorem okc (y : Nat) (h : y < 234) : ∀ L, ok_b (sv_o y) (am_pr y).2.1 (sv_k y) (sv_i y) (sv_c y) L ((am_pr y).1 L) = true := by
  by_cases h0 : y < 40
  · exact okc_a0 y (by simp only [List.mem_cons, List.not_mem_nil, or_false]; omega)
  by_cases h40 : y < 80
  · exact okc_a40 y (by simp only [List.mem_cons, List.not_mem_nil, or_false]; omega)
  by_cases h80 : y < 120
  · exact okc_a80 y (by simp only [List.mem_cons, List.not_mem_nil, or_false]; omega)
  by_cases h120 : y < 160
  · exact okc_a120 y (by simp only [List.mem_cons, List.not_mem_nil, or_false]; omega)
  by_cases h160 : y < 200
  · exact okc_a160 y (by simp only [List.mem_cons, List.not_mem_nil, or_false]; omega)
  by_cases h200 : y < 234
  · exact okc_a200 y (by simp only [List.mem_cons, List.not_mem_nil, or_false]; omega)
  omega
theorem okc_L : ∀ L, ok_b 12 4 1 false code L (am_bL L) = true := by
  intro L; unfold am_bL; split
  all_goals first | decide +kernel | rfl
