/-! the tables of instructions against the bytes -/
def cpF (z : Nat) : Nat := cond (Nat.blt z 50503) (cond (Nat.blt z 30302) (cond (Nat.blt z 701) (cond (Nat.blt z 4) (cond (Nat.blt z 2) (cond (Nat.blt z 1) (cond (Nat.beq z 0) (12) (0)) (cond (Nat.beq z 1) (21) (0))) (cond (Nat.blt z 3) (cond (Nat.beq z 2) (28) (0)) (cond (Nat.beq z 3) (32) (0)))) (cond (Nat.blt z 6) (cond (Nat.blt z 5) (cond (Nat.beq z 4) (36) (0)) (cond (Nat.beq z 5) (39) (0))) (cond (Nat.blt z 604) (cond (Nat.beq z 6) (42) (0)) (cond (Nat.blt z 700) (cond (Nat.beq z 604) (69) (0)) (cond (Nat.beq z 700) (45) (0)))))) (cond (Nat.blt z 10701) (cond (Nat.blt z 10100) (cond (Nat.blt z 703) (cond (Nat.beq z 701) (66) (0)) (cond (Nat.beq z 703) (99) (0))) (cond (Nat.blt z 10604) (cond (Nat.beq z 10100) (11) (0)) (cond (Nat.blt z 10700) (cond (Nat.beq z 10604) (31) (0)) (cond (Nat.beq z 10700) (25) (0))))) (cond (Nat.blt z 20201) (cond (Nat.blt z 20200) (cond (Nat.beq z 10701) (45) (0)) (cond (Nat.beq z 20200) (11) (0))) (cond (Nat.blt z 30300) (cond (Nat.beq z 20201) (18) (0)) (cond (Nat.blt z 30301) (cond (Nat.beq z 30300) (9) (0)) (cond (Nat.beq z 30301) (15) (0))))))) (cond (Nat.blt z 40405) (cond (Nat.blt z 40400) (cond (Nat.blt z 30304) (cond (Nat.blt z 30303) (cond (Nat.beq z 30302) (18) (0)) (cond (Nat.beq z 30303) (44) (0))) (cond (Nat.blt z 30305) (cond (Nat.beq z 30304) (41) (0)) (cond (Nat.blt z 40305) (cond (Nat.beq z 30305) (37) (0)) (cond (Nat.beq z 40305) (62) (0))))) (cond (Nat.blt z 40402) (cond (Nat.blt z 40401) (cond (Nat.beq z 40400) (11) (0)) (cond (Nat.beq z 40401) (19) (0))) (cond (Nat.blt z 40403) (cond (Nat.beq z 40402) (23) (0)) (cond (Nat.blt z 40404) (cond (Nat.beq z 40403) (27) (0)) (cond (Nat.beq z 40404) (30) (0)))))) (cond (Nat.blt z 40704) (cond (Nat.blt z 40604) (cond (Nat.blt z 40406) (cond (Nat.beq z 40405) (41) (0)) (cond (Nat.beq z 40406) (45) (0))) (cond (Nat.blt z 40701) (cond (Nat.beq z 40604) (69) (0)) (cond (Nat.blt z 40703) (cond (Nat.beq z 40701) (65) (0)) (cond (Nat.beq z 40703) (48) (0))))) (cond (Nat.blt z 50500) (cond (Nat.blt z 40705) (cond (Nat.beq z 40704) (90) (0)) (cond (Nat.beq z 40705) (101) (0))) (cond (Nat.blt z 50501) (cond (Nat.beq z 50500) (9) (0)) (cond (Nat.blt z 50502) (cond (Nat.beq z 50501) (15) (0)) (cond (Nat.beq z 50502) (18) (0)))))))) (cond (Nat.blt z 80303) (cond (Nat.blt z 70701) (cond (Nat.blt z 60602) (cond (Nat.blt z 50701) (cond (Nat.blt z 50700) (cond (Nat.beq z 50503) (21) (0)) (cond (Nat.beq z 50700) (71) (0))) (cond (Nat.blt z 60600) (cond (Nat.beq z 50701) (37) (0)) (cond (Nat.blt z 60601) (cond (Nat.beq z 60600) (24) (0)) (cond (Nat.beq z 60601) (28) (0))))) (cond (Nat.blt z 60604) (cond (Nat.blt z 60603) (cond (Nat.beq z 60602) (9) (0)) (cond (Nat.beq z 60603) (15) (0))) (cond (Nat.blt z 70604) (cond (Nat.beq z 60604) (31) (0)) (cond (Nat.blt z 70700) (cond (Nat.beq z 70604) (41) (0)) (cond (Nat.beq z 70700) (14) (0)))))) (cond (Nat.blt z 80003) (cond (Nat.blt z 70703) (cond (Nat.blt z 70702) (cond (Nat.beq z 70701) (20) (0)) (cond (Nat.beq z 70702) (23) (0))) (cond (Nat.blt z 70704) (cond (Nat.beq z 70703) (30) (0)) (cond (Nat.blt z 70705) (cond (Nat.beq z 70704) (34) (0)) (cond (Nat.beq z 70705) (38) (0))))) (cond (Nat.blt z 80005) (cond (Nat.blt z 80004) (cond (Nat.beq z 80003) (249) (0)) (cond (Nat.beq z 80004) (252) (0))) (cond (Nat.blt z 80006) (cond (Nat.beq z 80005) (255) (0)) (cond (Nat.blt z 80201) (cond (Nat.beq z 80006) (258) (0)) (cond (Nat.beq z 80201) (268) (0))))))) (cond (Nat.blt z 80800) (cond (Nat.blt z 80700) (cond (Nat.blt z 80305) (cond (Nat.blt z 80304) (cond (Nat.beq z 80303) (306) (0)) (cond (Nat.beq z 80304) (307) (0))) (cond (Nat.blt z 80503) (cond (Nat.beq z 80305) (310) (0)) (cond (Nat.blt z 80604) (cond (Nat.beq z 80503) (202) (0)) (cond (Nat.beq z 80604) (99) (0))))) (cond (Nat.blt z 80703) (cond (Nat.blt z 80701) (cond (Nat.beq z 80700) (95) (0)) (cond (Nat.beq z 80701) (104) (0))) (cond (Nat.blt z 80704) (cond (Nat.beq z 80703) (159) (0)) (cond (Nat.blt z 80705) (cond (Nat.beq z 80704) (153) (0)) (cond (Nat.beq z 80705) (156) (0)))))) (cond (Nat.blt z 80805) (cond (Nat.blt z 80802) (cond (Nat.blt z 80801) (cond (Nat.beq z 80800) (9) (0)) (cond (Nat.beq z 80801) (72) (0))) (cond (Nat.blt z 80803) (cond (Nat.beq z 80802) (16) (0)) (cond (Nat.blt z 80804) (cond (Nat.beq z 80803) (20) (0)) (cond (Nat.beq z 80804) (26) (0))))) (cond (Nat.blt z 80807) (cond (Nat.blt z 80806) (cond (Nat.beq z 80805) (33) (0)) (cond (Nat.beq z 80806) (40) (0))) (cond (Nat.blt z 80808) (cond (Nat.beq z 80807) (47) (0)) (cond (Nat.blt z 80809) (cond (Nat.beq z 80808) (54) (0)) (cond (Nat.beq z 80809) (61) (0))))))))
def cpM (z : Nat) : Nat := cond (Nat.blt z 80034) (cond (Nat.blt z 50017) (cond (Nat.blt z 10106) (cond (Nat.blt z 55) (cond (Nat.blt z 11) (cond (Nat.blt z 5) (cond (Nat.blt z 3) (cond (Nat.beq z 2) (76) (0)) (cond (Nat.blt z 4) (cond (Nat.beq z 3) (62) (0)) (cond (Nat.beq z 4) (80) (0)))) (cond (Nat.blt z 8) (cond (Nat.beq z 5) (20) (0)) (cond (Nat.blt z 9) (cond (Nat.beq z 8) (59) (0)) (cond (Nat.beq z 9) (88) (0))))) (cond (Nat.blt z 44) (cond (Nat.blt z 32) (cond (Nat.beq z 11) (96) (0)) (cond (Nat.blt z 33) (cond (Nat.beq z 32) (27) (0)) (cond (Nat.beq z 33) (107) (0)))) (cond (Nat.blt z 45) (cond (Nat.beq z 44) (49) (0)) (cond (Nat.blt z 51) (cond (Nat.beq z 45) (72) (0)) (cond (Nat.beq z 51) (11) (0)))))) (cond (Nat.blt z 10009) (cond (Nat.blt z 61) (cond (Nat.blt z 56) (cond (Nat.beq z 55) (84) (0)) (cond (Nat.blt z 59) (cond (Nat.beq z 56) (92) (0)) (cond (Nat.beq z 59) (103) (0)))) (cond (Nat.blt z 900) (cond (Nat.beq z 61) (55) (0)) (cond (Nat.blt z 10006) (cond (Nat.beq z 900) (3) (0)) (cond (Nat.beq z 10006) (15) (0))))) (cond (Nat.blt z 10046) (cond (Nat.blt z 10010) (cond (Nat.beq z 10009) (37) (0)) (cond (Nat.blt z 10045) (cond (Nat.beq z 10010) (48) (0)) (cond (Nat.beq z 10045) (41) (0)))) (cond (Nat.blt z 10101) (cond (Nat.beq z 10046) (56) (0)) (cond (Nat.blt z 10103) (cond (Nat.beq z 10101) (60) (0)) (cond (Nat.beq z 10103) (52) (0))))))) (cond (Nat.blt z 40029) (cond (Nat.blt z 30017) (cond (Nat.blt z 20051) (cond (Nat.blt z 10900) (cond (Nat.beq z 10106) (19) (0)) (cond (Nat.blt z 20014) (cond (Nat.beq z 10900) (3) (0)) (cond (Nat.beq z 20014) (22) (0)))) (cond (Nat.blt z 20061) (cond (Nat.beq z 20051) (17) (0)) (cond (Nat.blt z 20900) (cond (Nat.beq z 20061) (25) (0)) (cond (Nat.beq z 20900) (3) (0))))) (cond (Nat.blt z 30902) (cond (Nat.blt z 30106) (cond (Nat.beq z 30017) (27) (0)) (cond (Nat.blt z 30900) (cond (Nat.beq z 30106) (21) (0)) (cond (Nat.beq z 30900) (3) (0)))) (cond (Nat.blt z 40016) (cond (Nat.beq z 30902) (31) (0)) (cond (Nat.blt z 40025) (cond (Nat.beq z 40016) (33) (0)) (cond (Nat.beq z 40025) (54) (0)))))) (cond (Nat.blt z 40039) (cond (Nat.blt z 40032) (cond (Nat.blt z 40030) (cond (Nat.beq z 40029) (58) (0)) (cond (Nat.blt z 40031) (cond (Nat.beq z 40030) (78) (0)) (cond (Nat.beq z 40031) (74) (0)))) (cond (Nat.blt z 40034) (cond (Nat.beq z 40032) (34) (0)) (cond (Nat.blt z 40038) (cond (Nat.beq z 40034) (86) (0)) (cond (Nat.beq z 40038) (93) (0))))) (cond (Nat.blt z 40106) (cond (Nat.blt z 40053) (cond (Nat.beq z 40039) (104) (0)) (cond (Nat.blt z 40059) (cond (Nat.beq z 40053) (97) (0)) (cond (Nat.beq z 40059) (82) (0)))) (cond (Nat.blt z 40902) (cond (Nat.blt z 40900) (cond (Nat.beq z 40106) (35) (0)) (cond (Nat.beq z 40900) (3) (0))) (cond (Nat.blt z 50007) (cond (Nat.beq z 40902) (108) (0)) (cond (Nat.beq z 50007) (25) (0)))))))) (cond (Nat.blt z 70049) (cond (Nat.blt z 60900) (cond (Nat.blt z 50045) (cond (Nat.blt z 50033) (cond (Nat.blt z 50020) (cond (Nat.beq z 50017) (65) (0)) (cond (Nat.blt z 50024) (cond (Nat.beq z 50020) (74) (0)) (cond (Nat.beq z 50024) (77) (0)))) (cond (Nat.blt z 50035) (cond (Nat.beq z 50033) (49) (0)) (cond (Nat.blt z 50036) (cond (Nat.beq z 50035) (59) (0)) (cond (Nat.beq z 50036) (62) (0))))) (cond (Nat.blt z 50901) (cond (Nat.blt z 50106) (cond (Nat.beq z 50045) (43) (0)) (cond (Nat.blt z 50900) (cond (Nat.beq z 50106) (53) (0)) (cond (Nat.beq z 50900) (3) (0)))) (cond (Nat.blt z 60041) (cond (Nat.beq z 50901) (31) (0)) (cond (Nat.blt z 60042) (cond (Nat.beq z 60041) (38) (0)) (cond (Nat.beq z 60042) (34) (0)))))) (cond (Nat.blt z 70022) (cond (Nat.blt z 70016) (cond (Nat.blt z 60901) (cond (Nat.beq z 60900) (3) (0)) (cond (Nat.blt z 60902) (cond (Nat.beq z 60901) (18) (0)) (cond (Nat.beq z 60902) (42) (0)))) (cond (Nat.blt z 70020) (cond (Nat.beq z 70016) (29) (0)) (cond (Nat.blt z 70021) (cond (Nat.beq z 70020) (70) (0)) (cond (Nat.beq z 70021) (56) (0))))) (cond (Nat.blt z 70046) (cond (Nat.blt z 70025) (cond (Nat.beq z 70022) (63) (0)) (cond (Nat.blt z 70040) (cond (Nat.beq z 70025) (85) (0)) (cond (Nat.beq z 70040) (11) (0)))) (cond (Nat.blt z 70047) (cond (Nat.beq z 70046) (48) (0)) (cond (Nat.blt z 70048) (cond (Nat.beq z 70047) (44) (0)) (cond (Nat.beq z 70048) (52) (0))))))) (cond (Nat.blt z 80013) (cond (Nat.blt z 70902) (cond (Nat.blt z 70060) (cond (Nat.blt z 70050) (cond (Nat.beq z 70049) (60) (0)) (cond (Nat.blt z 70058) (cond (Nat.beq z 70050) (81) (0)) (cond (Nat.beq z 70058) (74) (0)))) (cond (Nat.blt z 70101) (cond (Nat.beq z 70060) (88) (0)) (cond (Nat.blt z 70900) (cond (Nat.beq z 70101) (78) (0)) (cond (Nat.beq z 70900) (3) (0))))) (cond (Nat.blt z 80005) (cond (Nat.blt z 80000) (cond (Nat.beq z 70902) (64) (0)) (cond (Nat.blt z 80001) (cond (Nat.beq z 80000) (60) (0)) (cond (Nat.beq z 80001) (246) (0)))) (cond (Nat.blt z 80008) (cond (Nat.beq z 80005) (32) (0)) (cond (Nat.blt z 80012) (cond (Nat.beq z 80008) (92) (0)) (cond (Nat.beq z 80012) (25) (0)))))) (cond (Nat.blt z 80023) (cond (Nat.blt z 80018) (cond (Nat.blt z 80015) (cond (Nat.beq z 80013) (85) (0)) (cond (Nat.blt z 80016) (cond (Nat.beq z 80015) (271) (0)) (cond (Nat.beq z 80016) (46) (0)))) (cond (Nat.blt z 80019) (cond (Nat.beq z 80018) (322) (0)) (cond (Nat.blt z 80020) (cond (Nat.beq z 80019) (325) (0)) (cond (Nat.beq z 80020) (328) (0))))) (cond (Nat.blt z 80027) (cond (Nat.blt z 80025) (cond (Nat.beq z 80023) (162) (0)) (cond (Nat.blt z 80026) (cond (Nat.beq z 80025) (335) (0)) (cond (Nat.beq z 80026) (53) (0)))) (cond (Nat.blt z 80032) (cond (Nat.blt z 80028) (cond (Nat.beq z 80027) (235) (0)) (cond (Nat.beq z 80028) (241) (0))) (cond (Nat.blt z 80033) (cond (Nat.beq z 80032) (39) (0)) (cond (Nat.beq z 80033) (264) (0))))))))) (cond (Nat.blt z 100069) (cond (Nat.blt z 80089) (cond (Nat.blt z 80051) (cond (Nat.blt z 80043) (cond (Nat.blt z 80039) (cond (Nat.blt z 80037) (cond (Nat.beq z 80034) (339) (0)) (cond (Nat.blt z 80038) (cond (Nat.beq z 80037) (207) (0)) (cond (Nat.beq z 80038) (210) (0)))) (cond (Nat.blt z 80041) (cond (Nat.beq z 80039) (216) (0)) (cond (Nat.blt z 80042) (cond (Nat.beq z 80041) (107) (0)) (cond (Nat.beq z 80042) (176) (0))))) (cond (Nat.blt z 80046) (cond (Nat.blt z 80044) (cond (Nat.beq z 80043) (116) (0)) (cond (Nat.blt z 80045) (cond (Nat.beq z 80044) (122) (0)) (cond (Nat.beq z 80045) (261) (0)))) (cond (Nat.blt z 80047) (cond (Nat.beq z 80046) (195) (0)) (cond (Nat.blt z 80048) (cond (Nat.beq z 80047) (303) (0)) (cond (Nat.beq z 80048) (300) (0)))))) (cond (Nat.blt z 80057) (cond (Nat.blt z 80054) (cond (Nat.blt z 80052) (cond (Nat.beq z 80051) (15) (0)) (cond (Nat.blt z 80053) (cond (Nat.beq z 80052) (289) (0)) (cond (Nat.beq z 80053) (143) (0)))) (cond (Nat.blt z 80055) (cond (Nat.beq z 80054) (147) (0)) (cond (Nat.blt z 80056) (cond (Nat.beq z 80055) (128) (0)) (cond (Nat.beq z 80056) (134) (0))))) (cond (Nat.blt z 80060) (cond (Nat.blt z 80058) (cond (Nat.beq z 80057) (138) (0)) (cond (Nat.blt z 80059) (cond (Nat.beq z 80058) (319) (0)) (cond (Nat.beq z 80059) (223) (0)))) (cond (Nat.blt z 80087) (cond (Nat.beq z 80060) (89) (0)) (cond (Nat.blt z 80088) (cond (Nat.beq z 80087) (81) (0)) (cond (Nat.beq z 80088) (292) (0))))))) (cond (Nat.blt z 80101) (cond (Nat.blt z 80095) (cond (Nat.blt z 80092) (cond (Nat.blt z 80090) (cond (Nat.beq z 80089) (296) (0)) (cond (Nat.blt z 80091) (cond (Nat.beq z 80090) (167) (0)) (cond (Nat.beq z 80091) (313) (0)))) (cond (Nat.blt z 80093) (cond (Nat.beq z 80092) (316) (0)) (cond (Nat.blt z 80094) (cond (Nat.beq z 80093) (172) (0)) (cond (Nat.beq z 80094) (190) (0))))) (cond (Nat.blt z 80098) (cond (Nat.blt z 80096) (cond (Nat.beq z 80095) (331) (0)) (cond (Nat.blt z 80097) (cond (Nat.beq z 80096) (198) (0)) (cond (Nat.beq z 80097) (230) (0)))) (cond (Nat.blt z 80099) (cond (Nat.beq z 80098) (220) (0)) (cond (Nat.blt z 80100) (cond (Nat.beq z 80099) (351) (0)) (cond (Nat.beq z 80100) (343) (0)))))) (cond (Nat.blt z 100062) (cond (Nat.blt z 80104) (cond (Nat.blt z 80102) (cond (Nat.beq z 80101) (227) (0)) (cond (Nat.blt z 80103) (cond (Nat.beq z 80102) (182) (0)) (cond (Nat.beq z 80103) (186) (0)))) (cond (Nat.blt z 80105) (cond (Nat.beq z 80104) (354) (0)) (cond (Nat.blt z 80900) (cond (Nat.beq z 80105) (346) (0)) (cond (Nat.beq z 80900) (3) (0))))) (cond (Nat.blt z 100065) (cond (Nat.blt z 100063) (cond (Nat.beq z 100062) (159) (0)) (cond (Nat.blt z 100064) (cond (Nat.beq z 100063) (9) (0)) (cond (Nat.beq z 100064) (150) (0)))) (cond (Nat.blt z 100067) (cond (Nat.blt z 100066) (cond (Nat.beq z 100065) (156) (0)) (cond (Nat.beq z 100066) (21) (0))) (cond (Nat.blt z 100068) (cond (Nat.beq z 100067) (28) (0)) (cond (Nat.beq z 100068) (31) (0)))))))) (cond (Nat.blt z 100114) (cond (Nat.blt z 100081) (cond (Nat.blt z 100075) (cond (Nat.blt z 100072) (cond (Nat.blt z 100070) (cond (Nat.beq z 100069) (34) (0)) (cond (Nat.blt z 100071) (cond (Nat.beq z 100070) (38) (0)) (cond (Nat.beq z 100071) (41) (0)))) (cond (Nat.blt z 100073) (cond (Nat.beq z 100072) (44) (0)) (cond (Nat.blt z 100074) (cond (Nat.beq z 100073) (47) (0)) (cond (Nat.beq z 100074) (50) (0))))) (cond (Nat.blt z 100078) (cond (Nat.blt z 100076) (cond (Nat.beq z 100075) (54) (0)) (cond (Nat.blt z 100077) (cond (Nat.beq z 100076) (57) (0)) (cond (Nat.beq z 100077) (60) (0)))) (cond (Nat.blt z 100079) (cond (Nat.beq z 100078) (63) (0)) (cond (Nat.blt z 100080) (cond (Nat.beq z 100079) (144) (0)) (cond (Nat.beq z 100080) (138) (0)))))) (cond (Nat.blt z 100107) (cond (Nat.blt z 100084) (cond (Nat.blt z 100082) (cond (Nat.beq z 100081) (66) (0)) (cond (Nat.blt z 100083) (cond (Nat.beq z 100082) (69) (0)) (cond (Nat.beq z 100083) (141) (0)))) (cond (Nat.blt z 100085) (cond (Nat.beq z 100084) (72) (0)) (cond (Nat.blt z 100086) (cond (Nat.beq z 100085) (131) (0)) (cond (Nat.beq z 100086) (75) (0))))) (cond (Nat.blt z 100110) (cond (Nat.blt z 100108) (cond (Nat.beq z 100107) (170) (0)) (cond (Nat.blt z 100109) (cond (Nat.beq z 100108) (153) (0)) (cond (Nat.beq z 100109) (98) (0)))) (cond (Nat.blt z 100112) (cond (Nat.blt z 100111) (cond (Nat.beq z 100110) (160) (0)) (cond (Nat.beq z 100111) (127) (0))) (cond (Nat.blt z 100113) (cond (Nat.beq z 100112) (181) (0)) (cond (Nat.beq z 100113) (184) (0))))))) (cond (Nat.blt z 100126) (cond (Nat.blt z 100120) (cond (Nat.blt z 100117) (cond (Nat.blt z 100115) (cond (Nat.beq z 100114) (187) (0)) (cond (Nat.blt z 100116) (cond (Nat.beq z 100115) (164) (0)) (cond (Nat.beq z 100116) (167) (0)))) (cond (Nat.blt z 100118) (cond (Nat.beq z 100117) (147) (0)) (cond (Nat.blt z 100119) (cond (Nat.beq z 100118) (191) (0)) (cond (Nat.beq z 100119) (174) (0))))) (cond (Nat.blt z 100123) (cond (Nat.blt z 100121) (cond (Nat.beq z 100120) (178) (0)) (cond (Nat.blt z 100122) (cond (Nat.beq z 100121) (102) (0)) (cond (Nat.beq z 100122) (104) (0)))) (cond (Nat.blt z 100124) (cond (Nat.beq z 100123) (107) (0)) (cond (Nat.blt z 100125) (cond (Nat.beq z 100124) (109) (0)) (cond (Nat.beq z 100125) (111) (0)))))) (cond (Nat.blt z 100132) (cond (Nat.blt z 100129) (cond (Nat.blt z 100127) (cond (Nat.beq z 100126) (113) (0)) (cond (Nat.blt z 100128) (cond (Nat.beq z 100127) (115) (0)) (cond (Nat.beq z 100128) (83) (0)))) (cond (Nat.blt z 100130) (cond (Nat.beq z 100129) (88) (0)) (cond (Nat.blt z 100131) (cond (Nat.beq z 100130) (91) (0)) (cond (Nat.beq z 100131) (94) (0))))) (cond (Nat.blt z 100135) (cond (Nat.blt z 100133) (cond (Nat.beq z 100132) (96) (0)) (cond (Nat.blt z 100134) (cond (Nat.beq z 100133) (117) (0)) (cond (Nat.beq z 100134) (119) (0)))) (cond (Nat.blt z 100137) (cond (Nat.blt z 100136) (cond (Nat.beq z 100135) (121) (0)) (cond (Nat.beq z 100136) (123) (0))) (cond (Nat.blt z 100138) (cond (Nat.beq z 100137) (125) (0)) (cond (Nat.beq z 100138) (135) (0)))))))))
def cpN (z : Nat) : Nat := cond (Nat.blt z 80000) (cond (Nat.blt z 40003) (cond (Nat.blt z 7) (cond (Nat.blt z 5) (cond (Nat.beq z 1) (18) (0)) (cond (Nat.beq z 5) (25) (0))) (cond (Nat.blt z 20007) (cond (Nat.beq z 7) (9) (0)) (cond (Nat.beq z 20007) (9) (0)))) (cond (Nat.blt z 70003) (cond (Nat.blt z 40005) (cond (Nat.beq z 40003) (9) (0)) (cond (Nat.beq z 40005) (17) (0))) (cond (Nat.blt z 70006) (cond (Nat.beq z 70003) (27) (0)) (cond (Nat.beq z 70006) (9) (0))))) (cond (Nat.blt z 80004) (cond (Nat.blt z 80002) (cond (Nat.blt z 80001) (cond (Nat.beq z 80000) (58) (0)) (cond (Nat.beq z 80001) (30) (0))) (cond (Nat.blt z 80003) (cond (Nat.beq z 80002) (23) (0)) (cond (Nat.beq z 80003) (44) (0)))) (cond (Nat.blt z 80007) (cond (Nat.blt z 80005) (cond (Nat.beq z 80004) (51) (0)) (cond (Nat.beq z 80005) (37) (0))) (cond (Nat.blt z 100008) (cond (Nat.beq z 80007) (13) (0)) (cond (Nat.beq z 100008) (10) (0)))))
def cpA (z : Nat) : Nat := cond (Nat.blt z 40014) (cond (Nat.beq z 20013) (9) (0)) (cond (Nat.blt z 40015) (cond (Nat.beq z 40014) (9) (0)) (cond (Nat.beq z 40015) (17) (0)))
def cpK (o v : Nat) : Nat := cond (Nat.blt o 12) (cond (Nat.beq o 10) (cond (Nat.blt v 2147483647) (cond (Nat.blt v 1000000) (cond (Nat.blt v 107) (cond (Nat.beq v 31) (81) (0)) (cond (Nat.beq v 107) (79) (0))) (cond (Nat.blt v 916318735) (cond (Nat.beq v 1000000) (177) (0)) (cond (Nat.beq v 916318735) (7) (0)))) (cond (Nat.blt v 4289967294) (cond (Nat.blt v 4289967293) (cond (Nat.beq v 2147483647) (8) (0)) (cond (Nat.beq v 4289967293) (27) (0))) (cond (Nat.blt v 4289967295) (cond (Nat.beq v 4289967294) (20) (0)) (cond (Nat.beq v 4289967295) (17) (0))))) (0)) (cond (Nat.beq o 12) (cond (Nat.blt v 858993459) (cond (Nat.beq v 252645135) (267) (0)) (cond (Nat.blt v 1431655765) (cond (Nat.beq v 858993459) (266) (0)) (cond (Nat.beq v 1431655765) (265) (0)))) (0))
def FL9 : List (Nat × Nat) := [(0, 0), (0, 1), (0, 2), (0, 3), (0, 4), (0, 5), (0, 6), (0, 604), (0, 700), (0, 701), (0, 703), (1, 100), (1, 604), (1, 700), (1, 701), (2, 200), (2, 201), (3, 300), (3, 301), (3, 302), (3, 303), (3, 304), (3, 305), (4, 305), (4, 400), (4, 401), (4, 402), (4, 403), (4, 404), (4, 405), (4, 406), (4, 604), (4, 701), (4, 703), (4, 704), (4, 705), (5, 500), (5, 501), (5, 502), (5, 503), (5, 700), (5, 701), (6, 600), (6, 601), (6, 602), (6, 603), (6, 604), (7, 604), (7, 700), (7, 701), (7, 702), (7, 703), (7, 704), (7, 705), (8, 3), (8, 4), (8, 5), (8, 6), (8, 201), (8, 303), (8, 304), (8, 305), (8, 503), (8, 604), (8, 700), (8, 701), (8, 703), (8, 704), (8, 705), (8, 800), (8, 801), (8, 802), (8, 803), (8, 804), (8, 805), (8, 806), (8, 807), (8, 808), (8, 809)]
set_option maxRecDepth 100000 in
theorem FL9_ok : ∀ z ∈ FL9, FOK z.1 (cpF (z.1 * 10000 + z.2)) z.2 := List.forall_mem_cons.mpr ⟨fok_0_0, List.forall_mem_cons.mpr ⟨fok_0_1, List.forall_mem_cons.mpr ⟨fok_0_2, List.forall_mem_cons.mpr ⟨fok_0_3, List.forall_mem_cons.mpr ⟨fok_0_4, List.forall_mem_cons.mpr ⟨fok_0_5, List.forall_mem_cons.mpr ⟨fok_0_6, List.forall_mem_cons.mpr ⟨fok_0_604, List.forall_mem_cons.mpr ⟨fok_0_700, List.forall_mem_cons.mpr ⟨fok_0_701, List.forall_mem_cons.mpr ⟨fok_0_703, List.forall_mem_cons.mpr ⟨fok_1_100, List.forall_mem_cons.mpr ⟨fok_1_604, List.forall_mem_cons.mpr ⟨fok_1_700, List.forall_mem_cons.mpr ⟨fok_1_701, List.forall_mem_cons.mpr ⟨fok_2_200, List.forall_mem_cons.mpr ⟨fok_2_201, List.forall_mem_cons.mpr ⟨fok_3_300, List.forall_mem_cons.mpr ⟨fok_3_301, List.forall_mem_cons.mpr ⟨fok_3_302, List.forall_mem_cons.mpr ⟨fok_3_303, List.forall_mem_cons.mpr ⟨fok_3_304, List.forall_mem_cons.mpr ⟨fok_3_305, List.forall_mem_cons.mpr ⟨fok_4_305, List.forall_mem_cons.mpr ⟨fok_4_400, List.forall_mem_cons.mpr ⟨fok_4_401, List.forall_mem_cons.mpr ⟨fok_4_402, List.forall_mem_cons.mpr ⟨fok_4_403, List.forall_mem_cons.mpr ⟨fok_4_404, List.forall_mem_cons.mpr ⟨fok_4_405, List.forall_mem_cons.mpr ⟨fok_4_406, List.forall_mem_cons.mpr ⟨fok_4_604, List.forall_mem_cons.mpr ⟨fok_4_701, List.forall_mem_cons.mpr ⟨fok_4_703, List.forall_mem_cons.mpr ⟨fok_4_704, List.forall_mem_cons.mpr ⟨fok_4_705, List.forall_mem_cons.mpr ⟨fok_5_500, List.forall_mem_cons.mpr ⟨fok_5_501, List.forall_mem_cons.mpr ⟨fok_5_502, List.forall_mem_cons.mpr ⟨fok_5_503, List.forall_mem_cons.mpr ⟨fok_5_700, List.forall_mem_cons.mpr ⟨fok_5_701, List.forall_mem_cons.mpr ⟨fok_6_600, List.forall_mem_cons.mpr ⟨fok_6_601, List.forall_mem_cons.mpr ⟨fok_6_602, List.forall_mem_cons.mpr ⟨fok_6_603, List.forall_mem_cons.mpr ⟨fok_6_604, List.forall_mem_cons.mpr ⟨fok_7_604, List.forall_mem_cons.mpr ⟨fok_7_700, List.forall_mem_cons.mpr ⟨fok_7_701, List.forall_mem_cons.mpr ⟨fok_7_702, List.forall_mem_cons.mpr ⟨fok_7_703, List.forall_mem_cons.mpr ⟨fok_7_704, List.forall_mem_cons.mpr ⟨fok_7_705, List.forall_mem_cons.mpr ⟨fok_8_3, List.forall_mem_cons.mpr ⟨fok_8_4, List.forall_mem_cons.mpr ⟨fok_8_5, List.forall_mem_cons.mpr ⟨fok_8_6, List.forall_mem_cons.mpr ⟨fok_8_201, List.forall_mem_cons.mpr ⟨fok_8_303, List.forall_mem_cons.mpr ⟨fok_8_304, List.forall_mem_cons.mpr ⟨fok_8_305, List.forall_mem_cons.mpr ⟨fok_8_503, List.forall_mem_cons.mpr ⟨fok_8_604, List.forall_mem_cons.mpr ⟨fok_8_700, List.forall_mem_cons.mpr ⟨fok_8_701, List.forall_mem_cons.mpr ⟨fok_8_703, List.forall_mem_cons.mpr ⟨fok_8_704, List.forall_mem_cons.mpr ⟨fok_8_705, List.forall_mem_cons.mpr ⟨fok_8_800, List.forall_mem_cons.mpr ⟨fok_8_801, List.forall_mem_cons.mpr ⟨fok_8_802, List.forall_mem_cons.mpr ⟨fok_8_803, List.forall_mem_cons.mpr ⟨fok_8_804, List.forall_mem_cons.mpr ⟨fok_8_805, List.forall_mem_cons.mpr ⟨fok_8_806, List.forall_mem_cons.mpr ⟨fok_8_807, List.forall_mem_cons.mpr ⟨fok_8_808, List.forall_mem_cons.mpr ⟨fok_8_809, fun _ h => absurd h List.not_mem_nil⟩⟩⟩⟩⟩⟩⟩⟩⟩⟩⟩⟩⟩⟩⟩⟩⟩⟩⟩⟩⟩⟩⟩⟩⟩⟩⟩⟩⟩⟩⟩⟩⟩⟩⟩⟩⟩⟩⟩⟩⟩⟩⟩⟩⟩⟩⟩⟩⟩⟩⟩⟩⟩⟩⟩⟩⟩⟩⟩⟩⟩⟩⟩⟩⟩⟩⟩⟩⟩⟩⟩⟩⟩⟩⟩⟩⟩⟩⟩
def ML9 : List (Nat × Nat) := [(0, 2), (0, 3), (0, 4), (0, 5), (0, 8), (0, 9), (0, 11), (0, 32), (0, 33), (0, 44), (0, 45), (0, 51), (0, 55), (0, 56), (0, 59), (0, 61), (1, 6), (1, 9), (1, 10), (1, 45), (1, 46), (1, 101), (1, 103), (1, 106), (2, 14), (2, 51), (2, 61), (3, 17), (3, 106), (4, 16), (4, 25), (4, 29), (4, 30), (4, 31), (4, 32), (4, 34), (4, 38), (4, 39), (4, 53), (4, 59), (4, 106), (5, 7), (5, 17), (5, 20), (5, 24), (5, 33), (5, 35), (5, 36), (5, 45), (5, 106), (6, 41), (6, 42), (7, 16), (7, 20), (7, 21), (7, 22), (7, 25), (7, 40), (7, 46), (7, 47), (7, 48), (7, 49), (7, 50), (7, 58), (7, 60), (7, 101), (8, 0), (8, 1), (8, 5), (8, 8), (8, 12), (8, 13), (8, 15), (8, 16), (8, 18), (8, 19), (8, 20), (8, 23), (8, 25), (8, 26), (8, 27), (8, 28), (8, 32), (8, 33), (8, 34), (8, 37), (8, 38), (8, 39), (8, 41), (8, 42), (8, 43), (8, 44), (8, 45), (8, 46), (8, 47), (8, 48), (8, 51), (8, 52), (8, 53), (8, 54), (8, 55), (8, 56), (8, 57), (8, 58), (8, 59), (8, 60), (8, 87), (8, 88), (8, 89), (8, 90), (8, 91), (8, 92), (8, 93), (8, 94), (8, 95), (8, 96), (8, 97), (8, 98), (8, 99), (8, 100), (8, 101), (8, 102), (8, 103), (8, 104), (8, 105), (10, 62), (10, 63), (10, 64), (10, 65), (10, 66), (10, 67), (10, 68), (10, 69), (10, 70), (10, 71), (10, 72), (10, 73), (10, 74), (10, 75), (10, 76), (10, 77), (10, 78), (10, 79), (10, 80), (10, 81), (10, 82), (10, 83), (10, 84), (10, 85), (10, 86), (10, 107), (10, 108), (10, 109), (10, 110), (10, 111), (10, 112), (10, 113), (10, 114), (10, 115), (10, 116), (10, 117), (10, 118), (10, 119), (10, 120), (10, 121), (10, 122), (10, 123), (10, 124), (10, 125), (10, 126), (10, 127), (10, 128), (10, 129), (10, 130), (10, 131), (10, 132), (10, 133), (10, 134), (10, 135), (10, 136), (10, 137), (10, 138)]
set_option maxRecDepth 100000 in
theorem ML9_ok : ∀ z ∈ ML9, LOK z.1 (cpM (z.1 * 10000 + z.2)) z.2 := List.forall_mem_cons.mpr ⟨lok_0_2, List.forall_mem_cons.mpr ⟨lok_0_3, List.forall_mem_cons.mpr ⟨lok_0_4, List.forall_mem_cons.mpr ⟨lok_0_5, List.forall_mem_cons.mpr ⟨lok_0_8, List.forall_mem_cons.mpr ⟨lok_0_9, List.forall_mem_cons.mpr ⟨lok_0_11, List.forall_mem_cons.mpr ⟨lok_0_32, List.forall_mem_cons.mpr ⟨lok_0_33, List.forall_mem_cons.mpr ⟨lok_0_44, List.forall_mem_cons.mpr ⟨lok_0_45, List.forall_mem_cons.mpr ⟨lok_0_51, List.forall_mem_cons.mpr ⟨lok_0_55, List.forall_mem_cons.mpr ⟨lok_0_56, List.forall_mem_cons.mpr ⟨lok_0_59, List.forall_mem_cons.mpr ⟨lok_0_61, List.forall_mem_cons.mpr ⟨lok_1_6, List.forall_mem_cons.mpr ⟨lok_1_9, List.forall_mem_cons.mpr ⟨lok_1_10, List.forall_mem_cons.mpr ⟨lok_1_45, List.forall_mem_cons.mpr ⟨lok_1_46, List.forall_mem_cons.mpr ⟨lok_1_101, List.forall_mem_cons.mpr ⟨lok_1_103, List.forall_mem_cons.mpr ⟨lok_1_106, List.forall_mem_cons.mpr ⟨lok_2_14, List.forall_mem_cons.mpr ⟨lok_2_51, List.forall_mem_cons.mpr ⟨lok_2_61, List.forall_mem_cons.mpr ⟨lok_3_17, List.forall_mem_cons.mpr ⟨lok_3_106, List.forall_mem_cons.mpr ⟨lok_4_16, List.forall_mem_cons.mpr ⟨lok_4_25, List.forall_mem_cons.mpr ⟨lok_4_29, List.forall_mem_cons.mpr ⟨lok_4_30, List.forall_mem_cons.mpr ⟨lok_4_31, List.forall_mem_cons.mpr ⟨lok_4_32, List.forall_mem_cons.mpr ⟨lok_4_34, List.forall_mem_cons.mpr ⟨lok_4_38, List.forall_mem_cons.mpr ⟨lok_4_39, List.forall_mem_cons.mpr ⟨lok_4_53, List.forall_mem_cons.mpr ⟨lok_4_59, List.forall_mem_cons.mpr ⟨lok_4_106, List.forall_mem_cons.mpr ⟨lok_5_7, List.forall_mem_cons.mpr ⟨lok_5_17, List.forall_mem_cons.mpr ⟨lok_5_20, List.forall_mem_cons.mpr ⟨lok_5_24, List.forall_mem_cons.mpr ⟨lok_5_33, List.forall_mem_cons.mpr ⟨lok_5_35, List.forall_mem_cons.mpr ⟨lok_5_36, List.forall_mem_cons.mpr ⟨lok_5_45, List.forall_mem_cons.mpr ⟨lok_5_106, List.forall_mem_cons.mpr ⟨lok_6_41, List.forall_mem_cons.mpr ⟨lok_6_42, List.forall_mem_cons.mpr ⟨lok_7_16, List.forall_mem_cons.mpr ⟨lok_7_20, List.forall_mem_cons.mpr ⟨lok_7_21, List.forall_mem_cons.mpr ⟨lok_7_22, List.forall_mem_cons.mpr ⟨lok_7_25, List.forall_mem_cons.mpr ⟨lok_7_40, List.forall_mem_cons.mpr ⟨lok_7_46, List.forall_mem_cons.mpr ⟨lok_7_47, List.forall_mem_cons.mpr ⟨lok_7_48, List.forall_mem_cons.mpr ⟨lok_7_49, List.forall_mem_cons.mpr ⟨lok_7_50, List.forall_mem_cons.mpr ⟨lok_7_58, List.forall_mem_cons.mpr ⟨lok_7_60, List.forall_mem_cons.mpr ⟨lok_7_101, List.forall_mem_cons.mpr ⟨lok_8_0, List.forall_mem_cons.mpr ⟨lok_8_1, List.forall_mem_cons.mpr ⟨lok_8_5, List.forall_mem_cons.mpr ⟨lok_8_8, List.forall_mem_cons.mpr ⟨lok_8_12, List.forall_mem_cons.mpr ⟨lok_8_13, List.forall_mem_cons.mpr ⟨lok_8_15, List.forall_mem_cons.mpr ⟨lok_8_16, List.forall_mem_cons.mpr ⟨lok_8_18, List.forall_mem_cons.mpr ⟨lok_8_19, List.forall_mem_cons.mpr ⟨lok_8_20, List.forall_mem_cons.mpr ⟨lok_8_23, List.forall_mem_cons.mpr ⟨lok_8_25, List.forall_mem_cons.mpr ⟨lok_8_26, List.forall_mem_cons.mpr ⟨lok_8_27, List.forall_mem_cons.mpr ⟨lok_8_28, List.forall_mem_cons.mpr ⟨lok_8_32, List.forall_mem_cons.mpr ⟨lok_8_33, List.forall_mem_cons.mpr ⟨lok_8_34, List.forall_mem_cons.mpr ⟨lok_8_37, List.forall_mem_cons.mpr ⟨lok_8_38, List.forall_mem_cons.mpr ⟨lok_8_39, List.forall_mem_cons.mpr ⟨lok_8_41, List.forall_mem_cons.mpr ⟨lok_8_42, List.forall_mem_cons.mpr ⟨lok_8_43, List.forall_mem_cons.mpr ⟨lok_8_44, List.forall_mem_cons.mpr ⟨lok_8_45, List.forall_mem_cons.mpr ⟨lok_8_46, List.forall_mem_cons.mpr ⟨lok_8_47, List.forall_mem_cons.mpr ⟨lok_8_48, List.forall_mem_cons.mpr ⟨lok_8_51, List.forall_mem_cons.mpr ⟨lok_8_52, List.forall_mem_cons.mpr ⟨lok_8_53, List.forall_mem_cons.mpr ⟨lok_8_54, List.forall_mem_cons.mpr ⟨lok_8_55, List.forall_mem_cons.mpr ⟨lok_8_56, List.forall_mem_cons.mpr ⟨lok_8_57, List.forall_mem_cons.mpr ⟨lok_8_58, List.forall_mem_cons.mpr ⟨lok_8_59, List.forall_mem_cons.mpr ⟨lok_8_60, List.forall_mem_cons.mpr ⟨lok_8_87, List.forall_mem_cons.mpr ⟨lok_8_88, List.forall_mem_cons.mpr ⟨lok_8_89, List.forall_mem_cons.mpr ⟨lok_8_90, List.forall_mem_cons.mpr ⟨lok_8_91, List.forall_mem_cons.mpr ⟨lok_8_92, List.forall_mem_cons.mpr ⟨lok_8_93, List.forall_mem_cons.mpr ⟨lok_8_94, List.forall_mem_cons.mpr ⟨lok_8_95, List.forall_mem_cons.mpr ⟨lok_8_96, List.forall_mem_cons.mpr ⟨lok_8_97, List.forall_mem_cons.mpr ⟨lok_8_98, List.forall_mem_cons.mpr ⟨lok_8_99, List.forall_mem_cons.mpr ⟨lok_8_100, List.forall_mem_cons.mpr ⟨lok_8_101, List.forall_mem_cons.mpr ⟨lok_8_102, List.forall_mem_cons.mpr ⟨lok_8_103, List.forall_mem_cons.mpr ⟨lok_8_104, List.forall_mem_cons.mpr ⟨lok_8_105, List.forall_mem_cons.mpr ⟨lok_10_62, List.forall_mem_cons.mpr ⟨lok_10_63, List.forall_mem_cons.mpr ⟨lok_10_64, List.forall_mem_cons.mpr ⟨lok_10_65, List.forall_mem_cons.mpr ⟨lok_10_66, List.forall_mem_cons.mpr ⟨lok_10_67, List.forall_mem_cons.mpr ⟨lok_10_68, List.forall_mem_cons.mpr ⟨lok_10_69, List.forall_mem_cons.mpr ⟨lok_10_70, List.forall_mem_cons.mpr ⟨lok_10_71, List.forall_mem_cons.mpr ⟨lok_10_72, List.forall_mem_cons.mpr ⟨lok_10_73, List.forall_mem_cons.mpr ⟨lok_10_74, List.forall_mem_cons.mpr ⟨lok_10_75, List.forall_mem_cons.mpr ⟨lok_10_76, List.forall_mem_cons.mpr ⟨lok_10_77, List.forall_mem_cons.mpr ⟨lok_10_78, List.forall_mem_cons.mpr ⟨lok_10_79, List.forall_mem_cons.mpr ⟨lok_10_80, List.forall_mem_cons.mpr ⟨lok_10_81, List.forall_mem_cons.mpr ⟨lok_10_82, List.forall_mem_cons.mpr ⟨lok_10_83, List.forall_mem_cons.mpr ⟨lok_10_84, List.forall_mem_cons.mpr ⟨lok_10_85, List.forall_mem_cons.mpr ⟨lok_10_86, List.forall_mem_cons.mpr ⟨lok_10_107, List.forall_mem_cons.mpr ⟨lok_10_108, List.forall_mem_cons.mpr ⟨lok_10_109, List.forall_mem_cons.mpr ⟨lok_10_110, List.forall_mem_cons.mpr ⟨lok_10_111, List.forall_mem_cons.mpr ⟨lok_10_112, List.forall_mem_cons.mpr ⟨lok_10_113, List.forall_mem_cons.mpr ⟨lok_10_114, List.forall_mem_cons.mpr ⟨lok_10_115, List.forall_mem_cons.mpr ⟨lok_10_116, List.forall_mem_cons.mpr ⟨lok_10_117, List.forall_mem_cons.mpr ⟨lok_10_118, List.forall_mem_cons.mpr ⟨lok_10_119, List.forall_mem_cons.mpr ⟨lok_10_120, List.forall_mem_cons.mpr ⟨lok_10_121, List.forall_mem_cons.mpr ⟨lok_10_122, List.forall_mem_cons.mpr ⟨lok_10_123, List.forall_mem_cons.mpr ⟨lok_10_124, List.forall_mem_cons.mpr ⟨lok_10_125, List.forall_mem_cons.mpr ⟨lok_10_126, List.forall_mem_cons.mpr ⟨lok_10_127, List.forall_mem_cons.mpr ⟨lok_10_128, List.forall_mem_cons.mpr ⟨lok_10_129, List.forall_mem_cons.mpr ⟨lok_10_130, List.forall_mem_cons.mpr ⟨lok_10_131, List.forall_mem_cons.mpr ⟨lok_10_132, List.forall_mem_cons.mpr ⟨lok_10_133, List.forall_mem_cons.mpr ⟨lok_10_134, List.forall_mem_cons.mpr ⟨lok_10_135, List.forall_mem_cons.mpr ⟨lok_10_136, List.forall_mem_cons.mpr ⟨lok_10_137, List.forall_mem_cons.mpr ⟨lok_10_138, fun _ h => absurd h List.not_mem_nil⟩⟩⟩⟩⟩⟩⟩⟩⟩⟩⟩⟩⟩⟩⟩⟩⟩⟩⟩⟩⟩⟩⟩⟩⟩⟩⟩⟩⟩⟩⟩⟩⟩⟩⟩⟩⟩⟩⟩⟩⟩⟩⟩⟩⟩⟩⟩⟩⟩⟩⟩⟩⟩⟩⟩⟩⟩⟩⟩⟩⟩⟩⟩⟩⟩⟩⟩⟩⟩⟩⟩⟩⟩⟩⟩⟩⟩⟩⟩⟩⟩⟩⟩⟩⟩⟩⟩⟩⟩⟩⟩⟩⟩⟩⟩⟩⟩⟩⟩⟩⟩⟩⟩⟩⟩⟩⟩⟩⟩⟩⟩⟩⟩⟩⟩⟩⟩⟩⟩⟩⟩⟩⟩⟩⟩⟩⟩⟩⟩⟩⟩⟩⟩⟩⟩⟩⟩⟩⟩⟩⟩⟩⟩⟩⟩⟩⟩⟩⟩⟩⟩⟩⟩⟩⟩⟩⟩⟩⟩⟩⟩⟩⟩⟩⟩⟩⟩⟩⟩⟩⟩⟩⟩⟩⟩⟩⟩⟩⟩⟩⟩⟩
def AL9 : List (Nat × Nat) := [(0, 900), (1, 900), (2, 900), (3, 900), (3, 902), (4, 900), (4, 902), (5, 900), (5, 901), (6, 900), (6, 901), (6, 902), (7, 900), (7, 902), (8, 900)]
set_option maxRecDepth 100000 in
theorem AL9_ok : ∀ z ∈ AL9, AOK z.1 (cpM (z.1 * 10000 + z.2)) z.2 := List.forall_mem_cons.mpr ⟨aok_0_900, List.forall_mem_cons.mpr ⟨aok_1_900, List.forall_mem_cons.mpr ⟨aok_2_900, List.forall_mem_cons.mpr ⟨aok_3_900, List.forall_mem_cons.mpr ⟨aok_3_902, List.forall_mem_cons.mpr ⟨aok_4_900, List.forall_mem_cons.mpr ⟨aok_4_902, List.forall_mem_cons.mpr ⟨aok_5_900, List.forall_mem_cons.mpr ⟨aok_5_901, List.forall_mem_cons.mpr ⟨aok_6_900, List.forall_mem_cons.mpr ⟨aok_6_901, List.forall_mem_cons.mpr ⟨aok_6_902, List.forall_mem_cons.mpr ⟨aok_7_900, List.forall_mem_cons.mpr ⟨aok_7_902, List.forall_mem_cons.mpr ⟨aok_8_900, fun _ h => absurd h List.not_mem_nil⟩⟩⟩⟩⟩⟩⟩⟩⟩⟩⟩⟩⟩⟩⟩
def NL9 : List (Nat × Nat) := [(0, 1), (0, 5), (0, 7), (2, 7), (4, 3), (4, 5), (7, 3), (7, 6), (8, 0), (8, 1), (8, 2), (8, 3), (8, 4), (8, 5), (8, 7), (10, 8)]
set_option maxRecDepth 100000 in
theorem NL9_ok : ∀ z ∈ NL9, NOK z.1 (cpN (z.1 * 10000 + z.2)) z.2 := List.forall_mem_cons.mpr ⟨nok_0_1, List.forall_mem_cons.mpr ⟨nok_0_5, List.forall_mem_cons.mpr ⟨nok_0_7, List.forall_mem_cons.mpr ⟨nok_2_7, List.forall_mem_cons.mpr ⟨nok_4_3, List.forall_mem_cons.mpr ⟨nok_4_5, List.forall_mem_cons.mpr ⟨nok_7_3, List.forall_mem_cons.mpr ⟨nok_7_6, List.forall_mem_cons.mpr ⟨nok_8_0, List.forall_mem_cons.mpr ⟨nok_8_1, List.forall_mem_cons.mpr ⟨nok_8_2, List.forall_mem_cons.mpr ⟨nok_8_3, List.forall_mem_cons.mpr ⟨nok_8_4, List.forall_mem_cons.mpr ⟨nok_8_5, List.forall_mem_cons.mpr ⟨nok_8_7, List.forall_mem_cons.mpr ⟨nok_10_8, fun _ h => absurd h List.not_mem_nil⟩⟩⟩⟩⟩⟩⟩⟩⟩⟩⟩⟩⟩⟩⟩⟩
def BL9 : List (Nat × Nat) := [(2, 13), (4, 14), (4, 15)]
set_option maxRecDepth 100000 in
theorem BL9_ok : ∀ z ∈ BL9, BOK z.1 (cpA (z.1 * 10000 + z.2)) z.2 := List.forall_mem_cons.mpr ⟨bok_2_13, List.forall_mem_cons.mpr ⟨bok_4_14, List.forall_mem_cons.mpr ⟨bok_4_15, fun _ h => absurd h List.not_mem_nil⟩⟩⟩
def KL9 : List (Nat × Nat) := [(10, 1000000), (10, 916318735), (10, 2147483647), (10, 4289967293), (10, 4289967294), (10, 4289967295)]
set_option maxRecDepth 100000 in
theorem KL9_ok : ∀ z ∈ KL9, VOK z.1 (cpK z.1 z.2) z.2 := List.forall_mem_cons.mpr ⟨vok_10_1000000, List.forall_mem_cons.mpr ⟨vok_10_916318735, List.forall_mem_cons.mpr ⟨vok_10_2147483647, List.forall_mem_cons.mpr ⟨vok_10_4289967293, List.forall_mem_cons.mpr ⟨vok_10_4289967294, List.forall_mem_cons.mpr ⟨vok_10_4289967295, fun _ h => absurd h List.not_mem_nil⟩⟩⟩⟩⟩⟩
def KW9 : List (Nat × Nat) := [(12, 252645135), (12, 858993459), (12, 1431655765)]
set_option maxRecDepth 100000 in
theorem KW9_ok : ∀ z ∈ KW9, VOK z.1 (cpK z.1 z.2) z.2 := List.forall_mem_cons.mpr ⟨vok_12_252645135, List.forall_mem_cons.mpr ⟨vok_12_858993459, List.forall_mem_cons.mpr ⟨vok_12_1431655765, fun _ h => absurd h List.not_mem_nil⟩⟩⟩
def KU9 : List (Nat × Nat) := [(10, 31), (10, 107)]
set_option maxRecDepth 100000 in
theorem KU9_ok : ∀ z ∈ KU9, UOK z.1 (cpK z.1 z.2) z.2 := List.forall_mem_cons.mpr ⟨vok_10_31, List.forall_mem_cons.mpr ⟨vok_10_107, fun _ h => absurd h List.not_mem_nil⟩⟩
/-- the instruction as the bytes have it -/
def rl (o pc : Nat) (i : Instr) : Instr := match i with
  | .goto t => .goto (t - pc)
  | .ifnull t => .ifnull (t - pc)
  | .ifnonnull t => .ifnonnull (t - pc)
  | .if_icmp c t => .if_icmp c (t - pc)
  | .ifCond c t => .ifCond c (t - pc)
  | .tableswitch d lo hi f => .tableswitch (d - pc) lo hi (f.map (fun t => t - (pc : Int)))
  | .getfield q => .getfield (cpF (o * 10000 + q))
  | .putfield q => .putfield (cpF (o * 10000 + q))
  | .getstatic _ => .getstatic 357
  | .invokevirtual k => .invokevirtual (cpM (o * 10000 + k))
  | .invokestatic k => .invokestatic (cpM (o * 10000 + k))
  | .invokespecial k => .invokespecial (cpM (o * 10000 + k))
  | .new c => .new (cond (Nat.beq c 801) 65 (cond (Nat.beq c 802) 76 (cond (Nat.beq c 803) 111 (cpN (o * 10000 + c)))))
  | .anewarray t => .anewarray (cpA (o * 10000 + t))
  | .ldc v => .ldc (cpK o v)
  | .fmul => .imul
  | .ldc_w v => .ldc_w (cpK o v)
  | .ldc2_w v => .ldc2_w (cpK o v)
  | i => i
def isw (i : Instr) : Bool := match i with
  | .tableswitch _ _ _ _ => true
  | _ => false
/-- the members used are among those that the words speak of -/
def mem (y o : Nat) (i : Instr) : Bool := match i with
  | .iconst n => decide (-2147483648 ≤ n) && decide (n < 2147483648)
  | .bipush n => decide (-128 ≤ n) && decide (n < 128)
  | .sipush n => decide (-32768 ≤ n) && decide (n < 32768)
  | .goto t => decide (0 ≤ t)
  | .ifnonnull t => decide (0 ≤ t)
  | .if_icmp _ t => decide (0 ≤ t)
  | .ifCond _ t => decide (0 ≤ t)
  | .tableswitch d lo hi f => decide (0 ≤ d) && f.toList.all (fun t => decide (0 ≤ t)) && decide (hi - lo + 1 = f.size)
  | .getfield q => decide ((o, q) ∈ FL9)
  | .putfield q => decide ((o, q) ∈ FL9) && (cond (fin q) (mki y == 2 && mcl y == q / 100) true)
  | .getstatic _ => Nat.beq o 8
  | .invokevirtual k => Nat.beq (mki k) 0 && decide (k < 139) && decide ((o, k) ∈ ML9)
  | .invokestatic k => cond (Nat.ble 900 k) (decide ((o, k) ∈ AL9) && (Nat.beq k 901 || Nat.beq k 902)) (Nat.beq (mki k) 1 && decide (k < 139) && decide ((o, k) ∈ ML9))
  | .invokespecial k => cond (Nat.ble 900 k) (decide ((o, k) ∈ AL9) && Nat.beq k 900) (Nat.beq (mki k) 2 && decide (k < 139) && decide ((o, k) ∈ ML9))
  | .new c => cond (Nat.ble 800 c) (Nat.beq o 8) (decide ((o, c) ∈ NL9))
  | .anewarray t => decide ((o, t) ∈ BL9)
  | .ldc v => decide ((o, v) ∈ KL9) && decide (v < 4294967296)
  | .ldc_w v => decide ((o, v) ∈ KW9) && decide (v < 2147483648)
  | .ldc2_w v => decide ((o, v) ∈ KU9)
  | _ => true
def SIX : List (Nat × String) := [(67, "a byte is 0 to 127"), (78, "the text is full"), (113, "no such word"), (120, "no such part"), (126, "there are 10 stamps"), (132, "no such stamp"), (141, "a color is 0 to 3"), (151, "limit is 1 to 200, load 1 to 20"), (165, "what is 0 to 8"), (170, "what is 0 to 5"), (180, "no such letter of a stamp"), (193, "no such letter of a word"), (205, "no such press"), (214, "the word can not be written"), (233, "there are not so many words"), (239, "there is no such order"), (244, "what is 0 to 3, length 1 to 5"), (269, "there is no saved state")]
def XIC (e : Nat) : Nat := cond (Nat.beq e 801) 69 (cond (Nat.beq e 802) 80 115)
/-- behind 'new' of an exception: dup, its text, its constructor, athrow -/
def thk (y pc e : Nat) : Bool := decide (decode (MB y) (pc + 3) = .ok (.dup, 1)) && match decode (MB y) (pc + 4) with
  | .ok (.ldc s, _) => decide (decode (MB y) (pc + 6) = .ok (.invokespecial (XIC e), 3)) && decide (decode (MB y) (pc + 9) = .ok (.athrow, 1)) && (SIX.map Prod.fst).elem s && decide (decode (MB y) (pc + 4) = .ok (.ldc s, 2))
  | .ok (.ldc_w s, _) => decide (decode (MB y) (pc + 7) = .ok (.invokespecial (XIC e), 3)) && decide (decode (MB y) (pc + 10) = .ok (.athrow, 1)) && (SIX.map Prod.fst).elem s && decide (decode (MB y) (pc + 4) = .ok (.ldc_w s, 3))
  | _ => false
def eqi (j : Instr) (o pc : Nat) (i : Instr) : Bool := match i, j with
  | .tableswitch d lo hi f, .tableswitch a b c g => decide (a = d - pc) && decide (b = lo) && decide (c = hi) && decide (g.toList = f.toList.map (fun t => t - (pc : Int)))
  | i, j => decide (j = rl o pc i)
def chk (y pc : Nat) : Bool := match tb y pc with
  | none => true
  | some i => (match decode (MB y) pc with
    | .ok (j, n) => eqi j (mcl y) pc i && (isw i || Nat.beq n (iln i))
    | _ => false) && mem y (mcl y) i && (match i with
    | .new c => cond (Nat.ble 800 c) (thk y pc c) true
    | _ => true)
def MOKp (y : Nat) : Prop := ∀ pc, pc < mln y → chk y pc = true
set_option maxRecDepth 100000 in
theorem tbk_0 : MOKp 0 := by unfold MOKp; decide +kernel
set_option maxRecDepth 100000 in
theorem tbk_1 : MOKp 1 := by unfold MOKp; decide +kernel
set_option maxRecDepth 100000 in
theorem tbk_2 : MOKp 2 := by unfold MOKp; decide +kernel
set_option maxRecDepth 100000 in
theorem tbk_3 : MOKp 3 := by unfold MOKp; decide +kernel
set_option maxRecDepth 100000 in
theorem tbk_4 : MOKp 4 := by unfold MOKp; decide +kernel
set_option maxRecDepth 100000 in
theorem tbk_5 : MOKp 5 := by unfold MOKp; decide +kernel
set_option maxRecDepth 100000 in
theorem tbk_6 : MOKp 6 := by unfold MOKp; decide +kernel
set_option maxRecDepth 100000 in
theorem tbk_7 : MOKp 7 := by unfold MOKp; decide +kernel
set_option maxRecDepth 100000 in
theorem tbk_8 : MOKp 8 := by unfold MOKp; decide +kernel
set_option maxRecDepth 100000 in
theorem tbk_9 : MOKp 9 := by unfold MOKp; decide +kernel
set_option maxRecDepth 100000 in
theorem tbk_10 : MOKp 10 := by unfold MOKp; decide +kernel
set_option maxRecDepth 100000 in
theorem tbk_11 : MOKp 11 := by unfold MOKp; decide +kernel
set_option maxRecDepth 100000 in
theorem tbk_12 : MOKp 12 := by unfold MOKp; decide +kernel
set_option maxRecDepth 100000 in
theorem tbk_13 : MOKp 13 := by unfold MOKp; decide +kernel
set_option maxRecDepth 100000 in
theorem tbk_14 : MOKp 14 := by unfold MOKp; decide +kernel
set_option maxRecDepth 100000 in
theorem tbk_15 : MOKp 15 := by unfold MOKp; decide +kernel
set_option maxRecDepth 100000 in
theorem tbk_16 : MOKp 16 := by unfold MOKp; decide +kernel
set_option maxRecDepth 100000 in
theorem tbk_17 : MOKp 17 := by unfold MOKp; decide +kernel
set_option maxRecDepth 100000 in
theorem tbk_18 : MOKp 18 := by unfold MOKp; decide +kernel
set_option maxRecDepth 100000 in
theorem tbk_19 : MOKp 19 := by unfold MOKp; decide +kernel
set_option maxRecDepth 100000 in
theorem tbk_20 : MOKp 20 := by unfold MOKp; decide +kernel
set_option maxRecDepth 100000 in
theorem tbk_21 : MOKp 21 := by unfold MOKp; decide +kernel
set_option maxRecDepth 100000 in
theorem tbk_22 : MOKp 22 := by unfold MOKp; decide +kernel
set_option maxRecDepth 100000 in
theorem tbk_23 : MOKp 23 := by unfold MOKp; decide +kernel
set_option maxRecDepth 100000 in
theorem tbk_24 : MOKp 24 := by unfold MOKp; decide +kernel
set_option maxRecDepth 100000 in
theorem tbk_25 : MOKp 25 := by unfold MOKp; decide +kernel
set_option maxRecDepth 100000 in
theorem tbk_26 : MOKp 26 := by unfold MOKp; decide +kernel
set_option maxRecDepth 100000 in
theorem tbk_27 : MOKp 27 := by unfold MOKp; decide +kernel
set_option maxRecDepth 100000 in
theorem tbk_28 : MOKp 28 := by unfold MOKp; decide +kernel
set_option maxRecDepth 100000 in
theorem tbk_29 : MOKp 29 := by unfold MOKp; decide +kernel
set_option maxRecDepth 100000 in
theorem tbk_30 : MOKp 30 := by unfold MOKp; decide +kernel
set_option maxRecDepth 100000 in
theorem tbk_31 : MOKp 31 := by unfold MOKp; decide +kernel
set_option maxRecDepth 100000 in
theorem tbk_32 : MOKp 32 := by unfold MOKp; decide +kernel
set_option maxRecDepth 100000 in
theorem tbk_33 : MOKp 33 := by unfold MOKp; decide +kernel
set_option maxRecDepth 100000 in
theorem tbk_34 : MOKp 34 := by unfold MOKp; decide +kernel
set_option maxRecDepth 100000 in
theorem tbk_35 : MOKp 35 := by unfold MOKp; decide +kernel
set_option maxRecDepth 100000 in
theorem tbk_36 : MOKp 36 := by unfold MOKp; decide +kernel
set_option maxRecDepth 100000 in
theorem tbk_37 : MOKp 37 := by unfold MOKp; decide +kernel
set_option maxRecDepth 100000 in
theorem tbk_38 : MOKp 38 := by unfold MOKp; decide +kernel
set_option maxRecDepth 100000 in
theorem tbk_39 : MOKp 39 := by unfold MOKp; decide +kernel
set_option maxRecDepth 100000 in
theorem tbk_40 : MOKp 40 := by unfold MOKp; decide +kernel
set_option maxRecDepth 100000 in
theorem tbk_41 : MOKp 41 := by unfold MOKp; decide +kernel
set_option maxRecDepth 100000 in
theorem tbk_42 : MOKp 42 := by unfold MOKp; decide +kernel
set_option maxRecDepth 100000 in
theorem tbk_43 : MOKp 43 := by unfold MOKp; decide +kernel
set_option maxRecDepth 100000 in
theorem tbk_44 : MOKp 44 := by unfold MOKp; decide +kernel
set_option maxRecDepth 100000 in
theorem tbk_45 : MOKp 45 := by unfold MOKp; decide +kernel
set_option maxRecDepth 100000 in
theorem tbk_46 : MOKp 46 := by unfold MOKp; decide +kernel
set_option maxRecDepth 100000 in
theorem tbk_47 : MOKp 47 := by unfold MOKp; decide +kernel
set_option maxRecDepth 100000 in
theorem tbk_48 : MOKp 48 := by unfold MOKp; decide +kernel
set_option maxRecDepth 100000 in
theorem tbk_49 : MOKp 49 := by unfold MOKp; decide +kernel
set_option maxRecDepth 100000 in
theorem tbk_50 : MOKp 50 := by unfold MOKp; decide +kernel
set_option maxRecDepth 100000 in
theorem tbk_51 : MOKp 51 := by unfold MOKp; decide +kernel
set_option maxRecDepth 100000 in
theorem tbk_52 : MOKp 52 := by unfold MOKp; decide +kernel
set_option maxRecDepth 100000 in
theorem tbk_53 : MOKp 53 := by unfold MOKp; decide +kernel
set_option maxRecDepth 100000 in
theorem tbk_54 : MOKp 54 := by unfold MOKp; decide +kernel
set_option maxRecDepth 100000 in
theorem tbk_55 : MOKp 55 := by unfold MOKp; decide +kernel
set_option maxRecDepth 100000 in
theorem tbk_56 : MOKp 56 := by unfold MOKp; decide +kernel
set_option maxRecDepth 100000 in
theorem tbk_57 : MOKp 57 := by unfold MOKp; decide +kernel
set_option maxRecDepth 100000 in
theorem tbk_58 : MOKp 58 := by unfold MOKp; decide +kernel
set_option maxRecDepth 100000 in
theorem tbk_59 : MOKp 59 := by unfold MOKp; decide +kernel
set_option maxRecDepth 100000 in
theorem tbk_60 : MOKp 60 := by unfold MOKp; decide +kernel
set_option maxRecDepth 100000 in
theorem tbk_61 : MOKp 61 := by unfold MOKp; decide +kernel
set_option maxRecDepth 100000 in
theorem tbk_62 : MOKp 62 := by unfold MOKp; decide +kernel
set_option maxRecDepth 100000 in
theorem tbk_63 : MOKp 63 := by unfold MOKp; decide +kernel
set_option maxRecDepth 100000 in
theorem tbk_64 : MOKp 64 := by unfold MOKp; decide +kernel
set_option maxRecDepth 100000 in
theorem tbk_65 : MOKp 65 := by unfold MOKp; decide +kernel
set_option maxRecDepth 100000 in
theorem tbk_66 : MOKp 66 := by unfold MOKp; decide +kernel
set_option maxRecDepth 100000 in
theorem tbk_67 : MOKp 67 := by unfold MOKp; decide +kernel
set_option maxRecDepth 100000 in
theorem tbk_68 : MOKp 68 := by unfold MOKp; decide +kernel
set_option maxRecDepth 100000 in
theorem tbk_69 : MOKp 69 := by unfold MOKp; decide +kernel
set_option maxRecDepth 100000 in
theorem tbk_70 : MOKp 70 := by unfold MOKp; decide +kernel
set_option maxRecDepth 100000 in
theorem tbk_71 : MOKp 71 := by unfold MOKp; decide +kernel
set_option maxRecDepth 100000 in
theorem tbk_72 : MOKp 72 := by unfold MOKp; decide +kernel
set_option maxRecDepth 100000 in
theorem tbk_73 : MOKp 73 := by unfold MOKp; decide +kernel
set_option maxRecDepth 100000 in
theorem tbk_74 : MOKp 74 := by unfold MOKp; decide +kernel
set_option maxRecDepth 100000 in
theorem tbk_75 : MOKp 75 := by unfold MOKp; decide +kernel
set_option maxRecDepth 100000 in
theorem tbk_76 : MOKp 76 := by unfold MOKp; decide +kernel
set_option maxRecDepth 100000 in
theorem tbk_77 : MOKp 77 := by unfold MOKp; decide +kernel
set_option maxRecDepth 100000 in
theorem tbk_78 : MOKp 78 := by unfold MOKp; decide +kernel
set_option maxRecDepth 100000 in
theorem tbk_79 : MOKp 79 := by unfold MOKp; decide +kernel
set_option maxRecDepth 100000 in
theorem tbk_80 : MOKp 80 := by unfold MOKp; decide +kernel
set_option maxRecDepth 100000 in
theorem tbk_81 : MOKp 81 := by unfold MOKp; decide +kernel
set_option maxRecDepth 100000 in
theorem tbk_82 : MOKp 82 := by unfold MOKp; decide +kernel
set_option maxRecDepth 100000 in
theorem tbk_83 : MOKp 83 := by unfold MOKp; decide +kernel
set_option maxRecDepth 100000 in
theorem tbk_84 : MOKp 84 := by unfold MOKp; decide +kernel
set_option maxRecDepth 100000 in
theorem tbk_85 : MOKp 85 := by unfold MOKp; decide +kernel
set_option maxRecDepth 100000 in
theorem tbk_86 : MOKp 86 := by unfold MOKp; decide +kernel
set_option maxRecDepth 100000 in
theorem tbk_87 : MOKp 87 := by unfold MOKp; decide +kernel
set_option maxRecDepth 100000 in
theorem tbk_88 : MOKp 88 := by unfold MOKp; decide +kernel
set_option maxRecDepth 100000 in
theorem tbk_89 : MOKp 89 := by unfold MOKp; decide +kernel
set_option maxRecDepth 100000 in
theorem tbk_90 : MOKp 90 := by unfold MOKp; decide +kernel
set_option maxRecDepth 100000 in
theorem tbk_91 : MOKp 91 := by unfold MOKp; decide +kernel
set_option maxRecDepth 100000 in
theorem tbk_92 : MOKp 92 := by unfold MOKp; decide +kernel
set_option maxRecDepth 100000 in
theorem tbk_93 : MOKp 93 := by unfold MOKp; decide +kernel
set_option maxRecDepth 100000 in
theorem tbk_94 : MOKp 94 := by unfold MOKp; decide +kernel
set_option maxRecDepth 100000 in
theorem tbk_95 : MOKp 95 := by unfold MOKp; decide +kernel
set_option maxRecDepth 100000 in
theorem tbk_96 : MOKp 96 := by unfold MOKp; decide +kernel
set_option maxRecDepth 100000 in
theorem tbk_97 : MOKp 97 := by unfold MOKp; decide +kernel
set_option maxRecDepth 100000 in
theorem tbk_98 : MOKp 98 := by unfold MOKp; decide +kernel
set_option maxRecDepth 100000 in
theorem tbk_99 : MOKp 99 := by unfold MOKp; decide +kernel
set_option maxRecDepth 100000 in
theorem tbk_100 : MOKp 100 := by unfold MOKp; decide +kernel
set_option maxRecDepth 100000 in
theorem tbk_101 : MOKp 101 := by unfold MOKp; decide +kernel
set_option maxRecDepth 100000 in
theorem tbk_102 : MOKp 102 := by unfold MOKp; decide +kernel
set_option maxRecDepth 100000 in
theorem tbk_103 : MOKp 103 := by unfold MOKp; decide +kernel
set_option maxRecDepth 100000 in
theorem tbk_104 : MOKp 104 := by unfold MOKp; decide +kernel
set_option maxRecDepth 100000 in
theorem tbk_105 : MOKp 105 := by unfold MOKp; decide +kernel
set_option maxRecDepth 100000 in
theorem tbk_106 : MOKp 106 := by unfold MOKp; decide +kernel
set_option maxRecDepth 100000 in
theorem tbk_107 : MOKp 107 := by unfold MOKp; decide +kernel
set_option maxRecDepth 100000 in
theorem tbk_108 : MOKp 108 := by unfold MOKp; decide +kernel
set_option maxRecDepth 100000 in
theorem tbk_109 : MOKp 109 := by unfold MOKp; decide +kernel
set_option maxRecDepth 100000 in
theorem tbk_110 : MOKp 110 := by unfold MOKp; decide +kernel
set_option maxRecDepth 100000 in
theorem tbk_111 : MOKp 111 := by unfold MOKp; decide +kernel
set_option maxRecDepth 100000 in
theorem tbk_112 : MOKp 112 := by unfold MOKp; decide +kernel
set_option maxRecDepth 100000 in
theorem tbk_113 : MOKp 113 := by unfold MOKp; decide +kernel
set_option maxRecDepth 100000 in
theorem tbk_114 : MOKp 114 := by unfold MOKp; decide +kernel
set_option maxRecDepth 100000 in
theorem tbk_115 : MOKp 115 := by unfold MOKp; decide +kernel
set_option maxRecDepth 100000 in
theorem tbk_116 : MOKp 116 := by unfold MOKp; decide +kernel
set_option maxRecDepth 100000 in
theorem tbk_117 : MOKp 117 := by unfold MOKp; decide +kernel
set_option maxRecDepth 100000 in
theorem tbk_118 : MOKp 118 := by unfold MOKp; decide +kernel
set_option maxRecDepth 100000 in
theorem tbk_119 : MOKp 119 := by unfold MOKp; decide +kernel
set_option maxRecDepth 100000 in
theorem tbk_120 : MOKp 120 := by unfold MOKp; decide +kernel
set_option maxRecDepth 100000 in
theorem tbk_121 : MOKp 121 := by unfold MOKp; decide +kernel
set_option maxRecDepth 100000 in
theorem tbk_122 : MOKp 122 := by unfold MOKp; decide +kernel
set_option maxRecDepth 100000 in
theorem tbk_123 : MOKp 123 := by unfold MOKp; decide +kernel
set_option maxRecDepth 100000 in
theorem tbk_124 : MOKp 124 := by unfold MOKp; decide +kernel
set_option maxRecDepth 100000 in
theorem tbk_125 : MOKp 125 := by unfold MOKp; decide +kernel
set_option maxRecDepth 100000 in
theorem tbk_126 : MOKp 126 := by unfold MOKp; decide +kernel
set_option maxRecDepth 100000 in
theorem tbk_127 : MOKp 127 := by unfold MOKp; decide +kernel
set_option maxRecDepth 100000 in
theorem tbk_128 : MOKp 128 := by unfold MOKp; decide +kernel
set_option maxRecDepth 100000 in
theorem tbk_129 : MOKp 129 := by unfold MOKp; decide +kernel
set_option maxRecDepth 100000 in
theorem tbk_130 : MOKp 130 := by unfold MOKp; decide +kernel
set_option maxRecDepth 100000 in
theorem tbk_131 : MOKp 131 := by unfold MOKp; decide +kernel
set_option maxRecDepth 100000 in
theorem tbk_132 : MOKp 132 := by unfold MOKp; decide +kernel
set_option maxRecDepth 100000 in
theorem tbk_133 : MOKp 133 := by unfold MOKp; decide +kernel
set_option maxRecDepth 100000 in
theorem tbk_134 : MOKp 134 := by unfold MOKp; decide +kernel
set_option maxRecDepth 100000 in
theorem tbk_135 : MOKp 135 := by unfold MOKp; decide +kernel
set_option maxRecDepth 100000 in
theorem tbk_136 : MOKp 136 := by unfold MOKp; decide +kernel
set_option maxRecDepth 100000 in
theorem tbk_137 : MOKp 137 := by unfold MOKp; decide +kernel
set_option maxRecDepth 100000 in
theorem tbk_138 : MOKp 138 := by unfold MOKp; decide +kernel
set_option maxRecDepth 100000 in
def MOKr (y a n : Nat) : Prop := ∀ k, k < n → chk y (a + k) = true
set_option maxRecDepth 100000 in
theorem tbr_0 : MOKr 139 (100 * 0) 100 := by unfold MOKr; decide +kernel
set_option maxRecDepth 100000 in
theorem tbr_1 : MOKr 139 (100 * 1) 100 := by unfold MOKr; decide +kernel
set_option maxRecDepth 100000 in
theorem tbr_2 : MOKr 139 (100 * 2) 100 := by unfold MOKr; decide +kernel
set_option maxRecDepth 100000 in
theorem tbr_3 : MOKr 139 (100 * 3) 100 := by unfold MOKr; decide +kernel
theorem tbk_139 : MOKp 139 := by
  intro pc h
  have h9 : ∀ j, j < 4 → MOKr 139 (100 * j) 100 := (lt_s (p := fun j => MOKr 139 (100 * j) 100) (lt_s (p := fun j => MOKr 139 (100 * j) 100) (lt_s (p := fun j => MOKr 139 (100 * j) 100) (lt_s (p := fun j => MOKr 139 (100 * j) 100) lt_0 tbr_0) tbr_1) tbr_2) tbr_3)
  have hm : mln 139 = 380 := rfl
  have h8 := h9 (pc / 100) (by omega) (pc % 100) (by omega)
  rwa [show 100 * (pc / 100) + pc % 100 = pc by omega] at h8
theorem gd_lt {n pc : Nat} {x : Option Instr} {i : Instr} (h : cond (Nat.blt pc n) x none = some i) : pc < n := by
  cases hb : Nat.blt pc n with
  | true => exact Nat.le_of_ble_eq_true hb
  | false => rw [hb] at h; cases h
def LTp (y : Nat) : Prop := ∀ pc i, tb y pc = some i → pc < mln y
theorem tbl9C_20 : ∀ a, a < 20 → LTp a := lt_s (lt_s (lt_s (lt_s (lt_s (lt_s (lt_s (lt_s (lt_s (lt_s (lt_s (lt_s (lt_s (lt_s (lt_s (lt_s (lt_s (lt_s (lt_s (lt_s (lt_0) (fun _ _ h => gd_lt (n := 38) h)) (fun _ _ h => gd_lt (n := 157) h)) (fun _ _ h => gd_lt (n := 62) h)) (fun _ _ h => gd_lt (n := 83) h)) (fun _ _ h => gd_lt (n := 31) h)) (fun _ _ h => gd_lt (n := 14) h)) (fun _ _ h => gd_lt (n := 13) h)) (fun _ _ h => gd_lt (n := 33) h)) (fun _ _ h => gd_lt (n := 34) h)) (fun _ _ h => gd_lt (n := 123) h)) (fun _ _ h => gd_lt (n := 71) h)) (fun _ _ h => gd_lt (n := 33) h)) (fun _ _ h => gd_lt (n := 39) h)) (fun _ _ h => gd_lt (n := 63) h)) (fun _ _ h => gd_lt (n := 47) h)) (fun _ _ h => gd_lt (n := 53) h)) (fun _ _ h => gd_lt (n := 37) h)) (fun _ _ h => gd_lt (n := 16) h)) (fun _ _ h => gd_lt (n := 18) h)) (fun _ _ h => gd_lt (n := 18) h)
theorem tbl9C_40 : ∀ a, a < 40 → LTp a := lt_s (lt_s (lt_s (lt_s (lt_s (lt_s (lt_s (lt_s (lt_s (lt_s (lt_s (lt_s (lt_s (lt_s (lt_s (lt_s (lt_s (lt_s (lt_s (lt_s (tbl9C_20) (fun _ _ h => gd_lt (n := 18) h)) (fun _ _ h => gd_lt (n := 29) h)) (fun _ _ h => gd_lt (n := 61) h)) (fun _ _ h => gd_lt (n := 55) h)) (fun _ _ h => gd_lt (n := 112) h)) (fun _ _ h => gd_lt (n := 70) h)) (fun _ _ h => gd_lt (n := 101) h)) (fun _ _ h => gd_lt (n := 72) h)) (fun _ _ h => gd_lt (n := 21) h)) (fun _ _ h => gd_lt (n := 87) h)) (fun _ _ h => gd_lt (n := 205) h)) (fun _ _ h => gd_lt (n := 48) h)) (fun _ _ h => gd_lt (n := 34) h)) (fun _ _ h => gd_lt (n := 130) h)) (fun _ _ h => gd_lt (n := 127) h)) (fun _ _ h => gd_lt (n := 82) h)) (fun _ _ h => gd_lt (n := 26) h)) (fun _ _ h => gd_lt (n := 29) h)) (fun _ _ h => gd_lt (n := 53) h)) (fun _ _ h => gd_lt (n := 41) h)
theorem tbl9C_60 : ∀ a, a < 60 → LTp a := lt_s (lt_s (lt_s (lt_s (lt_s (lt_s (lt_s (lt_s (lt_s (lt_s (lt_s (lt_s (lt_s (lt_s (lt_s (lt_s (lt_s (lt_s (lt_s (lt_s (tbl9C_40) (fun _ _ h => gd_lt (n := 41) h)) (fun _ _ h => gd_lt (n := 24) h)) (fun _ _ h => gd_lt (n := 44) h)) (fun _ _ h => gd_lt (n := 32) h)) (fun _ _ h => gd_lt (n := 17) h)) (fun _ _ h => gd_lt (n := 19) h)) (fun _ _ h => gd_lt (n := 25) h)) (fun _ _ h => gd_lt (n := 42) h)) (fun _ _ h => gd_lt (n := 61) h)) (fun _ _ h => gd_lt (n := 68) h)) (fun _ _ h => gd_lt (n := 39) h)) (fun _ _ h => gd_lt (n := 64) h)) (fun _ _ h => gd_lt (n := 17) h)) (fun _ _ h => gd_lt (n := 21) h)) (fun _ _ h => gd_lt (n := 18) h)) (fun _ _ h => gd_lt (n := 69) h)) (fun _ _ h => gd_lt (n := 17) h)) (fun _ _ h => gd_lt (n := 38) h)) (fun _ _ h => gd_lt (n := 18) h)) (fun _ _ h => gd_lt (n := 39) h)
theorem tbl9C_80 : ∀ a, a < 80 → LTp a := lt_s (lt_s (lt_s (lt_s (lt_s (lt_s (lt_s (lt_s (lt_s (lt_s (lt_s (lt_s (lt_s (lt_s (lt_s (lt_s (lt_s (lt_s (lt_s (lt_s (tbl9C_60) (fun _ _ h => gd_lt (n := 49) h)) (fun _ _ h => gd_lt (n := 22) h)) (fun _ _ h => gd_lt (n := 102) h)) (fun _ _ h => gd_lt (n := 74) h)) (fun _ _ h => gd_lt (n := 12) h)) (fun _ _ h => gd_lt (n := 70) h)) (fun _ _ h => gd_lt (n := 123) h)) (fun _ _ h => gd_lt (n := 65) h)) (fun _ _ h => gd_lt (n := 65) h)) (fun _ _ h => gd_lt (n := 74) h)) (fun _ _ h => gd_lt (n := 70) h)) (fun _ _ h => gd_lt (n := 55) h)) (fun _ _ h => gd_lt (n := 26) h)) (fun _ _ h => gd_lt (n := 51) h)) (fun _ _ h => gd_lt (n := 59) h)) (fun _ _ h => gd_lt (n := 51) h)) (fun _ _ h => gd_lt (n := 38) h)) (fun _ _ h => gd_lt (n := 58) h)) (fun _ _ h => gd_lt (n := 103) h)) (fun _ _ h => gd_lt (n := 93) h)
theorem tbl9C_100 : ∀ a, a < 100 → LTp a := lt_s (lt_s (lt_s (lt_s (lt_s (lt_s (lt_s (lt_s (lt_s (lt_s (lt_s (lt_s (lt_s (lt_s (lt_s (lt_s (lt_s (lt_s (lt_s (lt_s (tbl9C_80) (fun _ _ h => gd_lt (n := 5) h)) (fun _ _ h => gd_lt (n := 101) h)) (fun _ _ h => gd_lt (n := 62) h)) (fun _ _ h => gd_lt (n := 16) h)) (fun _ _ h => gd_lt (n := 100) h)) (fun _ _ h => gd_lt (n := 111) h)) (fun _ _ h => gd_lt (n := 51) h)) (fun _ _ h => gd_lt (n := 69) h)) (fun _ _ h => gd_lt (n := 93) h)) (fun _ _ h => gd_lt (n := 64) h)) (fun _ _ h => gd_lt (n := 129) h)) (fun _ _ h => gd_lt (n := 47) h)) (fun _ _ h => gd_lt (n := 53) h)) (fun _ _ h => gd_lt (n := 128) h)) (fun _ _ h => gd_lt (n := 114) h)) (fun _ _ h => gd_lt (n := 104) h)) (fun _ _ h => gd_lt (n := 35) h)) (fun _ _ h => gd_lt (n := 34) h)) (fun _ _ h => gd_lt (n := 91) h)) (fun _ _ h => gd_lt (n := 35) h)
theorem tbl9C_120 : ∀ a, a < 120 → LTp a := lt_s (lt_s (lt_s (lt_s (lt_s (lt_s (lt_s (lt_s (lt_s (lt_s (lt_s (lt_s (lt_s (lt_s (lt_s (lt_s (lt_s (lt_s (lt_s (lt_s (tbl9C_100) (fun _ _ h => gd_lt (n := 33) h)) (fun _ _ h => gd_lt (n := 6) h)) (fun _ _ h => gd_lt (n := 36) h)) (fun _ _ h => gd_lt (n := 29) h)) (fun _ _ h => gd_lt (n := 22) h)) (fun _ _ h => gd_lt (n := 53) h)) (fun _ _ h => gd_lt (n := 21) h)) (fun _ _ h => gd_lt (n := 26) h)) (fun _ _ h => gd_lt (n := 7) h)) (fun _ _ h => gd_lt (n := 184) h)) (fun _ _ h => gd_lt (n := 341) h)) (fun _ _ h => gd_lt (n := 133) h)) (fun _ _ h => gd_lt (n := 250) h)) (fun _ _ h => gd_lt (n := 462) h)) (fun _ _ h => gd_lt (n := 279) h)) (fun _ _ h => gd_lt (n := 350) h)) (fun _ _ h => gd_lt (n := 343) h)) (fun _ _ h => gd_lt (n := 45) h)) (fun _ _ h => gd_lt (n := 279) h)) (fun _ _ h => gd_lt (n := 236) h)
theorem tbl9C_140 : ∀ a, a < 140 → LTp a := lt_s (lt_s (lt_s (lt_s (lt_s (lt_s (lt_s (lt_s (lt_s (lt_s (lt_s (lt_s (lt_s (lt_s (lt_s (lt_s (lt_s (lt_s (lt_s (lt_s (tbl9C_120) (fun _ _ h => gd_lt (n := 225) h)) (fun _ _ h => gd_lt (n := 19) h)) (fun _ _ h => gd_lt (n := 30) h)) (fun _ _ h => gd_lt (n := 15) h)) (fun _ _ h => gd_lt (n := 15) h)) (fun _ _ h => gd_lt (n := 22) h)) (fun _ _ h => gd_lt (n := 17) h)) (fun _ _ h => gd_lt (n := 15) h)) (fun _ _ h => gd_lt (n := 15) h)) (fun _ _ h => gd_lt (n := 22) h)) (fun _ _ h => gd_lt (n := 20) h)) (fun _ _ h => gd_lt (n := 22) h)) (fun _ _ h => gd_lt (n := 17) h)) (fun _ _ h => gd_lt (n := 17) h)) (fun _ _ h => gd_lt (n := 19) h)) (fun _ _ h => gd_lt (n := 15) h)) (fun _ _ h => gd_lt (n := 19) h)) (fun _ _ h => gd_lt (n := 17) h)) (fun _ _ h => gd_lt (n := 14) h)) (fun _ _ h => gd_lt (n := 380) h)
theorem tbl9 : ∀ a, a < 140 → LTp a := tbl9C_140
theorem tbl_lt {y pc : Nat} {i : Instr} (hy : y < 140) (h : tb y pc = some i) : pc < mln y := tbl9 y hy pc i h
theorem tbkC_20 : ∀ a, a < 20 → MOKp a := lt_s (lt_s (lt_s (lt_s (lt_s (lt_s (lt_s (lt_s (lt_s (lt_s (lt_s (lt_s (lt_s (lt_s (lt_s (lt_s (lt_s (lt_s (lt_s (lt_s (lt_0) (tbk_0)) (tbk_1)) (tbk_2)) (tbk_3)) (tbk_4)) (tbk_5)) (tbk_6)) (tbk_7)) (tbk_8)) (tbk_9)) (tbk_10)) (tbk_11)) (tbk_12)) (tbk_13)) (tbk_14)) (tbk_15)) (tbk_16)) (tbk_17)) (tbk_18)) (tbk_19)
theorem tbkC_40 : ∀ a, a < 40 → MOKp a := lt_s (lt_s (lt_s (lt_s (lt_s (lt_s (lt_s (lt_s (lt_s (lt_s (lt_s (lt_s (lt_s (lt_s (lt_s (lt_s (lt_s (lt_s (lt_s (lt_s (tbkC_20) (tbk_20)) (tbk_21)) (tbk_22)) (tbk_23)) (tbk_24)) (tbk_25)) (tbk_26)) (tbk_27)) (tbk_28)) (tbk_29)) (tbk_30)) (tbk_31)) (tbk_32)) (tbk_33)) (tbk_34)) (tbk_35)) (tbk_36)) (tbk_37)) (tbk_38)) (tbk_39)
theorem tbkC_60 : ∀ a, a < 60 → MOKp a := lt_s (lt_s (lt_s (lt_s (lt_s (lt_s (lt_s (lt_s (lt_s (lt_s (lt_s (lt_s (lt_s (lt_s (lt_s (lt_s (lt_s (lt_s (lt_s (lt_s (tbkC_40) (tbk_40)) (tbk_41)) (tbk_42)) (tbk_43)) (tbk_44)) (tbk_45)) (tbk_46)) (tbk_47)) (tbk_48)) (tbk_49)) (tbk_50)) (tbk_51)) (tbk_52)) (tbk_53)) (tbk_54)) (tbk_55)) (tbk_56)) (tbk_57)) (tbk_58)) (tbk_59)
theorem tbkC_80 : ∀ a, a < 80 → MOKp a := lt_s (lt_s (lt_s (lt_s (lt_s (lt_s (lt_s (lt_s (lt_s (lt_s (lt_s (lt_s (lt_s (lt_s (lt_s (lt_s (lt_s (lt_s (lt_s (lt_s (tbkC_60) (tbk_60)) (tbk_61)) (tbk_62)) (tbk_63)) (tbk_64)) (tbk_65)) (tbk_66)) (tbk_67)) (tbk_68)) (tbk_69)) (tbk_70)) (tbk_71)) (tbk_72)) (tbk_73)) (tbk_74)) (tbk_75)) (tbk_76)) (tbk_77)) (tbk_78)) (tbk_79)
theorem tbkC_100 : ∀ a, a < 100 → MOKp a := lt_s (lt_s (lt_s (lt_s (lt_s (lt_s (lt_s (lt_s (lt_s (lt_s (lt_s (lt_s (lt_s (lt_s (lt_s (lt_s (lt_s (lt_s (lt_s (lt_s (tbkC_80) (tbk_80)) (tbk_81)) (tbk_82)) (tbk_83)) (tbk_84)) (tbk_85)) (tbk_86)) (tbk_87)) (tbk_88)) (tbk_89)) (tbk_90)) (tbk_91)) (tbk_92)) (tbk_93)) (tbk_94)) (tbk_95)) (tbk_96)) (tbk_97)) (tbk_98)) (tbk_99)
theorem tbkC_120 : ∀ a, a < 120 → MOKp a := lt_s (lt_s (lt_s (lt_s (lt_s (lt_s (lt_s (lt_s (lt_s (lt_s (lt_s (lt_s (lt_s (lt_s (lt_s (lt_s (lt_s (lt_s (lt_s (lt_s (tbkC_100) (tbk_100)) (tbk_101)) (tbk_102)) (tbk_103)) (tbk_104)) (tbk_105)) (tbk_106)) (tbk_107)) (tbk_108)) (tbk_109)) (tbk_110)) (tbk_111)) (tbk_112)) (tbk_113)) (tbk_114)) (tbk_115)) (tbk_116)) (tbk_117)) (tbk_118)) (tbk_119)
theorem tbkC_140 : ∀ a, a < 140 → MOKp a := lt_s (lt_s (lt_s (lt_s (lt_s (lt_s (lt_s (lt_s (lt_s (lt_s (lt_s (lt_s (lt_s (lt_s (lt_s (lt_s (lt_s (lt_s (lt_s (lt_s (tbkC_120) (tbk_120)) (tbk_121)) (tbk_122)) (tbk_123)) (tbk_124)) (tbk_125)) (tbk_126)) (tbk_127)) (tbk_128)) (tbk_129)) (tbk_130)) (tbk_131)) (tbk_132)) (tbk_133)) (tbk_134)) (tbk_135)) (tbk_136)) (tbk_137)) (tbk_138)) (tbk_139)
theorem tbk : ∀ a, a < 140 → MOKp a := tbkC_140
