def L_law_L18 (L : Nat) (xs : Nat → Int32) (v1 v2 : Nat) : Nat → Int32 → Mem → Option (Int32 × Mem)
  | 0, _, _ => none
  | n + 1, v3, μ => if ((Int32.ofNat L) - (7 : Int32)) < v3 then (some ((1 : Int32), μ)) else ((scA L xs v3).bind fun x29 => if (x29 &&& (63 : Int32)) = 0 then ((scA L xs ((v3 + (1 : Int32)))).bind fun x221 => (scA L xs ((v3 + (2 : Int32)))).bind fun x226 => (isC μ v1 10).bind fun _ => bd (fX10_put v1 x221 x226 μ) fun x227 μ227 => (scA L xs ((v3 + (1 : Int32)))).bind fun x235 => (scA L xs ((v3 + (2 : Int32)))).bind fun x240 => (isC μ227 v2 11).bind fun _ => bd (fX11_put v2 x235 x240 μ227) fun x241 μ241 => if x227 = x241 then (L_law_L18 L xs v1 v2 n ((v3 + 7)) μ241) else (none)) else if (x29 &&& (63 : Int32)) = 1 then ((scA L xs ((v3 + (1 : Int32)))).bind fun x254 => (scA L xs ((v3 + (2 : Int32)))).bind fun x259 => (scA L xs ((v3 + (3 : Int32)))).bind fun x264 => (isC μ v1 10).bind fun _ => bd (fX10_inflow v1 x254 x259 x264 μ) fun x265 μ265 => (scA L xs ((v3 + (1 : Int32)))).bind fun x273 => (scA L xs ((v3 + (2 : Int32)))).bind fun x278 => (scA L xs ((v3 + (3 : Int32)))).bind fun x283 => (isC μ265 v2 11).bind fun _ => bd (fX11_inflow v2 x273 x278 x283 μ265) fun x284 μ284 => if x265 = x284 then (L_law_L18 L xs v1 v2 n ((v3 + 7)) μ284) else (none)) else if (x29 &&& (63 : Int32)) = 2 then ((scA L xs ((v3 + (1 : Int32)))).bind fun x297 => (scA L xs ((v3 + (2 : Int32)))).bind fun x302 => (scA L xs ((v3 + (3 : Int32)))).bind fun x307 => (isC μ v1 10).bind fun _ => bd (fX10_part v1 x297 x302 x307 μ) fun x308 μ308 => (scA L xs ((v3 + (1 : Int32)))).bind fun x316 => (scA L xs ((v3 + (2 : Int32)))).bind fun x321 => (scA L xs ((v3 + (3 : Int32)))).bind fun x326 => (isC μ308 v2 11).bind fun _ => bd (fX11_part_ v2 x316 x321 x326 μ308) fun x327 μ327 => if x308 = x327 then (L_law_L18 L xs v1 v2 n ((v3 + 7)) μ327) else (none)) else if (x29 &&& (63 : Int32)) = 3 then ((scA L xs ((v3 + (1 : Int32)))).bind fun x340 => (scA L xs ((v3 + (2 : Int32)))).bind fun x345 => (scA L xs ((v3 + (3 : Int32)))).bind fun x350 => (isC μ v1 10).bind fun _ => bd (fX10_month v1 x340 x345 x350 μ) fun x351 μ351 => (scA L xs ((v3 + (1 : Int32)))).bind fun x359 => (scA L xs ((v3 + (2 : Int32)))).bind fun x364 => (scA L xs ((v3 + (3 : Int32)))).bind fun x369 => (isC μ351 v2 11).bind fun _ => bd (fX11_month v2 x359 x364 x369 μ351) fun x370 μ370 => if x351 = x370 then (L_law_L18 L xs v1 v2 n ((v3 + 7)) μ370) else (none)) else if (x29 &&& (63 : Int32)) = 4 then ((scA L xs ((v3 + (1 : Int32)))).bind fun x383 => (scA L xs ((v3 + (2 : Int32)))).bind fun x388 => (scA L xs ((v3 + (3 : Int32)))).bind fun x393 => (scA L xs ((v3 + (4 : Int32)))).bind fun x398 => (scA L xs ((v3 + (5 : Int32)))).bind fun x403 => (scA L xs ((v3 + (6 : Int32)))).bind fun x409 => (isC μ v1 10).bind fun _ => bd (fX10_demand v1 x383 x388 x393 x398 x403 x409 μ) fun x410 μ410 => (scA L xs ((v3 + (1 : Int32)))).bind fun x418 => (scA L xs ((v3 + (2 : Int32)))).bind fun x423 => (scA L xs ((v3 + (3 : Int32)))).bind fun x428 => (scA L xs ((v3 + (4 : Int32)))).bind fun x433 => (scA L xs ((v3 + (5 : Int32)))).bind fun x438 => (scA L xs ((v3 + (6 : Int32)))).bind fun x444 => (isC μ410 v2 11).bind fun _ => bd (fX11_demand v2 x418 x423 x428 x433 x438 x444 μ410) fun x445 μ445 => if x410 = x445 then (L_law_L18 L xs v1 v2 n ((v3 + 7)) μ445) else (none)) else if (x29 &&& (63 : Int32)) = 5 then ((scA L xs ((v3 + (1 : Int32)))).bind fun x458 => (scA L xs ((v3 + (2 : Int32)))).bind fun x463 => (scA L xs ((v3 + (3 : Int32)))).bind fun x468 => (isC μ v1 10).bind fun _ => bd (fX10_renew v1 x458 x463 x468 μ) fun x469 μ469 => (scA L xs ((v3 + (1 : Int32)))).bind fun x477 => (scA L xs ((v3 + (2 : Int32)))).bind fun x482 => (scA L xs ((v3 + (3 : Int32)))).bind fun x487 => (isC μ469 v2 11).bind fun _ => bd (fX11_renew v2 x477 x482 x487 μ469) fun x488 μ488 => if x469 = x488 then (L_law_L18 L xs v1 v2 n ((v3 + 7)) μ488) else (none)) else if (x29 &&& (63 : Int32)) = 6 then ((scA L xs ((v3 + (1 : Int32)))).bind fun x501 => (isC μ v1 10).bind fun _ => bd (fX10_drop v1 x501 μ) fun x502 μ502 => (scA L xs ((v3 + (1 : Int32)))).bind fun x510 => (isC μ502 v2 11).bind fun _ => bd (fX11_drop v2 x510 μ502) fun x511 μ511 => if x502 = x511 then (L_law_L18 L xs v1 v2 n ((v3 + 7)) μ511) else (none)) else if (x29 &&& (63 : Int32)) = 7 then ((scA L xs ((v3 + (1 : Int32)))).bind fun x524 => (isC μ v1 10).bind fun _ => bd (fX10_feed v1 x524 μ) fun x525 μ525 => (scA L xs ((v3 + (1 : Int32)))).bind fun x533 => (isC μ525 v2 11).bind fun _ => bd (fX11_feed v2 x533 μ525) fun x534 μ534 => if x525 = x534 then (L_law_L18 L xs v1 v2 n ((v3 + 7)) μ534) else (none)) else if (x29 &&& (63 : Int32)) = 8 then ((isC μ v1 10).bind fun _ => bd (fX10_read v1 μ) fun x543 μ543 => (isC μ543 v2 11).bind fun _ => bd (fX11_read v2 μ543) fun x547 μ547 => if x543 = x547 then (L_law_L18 L xs v1 v2 n ((v3 + 7)) μ547) else (none)) else if (x29 &&& (63 : Int32)) = 9 then ((scA L xs ((v3 + (1 : Int32)))).bind fun x560 => (isC μ v1 10).bind fun _ => bd (fX10_told v1 x560 μ) fun x561 μ561 => (scA L xs ((v3 + (1 : Int32)))).bind fun x569 => (isC μ561 v2 11).bind fun _ => bd (fX11_told v2 x569 μ561) fun x570 μ570 => if x561 = x570 then (L_law_L18 L xs v1 v2 n ((v3 + 7)) μ570) else (none)) else if (x29 &&& (63 : Int32)) = 10 then ((scA L xs ((v3 + (1 : Int32)))).bind fun x583 => (scA L xs ((v3 + (2 : Int32)))).bind fun x588 => (isC μ v1 10).bind fun _ => bd (fX10_monthOf v1 x583 x588 μ) fun x589 μ589 => (scA L xs ((v3 + (1 : Int32)))).bind fun x597 => (scA L xs ((v3 + (2 : Int32)))).bind fun x602 => (isC μ589 v2 11).bind fun _ => bd (fX11_monthOf v2 x597 x602 μ589) fun x603 μ603 => if x589 = x603 then (L_law_L18 L xs v1 v2 n ((v3 + 7)) μ603) else (none)) else if (x29 &&& (63 : Int32)) = 11 then ((scA L xs ((v3 + (1 : Int32)))).bind fun x616 => (scA L xs ((v3 + (2 : Int32)))).bind fun x621 => (isC μ v1 10).bind fun _ => bd (fX10_partOf v1 x616 x621 μ) fun x622 μ622 => (scA L xs ((v3 + (1 : Int32)))).bind fun x630 => (scA L xs ((v3 + (2 : Int32)))).bind fun x635 => (isC μ622 v2 11).bind fun _ => bd (fX11_partOf v2 x630 x635 μ622) fun x636 μ636 => if x622 = x636 then (L_law_L18 L xs v1 v2 n ((v3 + 7)) μ636) else (none)) else if (x29 &&& (63 : Int32)) = 12 then ((scA L xs ((v3 + (1 : Int32)))).bind fun x649 => (scA L xs ((v3 + (2 : Int32)))).bind fun x654 => (isC μ v1 10).bind fun _ => bd (fX10_demandOf v1 x649 x654 μ) fun x655 μ655 => (scA L xs ((v3 + (1 : Int32)))).bind fun x663 => (scA L xs ((v3 + (2 : Int32)))).bind fun x668 => (isC μ655 v2 11).bind fun _ => bd (fX11_demandOf v2 x663 x668 μ655) fun x669 μ669 => if x655 = x669 then (L_law_L18 L xs v1 v2 n ((v3 + 7)) μ669) else (none)) else if (x29 &&& (63 : Int32)) = 13 then ((scA L xs ((v3 + (1 : Int32)))).bind fun x682 => (scA L xs ((v3 + (2 : Int32)))).bind fun x687 => (isC μ v1 10).bind fun _ => bd (fX10_taken v1 x682 x687 μ) fun x688 μ688 => (scA L xs ((v3 + (1 : Int32)))).bind fun x696 => (scA L xs ((v3 + (2 : Int32)))).bind fun x701 => (isC μ688 v2 11).bind fun _ => bd (fX11_taken v2 x696 x701 μ688) fun x702 μ702 => if x688 = x702 then (L_law_L18 L xs v1 v2 n ((v3 + 7)) μ702) else (none)) else if (x29 &&& (63 : Int32)) = 14 then ((scA L xs ((v3 + (1 : Int32)))).bind fun x715 => (scA L xs ((v3 + (2 : Int32)))).bind fun x720 => (isC μ v1 10).bind fun _ => bd (fX10_wanted v1 x715 x720 μ) fun x721 μ721 => (scA L xs ((v3 + (1 : Int32)))).bind fun x729 => (scA L xs ((v3 + (2 : Int32)))).bind fun x734 => (isC μ721 v2 11).bind fun _ => bd (fX11_wanted v2 x729 x734 μ721) fun x735 μ735 => if x721 = x735 then (L_law_L18 L xs v1 v2 n ((v3 + 7)) μ735) else (none)) else if (x29 &&& (63 : Int32)) = 15 then ((scA L xs ((v3 + (1 : Int32)))).bind fun x748 => (scA L xs ((v3 + (2 : Int32)))).bind fun x753 => (scA L xs ((v3 + (3 : Int32)))).bind fun x758 => (scA L xs ((v3 + (4 : Int32)))).bind fun x763 => (isC μ v1 10).bind fun _ => bd (fX10_served v1 x748 x753 x758 x763 μ) fun x764 μ764 => (scA L xs ((v3 + (1 : Int32)))).bind fun x772 => (scA L xs ((v3 + (2 : Int32)))).bind fun x777 => (scA L xs ((v3 + (3 : Int32)))).bind fun x782 => (scA L xs ((v3 + (4 : Int32)))).bind fun x787 => (isC μ764 v2 11).bind fun _ => bd (fX11_served v2 x772 x777 x782 x787 μ764) fun x788 μ788 => if (lg_cmp x764 x788) = 0 then (L_law_L18 L xs v1 v2 n ((v3 + 7)) μ788) else (none)) else if (x29 &&& (63 : Int32)) = 16 then ((scA L xs ((v3 + (1 : Int32)))).bind fun x802 => (scA L xs ((v3 + (2 : Int32)))).bind fun x807 => (scA L xs ((v3 + (3 : Int32)))).bind fun x812 => (scA L xs ((v3 + (4 : Int32)))).bind fun x817 => (scA L xs ((v3 + (5 : Int32)))).bind fun x822 => (isC μ v1 10).bind fun _ => bd (fX10_step v1 x802 x807 x812 x817 x822 μ) fun x823 μ823 => (scA L xs ((v3 + (1 : Int32)))).bind fun x831 => (scA L xs ((v3 + (2 : Int32)))).bind fun x836 => (scA L xs ((v3 + (3 : Int32)))).bind fun x841 => (scA L xs ((v3 + (4 : Int32)))).bind fun x846 => (scA L xs ((v3 + (5 : Int32)))).bind fun x851 => (isC μ823 v2 11).bind fun _ => bd (fX11_step v2 x831 x836 x841 x846 x851 μ823) fun x852 μ852 => if (lg_cmp x823 x852) = 0 then (L_law_L18 L xs v1 v2 n ((v3 + 7)) μ852) else (none)) else if (x29 &&& (63 : Int32)) = 17 then ((scA L xs ((v3 + (1 : Int32)))).bind fun x866 => (scA L xs ((v3 + (2 : Int32)))).bind fun x871 => (scA L xs ((v3 + (3 : Int32)))).bind fun x876 => (isC μ v1 10).bind fun _ => bd (fX10_best v1 x866 x871 x876 μ) fun x877 μ877 => (scA L xs ((v3 + (1 : Int32)))).bind fun x885 => (scA L xs ((v3 + (2 : Int32)))).bind fun x890 => (scA L xs ((v3 + (3 : Int32)))).bind fun x895 => (isC μ877 v2 11).bind fun _ => bd (fX11_best v2 x885 x890 x895 μ877) fun x896 μ896 => if (lg_cmp x877 x896) = 0 then (L_law_L18 L xs v1 v2 n ((v3 + 7)) μ896) else (none)) else if (x29 &&& (63 : Int32)) = 18 then ((scA L xs ((v3 + (1 : Int32)))).bind fun x910 => (scA L xs ((v3 + (2 : Int32)))).bind fun x915 => (scA L xs ((v3 + (3 : Int32)))).bind fun x920 => (isC μ v1 10).bind fun _ => bd (fX10_release v1 x910 x915 x920 μ) fun x921 μ921 => (scA L xs ((v3 + (1 : Int32)))).bind fun x929 => (scA L xs ((v3 + (2 : Int32)))).bind fun x934 => (scA L xs ((v3 + (3 : Int32)))).bind fun x939 => (isC μ921 v2 11).bind fun _ => bd (fX11_release v2 x929 x934 x939 μ921) fun x940 μ940 => if x921 = x940 then (L_law_L18 L xs v1 v2 n ((v3 + 7)) μ940) else (none)) else if (x29 &&& (63 : Int32)) = 19 then ((scA L xs ((v3 + (1 : Int32)))).bind fun x953 => (scA L xs ((v3 + (2 : Int32)))).bind fun x958 => (scA L xs ((v3 + (3 : Int32)))).bind fun x963 => (scA L xs ((v3 + (4 : Int32)))).bind fun x968 => (isC μ v1 10).bind fun _ => bd (fX10_would v1 x953 x958 x963 x968 μ) fun x969 μ969 => (scA L xs ((v3 + (1 : Int32)))).bind fun x977 => (scA L xs ((v3 + (2 : Int32)))).bind fun x982 => (scA L xs ((v3 + (3 : Int32)))).bind fun x987 => (scA L xs ((v3 + (4 : Int32)))).bind fun x992 => (isC μ969 v2 11).bind fun _ => bd (fX11_would v2 x977 x982 x987 x992 μ969) fun x993 μ993 => if (lg_cmp x969 x993) = 0 then (L_law_L18 L xs v1 v2 n ((v3 + 7)) μ993) else (none)) else if (x29 &&& (63 : Int32)) = 20 then ((scA L xs ((v3 + (1 : Int32)))).bind fun x1007 => (scA L xs ((v3 + (2 : Int32)))).bind fun x1012 => (scA L xs ((v3 + (3 : Int32)))).bind fun x1017 => (isC μ v1 10).bind fun _ => bd (fX10_after v1 x1007 x1012 x1017 μ) fun x1018 μ1018 => (scA L xs ((v3 + (1 : Int32)))).bind fun x1026 => (scA L xs ((v3 + (2 : Int32)))).bind fun x1031 => (scA L xs ((v3 + (3 : Int32)))).bind fun x1036 => (isC μ1018 v2 11).bind fun _ => bd (fX11_after v2 x1026 x1031 x1036 μ1018) fun x1037 μ1037 => if (lg_cmp x1018 x1037) = 0 then (L_law_L18 L xs v1 v2 n ((v3 + 7)) μ1037) else (none)) else if (x29 &&& (63 : Int32)) = 21 then ((scA L xs ((v3 + (1 : Int32)))).bind fun x1051 => (scA L xs ((v3 + (2 : Int32)))).bind fun x1056 => (scA L xs ((v3 + (3 : Int32)))).bind fun x1061 => (isC μ v1 10).bind fun _ => bd (fX10_way v1 x1051 x1056 x1061 μ) fun x1062 μ1062 => (scA L xs ((v3 + (1 : Int32)))).bind fun x1070 => (scA L xs ((v3 + (2 : Int32)))).bind fun x1075 => (scA L xs ((v3 + (3 : Int32)))).bind fun x1080 => (isC μ1062 v2 11).bind fun _ => bd (fX11_way v2 x1070 x1075 x1080 μ1062) fun x1081 μ1081 => if x1062 = x1081 then (L_law_L18 L xs v1 v2 n ((v3 + 7)) μ1081) else (none)) else if (x29 &&& (63 : Int32)) = 22 then ((scA L xs ((v3 + (1 : Int32)))).bind fun x1094 => (scA L xs ((v3 + (2 : Int32)))).bind fun x1099 => (isC μ v1 10).bind fun _ => bd (fX10_chance v1 x1094 x1099 μ) fun x1100 μ1100 => (scA L xs ((v3 + (1 : Int32)))).bind fun x1108 => (scA L xs ((v3 + (2 : Int32)))).bind fun x1113 => (isC μ1100 v2 11).bind fun _ => bd (fX11_chance v2 x1108 x1113 μ1100) fun x1114 μ1114 => if (lg_cmp x1100 x1114) = 0 then (L_law_L18 L xs v1 v2 n ((v3 + 7)) μ1114) else (none)) else if (x29 &&& (63 : Int32)) = 23 then ((scA L xs ((v3 + (1 : Int32)))).bind fun x1128 => (scA L xs ((v3 + (2 : Int32)))).bind fun x1133 => (scA L xs ((v3 + (3 : Int32)))).bind fun x1138 => (scA L xs ((v3 + (4 : Int32)))).bind fun x1143 => (isC μ v1 10).bind fun _ => bd (fX10_worth v1 x1128 x1133 x1138 x1143 μ) fun x1144 μ1144 => (scA L xs ((v3 + (1 : Int32)))).bind fun x1152 => (scA L xs ((v3 + (2 : Int32)))).bind fun x1157 => (scA L xs ((v3 + (3 : Int32)))).bind fun x1162 => (scA L xs ((v3 + (4 : Int32)))).bind fun x1167 => (isC μ1144 v2 11).bind fun _ => bd (fX11_worth v2 x1152 x1157 x1162 x1167 μ1144) fun x1168 μ1168 => if (lg_cmp x1144 x1168) = 0 then (L_law_L18 L xs v1 v2 n ((v3 + 7)) μ1168) else (none)) else if (x29 &&& (63 : Int32)) = 24 then ((scA L xs ((v3 + (1 : Int32)))).bind fun x1182 => (scA L xs ((v3 + (2 : Int32)))).bind fun x1187 => (isC μ v1 10).bind fun _ => bd (fX10_record v1 x1182 x1187 μ) fun x1188 μ1188 => (scA L xs ((v3 + (1 : Int32)))).bind fun x1196 => (scA L xs ((v3 + (2 : Int32)))).bind fun x1201 => (isC μ1188 v2 11).bind fun _ => bd (fX11_record v2 x1196 x1201 μ1188) fun x1202 μ1202 => if x1188 = x1202 then (L_law_L18 L xs v1 v2 n ((v3 + 7)) μ1202) else (none)) else if (x29 &&& (63 : Int32)) = 25 then ((scA L xs ((v3 + (1 : Int32)))).bind fun x1215 => (scA L xs ((v3 + (2 : Int32)))).bind fun x1220 => (scA L xs ((v3 + (3 : Int32)))).bind fun x1225 => (scA L xs ((v3 + (4 : Int32)))).bind fun x1230 => (scA L xs ((v3 + (5 : Int32)))).bind fun x1235 => (isC μ v1 10).bind fun _ => bd (fX10_replay v1 x1215 x1220 x1225 x1230 x1235 μ) fun x1236 μ1236 => (scA L xs ((v3 + (1 : Int32)))).bind fun x1244 => (scA L xs ((v3 + (2 : Int32)))).bind fun x1249 => (scA L xs ((v3 + (3 : Int32)))).bind fun x1254 => (scA L xs ((v3 + (4 : Int32)))).bind fun x1259 => (scA L xs ((v3 + (5 : Int32)))).bind fun x1264 => (isC μ1236 v2 11).bind fun _ => bd (fX11_replay v2 x1244 x1249 x1254 x1259 x1264 μ1236) fun x1265 μ1265 => if (lg_cmp x1236 x1265) = 0 then (L_law_L18 L xs v1 v2 n ((v3 + 7)) μ1265) else (none)) else if (x29 &&& (63 : Int32)) = 26 then ((scA L xs ((v3 + (1 : Int32)))).bind fun x1279 => (scA L xs ((v3 + (2 : Int32)))).bind fun x1284 => (scA L xs ((v3 + (3 : Int32)))).bind fun x1289 => (scA L xs ((v3 + (4 : Int32)))).bind fun x1294 => (scA L xs ((v3 + (5 : Int32)))).bind fun x1299 => (isC μ v1 10).bind fun _ => bd (fX10_sure v1 x1279 x1284 x1289 x1294 x1299 μ) fun x1300 μ1300 => (scA L xs ((v3 + (1 : Int32)))).bind fun x1308 => (scA L xs ((v3 + (2 : Int32)))).bind fun x1313 => (scA L xs ((v3 + (3 : Int32)))).bind fun x1318 => (scA L xs ((v3 + (4 : Int32)))).bind fun x1323 => (scA L xs ((v3 + (5 : Int32)))).bind fun x1328 => (isC μ1300 v2 11).bind fun _ => bd (fX11_sure v2 x1308 x1313 x1318 x1323 x1328 μ1300) fun x1329 μ1329 => if (lg_cmp x1300 x1329) = 0 then (L_law_L18 L xs v1 v2 n ((v3 + 7)) μ1329) else (none)) else if (x29 &&& (63 : Int32)) = 27 then ((scA L xs ((v3 + (1 : Int32)))).bind fun x1343 => (isC μ v1 10).bind fun _ => bd (fX10_learn v1 x1343 μ) fun x1344 μ1344 => (scA L xs ((v3 + (1 : Int32)))).bind fun x1352 => (isC μ1344 v2 11).bind fun _ => bd (fX11_learn v2 x1352 μ1344) fun x1353 μ1353 => if x1344 = x1353 then (L_law_L18 L xs v1 v2 n ((v3 + 7)) μ1353) else (none)) else if (x29 &&& (63 : Int32)) = 28 then ((scA L xs ((v3 + (1 : Int32)))).bind fun x1366 => (scA L xs ((v3 + (2 : Int32)))).bind fun x1371 => (scA L xs ((v3 + (3 : Int32)))).bind fun x1376 => (scA L xs ((v3 + (4 : Int32)))).bind fun x1381 => (isC μ v1 10).bind fun _ => bd (fX10_see v1 x1366 x1371 x1376 x1381 μ) fun x1382 μ1382 => (scA L xs ((v3 + (1 : Int32)))).bind fun x1390 => (scA L xs ((v3 + (2 : Int32)))).bind fun x1395 => (scA L xs ((v3 + (3 : Int32)))).bind fun x1400 => (scA L xs ((v3 + (4 : Int32)))).bind fun x1405 => (isC μ1382 v2 11).bind fun _ => bd (fX11_see v2 x1390 x1395 x1400 x1405 μ1382) fun x1406 μ1406 => if x1382 = x1406 then (L_law_L18 L xs v1 v2 n ((v3 + 7)) μ1406) else (none)) else if (x29 &&& (63 : Int32)) = 29 then ((scA L xs ((v3 + (1 : Int32)))).bind fun x1419 => (isC μ v1 10).bind fun _ => bd (fX10_fits v1 x1419 μ) fun x1420 μ1420 => (scA L xs ((v3 + (1 : Int32)))).bind fun x1428 => (isC μ1420 v2 11).bind fun _ => bd (fX11_fits v2 x1428 μ1420) fun x1429 μ1429 => if x1420 = x1429 then (L_law_L18 L xs v1 v2 n ((v3 + 7)) μ1429) else (none)) else if (x29 &&& (63 : Int32)) = 30 then ((scA L xs ((v3 + (1 : Int32)))).bind fun x1442 => (scA L xs ((v3 + (2 : Int32)))).bind fun x1447 => (isC μ v1 10).bind fun _ => bd (fX10_plan v1 x1442 x1447 μ) fun x1448 μ1448 => (scA L xs ((v3 + (1 : Int32)))).bind fun x1456 => (scA L xs ((v3 + (2 : Int32)))).bind fun x1461 => (isC μ1448 v2 11).bind fun _ => bd (fX11_plan v2 x1456 x1461 μ1448) fun x1462 μ1462 => if x1448 = x1462 then (L_law_L18 L xs v1 v2 n ((v3 + 7)) μ1462) else (none)) else if (x29 &&& (63 : Int32)) = 31 then ((scA L xs ((v3 + (1 : Int32)))).bind fun x1475 => (scA L xs ((v3 + (2 : Int32)))).bind fun x1480 => (isC μ v1 10).bind fun _ => bd (fX10_ends v1 x1475 x1480 μ) fun x1481 μ1481 => (scA L xs ((v3 + (1 : Int32)))).bind fun x1489 => (scA L xs ((v3 + (2 : Int32)))).bind fun x1494 => (isC μ1481 v2 11).bind fun _ => bd (fX11_ends v2 x1489 x1494 μ1481) fun x1495 μ1495 => if (lg_cmp x1481 x1495) = 0 then (L_law_L18 L xs v1 v2 n ((v3 + 7)) μ1495) else (none)) else if (x29 &&& (63 : Int32)) = 32 then ((scA L xs ((v3 + (1 : Int32)))).bind fun x1509 => (scA L xs ((v3 + (2 : Int32)))).bind fun x1514 => (scA L xs ((v3 + (3 : Int32)))).bind fun x1519 => (isC μ v1 10).bind fun _ => bd (fX10_book v1 x1509 x1514 x1519 μ) fun x1520 μ1520 => (scA L xs ((v3 + (1 : Int32)))).bind fun x1528 => (scA L xs ((v3 + (2 : Int32)))).bind fun x1533 => (scA L xs ((v3 + (3 : Int32)))).bind fun x1538 => (isC μ1520 v2 11).bind fun _ => bd (fX11_book v2 x1528 x1533 x1538 μ1520) fun x1539 μ1539 => if x1520 = x1539 then (L_law_L18 L xs v1 v2 n ((v3 + 7)) μ1539) else (none)) else if (x29 &&& (63 : Int32)) = 33 then ((isC μ v1 10).bind fun _ => bd (fX10_looked v1 μ) fun x1548 μ1548 => (isC μ1548 v2 11).bind fun _ => bd (fX11_looked v2 μ1548) fun x1552 μ1552 => if x1548 = x1552 then (L_law_L18 L xs v1 v2 n ((v3 + 7)) μ1552) else (none)) else if (x29 &&& (63 : Int32)) = 34 then ((scA L xs ((v3 + (1 : Int32)))).bind fun x1565 => (scA L xs ((v3 + (2 : Int32)))).bind fun x1570 => (scA L xs ((v3 + (3 : Int32)))).bind fun x1575 => (scA L xs ((v3 + (4 : Int32)))).bind fun x1580 => (scA L xs ((v3 + (5 : Int32)))).bind fun x1585 => (isC μ v1 10).bind fun _ => bd (fX10_judge v1 x1565 x1570 x1575 x1580 x1585 μ) fun x1586 μ1586 => (scA L xs ((v3 + (1 : Int32)))).bind fun x1594 => (scA L xs ((v3 + (2 : Int32)))).bind fun x1599 => (scA L xs ((v3 + (3 : Int32)))).bind fun x1604 => (scA L xs ((v3 + (4 : Int32)))).bind fun x1609 => (scA L xs ((v3 + (5 : Int32)))).bind fun x1614 => (isC μ1586 v2 11).bind fun _ => bd (fX11_judge v2 x1594 x1599 x1604 x1609 x1614 μ1586) fun x1615 μ1615 => if x1586 = x1615 then (L_law_L18 L xs v1 v2 n ((v3 + 7)) μ1615) else (none)) else if (x29 &&& (63 : Int32)) = 35 then ((isC μ v1 10).bind fun _ => bd (fX10_image v1 μ) fun x1624 μ1624 => (isC μ1624 v2 11).bind fun _ => bd (fX11_image v2 μ1624) fun x1628 μ1628 => if x1624 = x1628 then (L_law_L18 L xs v1 v2 n ((v3 + 7)) μ1628) else (none)) else if (x29 &&& (63 : Int32)) = 36 then ((isC μ v1 10).bind fun _ => bd (fX10_undo v1 μ) fun x1637 μ1637 => (isC μ1637 v2 11).bind fun _ => bd (fX11_undo v2 μ1637) fun x1641 μ1641 => if x1637 = x1641 then (L_law_L18 L xs v1 v2 n ((v3 + 7)) μ1641) else (none)) else if (x29 &&& (63 : Int32)) = 37 then ((scA L xs ((v3 + (1 : Int32)))).bind fun x1654 => (isC μ v1 10).bind fun _ => bd (fX10_count v1 x1654 μ) fun x1655 μ1655 => (scA L xs ((v3 + (1 : Int32)))).bind fun x1663 => (isC μ1655 v2 11).bind fun _ => bd (fX11_count v2 x1663 μ1655) fun x1664 μ1664 => if x1655 = x1664 then (L_law_L18 L xs v1 v2 n ((v3 + 7)) μ1664) else (none)) else if (x29 &&& (63 : Int32)) = 38 then ((scA L xs ((v3 + (1 : Int32)))).bind fun x1677 => (scA L xs ((v3 + (2 : Int32)))).bind fun x1682 => (scA L xs ((v3 + (3 : Int32)))).bind fun x1687 => (isC μ v1 10).bind fun _ => bd (fX10_tape v1 x1677 x1682 x1687 μ) fun x1688 μ1688 => (scA L xs ((v3 + (1 : Int32)))).bind fun x1696 => (scA L xs ((v3 + (2 : Int32)))).bind fun x1701 => (scA L xs ((v3 + (3 : Int32)))).bind fun x1706 => (isC μ1688 v2 11).bind fun _ => bd (fX11_tape v2 x1696 x1701 x1706 μ1688) fun x1707 μ1707 => if x1688 = x1707 then (L_law_L18 L xs v1 v2 n ((v3 + 7)) μ1707) else (none)) else if (x29 &&& (63 : Int32)) = 39 then ((scA L xs ((v3 + (1 : Int32)))).bind fun x1720 => (scA L xs ((v3 + (2 : Int32)))).bind fun x1725 => (scA L xs ((v3 + (3 : Int32)))).bind fun x1730 => (scA L xs ((v3 + (4 : Int32)))).bind fun x1739 => (isC μ v1 10).bind fun _ => bd (fX10_item v1 x1720 x1725 (((x1730.toInt64 <<< ((32 : Int32).toInt64 &&& 63)) ||| (x1739.toInt64 &&& (4294967295 : Int64)))) μ) fun x1746 μ1746 => (scA L xs ((v3 + (1 : Int32)))).bind fun x1754 => (scA L xs ((v3 + (2 : Int32)))).bind fun x1759 => (scA L xs ((v3 + (3 : Int32)))).bind fun x1764 => (scA L xs ((v3 + (4 : Int32)))).bind fun x1773 => (isC μ1746 v2 11).bind fun _ => bd (fX11_item v2 x1754 x1759 (((x1764.toInt64 <<< ((32 : Int32).toInt64 &&& 63)) ||| (x1773.toInt64 &&& (4294967295 : Int64)))) μ1746) fun x1780 μ1780 => if x1746 = x1780 then (L_law_L18 L xs v1 v2 n ((v3 + 7)) μ1780) else (none)) else if (x29 &&& (63 : Int32)) = 40 then ((scA L xs ((v3 + (1 : Int32)))).bind fun x1793 => (scA L xs ((v3 + (2 : Int32)))).bind fun x1798 => (isC μ v1 10).bind fun _ => bd (fX10_peek v1 x1793 x1798 μ) fun x1799 μ1799 => (scA L xs ((v3 + (1 : Int32)))).bind fun x1807 => (scA L xs ((v3 + (2 : Int32)))).bind fun x1812 => (isC μ1799 v2 11).bind fun _ => bd (fX11_peek v2 x1807 x1812 μ1799) fun x1813 μ1813 => if (lg_cmp x1799 x1813) = 0 then (L_law_L18 L xs v1 v2 n ((v3 + 7)) μ1813) else (none)) else if (x29 &&& (63 : Int32)) = 41 then ((scA L xs ((v3 + (1 : Int32)))).bind fun x1827 => (scA L xs ((v3 + (2 : Int32)))).bind fun x1832 => (scA L xs ((v3 + (3 : Int32)))).bind fun x1837 => (scA L xs ((v3 + (4 : Int32)))).bind fun x1842 => (scA L xs ((v3 + (5 : Int32)))).bind fun x1847 => (isC μ v1 10).bind fun _ => bd (fX10_shift v1 x1827 x1832 x1837 x1842 x1847 μ) fun x1848 μ1848 => (scA L xs ((v3 + (1 : Int32)))).bind fun x1856 => (scA L xs ((v3 + (2 : Int32)))).bind fun x1861 => (scA L xs ((v3 + (3 : Int32)))).bind fun x1866 => (scA L xs ((v3 + (4 : Int32)))).bind fun x1871 => (scA L xs ((v3 + (5 : Int32)))).bind fun x1876 => (isC μ1848 v2 11).bind fun _ => bd (fX11_shift v2 x1856 x1861 x1866 x1871 x1876 μ1848) fun x1877 μ1877 => if x1848 = x1877 then (L_law_L18 L xs v1 v2 n ((v3 + 7)) μ1877) else (none)) else (L_law_L18 L xs v1 v2 n ((v3 + 7)) μ))
set_option maxHeartbeats 8000000 in
set_option maxRecDepth 100000 in
theorem L_law_L18_ok {p : Program} {l : Launch} {e : Env} {R : Room} {s : State} {m : MethodId} {args : Array Value} {below : List Frame} {meth : Method} {c : Code} {D : va_G} {ca : Nat → ClassId} {ad : Nat → Nat} {A : Nat → Prop} {L : Nat} {xs : Nat → Int32} {K : Option Value → Mem → State → Prop} (C : CX p R s m args meth c D ca ad A (ScrOK ad A L xs) cL_law RL 4 ret 11) (hK : LRet p l e R s m args below meth c A K) (v1 v2 : Nat) : ∀ (n : Nat) (v3 : Int32) (μ : Mem), Sm p l e R s m args below meth c D ca ad A 4 119 7369 wI K 18 [(0, .ref 1000), (1, .ref v1), (2, .ref v2), (3, .int v3)] [] μ (L_law_L18 L xs v1 v2 n v3 μ) := by
  intro n
  induction n with
  | zero =>
    intro v3 μ
    rw [L_law_L18]
    exact E_none
  | succ n ih =>
    intro v3 μ
    rw [L_law_L18]
    refine E_iload_n C dL_law_18 3 rfl ?_
    refine E_aload_n C dL_law_19 0 rfl ?_
    refine E_slen C dL_law_20 ?_
    refine E_bipush C 7 dL_law_21 (by decide) ?_
    refine E_isub C dL_law_23 ?_
    refine E_icmp_gt C 1891 dL_law_24 (by decide) ?_ ?_
    · refine E_iconst C 1 dL_law_1891 (by decide) ?_
      exact E_lawret hK dL_law_1892
    · refine E_at (pc2 := 27) rfl ?_
      refine E_aload_n C dL_law_27 0 rfl ?_
      refine E_iload_n C dL_law_28 3 rfl ?_
      refine E_sld C dL_law_29 (fun x29 => ?_)
      refine E_bipush C 63 dL_law_30 (by decide) ?_
      refine E_iand C dL_law_32 ?_
      refine E_ite (fun h33_0 => ?_) (fun h33_0 => ?_)
      · refine E_tabIn (kx := 0) (off := 183) C 216 h33_0 dL_law_33 (by decide +kernel) (by decide) ?_
        refine E_aload_n C dL_law_216 1 rfl ?_
        refine E_aload_n C dL_law_217 0 rfl ?_
        refine E_iload_n C dL_law_218 3 rfl ?_
        refine E_iconst C 1 dL_law_219 (by decide) ?_
        refine E_iadd C dL_law_220 ?_
        refine E_sld C dL_law_221 (fun x221 => ?_)
        refine E_aload_n C dL_law_222 0 rfl ?_
        refine E_iload_n C dL_law_223 3 rfl ?_
        refine E_iconst C 2 dL_law_224 (by decide) ?_
        refine E_iadd C dL_law_225 ?_
        refine E_sld C dL_law_226 (fun x226 => ?_)
        refine E_callVI (st := []) C [.int x221, .int x226] (mX10_put v1 x221 x226 μ) cal_X10_put vir_X10_put lk_L_13 dL_law_227 rfl rfl (Nat.le_of_ble_eq_true rfl) (Nat.le_of_ble_eq_true rfl) (fun x227 μ227 => ?_)
        refine E_aload_n C dL_law_230 2 rfl ?_
        refine E_aload_n C dL_law_231 0 rfl ?_
        refine E_iload_n C dL_law_232 3 rfl ?_
        refine E_iconst C 1 dL_law_233 (by decide) ?_
        refine E_iadd C dL_law_234 ?_
        refine E_sld C dL_law_235 (fun x235 => ?_)
        refine E_aload_n C dL_law_236 0 rfl ?_
        refine E_iload_n C dL_law_237 3 rfl ?_
        refine E_iconst C 2 dL_law_238 (by decide) ?_
        refine E_iadd C dL_law_239 ?_
        refine E_sld C dL_law_240 (fun x240 => ?_)
        refine E_callVI (st := [.int x227]) C [.int x235, .int x240] (mX11_put v2 x235 x240 μ227) cal_X11_put vir_X11_put lk_L_17 dL_law_241 rfl rfl (Nat.le_of_ble_eq_true rfl) (Nat.le_of_ble_eq_true rfl) (fun x241 μ241 => ?_)
        refine E_icmp_eq C 1885 dL_law_244 (by decide) ?_ ?_
        · refine E_iinc (lv' := [(3, .int ((v3 + 7))), (0, .ref 1000), (1, .ref v1), (2, .ref v2)]) C (v3 + 7) dL_law_1885 3 rfl rfl (by decide) rfl ?_
          refine E_goto C 18 dL_law_1888 (by decide) ?_
          exact E_pick [1, 2, 3, 0] rfl (ih ((v3 + 7)) μ241)
        · refine E_at (pc2 := 247) rfl ?_
          refine E_iconst C 0 dL_law_247 (by decide) ?_
          exact E_none
      · refine E_ite (fun h33_1 => ?_) (fun h33_1 => ?_)
        · refine E_tabIn (kx := 1) (off := 216) C 249 h33_1 dL_law_33 (by decide +kernel) (by decide) ?_
          refine E_aload_n C dL_law_249 1 rfl ?_
          refine E_aload_n C dL_law_250 0 rfl ?_
          refine E_iload_n C dL_law_251 3 rfl ?_
          refine E_iconst C 1 dL_law_252 (by decide) ?_
          refine E_iadd C dL_law_253 ?_
          refine E_sld C dL_law_254 (fun x254 => ?_)
          refine E_aload_n C dL_law_255 0 rfl ?_
          refine E_iload_n C dL_law_256 3 rfl ?_
          refine E_iconst C 2 dL_law_257 (by decide) ?_
          refine E_iadd C dL_law_258 ?_
          refine E_sld C dL_law_259 (fun x259 => ?_)
          refine E_aload_n C dL_law_260 0 rfl ?_
          refine E_iload_n C dL_law_261 3 rfl ?_
          refine E_iconst C 3 dL_law_262 (by decide) ?_
          refine E_iadd C dL_law_263 ?_
          refine E_sld C dL_law_264 (fun x264 => ?_)
          refine E_callVI (st := []) C [.int x254, .int x259, .int x264] (mX10_inflow v1 x254 x259 x264 μ) cal_X10_inflow vir_X10_inflow lk_L_18 dL_law_265 rfl rfl (Nat.le_of_ble_eq_true rfl) (Nat.le_of_ble_eq_true rfl) (fun x265 μ265 => ?_)
          refine E_aload_n C dL_law_268 2 rfl ?_
          refine E_aload_n C dL_law_269 0 rfl ?_
          refine E_iload_n C dL_law_270 3 rfl ?_
          refine E_iconst C 1 dL_law_271 (by decide) ?_
          refine E_iadd C dL_law_272 ?_
          refine E_sld C dL_law_273 (fun x273 => ?_)
          refine E_aload_n C dL_law_274 0 rfl ?_
          refine E_iload_n C dL_law_275 3 rfl ?_
          refine E_iconst C 2 dL_law_276 (by decide) ?_
          refine E_iadd C dL_law_277 ?_
          refine E_sld C dL_law_278 (fun x278 => ?_)
          refine E_aload_n C dL_law_279 0 rfl ?_
          refine E_iload_n C dL_law_280 3 rfl ?_
          refine E_iconst C 3 dL_law_281 (by decide) ?_
          refine E_iadd C dL_law_282 ?_
          refine E_sld C dL_law_283 (fun x283 => ?_)
          refine E_callVI (st := [.int x265]) C [.int x273, .int x278, .int x283] (mX11_inflow v2 x273 x278 x283 μ265) cal_X11_inflow vir_X11_inflow lk_L_22 dL_law_284 rfl rfl (Nat.le_of_ble_eq_true rfl) (Nat.le_of_ble_eq_true rfl) (fun x284 μ284 => ?_)
          refine E_icmp_eq C 1885 dL_law_287 (by decide) ?_ ?_
          · refine E_iinc (lv' := [(3, .int ((v3 + 7))), (0, .ref 1000), (1, .ref v1), (2, .ref v2)]) C (v3 + 7) dL_law_1885 3 rfl rfl (by decide) rfl ?_
            refine E_goto C 18 dL_law_1888 (by decide) ?_
            exact E_pick [1, 2, 3, 0] rfl (ih ((v3 + 7)) μ284)
          · refine E_at (pc2 := 290) rfl ?_
            refine E_iconst C 0 dL_law_290 (by decide) ?_
            exact E_none
        · refine E_ite (fun h33_2 => ?_) (fun h33_2 => ?_)
          · refine E_tabIn (kx := 2) (off := 259) C 292 h33_2 dL_law_33 (by decide +kernel) (by decide) ?_
            refine E_aload_n C dL_law_292 1 rfl ?_
            refine E_aload_n C dL_law_293 0 rfl ?_
            refine E_iload_n C dL_law_294 3 rfl ?_
            refine E_iconst C 1 dL_law_295 (by decide) ?_
            refine E_iadd C dL_law_296 ?_
            refine E_sld C dL_law_297 (fun x297 => ?_)
            refine E_aload_n C dL_law_298 0 rfl ?_
            refine E_iload_n C dL_law_299 3 rfl ?_
            refine E_iconst C 2 dL_law_300 (by decide) ?_
            refine E_iadd C dL_law_301 ?_
            refine E_sld C dL_law_302 (fun x302 => ?_)
            refine E_aload_n C dL_law_303 0 rfl ?_
            refine E_iload_n C dL_law_304 3 rfl ?_
            refine E_iconst C 3 dL_law_305 (by decide) ?_
            refine E_iadd C dL_law_306 ?_
            refine E_sld C dL_law_307 (fun x307 => ?_)
            refine E_callVI (st := []) C [.int x297, .int x302, .int x307] (mX10_part v1 x297 x302 x307 μ) cal_X10_part vir_X10_part lk_L_23 dL_law_308 rfl rfl (Nat.le_of_ble_eq_true rfl) (Nat.le_of_ble_eq_true rfl) (fun x308 μ308 => ?_)
            refine E_aload_n C dL_law_311 2 rfl ?_
            refine E_aload_n C dL_law_312 0 rfl ?_
            refine E_iload_n C dL_law_313 3 rfl ?_
            refine E_iconst C 1 dL_law_314 (by decide) ?_
            refine E_iadd C dL_law_315 ?_
            refine E_sld C dL_law_316 (fun x316 => ?_)
            refine E_aload_n C dL_law_317 0 rfl ?_
            refine E_iload_n C dL_law_318 3 rfl ?_
            refine E_iconst C 2 dL_law_319 (by decide) ?_
            refine E_iadd C dL_law_320 ?_
            refine E_sld C dL_law_321 (fun x321 => ?_)
            refine E_aload_n C dL_law_322 0 rfl ?_
            refine E_iload_n C dL_law_323 3 rfl ?_
            refine E_iconst C 3 dL_law_324 (by decide) ?_
            refine E_iadd C dL_law_325 ?_
            refine E_sld C dL_law_326 (fun x326 => ?_)
            refine E_callVI (st := [.int x308]) C [.int x316, .int x321, .int x326] (mX11_part_ v2 x316 x321 x326 μ308) cal_X11_part_ vir_X11_part_ lk_L_26 dL_law_327 rfl rfl (Nat.le_of_ble_eq_true rfl) (Nat.le_of_ble_eq_true rfl) (fun x327 μ327 => ?_)
            refine E_icmp_eq C 1885 dL_law_330 (by decide) ?_ ?_
            · refine E_iinc (lv' := [(3, .int ((v3 + 7))), (0, .ref 1000), (1, .ref v1), (2, .ref v2)]) C (v3 + 7) dL_law_1885 3 rfl rfl (by decide) rfl ?_
              refine E_goto C 18 dL_law_1888 (by decide) ?_
              exact E_pick [1, 2, 3, 0] rfl (ih ((v3 + 7)) μ327)
            · refine E_at (pc2 := 333) rfl ?_
              refine E_iconst C 0 dL_law_333 (by decide) ?_
              exact E_none
          · refine E_ite (fun h33_3 => ?_) (fun h33_3 => ?_)
            · refine E_tabIn (kx := 3) (off := 302) C 335 h33_3 dL_law_33 (by decide +kernel) (by decide) ?_
              refine E_aload_n C dL_law_335 1 rfl ?_
              refine E_aload_n C dL_law_336 0 rfl ?_
              refine E_iload_n C dL_law_337 3 rfl ?_
              refine E_iconst C 1 dL_law_338 (by decide) ?_
              refine E_iadd C dL_law_339 ?_
              refine E_sld C dL_law_340 (fun x340 => ?_)
              refine E_aload_n C dL_law_341 0 rfl ?_
              refine E_iload_n C dL_law_342 3 rfl ?_
              refine E_iconst C 2 dL_law_343 (by decide) ?_
              refine E_iadd C dL_law_344 ?_
              refine E_sld C dL_law_345 (fun x345 => ?_)
              refine E_aload_n C dL_law_346 0 rfl ?_
              refine E_iload_n C dL_law_347 3 rfl ?_
              refine E_iconst C 3 dL_law_348 (by decide) ?_
              refine E_iadd C dL_law_349 ?_
              refine E_sld C dL_law_350 (fun x350 => ?_)
              refine E_callVI (st := []) C [.int x340, .int x345, .int x350] (mX10_month v1 x340 x345 x350 μ) cal_X10_month vir_X10_month lk_L_27 dL_law_351 rfl rfl (Nat.le_of_ble_eq_true rfl) (Nat.le_of_ble_eq_true rfl) (fun x351 μ351 => ?_)
              refine E_aload_n C dL_law_354 2 rfl ?_
              refine E_aload_n C dL_law_355 0 rfl ?_
              refine E_iload_n C dL_law_356 3 rfl ?_
              refine E_iconst C 1 dL_law_357 (by decide) ?_
              refine E_iadd C dL_law_358 ?_
              refine E_sld C dL_law_359 (fun x359 => ?_)
              refine E_aload_n C dL_law_360 0 rfl ?_
              refine E_iload_n C dL_law_361 3 rfl ?_
              refine E_iconst C 2 dL_law_362 (by decide) ?_
              refine E_iadd C dL_law_363 ?_
              refine E_sld C dL_law_364 (fun x364 => ?_)
              refine E_aload_n C dL_law_365 0 rfl ?_
              refine E_iload_n C dL_law_366 3 rfl ?_
              refine E_iconst C 3 dL_law_367 (by decide) ?_
              refine E_iadd C dL_law_368 ?_
              refine E_sld C dL_law_369 (fun x369 => ?_)
              refine E_callVI (st := [.int x351]) C [.int x359, .int x364, .int x369] (mX11_month v2 x359 x364 x369 μ351) cal_X11_month vir_X11_month lk_L_30 dL_law_370 rfl rfl (Nat.le_of_ble_eq_true rfl) (Nat.le_of_ble_eq_true rfl) (fun x370 μ370 => ?_)
              refine E_icmp_eq C 1885 dL_law_373 (by decide) ?_ ?_
              · refine E_iinc (lv' := [(3, .int ((v3 + 7))), (0, .ref 1000), (1, .ref v1), (2, .ref v2)]) C (v3 + 7) dL_law_1885 3 rfl rfl (by decide) rfl ?_
                refine E_goto C 18 dL_law_1888 (by decide) ?_
                exact E_pick [1, 2, 3, 0] rfl (ih ((v3 + 7)) μ370)
              · refine E_at (pc2 := 376) rfl ?_
                refine E_iconst C 0 dL_law_376 (by decide) ?_
                exact E_none
            · refine E_ite (fun h33_4 => ?_) (fun h33_4 => ?_)
              · refine E_tabIn (kx := 4) (off := 345) C 378 h33_4 dL_law_33 (by decide +kernel) (by decide) ?_
                refine E_aload_n C dL_law_378 1 rfl ?_
                refine E_aload_n C dL_law_379 0 rfl ?_
                refine E_iload_n C dL_law_380 3 rfl ?_
                refine E_iconst C 1 dL_law_381 (by decide) ?_
                refine E_iadd C dL_law_382 ?_
                refine E_sld C dL_law_383 (fun x383 => ?_)
                refine E_aload_n C dL_law_384 0 rfl ?_
                refine E_iload_n C dL_law_385 3 rfl ?_
                refine E_iconst C 2 dL_law_386 (by decide) ?_
                refine E_iadd C dL_law_387 ?_
                refine E_sld C dL_law_388 (fun x388 => ?_)
                refine E_aload_n C dL_law_389 0 rfl ?_
                refine E_iload_n C dL_law_390 3 rfl ?_
                refine E_iconst C 3 dL_law_391 (by decide) ?_
                refine E_iadd C dL_law_392 ?_
                refine E_sld C dL_law_393 (fun x393 => ?_)
                refine E_aload_n C dL_law_394 0 rfl ?_
                refine E_iload_n C dL_law_395 3 rfl ?_
                refine E_iconst C 4 dL_law_396 (by decide) ?_
                refine E_iadd C dL_law_397 ?_
                refine E_sld C dL_law_398 (fun x398 => ?_)
                refine E_aload_n C dL_law_399 0 rfl ?_
                refine E_iload_n C dL_law_400 3 rfl ?_
                refine E_iconst C 5 dL_law_401 (by decide) ?_
                refine E_iadd C dL_law_402 ?_
                refine E_sld C dL_law_403 (fun x403 => ?_)
                refine E_aload_n C dL_law_404 0 rfl ?_
                refine E_iload_n C dL_law_405 3 rfl ?_
                refine E_bipush C 6 dL_law_406 (by decide) ?_
                refine E_iadd C dL_law_408 ?_
                refine E_sld C dL_law_409 (fun x409 => ?_)
                refine E_callVI (st := []) C [.int x383, .int x388, .int x393, .int x398, .int x403, .int x409] (mX10_demand v1 x383 x388 x393 x398 x403 x409 μ) cal_X10_demand vir_X10_demand lk_L_31 dL_law_410 rfl rfl (Nat.le_of_ble_eq_true rfl) (Nat.le_of_ble_eq_true rfl) (fun x410 μ410 => ?_)
                refine E_aload_n C dL_law_413 2 rfl ?_
                refine E_aload_n C dL_law_414 0 rfl ?_
                refine E_iload_n C dL_law_415 3 rfl ?_
                refine E_iconst C 1 dL_law_416 (by decide) ?_
                refine E_iadd C dL_law_417 ?_
                refine E_sld C dL_law_418 (fun x418 => ?_)
                refine E_aload_n C dL_law_419 0 rfl ?_
                refine E_iload_n C dL_law_420 3 rfl ?_
                refine E_iconst C 2 dL_law_421 (by decide) ?_
                refine E_iadd C dL_law_422 ?_
                refine E_sld C dL_law_423 (fun x423 => ?_)
                refine E_aload_n C dL_law_424 0 rfl ?_
                refine E_iload_n C dL_law_425 3 rfl ?_
                refine E_iconst C 3 dL_law_426 (by decide) ?_
                refine E_iadd C dL_law_427 ?_
                refine E_sld C dL_law_428 (fun x428 => ?_)
                refine E_aload_n C dL_law_429 0 rfl ?_
                refine E_iload_n C dL_law_430 3 rfl ?_
                refine E_iconst C 4 dL_law_431 (by decide) ?_
                refine E_iadd C dL_law_432 ?_
                refine E_sld C dL_law_433 (fun x433 => ?_)
                refine E_aload_n C dL_law_434 0 rfl ?_
                refine E_iload_n C dL_law_435 3 rfl ?_
                refine E_iconst C 5 dL_law_436 (by decide) ?_
                refine E_iadd C dL_law_437 ?_
                refine E_sld C dL_law_438 (fun x438 => ?_)
                refine E_aload_n C dL_law_439 0 rfl ?_
                refine E_iload_n C dL_law_440 3 rfl ?_
                refine E_bipush C 6 dL_law_441 (by decide) ?_
                refine E_iadd C dL_law_443 ?_
                refine E_sld C dL_law_444 (fun x444 => ?_)
                refine E_callVI (st := [.int x410]) C [.int x418, .int x423, .int x428, .int x433, .int x438, .int x444] (mX11_demand v2 x418 x423 x428 x433 x438 x444 μ410) cal_X11_demand vir_X11_demand lk_L_35 dL_law_445 rfl rfl (Nat.le_of_ble_eq_true rfl) (Nat.le_of_ble_eq_true rfl) (fun x445 μ445 => ?_)
                refine E_icmp_eq C 1885 dL_law_448 (by decide) ?_ ?_
                · refine E_iinc (lv' := [(3, .int ((v3 + 7))), (0, .ref 1000), (1, .ref v1), (2, .ref v2)]) C (v3 + 7) dL_law_1885 3 rfl rfl (by decide) rfl ?_
                  refine E_goto C 18 dL_law_1888 (by decide) ?_
                  exact E_pick [1, 2, 3, 0] rfl (ih ((v3 + 7)) μ445)
                · refine E_at (pc2 := 451) rfl ?_
                  refine E_iconst C 0 dL_law_451 (by decide) ?_
                  exact E_none
              · refine E_ite (fun h33_5 => ?_) (fun h33_5 => ?_)
                · refine E_tabIn (kx := 5) (off := 420) C 453 h33_5 dL_law_33 (by decide +kernel) (by decide) ?_
                  refine E_aload_n C dL_law_453 1 rfl ?_
                  refine E_aload_n C dL_law_454 0 rfl ?_
                  refine E_iload_n C dL_law_455 3 rfl ?_
                  refine E_iconst C 1 dL_law_456 (by decide) ?_
                  refine E_iadd C dL_law_457 ?_
                  refine E_sld C dL_law_458 (fun x458 => ?_)
                  refine E_aload_n C dL_law_459 0 rfl ?_
                  refine E_iload_n C dL_law_460 3 rfl ?_
                  refine E_iconst C 2 dL_law_461 (by decide) ?_
                  refine E_iadd C dL_law_462 ?_
                  refine E_sld C dL_law_463 (fun x463 => ?_)
                  refine E_aload_n C dL_law_464 0 rfl ?_
                  refine E_iload_n C dL_law_465 3 rfl ?_
                  refine E_iconst C 3 dL_law_466 (by decide) ?_
                  refine E_iadd C dL_law_467 ?_
                  refine E_sld C dL_law_468 (fun x468 => ?_)
                  refine E_callVI (st := []) C [.int x458, .int x463, .int x468] (mX10_renew v1 x458 x463 x468 μ) cal_X10_renew vir_X10_renew lk_L_36 dL_law_469 rfl rfl (Nat.le_of_ble_eq_true rfl) (Nat.le_of_ble_eq_true rfl) (fun x469 μ469 => ?_)
                  refine E_aload_n C dL_law_472 2 rfl ?_
                  refine E_aload_n C dL_law_473 0 rfl ?_
                  refine E_iload_n C dL_law_474 3 rfl ?_
                  refine E_iconst C 1 dL_law_475 (by decide) ?_
                  refine E_iadd C dL_law_476 ?_
                  refine E_sld C dL_law_477 (fun x477 => ?_)
                  refine E_aload_n C dL_law_478 0 rfl ?_
                  refine E_iload_n C dL_law_479 3 rfl ?_
                  refine E_iconst C 2 dL_law_480 (by decide) ?_
                  refine E_iadd C dL_law_481 ?_
                  refine E_sld C dL_law_482 (fun x482 => ?_)
                  refine E_aload_n C dL_law_483 0 rfl ?_
                  refine E_iload_n C dL_law_484 3 rfl ?_
                  refine E_iconst C 3 dL_law_485 (by decide) ?_
                  refine E_iadd C dL_law_486 ?_
                  refine E_sld C dL_law_487 (fun x487 => ?_)
                  refine E_callVI (st := [.int x469]) C [.int x477, .int x482, .int x487] (mX11_renew v2 x477 x482 x487 μ469) cal_X11_renew vir_X11_renew lk_L_39 dL_law_488 rfl rfl (Nat.le_of_ble_eq_true rfl) (Nat.le_of_ble_eq_true rfl) (fun x488 μ488 => ?_)
                  refine E_icmp_eq C 1885 dL_law_491 (by decide) ?_ ?_
                  · refine E_iinc (lv' := [(3, .int ((v3 + 7))), (0, .ref 1000), (1, .ref v1), (2, .ref v2)]) C (v3 + 7) dL_law_1885 3 rfl rfl (by decide) rfl ?_
                    refine E_goto C 18 dL_law_1888 (by decide) ?_
                    exact E_pick [1, 2, 3, 0] rfl (ih ((v3 + 7)) μ488)
                  · refine E_at (pc2 := 494) rfl ?_
                    refine E_iconst C 0 dL_law_494 (by decide) ?_
                    exact E_none
                · refine E_ite (fun h33_6 => ?_) (fun h33_6 => ?_)
                  · refine E_tabIn (kx := 6) (off := 463) C 496 h33_6 dL_law_33 (by decide +kernel) (by decide) ?_
                    refine E_aload_n C dL_law_496 1 rfl ?_
                    refine E_aload_n C dL_law_497 0 rfl ?_
                    refine E_iload_n C dL_law_498 3 rfl ?_
                    refine E_iconst C 1 dL_law_499 (by decide) ?_
                    refine E_iadd C dL_law_500 ?_
                    refine E_sld C dL_law_501 (fun x501 => ?_)
                    refine E_callVI (st := []) C [.int x501] (mX10_drop v1 x501 μ) cal_X10_drop vir_X10_drop lk_L_40 dL_law_502 rfl rfl (Nat.le_of_ble_eq_true rfl) (Nat.le_of_ble_eq_true rfl) (fun x502 μ502 => ?_)
                    refine E_aload_n C dL_law_505 2 rfl ?_
                    refine E_aload_n C dL_law_506 0 rfl ?_
                    refine E_iload_n C dL_law_507 3 rfl ?_
                    refine E_iconst C 1 dL_law_508 (by decide) ?_
                    refine E_iadd C dL_law_509 ?_
                    refine E_sld C dL_law_510 (fun x510 => ?_)
                    refine E_callVI (st := [.int x502]) C [.int x510] (mX11_drop v2 x510 μ502) cal_X11_drop vir_X11_drop lk_L_44 dL_law_511 rfl rfl (Nat.le_of_ble_eq_true rfl) (Nat.le_of_ble_eq_true rfl) (fun x511 μ511 => ?_)
                    refine E_icmp_eq C 1885 dL_law_514 (by decide) ?_ ?_
                    · refine E_iinc (lv' := [(3, .int ((v3 + 7))), (0, .ref 1000), (1, .ref v1), (2, .ref v2)]) C (v3 + 7) dL_law_1885 3 rfl rfl (by decide) rfl ?_
                      refine E_goto C 18 dL_law_1888 (by decide) ?_
                      exact E_pick [1, 2, 3, 0] rfl (ih ((v3 + 7)) μ511)
                    · refine E_at (pc2 := 517) rfl ?_
                      refine E_iconst C 0 dL_law_517 (by decide) ?_
                      exact E_none
                  · refine E_ite (fun h33_7 => ?_) (fun h33_7 => ?_)
                    · refine E_tabIn (kx := 7) (off := 486) C 519 h33_7 dL_law_33 (by decide +kernel) (by decide) ?_
                      refine E_aload_n C dL_law_519 1 rfl ?_
                      refine E_aload_n C dL_law_520 0 rfl ?_
                      refine E_iload_n C dL_law_521 3 rfl ?_
                      refine E_iconst C 1 dL_law_522 (by decide) ?_
                      refine E_iadd C dL_law_523 ?_
                      refine E_sld C dL_law_524 (fun x524 => ?_)
                      refine E_callVI (st := []) C [.int x524] (mX10_feed v1 x524 μ) cal_X10_feed vir_X10_feed lk_L_45 dL_law_525 rfl rfl (Nat.le_of_ble_eq_true rfl) (Nat.le_of_ble_eq_true rfl) (fun x525 μ525 => ?_)
                      refine E_aload_n C dL_law_528 2 rfl ?_
                      refine E_aload_n C dL_law_529 0 rfl ?_
                      refine E_iload_n C dL_law_530 3 rfl ?_
                      refine E_iconst C 1 dL_law_531 (by decide) ?_
                      refine E_iadd C dL_law_532 ?_
                      refine E_sld C dL_law_533 (fun x533 => ?_)
                      refine E_callVI (st := [.int x525]) C [.int x533] (mX11_feed v2 x533 μ525) cal_X11_feed vir_X11_feed lk_L_48 dL_law_534 rfl rfl (Nat.le_of_ble_eq_true rfl) (Nat.le_of_ble_eq_true rfl) (fun x534 μ534 => ?_)
                      refine E_icmp_eq C 1885 dL_law_537 (by decide) ?_ ?_
                      · refine E_iinc (lv' := [(3, .int ((v3 + 7))), (0, .ref 1000), (1, .ref v1), (2, .ref v2)]) C (v3 + 7) dL_law_1885 3 rfl rfl (by decide) rfl ?_
                        refine E_goto C 18 dL_law_1888 (by decide) ?_
                        exact E_pick [1, 2, 3, 0] rfl (ih ((v3 + 7)) μ534)
                      · refine E_at (pc2 := 540) rfl ?_
                        refine E_iconst C 0 dL_law_540 (by decide) ?_
                        exact E_none
                    · refine E_ite (fun h33_8 => ?_) (fun h33_8 => ?_)
                      · refine E_tabIn (kx := 8) (off := 509) C 542 h33_8 dL_law_33 (by decide +kernel) (by decide) ?_
                        refine E_aload_n C dL_law_542 1 rfl ?_
                        refine E_callVI (st := []) C [] (mX10_read v1 μ) cal_X10_read vir_X10_read lk_L_49 dL_law_543 rfl rfl (Nat.le_of_ble_eq_true rfl) (Nat.le_of_ble_eq_true rfl) (fun x543 μ543 => ?_)
                        refine E_aload_n C dL_law_546 2 rfl ?_
                        refine E_callVI (st := [.int x543]) C [] (mX11_read v2 μ543) cal_X11_read vir_X11_read lk_L_53 dL_law_547 rfl rfl (Nat.le_of_ble_eq_true rfl) (Nat.le_of_ble_eq_true rfl) (fun x547 μ547 => ?_)
                        refine E_icmp_eq C 1885 dL_law_550 (by decide) ?_ ?_
                        · refine E_iinc (lv' := [(3, .int ((v3 + 7))), (0, .ref 1000), (1, .ref v1), (2, .ref v2)]) C (v3 + 7) dL_law_1885 3 rfl rfl (by decide) rfl ?_
                          refine E_goto C 18 dL_law_1888 (by decide) ?_
                          exact E_pick [1, 2, 3, 0] rfl (ih ((v3 + 7)) μ547)
                        · refine E_at (pc2 := 553) rfl ?_
                          refine E_iconst C 0 dL_law_553 (by decide) ?_
                          exact E_none
                      · refine E_ite (fun h33_9 => ?_) (fun h33_9 => ?_)
                        · refine E_tabIn (kx := 9) (off := 522) C 555 h33_9 dL_law_33 (by decide +kernel) (by decide) ?_
                          refine E_aload_n C dL_law_555 1 rfl ?_
                          refine E_aload_n C dL_law_556 0 rfl ?_
                          refine E_iload_n C dL_law_557 3 rfl ?_
                          refine E_iconst C 1 dL_law_558 (by decide) ?_
                          refine E_iadd C dL_law_559 ?_
                          refine E_sld C dL_law_560 (fun x560 => ?_)
                          refine E_callVI (st := []) C [.int x560] (mX10_told v1 x560 μ) cal_X10_told vir_X10_told lk_L_54 dL_law_561 rfl rfl (Nat.le_of_ble_eq_true rfl) (Nat.le_of_ble_eq_true rfl) (fun x561 μ561 => ?_)
                          refine E_aload_n C dL_law_564 2 rfl ?_
                          refine E_aload_n C dL_law_565 0 rfl ?_
                          refine E_iload_n C dL_law_566 3 rfl ?_
                          refine E_iconst C 1 dL_law_567 (by decide) ?_
                          refine E_iadd C dL_law_568 ?_
                          refine E_sld C dL_law_569 (fun x569 => ?_)
                          refine E_callVI (st := [.int x561]) C [.int x569] (mX11_told v2 x569 μ561) cal_X11_told vir_X11_told lk_L_57 dL_law_570 rfl rfl (Nat.le_of_ble_eq_true rfl) (Nat.le_of_ble_eq_true rfl) (fun x570 μ570 => ?_)
                          refine E_icmp_eq C 1885 dL_law_573 (by decide) ?_ ?_
                          · refine E_iinc (lv' := [(3, .int ((v3 + 7))), (0, .ref 1000), (1, .ref v1), (2, .ref v2)]) C (v3 + 7) dL_law_1885 3 rfl rfl (by decide) rfl ?_
                            refine E_goto C 18 dL_law_1888 (by decide) ?_
                            exact E_pick [1, 2, 3, 0] rfl (ih ((v3 + 7)) μ570)
                          · refine E_at (pc2 := 576) rfl ?_
                            refine E_iconst C 0 dL_law_576 (by decide) ?_
                            exact E_none
                        · refine E_ite (fun h33_10 => ?_) (fun h33_10 => ?_)
                          · refine E_tabIn (kx := 10) (off := 545) C 578 h33_10 dL_law_33 (by decide +kernel) (by decide) ?_
                            refine E_aload_n C dL_law_578 1 rfl ?_
                            refine E_aload_n C dL_law_579 0 rfl ?_
                            refine E_iload_n C dL_law_580 3 rfl ?_
                            refine E_iconst C 1 dL_law_581 (by decide) ?_
                            refine E_iadd C dL_law_582 ?_
                            refine E_sld C dL_law_583 (fun x583 => ?_)
                            refine E_aload_n C dL_law_584 0 rfl ?_
                            refine E_iload_n C dL_law_585 3 rfl ?_
                            refine E_iconst C 2 dL_law_586 (by decide) ?_
                            refine E_iadd C dL_law_587 ?_
                            refine E_sld C dL_law_588 (fun x588 => ?_)
                            refine E_callVI (st := []) C [.int x583, .int x588] (mX10_monthOf v1 x583 x588 μ) cal_X10_monthOf vir_X10_monthOf lk_L_58 dL_law_589 rfl rfl (Nat.le_of_ble_eq_true rfl) (Nat.le_of_ble_eq_true rfl) (fun x589 μ589 => ?_)
                            refine E_aload_n C dL_law_592 2 rfl ?_
                            refine E_aload_n C dL_law_593 0 rfl ?_
                            refine E_iload_n C dL_law_594 3 rfl ?_
                            refine E_iconst C 1 dL_law_595 (by decide) ?_
                            refine E_iadd C dL_law_596 ?_
                            refine E_sld C dL_law_597 (fun x597 => ?_)
                            refine E_aload_n C dL_law_598 0 rfl ?_
                            refine E_iload_n C dL_law_599 3 rfl ?_
                            refine E_iconst C 2 dL_law_600 (by decide) ?_
                            refine E_iadd C dL_law_601 ?_
                            refine E_sld C dL_law_602 (fun x602 => ?_)
                            refine E_callVI (st := [.int x589]) C [.int x597, .int x602] (mX11_monthOf v2 x597 x602 μ589) cal_X11_monthOf vir_X11_monthOf lk_L_61 dL_law_603 rfl rfl (Nat.le_of_ble_eq_true rfl) (Nat.le_of_ble_eq_true rfl) (fun x603 μ603 => ?_)
                            refine E_icmp_eq C 1885 dL_law_606 (by decide) ?_ ?_
                            · refine E_iinc (lv' := [(3, .int ((v3 + 7))), (0, .ref 1000), (1, .ref v1), (2, .ref v2)]) C (v3 + 7) dL_law_1885 3 rfl rfl (by decide) rfl ?_
                              refine E_goto C 18 dL_law_1888 (by decide) ?_
                              exact E_pick [1, 2, 3, 0] rfl (ih ((v3 + 7)) μ603)
                            · refine E_at (pc2 := 609) rfl ?_
                              refine E_iconst C 0 dL_law_609 (by decide) ?_
                              exact E_none
                          · refine E_ite (fun h33_11 => ?_) (fun h33_11 => ?_)
                            · refine E_tabIn (kx := 11) (off := 578) C 611 h33_11 dL_law_33 (by decide +kernel) (by decide) ?_
                              refine E_aload_n C dL_law_611 1 rfl ?_
                              refine E_aload_n C dL_law_612 0 rfl ?_
                              refine E_iload_n C dL_law_613 3 rfl ?_
                              refine E_iconst C 1 dL_law_614 (by decide) ?_
                              refine E_iadd C dL_law_615 ?_
                              refine E_sld C dL_law_616 (fun x616 => ?_)
                              refine E_aload_n C dL_law_617 0 rfl ?_
                              refine E_iload_n C dL_law_618 3 rfl ?_
                              refine E_iconst C 2 dL_law_619 (by decide) ?_
                              refine E_iadd C dL_law_620 ?_
                              refine E_sld C dL_law_621 (fun x621 => ?_)
                              refine E_callVI (st := []) C [.int x616, .int x621] (mX10_partOf v1 x616 x621 μ) cal_X10_partOf vir_X10_partOf lk_L_62 dL_law_622 rfl rfl (Nat.le_of_ble_eq_true rfl) (Nat.le_of_ble_eq_true rfl) (fun x622 μ622 => ?_)
                              refine E_aload_n C dL_law_625 2 rfl ?_
                              refine E_aload_n C dL_law_626 0 rfl ?_
                              refine E_iload_n C dL_law_627 3 rfl ?_
                              refine E_iconst C 1 dL_law_628 (by decide) ?_
                              refine E_iadd C dL_law_629 ?_
                              refine E_sld C dL_law_630 (fun x630 => ?_)
                              refine E_aload_n C dL_law_631 0 rfl ?_
                              refine E_iload_n C dL_law_632 3 rfl ?_
                              refine E_iconst C 2 dL_law_633 (by decide) ?_
                              refine E_iadd C dL_law_634 ?_
                              refine E_sld C dL_law_635 (fun x635 => ?_)
                              refine E_callVI (st := [.int x622]) C [.int x630, .int x635] (mX11_partOf v2 x630 x635 μ622) cal_X11_partOf vir_X11_partOf lk_L_65 dL_law_636 rfl rfl (Nat.le_of_ble_eq_true rfl) (Nat.le_of_ble_eq_true rfl) (fun x636 μ636 => ?_)
                              refine E_icmp_eq C 1885 dL_law_639 (by decide) ?_ ?_
                              · refine E_iinc (lv' := [(3, .int ((v3 + 7))), (0, .ref 1000), (1, .ref v1), (2, .ref v2)]) C (v3 + 7) dL_law_1885 3 rfl rfl (by decide) rfl ?_
                                refine E_goto C 18 dL_law_1888 (by decide) ?_
                                exact E_pick [1, 2, 3, 0] rfl (ih ((v3 + 7)) μ636)
                              · refine E_at (pc2 := 642) rfl ?_
                                refine E_iconst C 0 dL_law_642 (by decide) ?_
                                exact E_none
                            · refine E_ite (fun h33_12 => ?_) (fun h33_12 => ?_)
                              · refine E_tabIn (kx := 12) (off := 611) C 644 h33_12 dL_law_33 (by decide +kernel) (by decide) ?_
                                refine E_aload_n C dL_law_644 1 rfl ?_
                                refine E_aload_n C dL_law_645 0 rfl ?_
                                refine E_iload_n C dL_law_646 3 rfl ?_
                                refine E_iconst C 1 dL_law_647 (by decide) ?_
                                refine E_iadd C dL_law_648 ?_
                                refine E_sld C dL_law_649 (fun x649 => ?_)
                                refine E_aload_n C dL_law_650 0 rfl ?_
                                refine E_iload_n C dL_law_651 3 rfl ?_
                                refine E_iconst C 2 dL_law_652 (by decide) ?_
                                refine E_iadd C dL_law_653 ?_
                                refine E_sld C dL_law_654 (fun x654 => ?_)
                                refine E_callVI (st := []) C [.int x649, .int x654] (mX10_demandOf v1 x649 x654 μ) cal_X10_demandOf vir_X10_demandOf lk_L_66 dL_law_655 rfl rfl (Nat.le_of_ble_eq_true rfl) (Nat.le_of_ble_eq_true rfl) (fun x655 μ655 => ?_)
                                refine E_aload_n C dL_law_658 2 rfl ?_
                                refine E_aload_n C dL_law_659 0 rfl ?_
                                refine E_iload_n C dL_law_660 3 rfl ?_
                                refine E_iconst C 1 dL_law_661 (by decide) ?_
                                refine E_iadd C dL_law_662 ?_
                                refine E_sld C dL_law_663 (fun x663 => ?_)
                                refine E_aload_n C dL_law_664 0 rfl ?_
                                refine E_iload_n C dL_law_665 3 rfl ?_
                                refine E_iconst C 2 dL_law_666 (by decide) ?_
                                refine E_iadd C dL_law_667 ?_
                                refine E_sld C dL_law_668 (fun x668 => ?_)
                                refine E_callVI (st := [.int x655]) C [.int x663, .int x668] (mX11_demandOf v2 x663 x668 μ655) cal_X11_demandOf vir_X11_demandOf lk_L_69 dL_law_669 rfl rfl (Nat.le_of_ble_eq_true rfl) (Nat.le_of_ble_eq_true rfl) (fun x669 μ669 => ?_)
                                refine E_icmp_eq C 1885 dL_law_672 (by decide) ?_ ?_
                                · refine E_iinc (lv' := [(3, .int ((v3 + 7))), (0, .ref 1000), (1, .ref v1), (2, .ref v2)]) C (v3 + 7) dL_law_1885 3 rfl rfl (by decide) rfl ?_
                                  refine E_goto C 18 dL_law_1888 (by decide) ?_
                                  exact E_pick [1, 2, 3, 0] rfl (ih ((v3 + 7)) μ669)
                                · refine E_at (pc2 := 675) rfl ?_
                                  refine E_iconst C 0 dL_law_675 (by decide) ?_
                                  exact E_none
                              · refine E_ite (fun h33_13 => ?_) (fun h33_13 => ?_)
                                · refine E_tabIn (kx := 13) (off := 644) C 677 h33_13 dL_law_33 (by decide +kernel) (by decide) ?_
                                  refine E_aload_n C dL_law_677 1 rfl ?_
                                  refine E_aload_n C dL_law_678 0 rfl ?_
                                  refine E_iload_n C dL_law_679 3 rfl ?_
                                  refine E_iconst C 1 dL_law_680 (by decide) ?_
                                  refine E_iadd C dL_law_681 ?_
                                  refine E_sld C dL_law_682 (fun x682 => ?_)
                                  refine E_aload_n C dL_law_683 0 rfl ?_
                                  refine E_iload_n C dL_law_684 3 rfl ?_
                                  refine E_iconst C 2 dL_law_685 (by decide) ?_
                                  refine E_iadd C dL_law_686 ?_
                                  refine E_sld C dL_law_687 (fun x687 => ?_)
                                  refine E_callVI (st := []) C [.int x682, .int x687] (mX10_taken v1 x682 x687 μ) cal_X10_taken vir_X10_taken lk_L_70 dL_law_688 rfl rfl (Nat.le_of_ble_eq_true rfl) (Nat.le_of_ble_eq_true rfl) (fun x688 μ688 => ?_)
                                  refine E_aload_n C dL_law_691 2 rfl ?_
                                  refine E_aload_n C dL_law_692 0 rfl ?_
                                  refine E_iload_n C dL_law_693 3 rfl ?_
                                  refine E_iconst C 1 dL_law_694 (by decide) ?_
                                  refine E_iadd C dL_law_695 ?_
                                  refine E_sld C dL_law_696 (fun x696 => ?_)
                                  refine E_aload_n C dL_law_697 0 rfl ?_
                                  refine E_iload_n C dL_law_698 3 rfl ?_
                                  refine E_iconst C 2 dL_law_699 (by decide) ?_
                                  refine E_iadd C dL_law_700 ?_
                                  refine E_sld C dL_law_701 (fun x701 => ?_)
                                  refine E_callVI (st := [.int x688]) C [.int x696, .int x701] (mX11_taken v2 x696 x701 μ688) cal_X11_taken vir_X11_taken lk_L_73 dL_law_702 rfl rfl (Nat.le_of_ble_eq_true rfl) (Nat.le_of_ble_eq_true rfl) (fun x702 μ702 => ?_)
                                  refine E_icmp_eq C 1885 dL_law_705 (by decide) ?_ ?_
                                  · refine E_iinc (lv' := [(3, .int ((v3 + 7))), (0, .ref 1000), (1, .ref v1), (2, .ref v2)]) C (v3 + 7) dL_law_1885 3 rfl rfl (by decide) rfl ?_
                                    refine E_goto C 18 dL_law_1888 (by decide) ?_
                                    exact E_pick [1, 2, 3, 0] rfl (ih ((v3 + 7)) μ702)
                                  · refine E_at (pc2 := 708) rfl ?_
                                    refine E_iconst C 0 dL_law_708 (by decide) ?_
                                    exact E_none
                                · refine E_ite (fun h33_14 => ?_) (fun h33_14 => ?_)
                                  · refine E_tabIn (kx := 14) (off := 677) C 710 h33_14 dL_law_33 (by decide +kernel) (by decide) ?_
                                    refine E_aload_n C dL_law_710 1 rfl ?_
                                    refine E_aload_n C dL_law_711 0 rfl ?_
                                    refine E_iload_n C dL_law_712 3 rfl ?_
                                    refine E_iconst C 1 dL_law_713 (by decide) ?_
                                    refine E_iadd C dL_law_714 ?_
                                    refine E_sld C dL_law_715 (fun x715 => ?_)
                                    refine E_aload_n C dL_law_716 0 rfl ?_
                                    refine E_iload_n C dL_law_717 3 rfl ?_
                                    refine E_iconst C 2 dL_law_718 (by decide) ?_
                                    refine E_iadd C dL_law_719 ?_
                                    refine E_sld C dL_law_720 (fun x720 => ?_)
                                    refine E_callVI (st := []) C [.int x715, .int x720] (mX10_wanted v1 x715 x720 μ) cal_X10_wanted vir_X10_wanted lk_L_74 dL_law_721 rfl rfl (Nat.le_of_ble_eq_true rfl) (Nat.le_of_ble_eq_true rfl) (fun x721 μ721 => ?_)
                                    refine E_aload_n C dL_law_724 2 rfl ?_
                                    refine E_aload_n C dL_law_725 0 rfl ?_
                                    refine E_iload_n C dL_law_726 3 rfl ?_
                                    refine E_iconst C 1 dL_law_727 (by decide) ?_
                                    refine E_iadd C dL_law_728 ?_
                                    refine E_sld C dL_law_729 (fun x729 => ?_)
                                    refine E_aload_n C dL_law_730 0 rfl ?_
                                    refine E_iload_n C dL_law_731 3 rfl ?_
                                    refine E_iconst C 2 dL_law_732 (by decide) ?_
                                    refine E_iadd C dL_law_733 ?_
                                    refine E_sld C dL_law_734 (fun x734 => ?_)
                                    refine E_callVI (st := [.int x721]) C [.int x729, .int x734] (mX11_wanted v2 x729 x734 μ721) cal_X11_wanted vir_X11_wanted lk_L_77 dL_law_735 rfl rfl (Nat.le_of_ble_eq_true rfl) (Nat.le_of_ble_eq_true rfl) (fun x735 μ735 => ?_)
                                    refine E_icmp_eq C 1885 dL_law_738 (by decide) ?_ ?_
                                    · refine E_iinc (lv' := [(3, .int ((v3 + 7))), (0, .ref 1000), (1, .ref v1), (2, .ref v2)]) C (v3 + 7) dL_law_1885 3 rfl rfl (by decide) rfl ?_
                                      refine E_goto C 18 dL_law_1888 (by decide) ?_
                                      exact E_pick [1, 2, 3, 0] rfl (ih ((v3 + 7)) μ735)
                                    · refine E_at (pc2 := 741) rfl ?_
                                      refine E_iconst C 0 dL_law_741 (by decide) ?_
                                      exact E_none
                                  · refine E_ite (fun h33_15 => ?_) (fun h33_15 => ?_)
                                    · refine E_tabIn (kx := 15) (off := 710) C 743 h33_15 dL_law_33 (by decide +kernel) (by decide) ?_
                                      refine E_aload_n C dL_law_743 1 rfl ?_
                                      refine E_aload_n C dL_law_744 0 rfl ?_
                                      refine E_iload_n C dL_law_745 3 rfl ?_
                                      refine E_iconst C 1 dL_law_746 (by decide) ?_
                                      refine E_iadd C dL_law_747 ?_
                                      refine E_sld C dL_law_748 (fun x748 => ?_)
                                      refine E_aload_n C dL_law_749 0 rfl ?_
                                      refine E_iload_n C dL_law_750 3 rfl ?_
                                      refine E_iconst C 2 dL_law_751 (by decide) ?_
                                      refine E_iadd C dL_law_752 ?_
                                      refine E_sld C dL_law_753 (fun x753 => ?_)
                                      refine E_aload_n C dL_law_754 0 rfl ?_
                                      refine E_iload_n C dL_law_755 3 rfl ?_
                                      refine E_iconst C 3 dL_law_756 (by decide) ?_
                                      refine E_iadd C dL_law_757 ?_
                                      refine E_sld C dL_law_758 (fun x758 => ?_)
                                      refine E_aload_n C dL_law_759 0 rfl ?_
                                      refine E_iload_n C dL_law_760 3 rfl ?_
                                      refine E_iconst C 4 dL_law_761 (by decide) ?_
                                      refine E_iadd C dL_law_762 ?_
                                      refine E_sld C dL_law_763 (fun x763 => ?_)
                                      refine E_callVJ (st := []) C [.int x748, .int x753, .int x758, .int x763] (mX10_served v1 x748 x753 x758 x763 μ) cal_X10_served vir_X10_served lk_L_78 dL_law_764 rfl rfl (Nat.le_of_ble_eq_true rfl) (Nat.le_of_ble_eq_true rfl) (fun x764 μ764 => ?_)
                                      refine E_aload_n C dL_law_767 2 rfl ?_
                                      refine E_aload_n C dL_law_768 0 rfl ?_
                                      refine E_iload_n C dL_law_769 3 rfl ?_
                                      refine E_iconst C 1 dL_law_770 (by decide) ?_
                                      refine E_iadd C dL_law_771 ?_
                                      refine E_sld C dL_law_772 (fun x772 => ?_)
                                      refine E_aload_n C dL_law_773 0 rfl ?_
                                      refine E_iload_n C dL_law_774 3 rfl ?_
                                      refine E_iconst C 2 dL_law_775 (by decide) ?_
                                      refine E_iadd C dL_law_776 ?_
                                      refine E_sld C dL_law_777 (fun x777 => ?_)
                                      refine E_aload_n C dL_law_778 0 rfl ?_
                                      refine E_iload_n C dL_law_779 3 rfl ?_
                                      refine E_iconst C 3 dL_law_780 (by decide) ?_
                                      refine E_iadd C dL_law_781 ?_
                                      refine E_sld C dL_law_782 (fun x782 => ?_)
                                      refine E_aload_n C dL_law_783 0 rfl ?_
                                      refine E_iload_n C dL_law_784 3 rfl ?_
                                      refine E_iconst C 4 dL_law_785 (by decide) ?_
                                      refine E_iadd C dL_law_786 ?_
                                      refine E_sld C dL_law_787 (fun x787 => ?_)
                                      refine E_callVJ (st := [.long x764]) C [.int x772, .int x777, .int x782, .int x787] (mX11_served v2 x772 x777 x782 x787 μ764) cal_X11_served vir_X11_served lk_L_82 dL_law_788 rfl rfl (Nat.le_of_ble_eq_true rfl) (Nat.le_of_ble_eq_true rfl) (fun x788 μ788 => ?_)
                                      refine E_lcmp C dL_law_791 ?_
                                      refine E_if_eq C 1885 dL_law_792 (by decide) ?_ ?_
                                      · refine E_iinc (lv' := [(3, .int ((v3 + 7))), (0, .ref 1000), (1, .ref v1), (2, .ref v2)]) C (v3 + 7) dL_law_1885 3 rfl rfl (by decide) rfl ?_
                                        refine E_goto C 18 dL_law_1888 (by decide) ?_
                                        exact E_pick [1, 2, 3, 0] rfl (ih ((v3 + 7)) μ788)
                                      · refine E_at (pc2 := 795) rfl ?_
                                        refine E_iconst C 0 dL_law_795 (by decide) ?_
                                        exact E_none
                                    · refine E_ite (fun h33_16 => ?_) (fun h33_16 => ?_)
                                      · refine E_tabIn (kx := 16) (off := 764) C 797 h33_16 dL_law_33 (by decide +kernel) (by decide) ?_
                                        refine E_aload_n C dL_law_797 1 rfl ?_
                                        refine E_aload_n C dL_law_798 0 rfl ?_
                                        refine E_iload_n C dL_law_799 3 rfl ?_
                                        refine E_iconst C 1 dL_law_800 (by decide) ?_
                                        refine E_iadd C dL_law_801 ?_
                                        refine E_sld C dL_law_802 (fun x802 => ?_)
                                        refine E_aload_n C dL_law_803 0 rfl ?_
                                        refine E_iload_n C dL_law_804 3 rfl ?_
                                        refine E_iconst C 2 dL_law_805 (by decide) ?_
                                        refine E_iadd C dL_law_806 ?_
                                        refine E_sld C dL_law_807 (fun x807 => ?_)
                                        refine E_aload_n C dL_law_808 0 rfl ?_
                                        refine E_iload_n C dL_law_809 3 rfl ?_
                                        refine E_iconst C 3 dL_law_810 (by decide) ?_
                                        refine E_iadd C dL_law_811 ?_
                                        refine E_sld C dL_law_812 (fun x812 => ?_)
                                        refine E_aload_n C dL_law_813 0 rfl ?_
                                        refine E_iload_n C dL_law_814 3 rfl ?_
                                        refine E_iconst C 4 dL_law_815 (by decide) ?_
                                        refine E_iadd C dL_law_816 ?_
                                        refine E_sld C dL_law_817 (fun x817 => ?_)
                                        refine E_aload_n C dL_law_818 0 rfl ?_
                                        refine E_iload_n C dL_law_819 3 rfl ?_
                                        refine E_iconst C 5 dL_law_820 (by decide) ?_
                                        refine E_iadd C dL_law_821 ?_
                                        refine E_sld C dL_law_822 (fun x822 => ?_)
                                        refine E_callVJ (st := []) C [.int x802, .int x807, .int x812, .int x817, .int x822] (mX10_step v1 x802 x807 x812 x817 x822 μ) cal_X10_step vir_X10_step lk_L_83 dL_law_823 rfl rfl (Nat.le_of_ble_eq_true rfl) (Nat.le_of_ble_eq_true rfl) (fun x823 μ823 => ?_)
                                        refine E_aload_n C dL_law_826 2 rfl ?_
                                        refine E_aload_n C dL_law_827 0 rfl ?_
                                        refine E_iload_n C dL_law_828 3 rfl ?_
                                        refine E_iconst C 1 dL_law_829 (by decide) ?_
                                        refine E_iadd C dL_law_830 ?_
                                        refine E_sld C dL_law_831 (fun x831 => ?_)
                                        refine E_aload_n C dL_law_832 0 rfl ?_
                                        refine E_iload_n C dL_law_833 3 rfl ?_
                                        refine E_iconst C 2 dL_law_834 (by decide) ?_
                                        refine E_iadd C dL_law_835 ?_
                                        refine E_sld C dL_law_836 (fun x836 => ?_)
                                        refine E_aload_n C dL_law_837 0 rfl ?_
                                        refine E_iload_n C dL_law_838 3 rfl ?_
                                        refine E_iconst C 3 dL_law_839 (by decide) ?_
                                        refine E_iadd C dL_law_840 ?_
                                        refine E_sld C dL_law_841 (fun x841 => ?_)
                                        refine E_aload_n C dL_law_842 0 rfl ?_
                                        refine E_iload_n C dL_law_843 3 rfl ?_
                                        refine E_iconst C 4 dL_law_844 (by decide) ?_
                                        refine E_iadd C dL_law_845 ?_
                                        refine E_sld C dL_law_846 (fun x846 => ?_)
                                        refine E_aload_n C dL_law_847 0 rfl ?_
                                        refine E_iload_n C dL_law_848 3 rfl ?_
                                        refine E_iconst C 5 dL_law_849 (by decide) ?_
                                        refine E_iadd C dL_law_850 ?_
                                        refine E_sld C dL_law_851 (fun x851 => ?_)
                                        refine E_callVJ (st := [.long x823]) C [.int x831, .int x836, .int x841, .int x846, .int x851] (mX11_step v2 x831 x836 x841 x846 x851 μ823) cal_X11_step vir_X11_step lk_L_87 dL_law_852 rfl rfl (Nat.le_of_ble_eq_true rfl) (Nat.le_of_ble_eq_true rfl) (fun x852 μ852 => ?_)
                                        refine E_lcmp C dL_law_855 ?_
                                        refine E_if_eq C 1885 dL_law_856 (by decide) ?_ ?_
                                        · refine E_iinc (lv' := [(3, .int ((v3 + 7))), (0, .ref 1000), (1, .ref v1), (2, .ref v2)]) C (v3 + 7) dL_law_1885 3 rfl rfl (by decide) rfl ?_
                                          refine E_goto C 18 dL_law_1888 (by decide) ?_
                                          exact E_pick [1, 2, 3, 0] rfl (ih ((v3 + 7)) μ852)
                                        · refine E_at (pc2 := 859) rfl ?_
                                          refine E_iconst C 0 dL_law_859 (by decide) ?_
                                          exact E_none
                                      · refine E_ite (fun h33_17 => ?_) (fun h33_17 => ?_)
                                        · refine E_tabIn (kx := 17) (off := 828) C 861 h33_17 dL_law_33 (by decide +kernel) (by decide) ?_
                                          refine E_aload_n C dL_law_861 1 rfl ?_
                                          refine E_aload_n C dL_law_862 0 rfl ?_
                                          refine E_iload_n C dL_law_863 3 rfl ?_
                                          refine E_iconst C 1 dL_law_864 (by decide) ?_
                                          refine E_iadd C dL_law_865 ?_
                                          refine E_sld C dL_law_866 (fun x866 => ?_)
                                          refine E_aload_n C dL_law_867 0 rfl ?_
                                          refine E_iload_n C dL_law_868 3 rfl ?_
                                          refine E_iconst C 2 dL_law_869 (by decide) ?_
                                          refine E_iadd C dL_law_870 ?_
                                          refine E_sld C dL_law_871 (fun x871 => ?_)
                                          refine E_aload_n C dL_law_872 0 rfl ?_
                                          refine E_iload_n C dL_law_873 3 rfl ?_
                                          refine E_iconst C 3 dL_law_874 (by decide) ?_
                                          refine E_iadd C dL_law_875 ?_
                                          refine E_sld C dL_law_876 (fun x876 => ?_)
                                          refine E_callVJ (st := []) C [.int x866, .int x871, .int x876] (mX10_best v1 x866 x871 x876 μ) cal_X10_best vir_X10_best lk_L_88 dL_law_877 rfl rfl (Nat.le_of_ble_eq_true rfl) (Nat.le_of_ble_eq_true rfl) (fun x877 μ877 => ?_)
                                          refine E_aload_n C dL_law_880 2 rfl ?_
                                          refine E_aload_n C dL_law_881 0 rfl ?_
                                          refine E_iload_n C dL_law_882 3 rfl ?_
                                          refine E_iconst C 1 dL_law_883 (by decide) ?_
                                          refine E_iadd C dL_law_884 ?_
                                          refine E_sld C dL_law_885 (fun x885 => ?_)
                                          refine E_aload_n C dL_law_886 0 rfl ?_
                                          refine E_iload_n C dL_law_887 3 rfl ?_
                                          refine E_iconst C 2 dL_law_888 (by decide) ?_
                                          refine E_iadd C dL_law_889 ?_
                                          refine E_sld C dL_law_890 (fun x890 => ?_)
                                          refine E_aload_n C dL_law_891 0 rfl ?_
                                          refine E_iload_n C dL_law_892 3 rfl ?_
                                          refine E_iconst C 3 dL_law_893 (by decide) ?_
                                          refine E_iadd C dL_law_894 ?_
                                          refine E_sld C dL_law_895 (fun x895 => ?_)
                                          refine E_callVJ (st := [.long x877]) C [.int x885, .int x890, .int x895] (mX11_best v2 x885 x890 x895 μ877) cal_X11_best vir_X11_best lk_L_92 dL_law_896 rfl rfl (Nat.le_of_ble_eq_true rfl) (Nat.le_of_ble_eq_true rfl) (fun x896 μ896 => ?_)
                                          refine E_lcmp C dL_law_899 ?_
                                          refine E_if_eq C 1885 dL_law_900 (by decide) ?_ ?_
                                          · refine E_iinc (lv' := [(3, .int ((v3 + 7))), (0, .ref 1000), (1, .ref v1), (2, .ref v2)]) C (v3 + 7) dL_law_1885 3 rfl rfl (by decide) rfl ?_
                                            refine E_goto C 18 dL_law_1888 (by decide) ?_
                                            exact E_pick [1, 2, 3, 0] rfl (ih ((v3 + 7)) μ896)
                                          · refine E_at (pc2 := 903) rfl ?_
                                            refine E_iconst C 0 dL_law_903 (by decide) ?_
                                            exact E_none
                                        · refine E_ite (fun h33_18 => ?_) (fun h33_18 => ?_)
                                          · refine E_tabIn (kx := 18) (off := 872) C 905 h33_18 dL_law_33 (by decide +kernel) (by decide) ?_
                                            refine E_aload_n C dL_law_905 1 rfl ?_
                                            refine E_aload_n C dL_law_906 0 rfl ?_
                                            refine E_iload_n C dL_law_907 3 rfl ?_
                                            refine E_iconst C 1 dL_law_908 (by decide) ?_
                                            refine E_iadd C dL_law_909 ?_
                                            refine E_sld C dL_law_910 (fun x910 => ?_)
                                            refine E_aload_n C dL_law_911 0 rfl ?_
                                            refine E_iload_n C dL_law_912 3 rfl ?_
                                            refine E_iconst C 2 dL_law_913 (by decide) ?_
                                            refine E_iadd C dL_law_914 ?_
                                            refine E_sld C dL_law_915 (fun x915 => ?_)
                                            refine E_aload_n C dL_law_916 0 rfl ?_
                                            refine E_iload_n C dL_law_917 3 rfl ?_
                                            refine E_iconst C 3 dL_law_918 (by decide) ?_
                                            refine E_iadd C dL_law_919 ?_
                                            refine E_sld C dL_law_920 (fun x920 => ?_)
                                            refine E_callVI (st := []) C [.int x910, .int x915, .int x920] (mX10_release v1 x910 x915 x920 μ) cal_X10_release vir_X10_release lk_L_93 dL_law_921 rfl rfl (Nat.le_of_ble_eq_true rfl) (Nat.le_of_ble_eq_true rfl) (fun x921 μ921 => ?_)
                                            refine E_aload_n C dL_law_924 2 rfl ?_
                                            refine E_aload_n C dL_law_925 0 rfl ?_
                                            refine E_iload_n C dL_law_926 3 rfl ?_
                                            refine E_iconst C 1 dL_law_927 (by decide) ?_
                                            refine E_iadd C dL_law_928 ?_
                                            refine E_sld C dL_law_929 (fun x929 => ?_)
                                            refine E_aload_n C dL_law_930 0 rfl ?_
                                            refine E_iload_n C dL_law_931 3 rfl ?_
                                            refine E_iconst C 2 dL_law_932 (by decide) ?_
                                            refine E_iadd C dL_law_933 ?_
                                            refine E_sld C dL_law_934 (fun x934 => ?_)
                                            refine E_aload_n C dL_law_935 0 rfl ?_
                                            refine E_iload_n C dL_law_936 3 rfl ?_
                                            refine E_iconst C 3 dL_law_937 (by decide) ?_
                                            refine E_iadd C dL_law_938 ?_
                                            refine E_sld C dL_law_939 (fun x939 => ?_)
                                            refine E_callVI (st := [.int x921]) C [.int x929, .int x934, .int x939] (mX11_release v2 x929 x934 x939 μ921) cal_X11_release vir_X11_release lk_L_96 dL_law_940 rfl rfl (Nat.le_of_ble_eq_true rfl) (Nat.le_of_ble_eq_true rfl) (fun x940 μ940 => ?_)
                                            refine E_icmp_eq C 1885 dL_law_943 (by decide) ?_ ?_
                                            · refine E_iinc (lv' := [(3, .int ((v3 + 7))), (0, .ref 1000), (1, .ref v1), (2, .ref v2)]) C (v3 + 7) dL_law_1885 3 rfl rfl (by decide) rfl ?_
                                              refine E_goto C 18 dL_law_1888 (by decide) ?_
                                              exact E_pick [1, 2, 3, 0] rfl (ih ((v3 + 7)) μ940)
                                            · refine E_at (pc2 := 946) rfl ?_
                                              refine E_iconst C 0 dL_law_946 (by decide) ?_
                                              exact E_none
                                          · refine E_ite (fun h33_19 => ?_) (fun h33_19 => ?_)
                                            · refine E_tabIn (kx := 19) (off := 915) C 948 h33_19 dL_law_33 (by decide +kernel) (by decide) ?_
                                              refine E_aload_n C dL_law_948 1 rfl ?_
                                              refine E_aload_n C dL_law_949 0 rfl ?_
                                              refine E_iload_n C dL_law_950 3 rfl ?_
                                              refine E_iconst C 1 dL_law_951 (by decide) ?_
                                              refine E_iadd C dL_law_952 ?_
                                              refine E_sld C dL_law_953 (fun x953 => ?_)
                                              refine E_aload_n C dL_law_954 0 rfl ?_
                                              refine E_iload_n C dL_law_955 3 rfl ?_
                                              refine E_iconst C 2 dL_law_956 (by decide) ?_
                                              refine E_iadd C dL_law_957 ?_
                                              refine E_sld C dL_law_958 (fun x958 => ?_)
                                              refine E_aload_n C dL_law_959 0 rfl ?_
                                              refine E_iload_n C dL_law_960 3 rfl ?_
                                              refine E_iconst C 3 dL_law_961 (by decide) ?_
                                              refine E_iadd C dL_law_962 ?_
                                              refine E_sld C dL_law_963 (fun x963 => ?_)
                                              refine E_aload_n C dL_law_964 0 rfl ?_
                                              refine E_iload_n C dL_law_965 3 rfl ?_
                                              refine E_iconst C 4 dL_law_966 (by decide) ?_
                                              refine E_iadd C dL_law_967 ?_
                                              refine E_sld C dL_law_968 (fun x968 => ?_)
                                              refine E_callVJ (st := []) C [.int x953, .int x958, .int x963, .int x968] (mX10_would v1 x953 x958 x963 x968 μ) cal_X10_would vir_X10_would lk_L_97 dL_law_969 rfl rfl (Nat.le_of_ble_eq_true rfl) (Nat.le_of_ble_eq_true rfl) (fun x969 μ969 => ?_)
                                              refine E_aload_n C dL_law_972 2 rfl ?_
                                              refine E_aload_n C dL_law_973 0 rfl ?_
                                              refine E_iload_n C dL_law_974 3 rfl ?_
                                              refine E_iconst C 1 dL_law_975 (by decide) ?_
                                              refine E_iadd C dL_law_976 ?_
                                              refine E_sld C dL_law_977 (fun x977 => ?_)
                                              refine E_aload_n C dL_law_978 0 rfl ?_
                                              refine E_iload_n C dL_law_979 3 rfl ?_
                                              refine E_iconst C 2 dL_law_980 (by decide) ?_
                                              refine E_iadd C dL_law_981 ?_
                                              refine E_sld C dL_law_982 (fun x982 => ?_)
                                              refine E_aload_n C dL_law_983 0 rfl ?_
                                              refine E_iload_n C dL_law_984 3 rfl ?_
                                              refine E_iconst C 3 dL_law_985 (by decide) ?_
                                              refine E_iadd C dL_law_986 ?_
                                              refine E_sld C dL_law_987 (fun x987 => ?_)
                                              refine E_aload_n C dL_law_988 0 rfl ?_
                                              refine E_iload_n C dL_law_989 3 rfl ?_
                                              refine E_iconst C 4 dL_law_990 (by decide) ?_
                                              refine E_iadd C dL_law_991 ?_
                                              refine E_sld C dL_law_992 (fun x992 => ?_)
                                              refine E_callVJ (st := [.long x969]) C [.int x977, .int x982, .int x987, .int x992] (mX11_would v2 x977 x982 x987 x992 μ969) cal_X11_would vir_X11_would lk_L_100 dL_law_993 rfl rfl (Nat.le_of_ble_eq_true rfl) (Nat.le_of_ble_eq_true rfl) (fun x993 μ993 => ?_)
                                              refine E_lcmp C dL_law_996 ?_
                                              refine E_if_eq C 1885 dL_law_997 (by decide) ?_ ?_
                                              · refine E_iinc (lv' := [(3, .int ((v3 + 7))), (0, .ref 1000), (1, .ref v1), (2, .ref v2)]) C (v3 + 7) dL_law_1885 3 rfl rfl (by decide) rfl ?_
                                                refine E_goto C 18 dL_law_1888 (by decide) ?_
                                                exact E_pick [1, 2, 3, 0] rfl (ih ((v3 + 7)) μ993)
                                              · refine E_at (pc2 := 1000) rfl ?_
                                                refine E_iconst C 0 dL_law_1000 (by decide) ?_
                                                exact E_none
                                            · refine E_ite (fun h33_20 => ?_) (fun h33_20 => ?_)
                                              · refine E_tabIn (kx := 20) (off := 969) C 1002 h33_20 dL_law_33 (by decide +kernel) (by decide) ?_
                                                refine E_aload_n C dL_law_1002 1 rfl ?_
                                                refine E_aload_n C dL_law_1003 0 rfl ?_
                                                refine E_iload_n C dL_law_1004 3 rfl ?_
                                                refine E_iconst C 1 dL_law_1005 (by decide) ?_
                                                refine E_iadd C dL_law_1006 ?_
                                                refine E_sld C dL_law_1007 (fun x1007 => ?_)
                                                refine E_aload_n C dL_law_1008 0 rfl ?_
                                                refine E_iload_n C dL_law_1009 3 rfl ?_
                                                refine E_iconst C 2 dL_law_1010 (by decide) ?_
                                                refine E_iadd C dL_law_1011 ?_
                                                refine E_sld C dL_law_1012 (fun x1012 => ?_)
                                                refine E_aload_n C dL_law_1013 0 rfl ?_
                                                refine E_iload_n C dL_law_1014 3 rfl ?_
                                                refine E_iconst C 3 dL_law_1015 (by decide) ?_
                                                refine E_iadd C dL_law_1016 ?_
                                                refine E_sld C dL_law_1017 (fun x1017 => ?_)
                                                refine E_callVJ (st := []) C [.int x1007, .int x1012, .int x1017] (mX10_after v1 x1007 x1012 x1017 μ) cal_X10_after vir_X10_after lk_L_101 dL_law_1018 rfl rfl (Nat.le_of_ble_eq_true rfl) (Nat.le_of_ble_eq_true rfl) (fun x1018 μ1018 => ?_)
                                                refine E_aload_n C dL_law_1021 2 rfl ?_
                                                refine E_aload_n C dL_law_1022 0 rfl ?_
                                                refine E_iload_n C dL_law_1023 3 rfl ?_
                                                refine E_iconst C 1 dL_law_1024 (by decide) ?_
                                                refine E_iadd C dL_law_1025 ?_
                                                refine E_sld C dL_law_1026 (fun x1026 => ?_)
                                                refine E_aload_n C dL_law_1027 0 rfl ?_
                                                refine E_iload_n C dL_law_1028 3 rfl ?_
                                                refine E_iconst C 2 dL_law_1029 (by decide) ?_
                                                refine E_iadd C dL_law_1030 ?_
                                                refine E_sld C dL_law_1031 (fun x1031 => ?_)
                                                refine E_aload_n C dL_law_1032 0 rfl ?_
                                                refine E_iload_n C dL_law_1033 3 rfl ?_
                                                refine E_iconst C 3 dL_law_1034 (by decide) ?_
                                                refine E_iadd C dL_law_1035 ?_
                                                refine E_sld C dL_law_1036 (fun x1036 => ?_)
                                                refine E_callVJ (st := [.long x1018]) C [.int x1026, .int x1031, .int x1036] (mX11_after v2 x1026 x1031 x1036 μ1018) cal_X11_after vir_X11_after lk_L_104 dL_law_1037 rfl rfl (Nat.le_of_ble_eq_true rfl) (Nat.le_of_ble_eq_true rfl) (fun x1037 μ1037 => ?_)
                                                refine E_lcmp C dL_law_1040 ?_
                                                refine E_if_eq C 1885 dL_law_1041 (by decide) ?_ ?_
                                                · refine E_iinc (lv' := [(3, .int ((v3 + 7))), (0, .ref 1000), (1, .ref v1), (2, .ref v2)]) C (v3 + 7) dL_law_1885 3 rfl rfl (by decide) rfl ?_
                                                  refine E_goto C 18 dL_law_1888 (by decide) ?_
                                                  exact E_pick [1, 2, 3, 0] rfl (ih ((v3 + 7)) μ1037)
                                                · refine E_at (pc2 := 1044) rfl ?_
                                                  refine E_iconst C 0 dL_law_1044 (by decide) ?_
                                                  exact E_none
                                              · refine E_ite (fun h33_21 => ?_) (fun h33_21 => ?_)
                                                · refine E_tabIn (kx := 21) (off := 1013) C 1046 h33_21 dL_law_33 (by decide +kernel) (by decide) ?_
                                                  refine E_aload_n C dL_law_1046 1 rfl ?_
                                                  refine E_aload_n C dL_law_1047 0 rfl ?_
                                                  refine E_iload_n C dL_law_1048 3 rfl ?_
                                                  refine E_iconst C 1 dL_law_1049 (by decide) ?_
                                                  refine E_iadd C dL_law_1050 ?_
                                                  refine E_sld C dL_law_1051 (fun x1051 => ?_)
                                                  refine E_aload_n C dL_law_1052 0 rfl ?_
                                                  refine E_iload_n C dL_law_1053 3 rfl ?_
                                                  refine E_iconst C 2 dL_law_1054 (by decide) ?_
                                                  refine E_iadd C dL_law_1055 ?_
                                                  refine E_sld C dL_law_1056 (fun x1056 => ?_)
                                                  refine E_aload_n C dL_law_1057 0 rfl ?_
                                                  refine E_iload_n C dL_law_1058 3 rfl ?_
                                                  refine E_iconst C 3 dL_law_1059 (by decide) ?_
                                                  refine E_iadd C dL_law_1060 ?_
                                                  refine E_sld C dL_law_1061 (fun x1061 => ?_)
                                                  refine E_callVI (st := []) C [.int x1051, .int x1056, .int x1061] (mX10_way v1 x1051 x1056 x1061 μ) cal_X10_way vir_X10_way lk_L_105 dL_law_1062 rfl rfl (Nat.le_of_ble_eq_true rfl) (Nat.le_of_ble_eq_true rfl) (fun x1062 μ1062 => ?_)
                                                  refine E_aload_n C dL_law_1065 2 rfl ?_
                                                  refine E_aload_n C dL_law_1066 0 rfl ?_
                                                  refine E_iload_n C dL_law_1067 3 rfl ?_
                                                  refine E_iconst C 1 dL_law_1068 (by decide) ?_
                                                  refine E_iadd C dL_law_1069 ?_
                                                  refine E_sld C dL_law_1070 (fun x1070 => ?_)
                                                  refine E_aload_n C dL_law_1071 0 rfl ?_
                                                  refine E_iload_n C dL_law_1072 3 rfl ?_
                                                  refine E_iconst C 2 dL_law_1073 (by decide) ?_
                                                  refine E_iadd C dL_law_1074 ?_
                                                  refine E_sld C dL_law_1075 (fun x1075 => ?_)
                                                  refine E_aload_n C dL_law_1076 0 rfl ?_
                                                  refine E_iload_n C dL_law_1077 3 rfl ?_
                                                  refine E_iconst C 3 dL_law_1078 (by decide) ?_
                                                  refine E_iadd C dL_law_1079 ?_
                                                  refine E_sld C dL_law_1080 (fun x1080 => ?_)
                                                  refine E_callVI (st := [.int x1062]) C [.int x1070, .int x1075, .int x1080] (mX11_way v2 x1070 x1075 x1080 μ1062) cal_X11_way vir_X11_way lk_L_108 dL_law_1081 rfl rfl (Nat.le_of_ble_eq_true rfl) (Nat.le_of_ble_eq_true rfl) (fun x1081 μ1081 => ?_)
                                                  refine E_icmp_eq C 1885 dL_law_1084 (by decide) ?_ ?_
                                                  · refine E_iinc (lv' := [(3, .int ((v3 + 7))), (0, .ref 1000), (1, .ref v1), (2, .ref v2)]) C (v3 + 7) dL_law_1885 3 rfl rfl (by decide) rfl ?_
                                                    refine E_goto C 18 dL_law_1888 (by decide) ?_
                                                    exact E_pick [1, 2, 3, 0] rfl (ih ((v3 + 7)) μ1081)
                                                  · refine E_at (pc2 := 1087) rfl ?_
                                                    refine E_iconst C 0 dL_law_1087 (by decide) ?_
                                                    exact E_none
                                                · refine E_ite (fun h33_22 => ?_) (fun h33_22 => ?_)
                                                  · refine E_tabIn (kx := 22) (off := 1056) C 1089 h33_22 dL_law_33 (by decide +kernel) (by decide) ?_
                                                    refine E_aload_n C dL_law_1089 1 rfl ?_
                                                    refine E_aload_n C dL_law_1090 0 rfl ?_
                                                    refine E_iload_n C dL_law_1091 3 rfl ?_
                                                    refine E_iconst C 1 dL_law_1092 (by decide) ?_
                                                    refine E_iadd C dL_law_1093 ?_
                                                    refine E_sld C dL_law_1094 (fun x1094 => ?_)
                                                    refine E_aload_n C dL_law_1095 0 rfl ?_
                                                    refine E_iload_n C dL_law_1096 3 rfl ?_
                                                    refine E_iconst C 2 dL_law_1097 (by decide) ?_
                                                    refine E_iadd C dL_law_1098 ?_
                                                    refine E_sld C dL_law_1099 (fun x1099 => ?_)
                                                    refine E_callVJ (st := []) C [.int x1094, .int x1099] (mX10_chance v1 x1094 x1099 μ) cal_X10_chance vir_X10_chance lk_L_109 dL_law_1100 rfl rfl (Nat.le_of_ble_eq_true rfl) (Nat.le_of_ble_eq_true rfl) (fun x1100 μ1100 => ?_)
                                                    refine E_aload_n C dL_law_1103 2 rfl ?_
                                                    refine E_aload_n C dL_law_1104 0 rfl ?_
                                                    refine E_iload_n C dL_law_1105 3 rfl ?_
                                                    refine E_iconst C 1 dL_law_1106 (by decide) ?_
                                                    refine E_iadd C dL_law_1107 ?_
                                                    refine E_sld C dL_law_1108 (fun x1108 => ?_)
                                                    refine E_aload_n C dL_law_1109 0 rfl ?_
                                                    refine E_iload_n C dL_law_1110 3 rfl ?_
                                                    refine E_iconst C 2 dL_law_1111 (by decide) ?_
                                                    refine E_iadd C dL_law_1112 ?_
                                                    refine E_sld C dL_law_1113 (fun x1113 => ?_)
                                                    refine E_callVJ (st := [.long x1100]) C [.int x1108, .int x1113] (mX11_chance v2 x1108 x1113 μ1100) cal_X11_chance vir_X11_chance lk_L_113 dL_law_1114 rfl rfl (Nat.le_of_ble_eq_true rfl) (Nat.le_of_ble_eq_true rfl) (fun x1114 μ1114 => ?_)
                                                    refine E_lcmp C dL_law_1117 ?_
                                                    refine E_if_eq C 1885 dL_law_1118 (by decide) ?_ ?_
                                                    · refine E_iinc (lv' := [(3, .int ((v3 + 7))), (0, .ref 1000), (1, .ref v1), (2, .ref v2)]) C (v3 + 7) dL_law_1885 3 rfl rfl (by decide) rfl ?_
                                                      refine E_goto C 18 dL_law_1888 (by decide) ?_
                                                      exact E_pick [1, 2, 3, 0] rfl (ih ((v3 + 7)) μ1114)
                                                    · refine E_at (pc2 := 1121) rfl ?_
                                                      refine E_iconst C 0 dL_law_1121 (by decide) ?_
                                                      exact E_none
                                                  · refine E_ite (fun h33_23 => ?_) (fun h33_23 => ?_)
                                                    · refine E_tabIn (kx := 23) (off := 1090) C 1123 h33_23 dL_law_33 (by decide +kernel) (by decide) ?_
                                                      refine E_aload_n C dL_law_1123 1 rfl ?_
                                                      refine E_aload_n C dL_law_1124 0 rfl ?_
                                                      refine E_iload_n C dL_law_1125 3 rfl ?_
                                                      refine E_iconst C 1 dL_law_1126 (by decide) ?_
                                                      refine E_iadd C dL_law_1127 ?_
                                                      refine E_sld C dL_law_1128 (fun x1128 => ?_)
                                                      refine E_aload_n C dL_law_1129 0 rfl ?_
                                                      refine E_iload_n C dL_law_1130 3 rfl ?_
                                                      refine E_iconst C 2 dL_law_1131 (by decide) ?_
                                                      refine E_iadd C dL_law_1132 ?_
                                                      refine E_sld C dL_law_1133 (fun x1133 => ?_)
                                                      refine E_aload_n C dL_law_1134 0 rfl ?_
                                                      refine E_iload_n C dL_law_1135 3 rfl ?_
                                                      refine E_iconst C 3 dL_law_1136 (by decide) ?_
                                                      refine E_iadd C dL_law_1137 ?_
                                                      refine E_sld C dL_law_1138 (fun x1138 => ?_)
                                                      refine E_aload_n C dL_law_1139 0 rfl ?_
                                                      refine E_iload_n C dL_law_1140 3 rfl ?_
                                                      refine E_iconst C 4 dL_law_1141 (by decide) ?_
                                                      refine E_iadd C dL_law_1142 ?_
                                                      refine E_sld C dL_law_1143 (fun x1143 => ?_)
                                                      refine E_callVJ (st := []) C [.int x1128, .int x1133, .int x1138, .int x1143] (mX10_worth v1 x1128 x1133 x1138 x1143 μ) cal_X10_worth vir_X10_worth lk_L_114 dL_law_1144 rfl rfl (Nat.le_of_ble_eq_true rfl) (Nat.le_of_ble_eq_true rfl) (fun x1144 μ1144 => ?_)
                                                      refine E_aload_n C dL_law_1147 2 rfl ?_
                                                      refine E_aload_n C dL_law_1148 0 rfl ?_
                                                      refine E_iload_n C dL_law_1149 3 rfl ?_
                                                      refine E_iconst C 1 dL_law_1150 (by decide) ?_
                                                      refine E_iadd C dL_law_1151 ?_
                                                      refine E_sld C dL_law_1152 (fun x1152 => ?_)
                                                      refine E_aload_n C dL_law_1153 0 rfl ?_
                                                      refine E_iload_n C dL_law_1154 3 rfl ?_
                                                      refine E_iconst C 2 dL_law_1155 (by decide) ?_
                                                      refine E_iadd C dL_law_1156 ?_
                                                      refine E_sld C dL_law_1157 (fun x1157 => ?_)
                                                      refine E_aload_n C dL_law_1158 0 rfl ?_
                                                      refine E_iload_n C dL_law_1159 3 rfl ?_
                                                      refine E_iconst C 3 dL_law_1160 (by decide) ?_
                                                      refine E_iadd C dL_law_1161 ?_
                                                      refine E_sld C dL_law_1162 (fun x1162 => ?_)
                                                      refine E_aload_n C dL_law_1163 0 rfl ?_
                                                      refine E_iload_n C dL_law_1164 3 rfl ?_
                                                      refine E_iconst C 4 dL_law_1165 (by decide) ?_
                                                      refine E_iadd C dL_law_1166 ?_
                                                      refine E_sld C dL_law_1167 (fun x1167 => ?_)
                                                      refine E_callVJ (st := [.long x1144]) C [.int x1152, .int x1157, .int x1162, .int x1167] (mX11_worth v2 x1152 x1157 x1162 x1167 μ1144) cal_X11_worth vir_X11_worth lk_L_117 dL_law_1168 rfl rfl (Nat.le_of_ble_eq_true rfl) (Nat.le_of_ble_eq_true rfl) (fun x1168 μ1168 => ?_)
                                                      refine E_lcmp C dL_law_1171 ?_
                                                      refine E_if_eq C 1885 dL_law_1172 (by decide) ?_ ?_
                                                      · refine E_iinc (lv' := [(3, .int ((v3 + 7))), (0, .ref 1000), (1, .ref v1), (2, .ref v2)]) C (v3 + 7) dL_law_1885 3 rfl rfl (by decide) rfl ?_
                                                        refine E_goto C 18 dL_law_1888 (by decide) ?_
                                                        exact E_pick [1, 2, 3, 0] rfl (ih ((v3 + 7)) μ1168)
                                                      · refine E_at (pc2 := 1175) rfl ?_
                                                        refine E_iconst C 0 dL_law_1175 (by decide) ?_
                                                        exact E_none
                                                    · refine E_ite (fun h33_24 => ?_) (fun h33_24 => ?_)
                                                      · refine E_tabIn (kx := 24) (off := 1144) C 1177 h33_24 dL_law_33 (by decide +kernel) (by decide) ?_
                                                        refine E_aload_n C dL_law_1177 1 rfl ?_
                                                        refine E_aload_n C dL_law_1178 0 rfl ?_
                                                        refine E_iload_n C dL_law_1179 3 rfl ?_
                                                        refine E_iconst C 1 dL_law_1180 (by decide) ?_
                                                        refine E_iadd C dL_law_1181 ?_
                                                        refine E_sld C dL_law_1182 (fun x1182 => ?_)
                                                        refine E_aload_n C dL_law_1183 0 rfl ?_
                                                        refine E_iload_n C dL_law_1184 3 rfl ?_
                                                        refine E_iconst C 2 dL_law_1185 (by decide) ?_
                                                        refine E_iadd C dL_law_1186 ?_
                                                        refine E_sld C dL_law_1187 (fun x1187 => ?_)
                                                        refine E_callVI (st := []) C [.int x1182, .int x1187] (mX10_record v1 x1182 x1187 μ) cal_X10_record vir_X10_record lk_L_118 dL_law_1188 rfl rfl (Nat.le_of_ble_eq_true rfl) (Nat.le_of_ble_eq_true rfl) (fun x1188 μ1188 => ?_)
                                                        refine E_aload_n C dL_law_1191 2 rfl ?_
                                                        refine E_aload_n C dL_law_1192 0 rfl ?_
                                                        refine E_iload_n C dL_law_1193 3 rfl ?_
                                                        refine E_iconst C 1 dL_law_1194 (by decide) ?_
                                                        refine E_iadd C dL_law_1195 ?_
                                                        refine E_sld C dL_law_1196 (fun x1196 => ?_)
                                                        refine E_aload_n C dL_law_1197 0 rfl ?_
                                                        refine E_iload_n C dL_law_1198 3 rfl ?_
                                                        refine E_iconst C 2 dL_law_1199 (by decide) ?_
                                                        refine E_iadd C dL_law_1200 ?_
                                                        refine E_sld C dL_law_1201 (fun x1201 => ?_)
                                                        refine E_callVI (st := [.int x1188]) C [.int x1196, .int x1201] (mX11_record v2 x1196 x1201 μ1188) cal_X11_record vir_X11_record lk_L_121 dL_law_1202 rfl rfl (Nat.le_of_ble_eq_true rfl) (Nat.le_of_ble_eq_true rfl) (fun x1202 μ1202 => ?_)
                                                        refine E_icmp_eq C 1885 dL_law_1205 (by decide) ?_ ?_
                                                        · refine E_iinc (lv' := [(3, .int ((v3 + 7))), (0, .ref 1000), (1, .ref v1), (2, .ref v2)]) C (v3 + 7) dL_law_1885 3 rfl rfl (by decide) rfl ?_
                                                          refine E_goto C 18 dL_law_1888 (by decide) ?_
                                                          exact E_pick [1, 2, 3, 0] rfl (ih ((v3 + 7)) μ1202)
                                                        · refine E_at (pc2 := 1208) rfl ?_
                                                          refine E_iconst C 0 dL_law_1208 (by decide) ?_
                                                          exact E_none
                                                      · refine E_ite (fun h33_25 => ?_) (fun h33_25 => ?_)
                                                        · refine E_tabIn (kx := 25) (off := 1177) C 1210 h33_25 dL_law_33 (by decide +kernel) (by decide) ?_
                                                          refine E_aload_n C dL_law_1210 1 rfl ?_
                                                          refine E_aload_n C dL_law_1211 0 rfl ?_
                                                          refine E_iload_n C dL_law_1212 3 rfl ?_
                                                          refine E_iconst C 1 dL_law_1213 (by decide) ?_
                                                          refine E_iadd C dL_law_1214 ?_
                                                          refine E_sld C dL_law_1215 (fun x1215 => ?_)
                                                          refine E_aload_n C dL_law_1216 0 rfl ?_
                                                          refine E_iload_n C dL_law_1217 3 rfl ?_
                                                          refine E_iconst C 2 dL_law_1218 (by decide) ?_
                                                          refine E_iadd C dL_law_1219 ?_
                                                          refine E_sld C dL_law_1220 (fun x1220 => ?_)
                                                          refine E_aload_n C dL_law_1221 0 rfl ?_
                                                          refine E_iload_n C dL_law_1222 3 rfl ?_
                                                          refine E_iconst C 3 dL_law_1223 (by decide) ?_
                                                          refine E_iadd C dL_law_1224 ?_
                                                          refine E_sld C dL_law_1225 (fun x1225 => ?_)
                                                          refine E_aload_n C dL_law_1226 0 rfl ?_
                                                          refine E_iload_n C dL_law_1227 3 rfl ?_
                                                          refine E_iconst C 4 dL_law_1228 (by decide) ?_
                                                          refine E_iadd C dL_law_1229 ?_
                                                          refine E_sld C dL_law_1230 (fun x1230 => ?_)
                                                          refine E_aload_n C dL_law_1231 0 rfl ?_
                                                          refine E_iload_n C dL_law_1232 3 rfl ?_
                                                          refine E_iconst C 5 dL_law_1233 (by decide) ?_
                                                          refine E_iadd C dL_law_1234 ?_
                                                          refine E_sld C dL_law_1235 (fun x1235 => ?_)
                                                          refine E_callVJ (st := []) C [.int x1215, .int x1220, .int x1225, .int x1230, .int x1235] (mX10_replay v1 x1215 x1220 x1225 x1230 x1235 μ) cal_X10_replay vir_X10_replay lk_L_122 dL_law_1236 rfl rfl (Nat.le_of_ble_eq_true rfl) (Nat.le_of_ble_eq_true rfl) (fun x1236 μ1236 => ?_)
                                                          refine E_aload_n C dL_law_1239 2 rfl ?_
                                                          refine E_aload_n C dL_law_1240 0 rfl ?_
                                                          refine E_iload_n C dL_law_1241 3 rfl ?_
                                                          refine E_iconst C 1 dL_law_1242 (by decide) ?_
                                                          refine E_iadd C dL_law_1243 ?_
                                                          refine E_sld C dL_law_1244 (fun x1244 => ?_)
                                                          refine E_aload_n C dL_law_1245 0 rfl ?_
                                                          refine E_iload_n C dL_law_1246 3 rfl ?_
                                                          refine E_iconst C 2 dL_law_1247 (by decide) ?_
                                                          refine E_iadd C dL_law_1248 ?_
                                                          refine E_sld C dL_law_1249 (fun x1249 => ?_)
                                                          refine E_aload_n C dL_law_1250 0 rfl ?_
                                                          refine E_iload_n C dL_law_1251 3 rfl ?_
                                                          refine E_iconst C 3 dL_law_1252 (by decide) ?_
                                                          refine E_iadd C dL_law_1253 ?_
                                                          refine E_sld C dL_law_1254 (fun x1254 => ?_)
                                                          refine E_aload_n C dL_law_1255 0 rfl ?_
                                                          refine E_iload_n C dL_law_1256 3 rfl ?_
                                                          refine E_iconst C 4 dL_law_1257 (by decide) ?_
                                                          refine E_iadd C dL_law_1258 ?_
                                                          refine E_sld C dL_law_1259 (fun x1259 => ?_)
                                                          refine E_aload_n C dL_law_1260 0 rfl ?_
                                                          refine E_iload_n C dL_law_1261 3 rfl ?_
                                                          refine E_iconst C 5 dL_law_1262 (by decide) ?_
                                                          refine E_iadd C dL_law_1263 ?_
                                                          refine E_sld C dL_law_1264 (fun x1264 => ?_)
                                                          refine E_callVJ (st := [.long x1236]) C [.int x1244, .int x1249, .int x1254, .int x1259, .int x1264] (mX11_replay v2 x1244 x1249 x1254 x1259 x1264 μ1236) cal_X11_replay vir_X11_replay lk_L_125 dL_law_1265 rfl rfl (Nat.le_of_ble_eq_true rfl) (Nat.le_of_ble_eq_true rfl) (fun x1265 μ1265 => ?_)
                                                          refine E_lcmp C dL_law_1268 ?_
                                                          refine E_if_eq C 1885 dL_law_1269 (by decide) ?_ ?_
                                                          · refine E_iinc (lv' := [(3, .int ((v3 + 7))), (0, .ref 1000), (1, .ref v1), (2, .ref v2)]) C (v3 + 7) dL_law_1885 3 rfl rfl (by decide) rfl ?_
                                                            refine E_goto C 18 dL_law_1888 (by decide) ?_
                                                            exact E_pick [1, 2, 3, 0] rfl (ih ((v3 + 7)) μ1265)
                                                          · refine E_at (pc2 := 1272) rfl ?_
                                                            refine E_iconst C 0 dL_law_1272 (by decide) ?_
                                                            exact E_none
                                                        · refine E_ite (fun h33_26 => ?_) (fun h33_26 => ?_)
                                                          · refine E_tabIn (kx := 26) (off := 1241) C 1274 h33_26 dL_law_33 (by decide +kernel) (by decide) ?_
                                                            refine E_aload_n C dL_law_1274 1 rfl ?_
                                                            refine E_aload_n C dL_law_1275 0 rfl ?_
                                                            refine E_iload_n C dL_law_1276 3 rfl ?_
                                                            refine E_iconst C 1 dL_law_1277 (by decide) ?_
                                                            refine E_iadd C dL_law_1278 ?_
                                                            refine E_sld C dL_law_1279 (fun x1279 => ?_)
                                                            refine E_aload_n C dL_law_1280 0 rfl ?_
                                                            refine E_iload_n C dL_law_1281 3 rfl ?_
                                                            refine E_iconst C 2 dL_law_1282 (by decide) ?_
                                                            refine E_iadd C dL_law_1283 ?_
                                                            refine E_sld C dL_law_1284 (fun x1284 => ?_)
                                                            refine E_aload_n C dL_law_1285 0 rfl ?_
                                                            refine E_iload_n C dL_law_1286 3 rfl ?_
                                                            refine E_iconst C 3 dL_law_1287 (by decide) ?_
                                                            refine E_iadd C dL_law_1288 ?_
                                                            refine E_sld C dL_law_1289 (fun x1289 => ?_)
                                                            refine E_aload_n C dL_law_1290 0 rfl ?_
                                                            refine E_iload_n C dL_law_1291 3 rfl ?_
                                                            refine E_iconst C 4 dL_law_1292 (by decide) ?_
                                                            refine E_iadd C dL_law_1293 ?_
                                                            refine E_sld C dL_law_1294 (fun x1294 => ?_)
                                                            refine E_aload_n C dL_law_1295 0 rfl ?_
                                                            refine E_iload_n C dL_law_1296 3 rfl ?_
                                                            refine E_iconst C 5 dL_law_1297 (by decide) ?_
                                                            refine E_iadd C dL_law_1298 ?_
                                                            refine E_sld C dL_law_1299 (fun x1299 => ?_)
                                                            refine E_callVJ (st := []) C [.int x1279, .int x1284, .int x1289, .int x1294, .int x1299] (mX10_sure v1 x1279 x1284 x1289 x1294 x1299 μ) cal_X10_sure vir_X10_sure lk_L_126 dL_law_1300 rfl rfl (Nat.le_of_ble_eq_true rfl) (Nat.le_of_ble_eq_true rfl) (fun x1300 μ1300 => ?_)
                                                            refine E_aload_n C dL_law_1303 2 rfl ?_
                                                            refine E_aload_n C dL_law_1304 0 rfl ?_
                                                            refine E_iload_n C dL_law_1305 3 rfl ?_
                                                            refine E_iconst C 1 dL_law_1306 (by decide) ?_
                                                            refine E_iadd C dL_law_1307 ?_
                                                            refine E_sld C dL_law_1308 (fun x1308 => ?_)
                                                            refine E_aload_n C dL_law_1309 0 rfl ?_
                                                            refine E_iload_n C dL_law_1310 3 rfl ?_
                                                            refine E_iconst C 2 dL_law_1311 (by decide) ?_
                                                            refine E_iadd C dL_law_1312 ?_
                                                            refine E_sld C dL_law_1313 (fun x1313 => ?_)
                                                            refine E_aload_n C dL_law_1314 0 rfl ?_
                                                            refine E_iload_n C dL_law_1315 3 rfl ?_
                                                            refine E_iconst C 3 dL_law_1316 (by decide) ?_
                                                            refine E_iadd C dL_law_1317 ?_
                                                            refine E_sld C dL_law_1318 (fun x1318 => ?_)
                                                            refine E_aload_n C dL_law_1319 0 rfl ?_
                                                            refine E_iload_n C dL_law_1320 3 rfl ?_
                                                            refine E_iconst C 4 dL_law_1321 (by decide) ?_
                                                            refine E_iadd C dL_law_1322 ?_
                                                            refine E_sld C dL_law_1323 (fun x1323 => ?_)
                                                            refine E_aload_n C dL_law_1324 0 rfl ?_
                                                            refine E_iload_n C dL_law_1325 3 rfl ?_
                                                            refine E_iconst C 5 dL_law_1326 (by decide) ?_
                                                            refine E_iadd C dL_law_1327 ?_
                                                            refine E_sld C dL_law_1328 (fun x1328 => ?_)
                                                            refine E_callVJ (st := [.long x1300]) C [.int x1308, .int x1313, .int x1318, .int x1323, .int x1328] (mX11_sure v2 x1308 x1313 x1318 x1323 x1328 μ1300) cal_X11_sure vir_X11_sure lk_L_129 dL_law_1329 rfl rfl (Nat.le_of_ble_eq_true rfl) (Nat.le_of_ble_eq_true rfl) (fun x1329 μ1329 => ?_)
                                                            refine E_lcmp C dL_law_1332 ?_
                                                            refine E_if_eq C 1885 dL_law_1333 (by decide) ?_ ?_
                                                            · refine E_iinc (lv' := [(3, .int ((v3 + 7))), (0, .ref 1000), (1, .ref v1), (2, .ref v2)]) C (v3 + 7) dL_law_1885 3 rfl rfl (by decide) rfl ?_
                                                              refine E_goto C 18 dL_law_1888 (by decide) ?_
                                                              exact E_pick [1, 2, 3, 0] rfl (ih ((v3 + 7)) μ1329)
                                                            · refine E_at (pc2 := 1336) rfl ?_
                                                              refine E_iconst C 0 dL_law_1336 (by decide) ?_
                                                              exact E_none
                                                          · refine E_ite (fun h33_27 => ?_) (fun h33_27 => ?_)
                                                            · refine E_tabIn (kx := 27) (off := 1305) C 1338 h33_27 dL_law_33 (by decide +kernel) (by decide) ?_
                                                              refine E_aload_n C dL_law_1338 1 rfl ?_
                                                              refine E_aload_n C dL_law_1339 0 rfl ?_
                                                              refine E_iload_n C dL_law_1340 3 rfl ?_
                                                              refine E_iconst C 1 dL_law_1341 (by decide) ?_
                                                              refine E_iadd C dL_law_1342 ?_
                                                              refine E_sld C dL_law_1343 (fun x1343 => ?_)
                                                              refine E_callVI (st := []) C [.int x1343] (mX10_learn v1 x1343 μ) cal_X10_learn vir_X10_learn lk_L_130 dL_law_1344 rfl rfl (Nat.le_of_ble_eq_true rfl) (Nat.le_of_ble_eq_true rfl) (fun x1344 μ1344 => ?_)
                                                              refine E_aload_n C dL_law_1347 2 rfl ?_
                                                              refine E_aload_n C dL_law_1348 0 rfl ?_
                                                              refine E_iload_n C dL_law_1349 3 rfl ?_
                                                              refine E_iconst C 1 dL_law_1350 (by decide) ?_
                                                              refine E_iadd C dL_law_1351 ?_
                                                              refine E_sld C dL_law_1352 (fun x1352 => ?_)
                                                              refine E_callVI (st := [.int x1344]) C [.int x1352] (mX11_learn v2 x1352 μ1344) cal_X11_learn vir_X11_learn lk_L_133 dL_law_1353 rfl rfl (Nat.le_of_ble_eq_true rfl) (Nat.le_of_ble_eq_true rfl) (fun x1353 μ1353 => ?_)
                                                              refine E_icmp_eq C 1885 dL_law_1356 (by decide) ?_ ?_
                                                              · refine E_iinc (lv' := [(3, .int ((v3 + 7))), (0, .ref 1000), (1, .ref v1), (2, .ref v2)]) C (v3 + 7) dL_law_1885 3 rfl rfl (by decide) rfl ?_
                                                                refine E_goto C 18 dL_law_1888 (by decide) ?_
                                                                exact E_pick [1, 2, 3, 0] rfl (ih ((v3 + 7)) μ1353)
                                                              · refine E_at (pc2 := 1359) rfl ?_
                                                                refine E_iconst C 0 dL_law_1359 (by decide) ?_
                                                                exact E_none
                                                            · refine E_ite (fun h33_28 => ?_) (fun h33_28 => ?_)
                                                              · refine E_tabIn (kx := 28) (off := 1328) C 1361 h33_28 dL_law_33 (by decide +kernel) (by decide) ?_
                                                                refine E_aload_n C dL_law_1361 1 rfl ?_
                                                                refine E_aload_n C dL_law_1362 0 rfl ?_
                                                                refine E_iload_n C dL_law_1363 3 rfl ?_
                                                                refine E_iconst C 1 dL_law_1364 (by decide) ?_
                                                                refine E_iadd C dL_law_1365 ?_
                                                                refine E_sld C dL_law_1366 (fun x1366 => ?_)
                                                                refine E_aload_n C dL_law_1367 0 rfl ?_
                                                                refine E_iload_n C dL_law_1368 3 rfl ?_
                                                                refine E_iconst C 2 dL_law_1369 (by decide) ?_
                                                                refine E_iadd C dL_law_1370 ?_
                                                                refine E_sld C dL_law_1371 (fun x1371 => ?_)
                                                                refine E_aload_n C dL_law_1372 0 rfl ?_
                                                                refine E_iload_n C dL_law_1373 3 rfl ?_
                                                                refine E_iconst C 3 dL_law_1374 (by decide) ?_
                                                                refine E_iadd C dL_law_1375 ?_
                                                                refine E_sld C dL_law_1376 (fun x1376 => ?_)
                                                                refine E_aload_n C dL_law_1377 0 rfl ?_
                                                                refine E_iload_n C dL_law_1378 3 rfl ?_
                                                                refine E_iconst C 4 dL_law_1379 (by decide) ?_
                                                                refine E_iadd C dL_law_1380 ?_
                                                                refine E_sld C dL_law_1381 (fun x1381 => ?_)
                                                                refine E_callVI (st := []) C [.int x1366, .int x1371, .int x1376, .int x1381] (mX10_see v1 x1366 x1371 x1376 x1381 μ) cal_X10_see vir_X10_see lk_L_134 dL_law_1382 rfl rfl (Nat.le_of_ble_eq_true rfl) (Nat.le_of_ble_eq_true rfl) (fun x1382 μ1382 => ?_)
                                                                refine E_aload_n C dL_law_1385 2 rfl ?_
                                                                refine E_aload_n C dL_law_1386 0 rfl ?_
                                                                refine E_iload_n C dL_law_1387 3 rfl ?_
                                                                refine E_iconst C 1 dL_law_1388 (by decide) ?_
                                                                refine E_iadd C dL_law_1389 ?_
                                                                refine E_sld C dL_law_1390 (fun x1390 => ?_)
                                                                refine E_aload_n C dL_law_1391 0 rfl ?_
                                                                refine E_iload_n C dL_law_1392 3 rfl ?_
                                                                refine E_iconst C 2 dL_law_1393 (by decide) ?_
                                                                refine E_iadd C dL_law_1394 ?_
                                                                refine E_sld C dL_law_1395 (fun x1395 => ?_)
                                                                refine E_aload_n C dL_law_1396 0 rfl ?_
                                                                refine E_iload_n C dL_law_1397 3 rfl ?_
                                                                refine E_iconst C 3 dL_law_1398 (by decide) ?_
                                                                refine E_iadd C dL_law_1399 ?_
                                                                refine E_sld C dL_law_1400 (fun x1400 => ?_)
                                                                refine E_aload_n C dL_law_1401 0 rfl ?_
                                                                refine E_iload_n C dL_law_1402 3 rfl ?_
                                                                refine E_iconst C 4 dL_law_1403 (by decide) ?_
                                                                refine E_iadd C dL_law_1404 ?_
                                                                refine E_sld C dL_law_1405 (fun x1405 => ?_)
                                                                refine E_callVI (st := [.int x1382]) C [.int x1390, .int x1395, .int x1400, .int x1405] (mX11_see v2 x1390 x1395 x1400 x1405 μ1382) cal_X11_see vir_X11_see lk_L_138 dL_law_1406 rfl rfl (Nat.le_of_ble_eq_true rfl) (Nat.le_of_ble_eq_true rfl) (fun x1406 μ1406 => ?_)
                                                                refine E_icmp_eq C 1885 dL_law_1409 (by decide) ?_ ?_
                                                                · refine E_iinc (lv' := [(3, .int ((v3 + 7))), (0, .ref 1000), (1, .ref v1), (2, .ref v2)]) C (v3 + 7) dL_law_1885 3 rfl rfl (by decide) rfl ?_
                                                                  refine E_goto C 18 dL_law_1888 (by decide) ?_
                                                                  exact E_pick [1, 2, 3, 0] rfl (ih ((v3 + 7)) μ1406)
                                                                · refine E_at (pc2 := 1412) rfl ?_
                                                                  refine E_iconst C 0 dL_law_1412 (by decide) ?_
                                                                  exact E_none
                                                              · refine E_ite (fun h33_29 => ?_) (fun h33_29 => ?_)
                                                                · refine E_tabIn (kx := 29) (off := 1381) C 1414 h33_29 dL_law_33 (by decide +kernel) (by decide) ?_
                                                                  refine E_aload_n C dL_law_1414 1 rfl ?_
                                                                  refine E_aload_n C dL_law_1415 0 rfl ?_
                                                                  refine E_iload_n C dL_law_1416 3 rfl ?_
                                                                  refine E_iconst C 1 dL_law_1417 (by decide) ?_
                                                                  refine E_iadd C dL_law_1418 ?_
                                                                  refine E_sld C dL_law_1419 (fun x1419 => ?_)
                                                                  refine E_callVI (st := []) C [.int x1419] (mX10_fits v1 x1419 μ) cal_X10_fits vir_X10_fits lk_L_139 dL_law_1420 rfl rfl (Nat.le_of_ble_eq_true rfl) (Nat.le_of_ble_eq_true rfl) (fun x1420 μ1420 => ?_)
                                                                  refine E_aload_n C dL_law_1423 2 rfl ?_
                                                                  refine E_aload_n C dL_law_1424 0 rfl ?_
                                                                  refine E_iload_n C dL_law_1425 3 rfl ?_
                                                                  refine E_iconst C 1 dL_law_1426 (by decide) ?_
                                                                  refine E_iadd C dL_law_1427 ?_
                                                                  refine E_sld C dL_law_1428 (fun x1428 => ?_)
                                                                  refine E_callVI (st := [.int x1420]) C [.int x1428] (mX11_fits v2 x1428 μ1420) cal_X11_fits vir_X11_fits lk_L_142 dL_law_1429 rfl rfl (Nat.le_of_ble_eq_true rfl) (Nat.le_of_ble_eq_true rfl) (fun x1429 μ1429 => ?_)
                                                                  refine E_icmp_eq C 1885 dL_law_1432 (by decide) ?_ ?_
                                                                  · refine E_iinc (lv' := [(3, .int ((v3 + 7))), (0, .ref 1000), (1, .ref v1), (2, .ref v2)]) C (v3 + 7) dL_law_1885 3 rfl rfl (by decide) rfl ?_
                                                                    refine E_goto C 18 dL_law_1888 (by decide) ?_
                                                                    exact E_pick [1, 2, 3, 0] rfl (ih ((v3 + 7)) μ1429)
                                                                  · refine E_at (pc2 := 1435) rfl ?_
                                                                    refine E_iconst C 0 dL_law_1435 (by decide) ?_
                                                                    exact E_none
                                                                · refine E_ite (fun h33_30 => ?_) (fun h33_30 => ?_)
                                                                  · refine E_tabIn (kx := 30) (off := 1404) C 1437 h33_30 dL_law_33 (by decide +kernel) (by decide) ?_
                                                                    refine E_aload_n C dL_law_1437 1 rfl ?_
                                                                    refine E_aload_n C dL_law_1438 0 rfl ?_
                                                                    refine E_iload_n C dL_law_1439 3 rfl ?_
                                                                    refine E_iconst C 1 dL_law_1440 (by decide) ?_
                                                                    refine E_iadd C dL_law_1441 ?_
                                                                    refine E_sld C dL_law_1442 (fun x1442 => ?_)
                                                                    refine E_aload_n C dL_law_1443 0 rfl ?_
                                                                    refine E_iload_n C dL_law_1444 3 rfl ?_
                                                                    refine E_iconst C 2 dL_law_1445 (by decide) ?_
                                                                    refine E_iadd C dL_law_1446 ?_
                                                                    refine E_sld C dL_law_1447 (fun x1447 => ?_)
                                                                    refine E_callVI (st := []) C [.int x1442, .int x1447] (mX10_plan v1 x1442 x1447 μ) cal_X10_plan vir_X10_plan lk_L_143 dL_law_1448 rfl rfl (Nat.le_of_ble_eq_true rfl) (Nat.le_of_ble_eq_true rfl) (fun x1448 μ1448 => ?_)
                                                                    refine E_aload_n C dL_law_1451 2 rfl ?_
                                                                    refine E_aload_n C dL_law_1452 0 rfl ?_
                                                                    refine E_iload_n C dL_law_1453 3 rfl ?_
                                                                    refine E_iconst C 1 dL_law_1454 (by decide) ?_
                                                                    refine E_iadd C dL_law_1455 ?_
                                                                    refine E_sld C dL_law_1456 (fun x1456 => ?_)
                                                                    refine E_aload_n C dL_law_1457 0 rfl ?_
                                                                    refine E_iload_n C dL_law_1458 3 rfl ?_
                                                                    refine E_iconst C 2 dL_law_1459 (by decide) ?_
                                                                    refine E_iadd C dL_law_1460 ?_
                                                                    refine E_sld C dL_law_1461 (fun x1461 => ?_)
                                                                    refine E_callVI (st := [.int x1448]) C [.int x1456, .int x1461] (mX11_plan v2 x1456 x1461 μ1448) cal_X11_plan vir_X11_plan lk_L_146 dL_law_1462 rfl rfl (Nat.le_of_ble_eq_true rfl) (Nat.le_of_ble_eq_true rfl) (fun x1462 μ1462 => ?_)
                                                                    refine E_icmp_eq C 1885 dL_law_1465 (by decide) ?_ ?_
                                                                    · refine E_iinc (lv' := [(3, .int ((v3 + 7))), (0, .ref 1000), (1, .ref v1), (2, .ref v2)]) C (v3 + 7) dL_law_1885 3 rfl rfl (by decide) rfl ?_
                                                                      refine E_goto C 18 dL_law_1888 (by decide) ?_
                                                                      exact E_pick [1, 2, 3, 0] rfl (ih ((v3 + 7)) μ1462)
                                                                    · refine E_at (pc2 := 1468) rfl ?_
                                                                      refine E_iconst C 0 dL_law_1468 (by decide) ?_
                                                                      exact E_none
                                                                  · refine E_ite (fun h33_31 => ?_) (fun h33_31 => ?_)
                                                                    · refine E_tabIn (kx := 31) (off := 1437) C 1470 h33_31 dL_law_33 (by decide +kernel) (by decide) ?_
                                                                      refine E_aload_n C dL_law_1470 1 rfl ?_
                                                                      refine E_aload_n C dL_law_1471 0 rfl ?_
                                                                      refine E_iload_n C dL_law_1472 3 rfl ?_
                                                                      refine E_iconst C 1 dL_law_1473 (by decide) ?_
                                                                      refine E_iadd C dL_law_1474 ?_
                                                                      refine E_sld C dL_law_1475 (fun x1475 => ?_)
                                                                      refine E_aload_n C dL_law_1476 0 rfl ?_
                                                                      refine E_iload_n C dL_law_1477 3 rfl ?_
                                                                      refine E_iconst C 2 dL_law_1478 (by decide) ?_
                                                                      refine E_iadd C dL_law_1479 ?_
                                                                      refine E_sld C dL_law_1480 (fun x1480 => ?_)
                                                                      refine E_callVJ (st := []) C [.int x1475, .int x1480] (mX10_ends v1 x1475 x1480 μ) cal_X10_ends vir_X10_ends lk_L_147 dL_law_1481 rfl rfl (Nat.le_of_ble_eq_true rfl) (Nat.le_of_ble_eq_true rfl) (fun x1481 μ1481 => ?_)
                                                                      refine E_aload_n C dL_law_1484 2 rfl ?_
                                                                      refine E_aload_n C dL_law_1485 0 rfl ?_
                                                                      refine E_iload_n C dL_law_1486 3 rfl ?_
                                                                      refine E_iconst C 1 dL_law_1487 (by decide) ?_
                                                                      refine E_iadd C dL_law_1488 ?_
                                                                      refine E_sld C dL_law_1489 (fun x1489 => ?_)
                                                                      refine E_aload_n C dL_law_1490 0 rfl ?_
                                                                      refine E_iload_n C dL_law_1491 3 rfl ?_
                                                                      refine E_iconst C 2 dL_law_1492 (by decide) ?_
                                                                      refine E_iadd C dL_law_1493 ?_
                                                                      refine E_sld C dL_law_1494 (fun x1494 => ?_)
                                                                      refine E_callVJ (st := [.long x1481]) C [.int x1489, .int x1494] (mX11_ends v2 x1489 x1494 μ1481) cal_X11_ends vir_X11_ends lk_L_150 dL_law_1495 rfl rfl (Nat.le_of_ble_eq_true rfl) (Nat.le_of_ble_eq_true rfl) (fun x1495 μ1495 => ?_)
                                                                      refine E_lcmp C dL_law_1498 ?_
                                                                      refine E_if_eq C 1885 dL_law_1499 (by decide) ?_ ?_
                                                                      · refine E_iinc (lv' := [(3, .int ((v3 + 7))), (0, .ref 1000), (1, .ref v1), (2, .ref v2)]) C (v3 + 7) dL_law_1885 3 rfl rfl (by decide) rfl ?_
                                                                        refine E_goto C 18 dL_law_1888 (by decide) ?_
                                                                        exact E_pick [1, 2, 3, 0] rfl (ih ((v3 + 7)) μ1495)
                                                                      · refine E_at (pc2 := 1502) rfl ?_
                                                                        refine E_iconst C 0 dL_law_1502 (by decide) ?_
                                                                        exact E_none
                                                                    · refine E_ite (fun h33_32 => ?_) (fun h33_32 => ?_)
                                                                      · refine E_tabIn (kx := 32) (off := 1471) C 1504 h33_32 dL_law_33 (by decide +kernel) (by decide) ?_
                                                                        refine E_aload_n C dL_law_1504 1 rfl ?_
                                                                        refine E_aload_n C dL_law_1505 0 rfl ?_
                                                                        refine E_iload_n C dL_law_1506 3 rfl ?_
                                                                        refine E_iconst C 1 dL_law_1507 (by decide) ?_
                                                                        refine E_iadd C dL_law_1508 ?_
                                                                        refine E_sld C dL_law_1509 (fun x1509 => ?_)
                                                                        refine E_aload_n C dL_law_1510 0 rfl ?_
                                                                        refine E_iload_n C dL_law_1511 3 rfl ?_
                                                                        refine E_iconst C 2 dL_law_1512 (by decide) ?_
                                                                        refine E_iadd C dL_law_1513 ?_
                                                                        refine E_sld C dL_law_1514 (fun x1514 => ?_)
                                                                        refine E_aload_n C dL_law_1515 0 rfl ?_
                                                                        refine E_iload_n C dL_law_1516 3 rfl ?_
                                                                        refine E_iconst C 3 dL_law_1517 (by decide) ?_
                                                                        refine E_iadd C dL_law_1518 ?_
                                                                        refine E_sld C dL_law_1519 (fun x1519 => ?_)
                                                                        refine E_callVI (st := []) C [.int x1509, .int x1514, .int x1519] (mX10_book v1 x1509 x1514 x1519 μ) cal_X10_book vir_X10_book lk_L_151 dL_law_1520 rfl rfl (Nat.le_of_ble_eq_true rfl) (Nat.le_of_ble_eq_true rfl) (fun x1520 μ1520 => ?_)
                                                                        refine E_aload_n C dL_law_1523 2 rfl ?_
                                                                        refine E_aload_n C dL_law_1524 0 rfl ?_
                                                                        refine E_iload_n C dL_law_1525 3 rfl ?_
                                                                        refine E_iconst C 1 dL_law_1526 (by decide) ?_
                                                                        refine E_iadd C dL_law_1527 ?_
                                                                        refine E_sld C dL_law_1528 (fun x1528 => ?_)
                                                                        refine E_aload_n C dL_law_1529 0 rfl ?_
                                                                        refine E_iload_n C dL_law_1530 3 rfl ?_
                                                                        refine E_iconst C 2 dL_law_1531 (by decide) ?_
                                                                        refine E_iadd C dL_law_1532 ?_
                                                                        refine E_sld C dL_law_1533 (fun x1533 => ?_)
                                                                        refine E_aload_n C dL_law_1534 0 rfl ?_
                                                                        refine E_iload_n C dL_law_1535 3 rfl ?_
                                                                        refine E_iconst C 3 dL_law_1536 (by decide) ?_
                                                                        refine E_iadd C dL_law_1537 ?_
                                                                        refine E_sld C dL_law_1538 (fun x1538 => ?_)
                                                                        refine E_callVI (st := [.int x1520]) C [.int x1528, .int x1533, .int x1538] (mX11_book v2 x1528 x1533 x1538 μ1520) cal_X11_book vir_X11_book lk_L_154 dL_law_1539 rfl rfl (Nat.le_of_ble_eq_true rfl) (Nat.le_of_ble_eq_true rfl) (fun x1539 μ1539 => ?_)
                                                                        refine E_icmp_eq C 1885 dL_law_1542 (by decide) ?_ ?_
                                                                        · refine E_iinc (lv' := [(3, .int ((v3 + 7))), (0, .ref 1000), (1, .ref v1), (2, .ref v2)]) C (v3 + 7) dL_law_1885 3 rfl rfl (by decide) rfl ?_
                                                                          refine E_goto C 18 dL_law_1888 (by decide) ?_
                                                                          exact E_pick [1, 2, 3, 0] rfl (ih ((v3 + 7)) μ1539)
                                                                        · refine E_at (pc2 := 1545) rfl ?_
                                                                          refine E_iconst C 0 dL_law_1545 (by decide) ?_
                                                                          exact E_none
                                                                      · refine E_ite (fun h33_33 => ?_) (fun h33_33 => ?_)
                                                                        · refine E_tabIn (kx := 33) (off := 1514) C 1547 h33_33 dL_law_33 (by decide +kernel) (by decide) ?_
                                                                          refine E_aload_n C dL_law_1547 1 rfl ?_
                                                                          refine E_callVI (st := []) C [] (mX10_looked v1 μ) cal_X10_looked vir_X10_looked lk_L_155 dL_law_1548 rfl rfl (Nat.le_of_ble_eq_true rfl) (Nat.le_of_ble_eq_true rfl) (fun x1548 μ1548 => ?_)
                                                                          refine E_aload_n C dL_law_1551 2 rfl ?_
                                                                          refine E_callVI (st := [.int x1548]) C [] (mX11_looked v2 μ1548) cal_X11_looked vir_X11_looked lk_L_158 dL_law_1552 rfl rfl (Nat.le_of_ble_eq_true rfl) (Nat.le_of_ble_eq_true rfl) (fun x1552 μ1552 => ?_)
                                                                          refine E_icmp_eq C 1885 dL_law_1555 (by decide) ?_ ?_
                                                                          · refine E_iinc (lv' := [(3, .int ((v3 + 7))), (0, .ref 1000), (1, .ref v1), (2, .ref v2)]) C (v3 + 7) dL_law_1885 3 rfl rfl (by decide) rfl ?_
                                                                            refine E_goto C 18 dL_law_1888 (by decide) ?_
                                                                            exact E_pick [1, 2, 3, 0] rfl (ih ((v3 + 7)) μ1552)
                                                                          · refine E_at (pc2 := 1558) rfl ?_
                                                                            refine E_iconst C 0 dL_law_1558 (by decide) ?_
                                                                            exact E_none
                                                                        · refine E_ite (fun h33_34 => ?_) (fun h33_34 => ?_)
                                                                          · refine E_tabIn (kx := 34) (off := 1527) C 1560 h33_34 dL_law_33 (by decide +kernel) (by decide) ?_
                                                                            refine E_aload_n C dL_law_1560 1 rfl ?_
                                                                            refine E_aload_n C dL_law_1561 0 rfl ?_
                                                                            refine E_iload_n C dL_law_1562 3 rfl ?_
                                                                            refine E_iconst C 1 dL_law_1563 (by decide) ?_
                                                                            refine E_iadd C dL_law_1564 ?_
                                                                            refine E_sld C dL_law_1565 (fun x1565 => ?_)
                                                                            refine E_aload_n C dL_law_1566 0 rfl ?_
                                                                            refine E_iload_n C dL_law_1567 3 rfl ?_
                                                                            refine E_iconst C 2 dL_law_1568 (by decide) ?_
                                                                            refine E_iadd C dL_law_1569 ?_
                                                                            refine E_sld C dL_law_1570 (fun x1570 => ?_)
                                                                            refine E_aload_n C dL_law_1571 0 rfl ?_
                                                                            refine E_iload_n C dL_law_1572 3 rfl ?_
                                                                            refine E_iconst C 3 dL_law_1573 (by decide) ?_
                                                                            refine E_iadd C dL_law_1574 ?_
                                                                            refine E_sld C dL_law_1575 (fun x1575 => ?_)
                                                                            refine E_aload_n C dL_law_1576 0 rfl ?_
                                                                            refine E_iload_n C dL_law_1577 3 rfl ?_
                                                                            refine E_iconst C 4 dL_law_1578 (by decide) ?_
                                                                            refine E_iadd C dL_law_1579 ?_
                                                                            refine E_sld C dL_law_1580 (fun x1580 => ?_)
                                                                            refine E_aload_n C dL_law_1581 0 rfl ?_
                                                                            refine E_iload_n C dL_law_1582 3 rfl ?_
                                                                            refine E_iconst C 5 dL_law_1583 (by decide) ?_
                                                                            refine E_iadd C dL_law_1584 ?_
                                                                            refine E_sld C dL_law_1585 (fun x1585 => ?_)
                                                                            refine E_callVI (st := []) C [.int x1565, .int x1570, .int x1575, .int x1580, .int x1585] (mX10_judge v1 x1565 x1570 x1575 x1580 x1585 μ) cal_X10_judge vir_X10_judge lk_L_159 dL_law_1586 rfl rfl (Nat.le_of_ble_eq_true rfl) (Nat.le_of_ble_eq_true rfl) (fun x1586 μ1586 => ?_)
                                                                            refine E_aload_n C dL_law_1589 2 rfl ?_
                                                                            refine E_aload_n C dL_law_1590 0 rfl ?_
                                                                            refine E_iload_n C dL_law_1591 3 rfl ?_
                                                                            refine E_iconst C 1 dL_law_1592 (by decide) ?_
                                                                            refine E_iadd C dL_law_1593 ?_
                                                                            refine E_sld C dL_law_1594 (fun x1594 => ?_)
                                                                            refine E_aload_n C dL_law_1595 0 rfl ?_
                                                                            refine E_iload_n C dL_law_1596 3 rfl ?_
                                                                            refine E_iconst C 2 dL_law_1597 (by decide) ?_
                                                                            refine E_iadd C dL_law_1598 ?_
                                                                            refine E_sld C dL_law_1599 (fun x1599 => ?_)
                                                                            refine E_aload_n C dL_law_1600 0 rfl ?_
                                                                            refine E_iload_n C dL_law_1601 3 rfl ?_
                                                                            refine E_iconst C 3 dL_law_1602 (by decide) ?_
                                                                            refine E_iadd C dL_law_1603 ?_
                                                                            refine E_sld C dL_law_1604 (fun x1604 => ?_)
                                                                            refine E_aload_n C dL_law_1605 0 rfl ?_
                                                                            refine E_iload_n C dL_law_1606 3 rfl ?_
                                                                            refine E_iconst C 4 dL_law_1607 (by decide) ?_
                                                                            refine E_iadd C dL_law_1608 ?_
                                                                            refine E_sld C dL_law_1609 (fun x1609 => ?_)
                                                                            refine E_aload_n C dL_law_1610 0 rfl ?_
                                                                            refine E_iload_n C dL_law_1611 3 rfl ?_
                                                                            refine E_iconst C 5 dL_law_1612 (by decide) ?_
                                                                            refine E_iadd C dL_law_1613 ?_
                                                                            refine E_sld C dL_law_1614 (fun x1614 => ?_)
                                                                            refine E_callVI (st := [.int x1586]) C [.int x1594, .int x1599, .int x1604, .int x1609, .int x1614] (mX11_judge v2 x1594 x1599 x1604 x1609 x1614 μ1586) cal_X11_judge vir_X11_judge lk_L_163 dL_law_1615 rfl rfl (Nat.le_of_ble_eq_true rfl) (Nat.le_of_ble_eq_true rfl) (fun x1615 μ1615 => ?_)
                                                                            refine E_icmp_eq C 1885 dL_law_1618 (by decide) ?_ ?_
                                                                            · refine E_iinc (lv' := [(3, .int ((v3 + 7))), (0, .ref 1000), (1, .ref v1), (2, .ref v2)]) C (v3 + 7) dL_law_1885 3 rfl rfl (by decide) rfl ?_
                                                                              refine E_goto C 18 dL_law_1888 (by decide) ?_
                                                                              exact E_pick [1, 2, 3, 0] rfl (ih ((v3 + 7)) μ1615)
                                                                            · refine E_at (pc2 := 1621) rfl ?_
                                                                              refine E_iconst C 0 dL_law_1621 (by decide) ?_
                                                                              exact E_none
                                                                          · refine E_ite (fun h33_35 => ?_) (fun h33_35 => ?_)
                                                                            · refine E_tabIn (kx := 35) (off := 1590) C 1623 h33_35 dL_law_33 (by decide +kernel) (by decide) ?_
                                                                              refine E_aload_n C dL_law_1623 1 rfl ?_
                                                                              refine E_callVI (st := []) C [] (mX10_image v1 μ) cal_X10_image vir_X10_image lk_L_164 dL_law_1624 rfl rfl (Nat.le_of_ble_eq_true rfl) (Nat.le_of_ble_eq_true rfl) (fun x1624 μ1624 => ?_)
                                                                              refine E_aload_n C dL_law_1627 2 rfl ?_
                                                                              refine E_callVI (st := [.int x1624]) C [] (mX11_image v2 μ1624) cal_X11_image vir_X11_image lk_L_167 dL_law_1628 rfl rfl (Nat.le_of_ble_eq_true rfl) (Nat.le_of_ble_eq_true rfl) (fun x1628 μ1628 => ?_)
                                                                              refine E_icmp_eq C 1885 dL_law_1631 (by decide) ?_ ?_
                                                                              · refine E_iinc (lv' := [(3, .int ((v3 + 7))), (0, .ref 1000), (1, .ref v1), (2, .ref v2)]) C (v3 + 7) dL_law_1885 3 rfl rfl (by decide) rfl ?_
                                                                                refine E_goto C 18 dL_law_1888 (by decide) ?_
                                                                                exact E_pick [1, 2, 3, 0] rfl (ih ((v3 + 7)) μ1628)
                                                                              · refine E_at (pc2 := 1634) rfl ?_
                                                                                refine E_iconst C 0 dL_law_1634 (by decide) ?_
                                                                                exact E_none
                                                                            · refine E_ite (fun h33_36 => ?_) (fun h33_36 => ?_)
                                                                              · refine E_tabIn (kx := 36) (off := 1603) C 1636 h33_36 dL_law_33 (by decide +kernel) (by decide) ?_
                                                                                refine E_aload_n C dL_law_1636 1 rfl ?_
                                                                                refine E_callVI (st := []) C [] (mX10_undo v1 μ) cal_X10_undo vir_X10_undo lk_L_168 dL_law_1637 rfl rfl (Nat.le_of_ble_eq_true rfl) (Nat.le_of_ble_eq_true rfl) (fun x1637 μ1637 => ?_)
                                                                                refine E_aload_n C dL_law_1640 2 rfl ?_
                                                                                refine E_callVI (st := [.int x1637]) C [] (mX11_undo v2 μ1637) cal_X11_undo vir_X11_undo lk_L_171 dL_law_1641 rfl rfl (Nat.le_of_ble_eq_true rfl) (Nat.le_of_ble_eq_true rfl) (fun x1641 μ1641 => ?_)
                                                                                refine E_icmp_eq C 1885 dL_law_1644 (by decide) ?_ ?_
                                                                                · refine E_iinc (lv' := [(3, .int ((v3 + 7))), (0, .ref 1000), (1, .ref v1), (2, .ref v2)]) C (v3 + 7) dL_law_1885 3 rfl rfl (by decide) rfl ?_
                                                                                  refine E_goto C 18 dL_law_1888 (by decide) ?_
                                                                                  exact E_pick [1, 2, 3, 0] rfl (ih ((v3 + 7)) μ1641)
                                                                                · refine E_at (pc2 := 1647) rfl ?_
                                                                                  refine E_iconst C 0 dL_law_1647 (by decide) ?_
                                                                                  exact E_none
                                                                              · refine E_ite (fun h33_37 => ?_) (fun h33_37 => ?_)
                                                                                · refine E_tabIn (kx := 37) (off := 1616) C 1649 h33_37 dL_law_33 (by decide +kernel) (by decide) ?_
                                                                                  refine E_aload_n C dL_law_1649 1 rfl ?_
                                                                                  refine E_aload_n C dL_law_1650 0 rfl ?_
                                                                                  refine E_iload_n C dL_law_1651 3 rfl ?_
                                                                                  refine E_iconst C 1 dL_law_1652 (by decide) ?_
                                                                                  refine E_iadd C dL_law_1653 ?_
                                                                                  refine E_sld C dL_law_1654 (fun x1654 => ?_)
                                                                                  refine E_callVI (st := []) C [.int x1654] (mX10_count v1 x1654 μ) cal_X10_count vir_X10_count lk_L_172 dL_law_1655 rfl rfl (Nat.le_of_ble_eq_true rfl) (Nat.le_of_ble_eq_true rfl) (fun x1655 μ1655 => ?_)
                                                                                  refine E_aload_n C dL_law_1658 2 rfl ?_
                                                                                  refine E_aload_n C dL_law_1659 0 rfl ?_
                                                                                  refine E_iload_n C dL_law_1660 3 rfl ?_
                                                                                  refine E_iconst C 1 dL_law_1661 (by decide) ?_
                                                                                  refine E_iadd C dL_law_1662 ?_
                                                                                  refine E_sld C dL_law_1663 (fun x1663 => ?_)
                                                                                  refine E_callVI (st := [.int x1655]) C [.int x1663] (mX11_count v2 x1663 μ1655) cal_X11_count vir_X11_count lk_L_175 dL_law_1664 rfl rfl (Nat.le_of_ble_eq_true rfl) (Nat.le_of_ble_eq_true rfl) (fun x1664 μ1664 => ?_)
                                                                                  refine E_icmp_eq C 1885 dL_law_1667 (by decide) ?_ ?_
                                                                                  · refine E_iinc (lv' := [(3, .int ((v3 + 7))), (0, .ref 1000), (1, .ref v1), (2, .ref v2)]) C (v3 + 7) dL_law_1885 3 rfl rfl (by decide) rfl ?_
                                                                                    refine E_goto C 18 dL_law_1888 (by decide) ?_
                                                                                    exact E_pick [1, 2, 3, 0] rfl (ih ((v3 + 7)) μ1664)
                                                                                  · refine E_at (pc2 := 1670) rfl ?_
                                                                                    refine E_iconst C 0 dL_law_1670 (by decide) ?_
                                                                                    exact E_none
                                                                                · refine E_ite (fun h33_38 => ?_) (fun h33_38 => ?_)
                                                                                  · refine E_tabIn (kx := 38) (off := 1639) C 1672 h33_38 dL_law_33 (by decide +kernel) (by decide) ?_
                                                                                    refine E_aload_n C dL_law_1672 1 rfl ?_
                                                                                    refine E_aload_n C dL_law_1673 0 rfl ?_
                                                                                    refine E_iload_n C dL_law_1674 3 rfl ?_
                                                                                    refine E_iconst C 1 dL_law_1675 (by decide) ?_
                                                                                    refine E_iadd C dL_law_1676 ?_
                                                                                    refine E_sld C dL_law_1677 (fun x1677 => ?_)
                                                                                    refine E_aload_n C dL_law_1678 0 rfl ?_
                                                                                    refine E_iload_n C dL_law_1679 3 rfl ?_
                                                                                    refine E_iconst C 2 dL_law_1680 (by decide) ?_
                                                                                    refine E_iadd C dL_law_1681 ?_
                                                                                    refine E_sld C dL_law_1682 (fun x1682 => ?_)
                                                                                    refine E_aload_n C dL_law_1683 0 rfl ?_
                                                                                    refine E_iload_n C dL_law_1684 3 rfl ?_
                                                                                    refine E_iconst C 3 dL_law_1685 (by decide) ?_
                                                                                    refine E_iadd C dL_law_1686 ?_
                                                                                    refine E_sld C dL_law_1687 (fun x1687 => ?_)
                                                                                    refine E_callVI (st := []) C [.int x1677, .int x1682, .int x1687] (mX10_tape v1 x1677 x1682 x1687 μ) cal_X10_tape vir_X10_tape lk_L_176 dL_law_1688 rfl rfl (Nat.le_of_ble_eq_true rfl) (Nat.le_of_ble_eq_true rfl) (fun x1688 μ1688 => ?_)
                                                                                    refine E_aload_n C dL_law_1691 2 rfl ?_
                                                                                    refine E_aload_n C dL_law_1692 0 rfl ?_
                                                                                    refine E_iload_n C dL_law_1693 3 rfl ?_
                                                                                    refine E_iconst C 1 dL_law_1694 (by decide) ?_
                                                                                    refine E_iadd C dL_law_1695 ?_
                                                                                    refine E_sld C dL_law_1696 (fun x1696 => ?_)
                                                                                    refine E_aload_n C dL_law_1697 0 rfl ?_
                                                                                    refine E_iload_n C dL_law_1698 3 rfl ?_
                                                                                    refine E_iconst C 2 dL_law_1699 (by decide) ?_
                                                                                    refine E_iadd C dL_law_1700 ?_
                                                                                    refine E_sld C dL_law_1701 (fun x1701 => ?_)
                                                                                    refine E_aload_n C dL_law_1702 0 rfl ?_
                                                                                    refine E_iload_n C dL_law_1703 3 rfl ?_
                                                                                    refine E_iconst C 3 dL_law_1704 (by decide) ?_
                                                                                    refine E_iadd C dL_law_1705 ?_
                                                                                    refine E_sld C dL_law_1706 (fun x1706 => ?_)
                                                                                    refine E_callVI (st := [.int x1688]) C [.int x1696, .int x1701, .int x1706] (mX11_tape v2 x1696 x1701 x1706 μ1688) cal_X11_tape vir_X11_tape lk_L_179 dL_law_1707 rfl rfl (Nat.le_of_ble_eq_true rfl) (Nat.le_of_ble_eq_true rfl) (fun x1707 μ1707 => ?_)
                                                                                    refine E_icmp_eq C 1885 dL_law_1710 (by decide) ?_ ?_
                                                                                    · refine E_iinc (lv' := [(3, .int ((v3 + 7))), (0, .ref 1000), (1, .ref v1), (2, .ref v2)]) C (v3 + 7) dL_law_1885 3 rfl rfl (by decide) rfl ?_
                                                                                      refine E_goto C 18 dL_law_1888 (by decide) ?_
                                                                                      exact E_pick [1, 2, 3, 0] rfl (ih ((v3 + 7)) μ1707)
                                                                                    · refine E_at (pc2 := 1713) rfl ?_
                                                                                      refine E_iconst C 0 dL_law_1713 (by decide) ?_
                                                                                      exact E_none
                                                                                  · refine E_ite (fun h33_39 => ?_) (fun h33_39 => ?_)
                                                                                    · refine E_tabIn (kx := 39) (off := 1682) C 1715 h33_39 dL_law_33 (by decide +kernel) (by decide) ?_
                                                                                      refine E_aload_n C dL_law_1715 1 rfl ?_
                                                                                      refine E_aload_n C dL_law_1716 0 rfl ?_
                                                                                      refine E_iload_n C dL_law_1717 3 rfl ?_
                                                                                      refine E_iconst C 1 dL_law_1718 (by decide) ?_
                                                                                      refine E_iadd C dL_law_1719 ?_
                                                                                      refine E_sld C dL_law_1720 (fun x1720 => ?_)
                                                                                      refine E_aload_n C dL_law_1721 0 rfl ?_
                                                                                      refine E_iload_n C dL_law_1722 3 rfl ?_
                                                                                      refine E_iconst C 2 dL_law_1723 (by decide) ?_
                                                                                      refine E_iadd C dL_law_1724 ?_
                                                                                      refine E_sld C dL_law_1725 (fun x1725 => ?_)
                                                                                      refine E_aload_n C dL_law_1726 0 rfl ?_
                                                                                      refine E_iload_n C dL_law_1727 3 rfl ?_
                                                                                      refine E_iconst C 3 dL_law_1728 (by decide) ?_
                                                                                      refine E_iadd C dL_law_1729 ?_
                                                                                      refine E_sld C dL_law_1730 (fun x1730 => ?_)
                                                                                      refine E_i2l C dL_law_1731 ?_
                                                                                      refine E_bipush C 32 dL_law_1732 (by decide) ?_
                                                                                      refine E_lshl C dL_law_1734 ?_
                                                                                      refine E_aload_n C dL_law_1735 0 rfl ?_
                                                                                      refine E_iload_n C dL_law_1736 3 rfl ?_
                                                                                      refine E_iconst C 4 dL_law_1737 (by decide) ?_
                                                                                      refine E_iadd C dL_law_1738 ?_
                                                                                      refine E_sld C dL_law_1739 (fun x1739 => ?_)
                                                                                      refine E_i2l C dL_law_1740 ?_
                                                                                      refine E_ldc2 C dL_law_1741 k_L_180 ?_
                                                                                      refine E_land C dL_law_1744 ?_
                                                                                      refine E_lor C dL_law_1745 ?_
                                                                                      refine E_callVI (st := []) C [.int x1720, .int x1725, .long (((x1730.toInt64 <<< ((32 : Int32).toInt64 &&& 63)) ||| (x1739.toInt64 &&& (4294967295 : Int64))))] (mX10_item v1 x1720 x1725 (((x1730.toInt64 <<< ((32 : Int32).toInt64 &&& 63)) ||| (x1739.toInt64 &&& (4294967295 : Int64)))) μ) cal_X10_item vir_X10_item lk_L_182 dL_law_1746 rfl rfl (Nat.le_of_ble_eq_true rfl) (Nat.le_of_ble_eq_true rfl) (fun x1746 μ1746 => ?_)
                                                                                      refine E_aload_n C dL_law_1749 2 rfl ?_
                                                                                      refine E_aload_n C dL_law_1750 0 rfl ?_
                                                                                      refine E_iload_n C dL_law_1751 3 rfl ?_
                                                                                      refine E_iconst C 1 dL_law_1752 (by decide) ?_
                                                                                      refine E_iadd C dL_law_1753 ?_
                                                                                      refine E_sld C dL_law_1754 (fun x1754 => ?_)
                                                                                      refine E_aload_n C dL_law_1755 0 rfl ?_
                                                                                      refine E_iload_n C dL_law_1756 3 rfl ?_
                                                                                      refine E_iconst C 2 dL_law_1757 (by decide) ?_
                                                                                      refine E_iadd C dL_law_1758 ?_
                                                                                      refine E_sld C dL_law_1759 (fun x1759 => ?_)
                                                                                      refine E_aload_n C dL_law_1760 0 rfl ?_
                                                                                      refine E_iload_n C dL_law_1761 3 rfl ?_
                                                                                      refine E_iconst C 3 dL_law_1762 (by decide) ?_
                                                                                      refine E_iadd C dL_law_1763 ?_
                                                                                      refine E_sld C dL_law_1764 (fun x1764 => ?_)
                                                                                      refine E_i2l C dL_law_1765 ?_
                                                                                      refine E_bipush C 32 dL_law_1766 (by decide) ?_
                                                                                      refine E_lshl C dL_law_1768 ?_
                                                                                      refine E_aload_n C dL_law_1769 0 rfl ?_
                                                                                      refine E_iload_n C dL_law_1770 3 rfl ?_
                                                                                      refine E_iconst C 4 dL_law_1771 (by decide) ?_
                                                                                      refine E_iadd C dL_law_1772 ?_
                                                                                      refine E_sld C dL_law_1773 (fun x1773 => ?_)
                                                                                      refine E_i2l C dL_law_1774 ?_
                                                                                      refine E_ldc2 C dL_law_1775 k_L_180 ?_
                                                                                      refine E_land C dL_law_1778 ?_
                                                                                      refine E_lor C dL_law_1779 ?_
                                                                                      refine E_callVI (st := [.int x1746]) C [.int x1754, .int x1759, .long (((x1764.toInt64 <<< ((32 : Int32).toInt64 &&& 63)) ||| (x1773.toInt64 &&& (4294967295 : Int64))))] (mX11_item v2 x1754 x1759 (((x1764.toInt64 <<< ((32 : Int32).toInt64 &&& 63)) ||| (x1773.toInt64 &&& (4294967295 : Int64)))) μ1746) cal_X11_item vir_X11_item lk_L_186 dL_law_1780 rfl rfl (Nat.le_of_ble_eq_true rfl) (Nat.le_of_ble_eq_true rfl) (fun x1780 μ1780 => ?_)
                                                                                      refine E_icmp_eq C 1885 dL_law_1783 (by decide) ?_ ?_
                                                                                      · refine E_iinc (lv' := [(3, .int ((v3 + 7))), (0, .ref 1000), (1, .ref v1), (2, .ref v2)]) C (v3 + 7) dL_law_1885 3 rfl rfl (by decide) rfl ?_
                                                                                        refine E_goto C 18 dL_law_1888 (by decide) ?_
                                                                                        exact E_pick [1, 2, 3, 0] rfl (ih ((v3 + 7)) μ1780)
                                                                                      · refine E_at (pc2 := 1786) rfl ?_
                                                                                        refine E_iconst C 0 dL_law_1786 (by decide) ?_
                                                                                        exact E_none
                                                                                    · refine E_ite (fun h33_40 => ?_) (fun h33_40 => ?_)
                                                                                      · refine E_tabIn (kx := 40) (off := 1755) C 1788 h33_40 dL_law_33 (by decide +kernel) (by decide) ?_
                                                                                        refine E_aload_n C dL_law_1788 1 rfl ?_
                                                                                        refine E_aload_n C dL_law_1789 0 rfl ?_
                                                                                        refine E_iload_n C dL_law_1790 3 rfl ?_
                                                                                        refine E_iconst C 1 dL_law_1791 (by decide) ?_
                                                                                        refine E_iadd C dL_law_1792 ?_
                                                                                        refine E_sld C dL_law_1793 (fun x1793 => ?_)
                                                                                        refine E_aload_n C dL_law_1794 0 rfl ?_
                                                                                        refine E_iload_n C dL_law_1795 3 rfl ?_
                                                                                        refine E_iconst C 2 dL_law_1796 (by decide) ?_
                                                                                        refine E_iadd C dL_law_1797 ?_
                                                                                        refine E_sld C dL_law_1798 (fun x1798 => ?_)
                                                                                        refine E_callVJ (st := []) C [.int x1793, .int x1798] (mX10_peek v1 x1793 x1798 μ) cal_X10_peek vir_X10_peek lk_L_187 dL_law_1799 rfl rfl (Nat.le_of_ble_eq_true rfl) (Nat.le_of_ble_eq_true rfl) (fun x1799 μ1799 => ?_)
                                                                                        refine E_aload_n C dL_law_1802 2 rfl ?_
                                                                                        refine E_aload_n C dL_law_1803 0 rfl ?_
                                                                                        refine E_iload_n C dL_law_1804 3 rfl ?_
                                                                                        refine E_iconst C 1 dL_law_1805 (by decide) ?_
                                                                                        refine E_iadd C dL_law_1806 ?_
                                                                                        refine E_sld C dL_law_1807 (fun x1807 => ?_)
                                                                                        refine E_aload_n C dL_law_1808 0 rfl ?_
                                                                                        refine E_iload_n C dL_law_1809 3 rfl ?_
                                                                                        refine E_iconst C 2 dL_law_1810 (by decide) ?_
                                                                                        refine E_iadd C dL_law_1811 ?_
                                                                                        refine E_sld C dL_law_1812 (fun x1812 => ?_)
                                                                                        refine E_callVJ (st := [.long x1799]) C [.int x1807, .int x1812] (mX11_peek v2 x1807 x1812 μ1799) cal_X11_peek vir_X11_peek lk_L_190 dL_law_1813 rfl rfl (Nat.le_of_ble_eq_true rfl) (Nat.le_of_ble_eq_true rfl) (fun x1813 μ1813 => ?_)
                                                                                        refine E_lcmp C dL_law_1816 ?_
                                                                                        refine E_if_eq C 1885 dL_law_1817 (by decide) ?_ ?_
                                                                                        · refine E_iinc (lv' := [(3, .int ((v3 + 7))), (0, .ref 1000), (1, .ref v1), (2, .ref v2)]) C (v3 + 7) dL_law_1885 3 rfl rfl (by decide) rfl ?_
                                                                                          refine E_goto C 18 dL_law_1888 (by decide) ?_
                                                                                          exact E_pick [1, 2, 3, 0] rfl (ih ((v3 + 7)) μ1813)
                                                                                        · refine E_at (pc2 := 1820) rfl ?_
                                                                                          refine E_iconst C 0 dL_law_1820 (by decide) ?_
                                                                                          exact E_none
                                                                                      · refine E_ite (fun h33_41 => ?_) (fun h33_41 => ?_)
                                                                                        · refine E_tabIn (kx := 41) (off := 1789) C 1822 h33_41 dL_law_33 (by decide +kernel) (by decide) ?_
                                                                                          refine E_aload_n C dL_law_1822 1 rfl ?_
                                                                                          refine E_aload_n C dL_law_1823 0 rfl ?_
                                                                                          refine E_iload_n C dL_law_1824 3 rfl ?_
                                                                                          refine E_iconst C 1 dL_law_1825 (by decide) ?_
                                                                                          refine E_iadd C dL_law_1826 ?_
                                                                                          refine E_sld C dL_law_1827 (fun x1827 => ?_)
                                                                                          refine E_aload_n C dL_law_1828 0 rfl ?_
                                                                                          refine E_iload_n C dL_law_1829 3 rfl ?_
                                                                                          refine E_iconst C 2 dL_law_1830 (by decide) ?_
                                                                                          refine E_iadd C dL_law_1831 ?_
                                                                                          refine E_sld C dL_law_1832 (fun x1832 => ?_)
                                                                                          refine E_aload_n C dL_law_1833 0 rfl ?_
                                                                                          refine E_iload_n C dL_law_1834 3 rfl ?_
                                                                                          refine E_iconst C 3 dL_law_1835 (by decide) ?_
                                                                                          refine E_iadd C dL_law_1836 ?_
                                                                                          refine E_sld C dL_law_1837 (fun x1837 => ?_)
                                                                                          refine E_aload_n C dL_law_1838 0 rfl ?_
                                                                                          refine E_iload_n C dL_law_1839 3 rfl ?_
                                                                                          refine E_iconst C 4 dL_law_1840 (by decide) ?_
                                                                                          refine E_iadd C dL_law_1841 ?_
                                                                                          refine E_sld C dL_law_1842 (fun x1842 => ?_)
                                                                                          refine E_aload_n C dL_law_1843 0 rfl ?_
                                                                                          refine E_iload_n C dL_law_1844 3 rfl ?_
                                                                                          refine E_iconst C 5 dL_law_1845 (by decide) ?_
                                                                                          refine E_iadd C dL_law_1846 ?_
                                                                                          refine E_sld C dL_law_1847 (fun x1847 => ?_)
                                                                                          refine E_callVI (st := []) C [.int x1827, .int x1832, .int x1837, .int x1842, .int x1847] (mX10_shift v1 x1827 x1832 x1837 x1842 x1847 μ) cal_X10_shift vir_X10_shift lk_L_191 dL_law_1848 rfl rfl (Nat.le_of_ble_eq_true rfl) (Nat.le_of_ble_eq_true rfl) (fun x1848 μ1848 => ?_)
                                                                                          refine E_aload_n C dL_law_1851 2 rfl ?_
                                                                                          refine E_aload_n C dL_law_1852 0 rfl ?_
                                                                                          refine E_iload_n C dL_law_1853 3 rfl ?_
                                                                                          refine E_iconst C 1 dL_law_1854 (by decide) ?_
                                                                                          refine E_iadd C dL_law_1855 ?_
                                                                                          refine E_sld C dL_law_1856 (fun x1856 => ?_)
                                                                                          refine E_aload_n C dL_law_1857 0 rfl ?_
                                                                                          refine E_iload_n C dL_law_1858 3 rfl ?_
                                                                                          refine E_iconst C 2 dL_law_1859 (by decide) ?_
                                                                                          refine E_iadd C dL_law_1860 ?_
                                                                                          refine E_sld C dL_law_1861 (fun x1861 => ?_)
                                                                                          refine E_aload_n C dL_law_1862 0 rfl ?_
                                                                                          refine E_iload_n C dL_law_1863 3 rfl ?_
                                                                                          refine E_iconst C 3 dL_law_1864 (by decide) ?_
                                                                                          refine E_iadd C dL_law_1865 ?_
                                                                                          refine E_sld C dL_law_1866 (fun x1866 => ?_)
                                                                                          refine E_aload_n C dL_law_1867 0 rfl ?_
                                                                                          refine E_iload_n C dL_law_1868 3 rfl ?_
                                                                                          refine E_iconst C 4 dL_law_1869 (by decide) ?_
                                                                                          refine E_iadd C dL_law_1870 ?_
                                                                                          refine E_sld C dL_law_1871 (fun x1871 => ?_)
                                                                                          refine E_aload_n C dL_law_1872 0 rfl ?_
                                                                                          refine E_iload_n C dL_law_1873 3 rfl ?_
                                                                                          refine E_iconst C 5 dL_law_1874 (by decide) ?_
                                                                                          refine E_iadd C dL_law_1875 ?_
                                                                                          refine E_sld C dL_law_1876 (fun x1876 => ?_)
                                                                                          refine E_callVI (st := [.int x1848]) C [.int x1856, .int x1861, .int x1866, .int x1871, .int x1876] (mX11_shift v2 x1856 x1861 x1866 x1871 x1876 μ1848) cal_X11_shift vir_X11_shift lk_L_194 dL_law_1877 rfl rfl (Nat.le_of_ble_eq_true rfl) (Nat.le_of_ble_eq_true rfl) (fun x1877 μ1877 => ?_)
                                                                                          refine E_icmp_eq C 1885 dL_law_1880 (by decide) ?_ ?_
                                                                                          · refine E_iinc (lv' := [(3, .int ((v3 + 7))), (0, .ref 1000), (1, .ref v1), (2, .ref v2)]) C (v3 + 7) dL_law_1885 3 rfl rfl (by decide) rfl ?_
                                                                                            refine E_goto C 18 dL_law_1888 (by decide) ?_
                                                                                            exact E_pick [1, 2, 3, 0] rfl (ih ((v3 + 7)) μ1877)
                                                                                          · refine E_at (pc2 := 1883) rfl ?_
                                                                                            refine E_iconst C 0 dL_law_1883 (by decide) ?_
                                                                                            exact E_none
                                                                                        · refine E_tabOut C 1885 dL_law_33 (by have q0 := i32_ne h33_0 (n := 0) rfl; have q1 := i32_ne h33_1 (n := 1) rfl; have q2 := i32_ne h33_2 (n := 2) rfl; have q3 := i32_ne h33_3 (n := 3) rfl; have q4 := i32_ne h33_4 (n := 4) rfl; have q5 := i32_ne h33_5 (n := 5) rfl; have q6 := i32_ne h33_6 (n := 6) rfl; have q7 := i32_ne h33_7 (n := 7) rfl; have q8 := i32_ne h33_8 (n := 8) rfl; have q9 := i32_ne h33_9 (n := 9) rfl; have q10 := i32_ne h33_10 (n := 10) rfl; have q11 := i32_ne h33_11 (n := 11) rfl; have q12 := i32_ne h33_12 (n := 12) rfl; have q13 := i32_ne h33_13 (n := 13) rfl; have q14 := i32_ne h33_14 (n := 14) rfl; have q15 := i32_ne h33_15 (n := 15) rfl; have q16 := i32_ne h33_16 (n := 16) rfl; have q17 := i32_ne h33_17 (n := 17) rfl; have q18 := i32_ne h33_18 (n := 18) rfl; have q19 := i32_ne h33_19 (n := 19) rfl; have q20 := i32_ne h33_20 (n := 20) rfl; have q21 := i32_ne h33_21 (n := 21) rfl; have q22 := i32_ne h33_22 (n := 22) rfl; have q23 := i32_ne h33_23 (n := 23) rfl; have q24 := i32_ne h33_24 (n := 24) rfl; have q25 := i32_ne h33_25 (n := 25) rfl; have q26 := i32_ne h33_26 (n := 26) rfl; have q27 := i32_ne h33_27 (n := 27) rfl; have q28 := i32_ne h33_28 (n := 28) rfl; have q29 := i32_ne h33_29 (n := 29) rfl; have q30 := i32_ne h33_30 (n := 30) rfl; have q31 := i32_ne h33_31 (n := 31) rfl; have q32 := i32_ne h33_32 (n := 32) rfl; have q33 := i32_ne h33_33 (n := 33) rfl; have q34 := i32_ne h33_34 (n := 34) rfl; have q35 := i32_ne h33_35 (n := 35) rfl; have q36 := i32_ne h33_36 (n := 36) rfl; have q37 := i32_ne h33_37 (n := 37) rfl; have q38 := i32_ne h33_38 (n := 38) rfl; have q39 := i32_ne h33_39 (n := 39) rfl; have q40 := i32_ne h33_40 (n := 40) rfl; have q41 := i32_ne h33_41 (n := 41) rfl; omega) (by decide) ?_
                                                                                          refine E_iinc (lv' := [(3, .int ((v3 + 7))), (0, .ref 1000), (1, .ref v1), (2, .ref v2)]) C (v3 + 7) dL_law_1885 3 rfl rfl (by decide) rfl ?_
                                                                                          refine E_goto C 18 dL_law_1888 (by decide) ?_
                                                                                          exact E_pick [1, 2, 3, 0] rfl (ih ((v3 + 7)) μ)
