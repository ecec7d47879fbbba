def f_L_law_18 (L : Nat) (xs : Nat → Int32) : Nat → St → Nat → (Option Nat) → (Option Nat) → Int32 → Option (Int32 × St)
  | 0, _, _, _, _, _ => none
  | n + 1, S, x0, x1, x2, x3 =>
    (if ((nI L) - 6) < x3 then
    some (1, S)
    else
    (sld L xs x3).bind fun v29 =>
    (if (v29 &&& 63) = 0 then
    (sld L xs (x3 + 1)).bind fun v185 =>
    (rcv S x1 12).bind fun b186 =>
    (f_X11_days S b186 v185).bind fun (v186, S186) =>
    (sld L xs (x3 + 1)).bind fun v194 =>
    (rcv S186 x2 13).bind fun b195 =>
    (f_X12_days S186 b195 v194).bind fun (v195, S195) =>
    (if v186 = v195 then
    f_L_law_18 L xs n S195 x0 x1 x2 (x3 + 6)
    else
    some (0, S195))
    else
    (if (v29 &&& 63) = 1 then
    (sld L xs (x3 + 1)).bind fun v208 =>
    (rcv S x1 12).bind fun b209 =>
    (f_X11_firm S b209 v208).bind fun (v209, S209) =>
    (sld L xs (x3 + 1)).bind fun v217 =>
    (rcv S209 x2 13).bind fun b218 =>
    (f_X12_firm S209 b218 v217).bind fun (v218, S218) =>
    (if v209 = v218 then
    f_L_law_18 L xs n S218 x0 x1 x2 (x3 + 6)
    else
    some (0, S218))
    else
    (if (v29 &&& 63) = 2 then
    (sld L xs (x3 + 1)).bind fun v231 =>
    (sld L xs (x3 + 2)).bind fun v236 =>
    (sld L xs (x3 + 3)).bind fun v241 =>
    (rcv S x1 12).bind fun b242 =>
    (f_X11_merge S b242 v231 v236 v241).bind fun (v242, S242) =>
    (sld L xs (x3 + 1)).bind fun v250 =>
    (sld L xs (x3 + 2)).bind fun v255 =>
    (sld L xs (x3 + 3)).bind fun v260 =>
    (rcv S242 x2 13).bind fun b261 =>
    (f_X12_merge S242 b261 v250 v255 v260).bind fun (v261, S261) =>
    (if v242 = v261 then
    f_L_law_18 L xs n S261 x0 x1 x2 (x3 + 6)
    else
    some (0, S261))
    else
    (if (v29 &&& 63) = 3 then
    (sld L xs (x3 + 1)).bind fun v274 =>
    (sld L xs (x3 + 2)).bind fun v279 =>
    (rcv S x1 12).bind fun b280 =>
    (f_X11_firmOn S b280 v274 v279).bind fun v280 =>
    (sld L xs (x3 + 1)).bind fun v288 =>
    (sld L xs (x3 + 2)).bind fun v293 =>
    (rcv S x2 13).bind fun b294 =>
    (f_X12_firmOn S b294 v288 v293).bind fun v294 =>
    (if v280 = v294 then
    f_L_law_18 L xs n S x0 x1 x2 (x3 + 6)
    else
    some (0, S))
    else
    (if (v29 &&& 63) = 4 then
    (sld L xs (x3 + 1)).bind fun v307 =>
    (sld L xs (x3 + 2)).bind fun v312 =>
    (sld L xs (x3 + 3)).bind fun v317 =>
    (sld L xs (x3 + 4)).bind fun v322 =>
    (sld L xs (x3 + 5)).bind fun v327 =>
    (rcv S x1 12).bind fun b328 =>
    (f_X11_person S b328 v307 v312 v317 v322 v327).bind fun (v328, S328) =>
    (sld L xs (x3 + 1)).bind fun v336 =>
    (sld L xs (x3 + 2)).bind fun v341 =>
    (sld L xs (x3 + 3)).bind fun v346 =>
    (sld L xs (x3 + 4)).bind fun v351 =>
    (sld L xs (x3 + 5)).bind fun v356 =>
    (rcv S328 x2 13).bind fun b357 =>
    (f_X12_person S328 b357 v336 v341 v346 v351 v356).bind fun (v357, S357) =>
    (if v328 = v357 then
    f_L_law_18 L xs n S357 x0 x1 x2 (x3 + 6)
    else
    some (0, S357))
    else
    (if (v29 &&& 63) = 5 then
    (sld L xs (x3 + 1)).bind fun v370 =>
    (sld L xs (x3 + 2)).bind fun v375 =>
    (rcv S x1 12).bind fun b376 =>
    (f_X11_dies S b376 v370 v375).bind fun (v376, S376) =>
    (sld L xs (x3 + 1)).bind fun v384 =>
    (sld L xs (x3 + 2)).bind fun v389 =>
    (rcv S376 x2 13).bind fun b390 =>
    (f_X12_dies S376 b390 v384 v389).bind fun (v390, S390) =>
    (if v376 = v390 then
    f_L_law_18 L xs n S390 x0 x1 x2 (x3 + 6)
    else
    some (0, S390))
    else
    (if (v29 &&& 63) = 6 then
    (sld L xs (x3 + 1)).bind fun v403 =>
    (sld L xs (x3 + 2)).bind fun v408 =>
    (rcv S x1 12).bind fun b409 =>
    (f_X11_moves S b409 v403 v408).bind fun (v409, S409) =>
    (sld L xs (x3 + 1)).bind fun v417 =>
    (sld L xs (x3 + 2)).bind fun v422 =>
    (rcv S409 x2 13).bind fun b423 =>
    (f_X12_moves S409 b423 v417 v422).bind fun (v423, S423) =>
    (if v409 = v423 then
    f_L_law_18 L xs n S423 x0 x1 x2 (x3 + 6)
    else
    some (0, S423))
    else
    (if (v29 &&& 63) = 7 then
    (sld L xs (x3 + 1)).bind fun v436 =>
    (sld L xs (x3 + 2)).bind fun v441 =>
    (sld L xs (x3 + 3)).bind fun v446 =>
    (sld L xs (x3 + 4)).bind fun v451 =>
    (rcv S x1 12).bind fun b452 =>
    (f_X11_account S b452 v436 v441 v446 v451).bind fun (v452, S452) =>
    (sld L xs (x3 + 1)).bind fun v460 =>
    (sld L xs (x3 + 2)).bind fun v465 =>
    (sld L xs (x3 + 3)).bind fun v470 =>
    (sld L xs (x3 + 4)).bind fun v475 =>
    (rcv S452 x2 13).bind fun b476 =>
    (f_X12_account S452 b476 v460 v465 v470 v475).bind fun (v476, S476) =>
    (if v452 = v476 then
    f_L_law_18 L xs n S476 x0 x1 x2 (x3 + 6)
    else
    some (0, S476))
    else
    (if (v29 &&& 63) = 8 then
    (sld L xs (x3 + 1)).bind fun v489 =>
    (sld L xs (x3 + 2)).bind fun v494 =>
    (sld L xs (x3 + 3)).bind fun v499 =>
    (sld L xs (x3 + 4)).bind fun v504 =>
    (rcv S x1 12).bind fun b505 =>
    (f_X11_act S b505 v489 v494 v499 v504).bind fun (v505, S505) =>
    (sld L xs (x3 + 1)).bind fun v513 =>
    (sld L xs (x3 + 2)).bind fun v518 =>
    (sld L xs (x3 + 3)).bind fun v523 =>
    (sld L xs (x3 + 4)).bind fun v528 =>
    (rcv S505 x2 13).bind fun b529 =>
    (f_X12_act S505 b529 v513 v518 v523 v528).bind fun (v529, S529) =>
    (if v505 = v529 then
    f_L_law_18 L xs n S529 x0 x1 x2 (x3 + 6)
    else
    some (0, S529))
    else
    (if (v29 &&& 63) = 9 then
    (sld L xs (x3 + 1)).bind fun v542 =>
    (sld L xs (x3 + 2)).bind fun v547 =>
    (sld L xs (x3 + 3)).bind fun v552 =>
    (sld L xs (x3 + 4)).bind fun v557 =>
    (rcv S x1 12).bind fun b558 =>
    (f_X11_grow S b558 v542 v547 v552 v557).bind fun (v558, S558) =>
    (sld L xs (x3 + 1)).bind fun v566 =>
    (sld L xs (x3 + 2)).bind fun v571 =>
    (sld L xs (x3 + 3)).bind fun v576 =>
    (sld L xs (x3 + 4)).bind fun v581 =>
    (rcv S558 x2 13).bind fun b582 =>
    (f_X12_grow S558 b582 v566 v571 v576 v581).bind fun (v582, S582) =>
    (if v558 = v582 then
    f_L_law_18 L xs n S582 x0 x1 x2 (x3 + 6)
    else
    some (0, S582))
    else
    (if (v29 &&& 63) = 10 then
    (sld L xs (x3 + 1)).bind fun v595 =>
    (sld L xs (x3 + 2)).bind fun v600 =>
    (sld L xs (x3 + 3)).bind fun v605 =>
    (rcv S x1 12).bind fun b606 =>
    (f_X11_sum S b606 v595 v600 v605).bind fun v606 =>
    (sld L xs (x3 + 1)).bind fun v614 =>
    (sld L xs (x3 + 2)).bind fun v619 =>
    (sld L xs (x3 + 3)).bind fun v624 =>
    (rcv S x2 13).bind fun b625 =>
    (f_X12_sum S b625 v614 v619 v624).bind fun v625 =>
    (if (lg_cmp v606 v625) = 0 then
    f_L_law_18 L xs n S x0 x1 x2 (x3 + 6)
    else
    some (0, S))
    else
    (if (v29 &&& 63) = 11 then
    (sld L xs (x3 + 1)).bind fun v639 =>
    (sld L xs (x3 + 2)).bind fun v644 =>
    (sld L xs (x3 + 3)).bind fun v649 =>
    (sld L xs (x3 + 4)).bind fun v654 =>
    (sld L xs (x3 + 5)).bind fun v659 =>
    (rcv S x1 12).bind fun b660 =>
    (f_X11_feed S b660 v639 v644 v649 v654 v659).bind fun (v660, S660) =>
    (sld L xs (x3 + 1)).bind fun v668 =>
    (sld L xs (x3 + 2)).bind fun v673 =>
    (sld L xs (x3 + 3)).bind fun v678 =>
    (sld L xs (x3 + 4)).bind fun v683 =>
    (sld L xs (x3 + 5)).bind fun v688 =>
    (rcv S660 x2 13).bind fun b689 =>
    (f_X12_feed S660 b689 v668 v673 v678 v683 v688).bind fun (v689, S689) =>
    (if v660 = v689 then
    f_L_law_18 L xs n S689 x0 x1 x2 (x3 + 6)
    else
    some (0, S689))
    else
    (if (v29 &&& 63) = 12 then
    (sld L xs (x3 + 1)).bind fun v702 =>
    (rcv S x1 12).bind fun b703 =>
    (f_X11_end S b703 v702).bind fun (v703, S703) =>
    (sld L xs (x3 + 1)).bind fun v711 =>
    (rcv S703 x2 13).bind fun b712 =>
    (f_X12_end S703 b712 v711).bind fun (v712, S712) =>
    (if v703 = v712 then
    f_L_law_18 L xs n S712 x0 x1 x2 (x3 + 6)
    else
    some (0, S712))
    else
    (if (v29 &&& 63) = 13 then
    (sld L xs (x3 + 1)).bind fun v725 =>
    (rcv S x1 12).bind fun b726 =>
    (f_X11_reads S b726 v725).bind fun (v726, S726) =>
    (sld L xs (x3 + 1)).bind fun v734 =>
    (rcv S726 x2 13).bind fun b735 =>
    (f_X12_reads S726 b735 v734).bind fun (v735, S735) =>
    (if v726 = v735 then
    f_L_law_18 L xs n S735 x0 x1 x2 (x3 + 6)
    else
    some (0, S735))
    else
    (if (v29 &&& 63) = 14 then
    (sld L xs (x3 + 1)).bind fun v748 =>
    (rcv S x1 12).bind fun b749 =>
    (f_X11_fault S b749 v748).bind fun v749 =>
    (sld L xs (x3 + 1)).bind fun v757 =>
    (rcv S x2 13).bind fun b758 =>
    (f_X12_fault S b758 v757).bind fun v758 =>
    (if v749 = v758 then
    f_L_law_18 L xs n S x0 x1 x2 (x3 + 6)
    else
    some (0, S))
    else
    (if (v29 &&& 63) = 15 then
    (sld L xs (x3 + 1)).bind fun v771 =>
    (sld L xs (x3 + 2)).bind fun v776 =>
    (rcv S x1 12).bind fun b777 =>
    (f_X11_told S b777 v771 v776).bind fun v777 =>
    (sld L xs (x3 + 1)).bind fun v785 =>
    (sld L xs (x3 + 2)).bind fun v790 =>
    (rcv S x2 13).bind fun b791 =>
    (f_X12_told S b791 v785 v790).bind fun v791 =>
    (if v777 = v791 then
    f_L_law_18 L xs n S x0 x1 x2 (x3 + 6)
    else
    some (0, S))
    else
    (if (v29 &&& 63) = 16 then
    (sld L xs (x3 + 1)).bind fun v804 =>
    (sld L xs (x3 + 2)).bind fun v809 =>
    (sld L xs (x3 + 3)).bind fun v814 =>
    (rcv S x1 12).bind fun b815 =>
    (f_X11_sleep S b815 v804 v809 v814).bind fun v815 =>
    (sld L xs (x3 + 1)).bind fun v823 =>
    (sld L xs (x3 + 2)).bind fun v828 =>
    (sld L xs (x3 + 3)).bind fun v833 =>
    (rcv S x2 13).bind fun b834 =>
    (f_X12_sleep S b834 v823 v828 v833).bind fun v834 =>
    (if v815 = v834 then
    f_L_law_18 L xs n S x0 x1 x2 (x3 + 6)
    else
    some (0, S))
    else
    (if (v29 &&& 63) = 17 then
    (sld L xs (x3 + 1)).bind fun v847 =>
    (rcv S x1 12).bind fun b848 =>
    (f_X11_report S b848 v847).bind fun (v848, S848) =>
    (sld L xs (x3 + 1)).bind fun v856 =>
    (rcv S848 x2 13).bind fun b857 =>
    (f_X12_report S848 b857 v856).bind fun (v857, S857) =>
    (if v848 = v857 then
    f_L_law_18 L xs n S857 x0 x1 x2 (x3 + 6)
    else
    some (0, S857))
    else
    (if (v29 &&& 63) = 18 then
    (sld L xs (x3 + 1)).bind fun v870 =>
    (sld L xs (x3 + 2)).bind fun v875 =>
    (rcv S x1 12).bind fun b876 =>
    (f_X11_held S b876 v870 v875).bind fun v876 =>
    (sld L xs (x3 + 1)).bind fun v884 =>
    (sld L xs (x3 + 2)).bind fun v889 =>
    (rcv S x2 13).bind fun b890 =>
    (f_X12_held S b890 v884 v889).bind fun v890 =>
    (if (lg_cmp v876 v890) = 0 then
    f_L_law_18 L xs n S x0 x1 x2 (x3 + 6)
    else
    some (0, S))
    else
    (if (v29 &&& 63) = 19 then
    (sld L xs (x3 + 1)).bind fun v904 =>
    (sld L xs (x3 + 2)).bind fun v909 =>
    (rcv S x1 12).bind fun b910 =>
    (f_X11_points S b910 v904 v909).bind fun v910 =>
    (sld L xs (x3 + 1)).bind fun v918 =>
    (sld L xs (x3 + 2)).bind fun v923 =>
    (rcv S x2 13).bind fun b924 =>
    (f_X12_points S b924 v918 v923).bind fun v924 =>
    (if v910 = v924 then
    f_L_law_18 L xs n S x0 x1 x2 (x3 + 6)
    else
    some (0, S))
    else
    (if (v29 &&& 63) = 20 then
    (sld L xs (x3 + 1)).bind fun v937 =>
    (sld L xs (x3 + 2)).bind fun v942 =>
    (rcv S x1 12).bind fun b943 =>
    (f_X11_join S b943 v937 v942).bind fun (v943, S943) =>
    (sld L xs (x3 + 1)).bind fun v951 =>
    (sld L xs (x3 + 2)).bind fun v956 =>
    (rcv S943 x2 13).bind fun b957 =>
    (f_X12_join S943 b957 v951 v956).bind fun (v957, S957) =>
    (if v943 = v957 then
    f_L_law_18 L xs n S957 x0 x1 x2 (x3 + 6)
    else
    some (0, S957))
    else
    (if (v29 &&& 63) = 21 then
    (sld L xs (x3 + 1)).bind fun v970 =>
    (sld L xs (x3 + 2)).bind fun v975 =>
    (sld L xs (x3 + 3)).bind fun v980 =>
    (rcv S x1 12).bind fun b981 =>
    (f_X11_joined S b981 v970 v975 v980).bind fun (v981, S981) =>
    (sld L xs (x3 + 1)).bind fun v989 =>
    (sld L xs (x3 + 2)).bind fun v994 =>
    (sld L xs (x3 + 3)).bind fun v999 =>
    (rcv S981 x2 13).bind fun b1000 =>
    (f_X12_joined S981 b1000 v989 v994 v999).bind fun (v1000, S1000) =>
    (if v981 = v1000 then
    f_L_law_18 L xs n S1000 x0 x1 x2 (x3 + 6)
    else
    some (0, S1000))
    else
    (if (v29 &&& 63) = 22 then
    (sld L xs (x3 + 1)).bind fun v1013 =>
    (rcv S x1 12).bind fun b1014 =>
    (f_X11_heirs S b1014 v1013).bind fun v1014 =>
    (sld L xs (x3 + 1)).bind fun v1022 =>
    (rcv S x2 13).bind fun b1023 =>
    (f_X12_heirs S b1023 v1022).bind fun (v1023, S1023) =>
    (if v1014 = v1023 then
    f_L_law_18 L xs n S1023 x0 x1 x2 (x3 + 6)
    else
    some (0, S1023))
    else
    (if (v29 &&& 63) = 23 then
    (sld L xs (x3 + 1)).bind fun v1036 =>
    (sld L xs (x3 + 2)).bind fun v1041 =>
    (sld L xs (x3 + 3)).bind fun v1046 =>
    (rcv S x1 12).bind fun b1047 =>
    (f_X11_share S b1047 v1036 v1041 v1046).bind fun v1047 =>
    (sld L xs (x3 + 1)).bind fun v1055 =>
    (sld L xs (x3 + 2)).bind fun v1060 =>
    (sld L xs (x3 + 3)).bind fun v1065 =>
    (rcv S x2 13).bind fun b1066 =>
    (f_X12_share S b1066 v1055 v1060 v1065).bind fun (v1066, S1066) =>
    (if (lg_cmp v1047 v1066) = 0 then
    f_L_law_18 L xs n S1066 x0 x1 x2 (x3 + 6)
    else
    some (0, S1066))
    else
    (if (v29 &&& 63) = 24 then
    (sld L xs (x3 + 1)).bind fun v1080 =>
    (sld L xs (x3 + 2)).bind fun v1085 =>
    (sld L xs (x3 + 3)).bind fun v1090 =>
    (sld L xs (x3 + 4)).bind fun v1095 =>
    (rcv S x1 12).bind fun b1096 =>
    (f_X11_claim S b1096 v1080 v1085 v1090 v1095).bind fun (v1096, S1096) =>
    (sld L xs (x3 + 1)).bind fun v1104 =>
    (sld L xs (x3 + 2)).bind fun v1109 =>
    (sld L xs (x3 + 3)).bind fun v1114 =>
    (sld L xs (x3 + 4)).bind fun v1119 =>
    (rcv S1096 x2 13).bind fun b1120 =>
    (f_X12_claim S1096 b1120 v1104 v1109 v1114 v1119).bind fun (v1120, S1120) =>
    (if v1096 = v1120 then
    f_L_law_18 L xs n S1120 x0 x1 x2 (x3 + 6)
    else
    some (0, S1120))
    else
    (if (v29 &&& 63) = 25 then
    (sld L xs (x3 + 1)).bind fun v1133 =>
    (sld L xs (x3 + 2)).bind fun v1138 =>
    (rcv S x1 12).bind fun b1139 =>
    (f_X11_claimOf S b1139 v1133 v1138).bind fun (v1139, S1139) =>
    (sld L xs (x3 + 1)).bind fun v1147 =>
    (sld L xs (x3 + 2)).bind fun v1152 =>
    (rcv S1139 x2 13).bind fun b1153 =>
    (f_X12_claimOf S1139 b1153 v1147 v1152).bind fun (v1153, S1153) =>
    (if (lg_cmp v1139 v1153) = 0 then
    f_L_law_18 L xs n S1153 x0 x1 x2 (x3 + 6)
    else
    some (0, S1153))
    else
    (if (v29 &&& 63) = 26 then
    (sld L xs (x3 + 1)).bind fun v1167 =>
    (rcv S x1 12).bind fun b1168 =>
    (f_X11_pay S b1168 v1167).bind fun (v1168, S1168) =>
    (sld L xs (x3 + 1)).bind fun v1176 =>
    (rcv S1168 x2 13).bind fun b1177 =>
    (f_X12_pay S1168 b1177 v1176).bind fun (v1177, S1177) =>
    (if (lg_cmp v1168 v1177) = 0 then
    f_L_law_18 L xs n S1177 x0 x1 x2 (x3 + 6)
    else
    some (0, S1177))
    else
    (if (v29 &&& 63) = 27 then
    (sld L xs (x3 + 1)).bind fun v1191 =>
    (rcv S x1 12).bind fun b1192 =>
    (f_X11_back S b1192 v1191).bind fun (v1192, S1192) =>
    (sld L xs (x3 + 1)).bind fun v1200 =>
    (rcv S1192 x2 13).bind fun b1201 =>
    (f_X12_back S1192 b1201 v1200).bind fun (v1201, S1201) =>
    (if (lg_cmp v1192 v1201) = 0 then
    f_L_law_18 L xs n S1201 x0 x1 x2 (x3 + 6)
    else
    some (0, S1201))
    else
    (if (v29 &&& 63) = 28 then
    (sld L xs (x3 + 1)).bind fun v1215 =>
    (sld L xs (x3 + 2)).bind fun v1220 =>
    (sld L xs (x3 + 3)).bind fun v1225 =>
    (rcv S x1 12).bind fun b1226 =>
    (f_X11_figure S b1226 v1215 v1220 v1225).bind fun (v1226, S1226) =>
    (sld L xs (x3 + 1)).bind fun v1234 =>
    (sld L xs (x3 + 2)).bind fun v1239 =>
    (sld L xs (x3 + 3)).bind fun v1244 =>
    (rcv S1226 x2 13).bind fun b1245 =>
    (f_X12_figure S1226 b1245 v1234 v1239 v1244).bind fun (v1245, S1245) =>
    (if v1226 = v1245 then
    f_L_law_18 L xs n S1245 x0 x1 x2 (x3 + 6)
    else
    some (0, S1245))
    else
    (if (v29 &&& 63) = 29 then
    (sld L xs (x3 + 1)).bind fun v1258 =>
    (sld L xs (x3 + 2)).bind fun v1263 =>
    (rcv S x1 12).bind fun b1264 =>
    (f_X11_costs S b1264 v1258 v1263).bind fun (v1264, S1264) =>
    (sld L xs (x3 + 1)).bind fun v1272 =>
    (sld L xs (x3 + 2)).bind fun v1277 =>
    (rcv S1264 x2 13).bind fun b1278 =>
    (f_X12_costs S1264 b1278 v1272 v1277).bind fun (v1278, S1278) =>
    (if v1264 = v1278 then
    f_L_law_18 L xs n S1278 x0 x1 x2 (x3 + 6)
    else
    some (0, S1278))
    else
    (if (v29 &&& 63) = 30 then
    (sld L xs (x3 + 1)).bind fun v1291 =>
    (sld L xs (x3 + 2)).bind fun v1296 =>
    (rcv S x1 12).bind fun b1297 =>
    (f_X11_audit S b1297 v1291 v1296).bind fun v1297 =>
    (sld L xs (x3 + 1)).bind fun v1305 =>
    (sld L xs (x3 + 2)).bind fun v1310 =>
    (rcv S x2 13).bind fun b1311 =>
    (f_X12_audit S b1311 v1305 v1310).bind fun v1311 =>
    (if v1297 = v1311 then
    f_L_law_18 L xs n S x0 x1 x2 (x3 + 6)
    else
    some (0, S))
    else
    (if (v29 &&& 63) = 31 then
    (sld L xs (x3 + 1)).bind fun v1324 =>
    (sld L xs (x3 + 2)).bind fun v1329 =>
    (sld L xs (x3 + 3)).bind fun v1334 =>
    (sld L xs (x3 + 4)).bind fun v1339 =>
    (rcv S x1 12).bind fun b1340 =>
    (f_X11_looks S b1340 v1324 v1329 v1334 v1339).bind fun (v1340, S1340) =>
    (sld L xs (x3 + 1)).bind fun v1348 =>
    (sld L xs (x3 + 2)).bind fun v1353 =>
    (sld L xs (x3 + 3)).bind fun v1358 =>
    (sld L xs (x3 + 4)).bind fun v1363 =>
    (rcv S1340 x2 13).bind fun b1364 =>
    (f_X12_looks S1340 b1364 v1348 v1353 v1358 v1363).bind fun (v1364, S1364) =>
    (if v1340 = v1364 then
    f_L_law_18 L xs n S1364 x0 x1 x2 (x3 + 6)
    else
    some (0, S1364))
    else
    (if (v29 &&& 63) = 32 then
    (sld L xs (x3 + 1)).bind fun v1377 =>
    (rcv S x1 12).bind fun b1378 =>
    (f_X11_look S b1378 v1377).bind fun v1378 =>
    (sld L xs (x3 + 1)).bind fun v1386 =>
    (rcv S x2 13).bind fun b1387 =>
    (f_X12_look S b1387 v1386).bind fun v1387 =>
    (if (lg_cmp v1378 v1387) = 0 then
    f_L_law_18 L xs n S x0 x1 x2 (x3 + 6)
    else
    some (0, S))
    else
    f_L_law_18 L xs n S x0 x1 x2 (x3 + 6)))))))))))))))))))))))))))))))))))
def f_L_law (L : Nat) (xs : Nat → Int32) (S : St) (x0 : Nat) : Option (Int32 × St) :=
    (newO S 12).bind fun (a0, S0) =>
    (rcv S0 (some a0) 12).bind fun b4 =>
    (f_X11_init S0 b4).bind fun S4 =>
    (newO S4 13).bind fun (a8, S8) =>
    (rcv S8 (some a8) 13).bind fun b12 =>
    (f_X12_init S8 b12).bind fun S12 =>
    f_L_law_18 L xs FU S12 x0 (some a0) (some a8) 0
set_option maxHeartbeats 8000000 in
theorem b_L_law_18 {p : Program} {l : Launch} {e : Env} {s : State} {m : MethodId} {below : List Frame} {meth : Method} {c : Code} {G : Ge} {L : Nat} {xs : Nat → Int32} {x0 : Nat} {S0 : St} (C : Cx p s m #[Value.ref x0] meth c G S0 (ly meth) cL_law 4 ret) (hX : va_X x0 L xs s s.heap) (hbA : x0 < bs G) (hB : nx S0 = bs G ∧ sl S0 = 0) {o : Int32 × St} (h1o : o.1 = 1) : ∀ (n : Nat) {S : St} {x1 : Option Nat} {x2 : Option Nat} {x3 : Int32}, f_L_law_18 L xs n S x0 x1 x2 x3 = some o → ∀ ls : Array Slot, lv_has ls 4 [(0, va_rf (some x0)), (1, va_rf x1), (2, va_rf x2), (3, .int x3)] → V p l e (rmo 2048 84000 S0) s m #[Value.ref x0] below meth c G S0 S (lw_Z below #[Value.ref x0] s) (F0 m 18 ls []) := by
  intro n
  induction n with
  | zero => intro S x1 x2 x3 hr; cases hr
  | succ n ih =>
    intro S x1 x2 x3 hr ls hl
    unfold f_L_law_18 at hr
    refine v_iload_n C (lv_at hl 3 rfl) rfl dL_law_18 ?_
    refine v_aload_n C (lv_at hl 0 rfl) rfl dL_law_19 ?_
    refine v_slen C hX hbA dL_law_20 ?_
    refine v_bipush C 6 (by decide) dL_law_21 ?_
    refine v_isub C dL_law_23 ?_
    refine v_icmp_gt C 1402 (by decide) dL_law_24 (fun c24 => ?_) (fun c24 => ?_)
    · rw [if_pos c24] at hr
      refine v_iconst C 1 (by decide) dL_law_1402 ?_
      exact v_law1 C hB dL_law_1403
    · rw [if_neg c24] at hr
      refine v_aload_n C (lv_at hl 0 rfl) rfl dL_law_27 ?_
      refine v_iload_n C (lv_at hl 3 rfl) rfl dL_law_28 ?_
      obtain ⟨v29, e29, hr⟩ := ob hr
      refine v_sld C hX hbA e29 dL_law_29 ?_
      refine v_bipush C 63 (by decide) dL_law_30 ?_
      refine v_iand C dL_law_32 ?_
      by_cases q33_0 : (v29 &&& 63) = 0
      · rw [if_pos q33_0] at hr
        refine v_tableIn C (off := 147) 180 (by rw [q33_0]; decide) (by rw [q33_0]; decide) (by rw [q33_0]; decide) (by decide) dL_law_33 ?_
        refine v_aload_n C (lv_at hl 1 rfl) rfl dL_law_180 ?_
        refine v_aload_n C (lv_at hl 0 rfl) rfl dL_law_181 ?_
        refine v_iload_n C (lv_at hl 3 rfl) rfl dL_law_182 ?_
        refine v_iconst C 1 (by decide) dL_law_183 ?_
        refine v_iadd C dL_law_184 ?_
        obtain ⟨v185, e185, hr⟩ := ob hr
        refine v_sld C hX hbA e185 dL_law_185 ?_
        obtain ⟨b186, f186, hr⟩ := ob hr
        obtain ⟨g186, h186⟩ := rcv_n f186
        obtain ⟨⟨v186, S186⟩, e186, hr⟩ := ob hr
        (try dsimp only at hr)
        refine v_callV C (b := b186) h186 (by decide) rfl rfl (k_X11_days e186) cw_X11_days w_341 w_342 w_343 (show (parseMethodDescriptor (yX11_days).desc).map (fun d => d.parameters.length) = some 1 by decide +kernel) ⟨by decide, by decide⟩ (rest := []) (stk2 := [.int v186]) (by rw [g186]; rfl) rfl (Nat.le_of_ble_eq_true rfl) hl dL_law_186 ?_
        refine v_aload_n C (lv_at hl 2 rfl) rfl dL_law_189 ?_
        refine v_aload_n C (lv_at hl 0 rfl) rfl dL_law_190 ?_
        refine v_iload_n C (lv_at hl 3 rfl) rfl dL_law_191 ?_
        refine v_iconst C 1 (by decide) dL_law_192 ?_
        refine v_iadd C dL_law_193 ?_
        obtain ⟨v194, e194, hr⟩ := ob hr
        refine v_sld C hX hbA e194 dL_law_194 ?_
        obtain ⟨b195, f195, hr⟩ := ob hr
        obtain ⟨g195, h195⟩ := rcv_n f195
        obtain ⟨⟨v195, S195⟩, e195, hr⟩ := ob hr
        (try dsimp only at hr)
        refine v_callV C (b := b195) h195 (by decide) rfl rfl (k_X12_days e195) cw_X12_days w_1551 w_1552 w_1553 (show (parseMethodDescriptor (yX12_days).desc).map (fun d => d.parameters.length) = some 1 by decide +kernel) ⟨by decide, by decide⟩ (rest := [.int v186]) (stk2 := [.int v195, .int v186]) (by rw [g195]; rfl) rfl (Nat.le_of_ble_eq_true rfl) hl dL_law_195 ?_
        refine v_icmp_eq C 1396 (by decide) dL_law_198 (fun c198 => ?_) (fun c198 => ?_)
        · rw [if_pos c198] at hr
          refine v_iinc C (x3 + 6) (k0 := 3) (lv' := [(3, .int (x3 + 6)), (0, va_rf (some x0)), (1, va_rf x1), (2, va_rf x2)]) hl rfl rfl (by decide) (by simp [rf_n2]) dL_law_1396 (fun ls hl => ?_)
          refine v_goto C 18 (by decide) dL_law_1399 ?_
          exact ih hr _ (lv_sub hl [1, 2, 3, 0] rfl)
        · rw [if_neg c198] at hr
          refine v_iconst C 0 (by decide) dL_law_201 ?_
          have h0 := congrArg Prod.fst (os hr)
          rw [h1o] at h0
          exact absurd (show (0 : Int32) = 1 from h0) (by decide)
      rw [if_neg q33_0] at hr
      by_cases q33_1 : (v29 &&& 63) = 1
      · rw [if_pos q33_1] at hr
        refine v_tableIn C (off := 170) 203 (by rw [q33_1]; decide) (by rw [q33_1]; decide) (by rw [q33_1]; decide) (by decide) dL_law_33 ?_
        refine v_aload_n C (lv_at hl 1 rfl) rfl dL_law_203 ?_
        refine v_aload_n C (lv_at hl 0 rfl) rfl dL_law_204 ?_
        refine v_iload_n C (lv_at hl 3 rfl) rfl dL_law_205 ?_
        refine v_iconst C 1 (by decide) dL_law_206 ?_
        refine v_iadd C dL_law_207 ?_
        obtain ⟨v208, e208, hr⟩ := ob hr
        refine v_sld C hX hbA e208 dL_law_208 ?_
        obtain ⟨b209, f209, hr⟩ := ob hr
        obtain ⟨g209, h209⟩ := rcv_n f209
        obtain ⟨⟨v209, S209⟩, e209, hr⟩ := ob hr
        (try dsimp only at hr)
        refine v_callV C (b := b209) h209 (by decide) rfl rfl (k_X11_firm e209) cw_X11_firm w_345 w_346 w_347 (show (parseMethodDescriptor (yX11_firm).desc).map (fun d => d.parameters.length) = some 1 by decide +kernel) ⟨by decide, by decide⟩ (rest := []) (stk2 := [.int v209]) (by rw [g209]; rfl) rfl (Nat.le_of_ble_eq_true rfl) hl dL_law_209 ?_
        refine v_aload_n C (lv_at hl 2 rfl) rfl dL_law_212 ?_
        refine v_aload_n C (lv_at hl 0 rfl) rfl dL_law_213 ?_
        refine v_iload_n C (lv_at hl 3 rfl) rfl dL_law_214 ?_
        refine v_iconst C 1 (by decide) dL_law_215 ?_
        refine v_iadd C dL_law_216 ?_
        obtain ⟨v217, e217, hr⟩ := ob hr
        refine v_sld C hX hbA e217 dL_law_217 ?_
        obtain ⟨b218, f218, hr⟩ := ob hr
        obtain ⟨g218, h218⟩ := rcv_n f218
        obtain ⟨⟨v218, S218⟩, e218, hr⟩ := ob hr
        (try dsimp only at hr)
        refine v_callV C (b := b218) h218 (by decide) rfl rfl (k_X12_firm e218) cw_X12_firm w_1558 w_1559 w_1560 (show (parseMethodDescriptor (yX12_firm).desc).map (fun d => d.parameters.length) = some 1 by decide +kernel) ⟨by decide, by decide⟩ (rest := [.int v209]) (stk2 := [.int v218, .int v209]) (by rw [g218]; rfl) rfl (Nat.le_of_ble_eq_true rfl) hl dL_law_218 ?_
        refine v_icmp_eq C 1396 (by decide) dL_law_221 (fun c221 => ?_) (fun c221 => ?_)
        · rw [if_pos c221] at hr
          refine v_iinc C (x3 + 6) (k0 := 3) (lv' := [(3, .int (x3 + 6)), (0, va_rf (some x0)), (1, va_rf x1), (2, va_rf x2)]) hl rfl rfl (by decide) (by simp [rf_n2]) dL_law_1396 (fun ls hl => ?_)
          refine v_goto C 18 (by decide) dL_law_1399 ?_
          exact ih hr _ (lv_sub hl [1, 2, 3, 0] rfl)
        · rw [if_neg c221] at hr
          refine v_iconst C 0 (by decide) dL_law_224 ?_
          have h0 := congrArg Prod.fst (os hr)
          rw [h1o] at h0
          exact absurd (show (0 : Int32) = 1 from h0) (by decide)
      rw [if_neg q33_1] at hr
      by_cases q33_2 : (v29 &&& 63) = 2
      · rw [if_pos q33_2] at hr
        refine v_tableIn C (off := 193) 226 (by rw [q33_2]; decide) (by rw [q33_2]; decide) (by rw [q33_2]; decide) (by decide) dL_law_33 ?_
        refine v_aload_n C (lv_at hl 1 rfl) rfl dL_law_226 ?_
        refine v_aload_n C (lv_at hl 0 rfl) rfl dL_law_227 ?_
        refine v_iload_n C (lv_at hl 3 rfl) rfl dL_law_228 ?_
        refine v_iconst C 1 (by decide) dL_law_229 ?_
        refine v_iadd C dL_law_230 ?_
        obtain ⟨v231, e231, hr⟩ := ob hr
        refine v_sld C hX hbA e231 dL_law_231 ?_
        refine v_aload_n C (lv_at hl 0 rfl) rfl dL_law_232 ?_
        refine v_iload_n C (lv_at hl 3 rfl) rfl dL_law_233 ?_
        refine v_iconst C 2 (by decide) dL_law_234 ?_
        refine v_iadd C dL_law_235 ?_
        obtain ⟨v236, e236, hr⟩ := ob hr
        refine v_sld C hX hbA e236 dL_law_236 ?_
        refine v_aload_n C (lv_at hl 0 rfl) rfl dL_law_237 ?_
        refine v_iload_n C (lv_at hl 3 rfl) rfl dL_law_238 ?_
        refine v_iconst C 3 (by decide) dL_law_239 ?_
        refine v_iadd C dL_law_240 ?_
        obtain ⟨v241, e241, hr⟩ := ob hr
        refine v_sld C hX hbA e241 dL_law_241 ?_
        obtain ⟨b242, f242, hr⟩ := ob hr
        obtain ⟨g242, h242⟩ := rcv_n f242
        obtain ⟨⟨v242, S242⟩, e242, hr⟩ := ob hr
        (try dsimp only at hr)
        refine v_callV C (b := b242) h242 (by decide) rfl rfl (k_X11_merge e242) cw_X11_merge w_441 w_442 w_443 (show (parseMethodDescriptor (yX11_merge).desc).map (fun d => d.parameters.length) = some 3 by decide +kernel) ⟨by decide, by decide⟩ (rest := []) (stk2 := [.int v242]) (by rw [g242]; rfl) rfl (Nat.le_of_ble_eq_true rfl) hl dL_law_242 ?_
        refine v_aload_n C (lv_at hl 2 rfl) rfl dL_law_245 ?_
        refine v_aload_n C (lv_at hl 0 rfl) rfl dL_law_246 ?_
        refine v_iload_n C (lv_at hl 3 rfl) rfl dL_law_247 ?_
        refine v_iconst C 1 (by decide) dL_law_248 ?_
        refine v_iadd C dL_law_249 ?_
        obtain ⟨v250, e250, hr⟩ := ob hr
        refine v_sld C hX hbA e250 dL_law_250 ?_
        refine v_aload_n C (lv_at hl 0 rfl) rfl dL_law_251 ?_
        refine v_iload_n C (lv_at hl 3 rfl) rfl dL_law_252 ?_
        refine v_iconst C 2 (by decide) dL_law_253 ?_
        refine v_iadd C dL_law_254 ?_
        obtain ⟨v255, e255, hr⟩ := ob hr
        refine v_sld C hX hbA e255 dL_law_255 ?_
        refine v_aload_n C (lv_at hl 0 rfl) rfl dL_law_256 ?_
        refine v_iload_n C (lv_at hl 3 rfl) rfl dL_law_257 ?_
        refine v_iconst C 3 (by decide) dL_law_258 ?_
        refine v_iadd C dL_law_259 ?_
        obtain ⟨v260, e260, hr⟩ := ob hr
        refine v_sld C hX hbA e260 dL_law_260 ?_
        obtain ⟨b261, f261, hr⟩ := ob hr
        obtain ⟨g261, h261⟩ := rcv_n f261
        obtain ⟨⟨v261, S261⟩, e261, hr⟩ := ob hr
        (try dsimp only at hr)
        refine v_callV C (b := b261) h261 (by decide) rfl rfl (k_X12_merge e261) cw_X12_merge w_1565 w_1566 w_1567 (show (parseMethodDescriptor (yX12_merge).desc).map (fun d => d.parameters.length) = some 3 by decide +kernel) ⟨by decide, by decide⟩ (rest := [.int v242]) (stk2 := [.int v261, .int v242]) (by rw [g261]; rfl) rfl (Nat.le_of_ble_eq_true rfl) hl dL_law_261 ?_
        refine v_icmp_eq C 1396 (by decide) dL_law_264 (fun c264 => ?_) (fun c264 => ?_)
        · rw [if_pos c264] at hr
          refine v_iinc C (x3 + 6) (k0 := 3) (lv' := [(3, .int (x3 + 6)), (0, va_rf (some x0)), (1, va_rf x1), (2, va_rf x2)]) hl rfl rfl (by decide) (by simp [rf_n2]) dL_law_1396 (fun ls hl => ?_)
          refine v_goto C 18 (by decide) dL_law_1399 ?_
          exact ih hr _ (lv_sub hl [1, 2, 3, 0] rfl)
        · rw [if_neg c264] at hr
          refine v_iconst C 0 (by decide) dL_law_267 ?_
          have h0 := congrArg Prod.fst (os hr)
          rw [h1o] at h0
          exact absurd (show (0 : Int32) = 1 from h0) (by decide)
      rw [if_neg q33_2] at hr
      by_cases q33_3 : (v29 &&& 63) = 3
      · rw [if_pos q33_3] at hr
        refine v_tableIn C (off := 236) 269 (by rw [q33_3]; decide) (by rw [q33_3]; decide) (by rw [q33_3]; decide) (by decide) dL_law_33 ?_
        refine v_aload_n C (lv_at hl 1 rfl) rfl dL_law_269 ?_
        refine v_aload_n C (lv_at hl 0 rfl) rfl dL_law_270 ?_
        refine v_iload_n C (lv_at hl 3 rfl) rfl dL_law_271 ?_
        refine v_iconst C 1 (by decide) dL_law_272 ?_
        refine v_iadd C dL_law_273 ?_
        obtain ⟨v274, e274, hr⟩ := ob hr
        refine v_sld C hX hbA e274 dL_law_274 ?_
        refine v_aload_n C (lv_at hl 0 rfl) rfl dL_law_275 ?_
        refine v_iload_n C (lv_at hl 3 rfl) rfl dL_law_276 ?_
        refine v_iconst C 2 (by decide) dL_law_277 ?_
        refine v_iadd C dL_law_278 ?_
        obtain ⟨v279, e279, hr⟩ := ob hr
        refine v_sld C hX hbA e279 dL_law_279 ?_
        obtain ⟨b280, f280, hr⟩ := ob hr
        obtain ⟨g280, h280⟩ := rcv_n f280
        obtain ⟨v280, e280, hr⟩ := ob hr
        refine v_callV C (b := b280) h280 (by decide) rfl rfl (k_X11_firmOn e280) cw_X11_firmOn w_475 w_476 w_477 (show (parseMethodDescriptor (yX11_firmOn).desc).map (fun d => d.parameters.length) = some 2 by decide +kernel) ⟨by decide, by decide⟩ (rest := []) (stk2 := [.int v280]) (by rw [g280]; rfl) rfl (Nat.le_of_ble_eq_true rfl) hl dL_law_280 ?_
        refine v_aload_n C (lv_at hl 2 rfl) rfl dL_law_283 ?_
        refine v_aload_n C (lv_at hl 0 rfl) rfl dL_law_284 ?_
        refine v_iload_n C (lv_at hl 3 rfl) rfl dL_law_285 ?_
        refine v_iconst C 1 (by decide) dL_law_286 ?_
        refine v_iadd C dL_law_287 ?_
        obtain ⟨v288, e288, hr⟩ := ob hr
        refine v_sld C hX hbA e288 dL_law_288 ?_
        refine v_aload_n C (lv_at hl 0 rfl) rfl dL_law_289 ?_
        refine v_iload_n C (lv_at hl 3 rfl) rfl dL_law_290 ?_
        refine v_iconst C 2 (by decide) dL_law_291 ?_
        refine v_iadd C dL_law_292 ?_
        obtain ⟨v293, e293, hr⟩ := ob hr
        refine v_sld C hX hbA e293 dL_law_293 ?_
        obtain ⟨b294, f294, hr⟩ := ob hr
        obtain ⟨g294, h294⟩ := rcv_n f294
        obtain ⟨v294, e294, hr⟩ := ob hr
        refine v_callV C (b := b294) h294 (by decide) rfl rfl (k_X12_firmOn e294) cw_X12_firmOn w_1581 w_1582 w_1583 (show (parseMethodDescriptor (yX12_firmOn).desc).map (fun d => d.parameters.length) = some 2 by decide +kernel) ⟨by decide, by decide⟩ (rest := [.int v280]) (stk2 := [.int v294, .int v280]) (by rw [g294]; rfl) rfl (Nat.le_of_ble_eq_true rfl) hl dL_law_294 ?_
        refine v_icmp_eq C 1396 (by decide) dL_law_297 (fun c297 => ?_) (fun c297 => ?_)
        · rw [if_pos c297] at hr
          refine v_iinc C (x3 + 6) (k0 := 3) (lv' := [(3, .int (x3 + 6)), (0, va_rf (some x0)), (1, va_rf x1), (2, va_rf x2)]) hl rfl rfl (by decide) (by simp [rf_n2]) dL_law_1396 (fun ls hl => ?_)
          refine v_goto C 18 (by decide) dL_law_1399 ?_
          exact ih hr _ (lv_sub hl [1, 2, 3, 0] rfl)
        · rw [if_neg c297] at hr
          refine v_iconst C 0 (by decide) dL_law_300 ?_
          have h0 := congrArg Prod.fst (os hr)
          rw [h1o] at h0
          exact absurd (show (0 : Int32) = 1 from h0) (by decide)
      rw [if_neg q33_3] at hr
      by_cases q33_4 : (v29 &&& 63) = 4
      · rw [if_pos q33_4] at hr
        refine v_tableIn C (off := 269) 302 (by rw [q33_4]; decide) (by rw [q33_4]; decide) (by rw [q33_4]; decide) (by decide) dL_law_33 ?_
        refine v_aload_n C (lv_at hl 1 rfl) rfl dL_law_302 ?_
        refine v_aload_n C (lv_at hl 0 rfl) rfl dL_law_303 ?_
        refine v_iload_n C (lv_at hl 3 rfl) rfl dL_law_304 ?_
        refine v_iconst C 1 (by decide) dL_law_305 ?_
        refine v_iadd C dL_law_306 ?_
        obtain ⟨v307, e307, hr⟩ := ob hr
        refine v_sld C hX hbA e307 dL_law_307 ?_
        refine v_aload_n C (lv_at hl 0 rfl) rfl dL_law_308 ?_
        refine v_iload_n C (lv_at hl 3 rfl) rfl dL_law_309 ?_
        refine v_iconst C 2 (by decide) dL_law_310 ?_
        refine v_iadd C dL_law_311 ?_
        obtain ⟨v312, e312, hr⟩ := ob hr
        refine v_sld C hX hbA e312 dL_law_312 ?_
        refine v_aload_n C (lv_at hl 0 rfl) rfl dL_law_313 ?_
        refine v_iload_n C (lv_at hl 3 rfl) rfl dL_law_314 ?_
        refine v_iconst C 3 (by decide) dL_law_315 ?_
        refine v_iadd C dL_law_316 ?_
        obtain ⟨v317, e317, hr⟩ := ob hr
        refine v_sld C hX hbA e317 dL_law_317 ?_
        refine v_aload_n C (lv_at hl 0 rfl) rfl dL_law_318 ?_
        refine v_iload_n C (lv_at hl 3 rfl) rfl dL_law_319 ?_
        refine v_iconst C 4 (by decide) dL_law_320 ?_
        refine v_iadd C dL_law_321 ?_
        obtain ⟨v322, e322, hr⟩ := ob hr
        refine v_sld C hX hbA e322 dL_law_322 ?_
        refine v_aload_n C (lv_at hl 0 rfl) rfl dL_law_323 ?_
        refine v_iload_n C (lv_at hl 3 rfl) rfl dL_law_324 ?_
        refine v_iconst C 5 (by decide) dL_law_325 ?_
        refine v_iadd C dL_law_326 ?_
        obtain ⟨v327, e327, hr⟩ := ob hr
        refine v_sld C hX hbA e327 dL_law_327 ?_
        obtain ⟨b328, f328, hr⟩ := ob hr
        obtain ⟨g328, h328⟩ := rcv_n f328
        obtain ⟨⟨v328, S328⟩, e328, hr⟩ := ob hr
        (try dsimp only at hr)
        refine v_callV C (b := b328) h328 (by decide) rfl rfl (k_X11_person e328) cw_X11_person w_482 w_483 w_484 (show (parseMethodDescriptor (yX11_person).desc).map (fun d => d.parameters.length) = some 5 by decide +kernel) ⟨by decide, by decide⟩ (rest := []) (stk2 := [.int v328]) (by rw [g328]; rfl) rfl (Nat.le_of_ble_eq_true rfl) hl dL_law_328 ?_
        refine v_aload_n C (lv_at hl 2 rfl) rfl dL_law_331 ?_
        refine v_aload_n C (lv_at hl 0 rfl) rfl dL_law_332 ?_
        refine v_iload_n C (lv_at hl 3 rfl) rfl dL_law_333 ?_
        refine v_iconst C 1 (by decide) dL_law_334 ?_
        refine v_iadd C dL_law_335 ?_
        obtain ⟨v336, e336, hr⟩ := ob hr
        refine v_sld C hX hbA e336 dL_law_336 ?_
        refine v_aload_n C (lv_at hl 0 rfl) rfl dL_law_337 ?_
        refine v_iload_n C (lv_at hl 3 rfl) rfl dL_law_338 ?_
        refine v_iconst C 2 (by decide) dL_law_339 ?_
        refine v_iadd C dL_law_340 ?_
        obtain ⟨v341, e341, hr⟩ := ob hr
        refine v_sld C hX hbA e341 dL_law_341 ?_
        refine v_aload_n C (lv_at hl 0 rfl) rfl dL_law_342 ?_
        refine v_iload_n C (lv_at hl 3 rfl) rfl dL_law_343 ?_
        refine v_iconst C 3 (by decide) dL_law_344 ?_
        refine v_iadd C dL_law_345 ?_
        obtain ⟨v346, e346, hr⟩ := ob hr
        refine v_sld C hX hbA e346 dL_law_346 ?_
        refine v_aload_n C (lv_at hl 0 rfl) rfl dL_law_347 ?_
        refine v_iload_n C (lv_at hl 3 rfl) rfl dL_law_348 ?_
        refine v_iconst C 4 (by decide) dL_law_349 ?_
        refine v_iadd C dL_law_350 ?_
        obtain ⟨v351, e351, hr⟩ := ob hr
        refine v_sld C hX hbA e351 dL_law_351 ?_
        refine v_aload_n C (lv_at hl 0 rfl) rfl dL_law_352 ?_
        refine v_iload_n C (lv_at hl 3 rfl) rfl dL_law_353 ?_
        refine v_iconst C 5 (by decide) dL_law_354 ?_
        refine v_iadd C dL_law_355 ?_
        obtain ⟨v356, e356, hr⟩ := ob hr
        refine v_sld C hX hbA e356 dL_law_356 ?_
        obtain ⟨b357, f357, hr⟩ := ob hr
        obtain ⟨g357, h357⟩ := rcv_n f357
        obtain ⟨⟨v357, S357⟩, e357, hr⟩ := ob hr
        (try dsimp only at hr)
        refine v_callV C (b := b357) h357 (by decide) rfl rfl (k_X12_person e357) cw_X12_person w_1589 w_1590 w_1591 (show (parseMethodDescriptor (yX12_person).desc).map (fun d => d.parameters.length) = some 5 by decide +kernel) ⟨by decide, by decide⟩ (rest := [.int v328]) (stk2 := [.int v357, .int v328]) (by rw [g357]; rfl) rfl (Nat.le_of_ble_eq_true rfl) hl dL_law_357 ?_
        refine v_icmp_eq C 1396 (by decide) dL_law_360 (fun c360 => ?_) (fun c360 => ?_)
        · rw [if_pos c360] at hr
          refine v_iinc C (x3 + 6) (k0 := 3) (lv' := [(3, .int (x3 + 6)), (0, va_rf (some x0)), (1, va_rf x1), (2, va_rf x2)]) hl rfl rfl (by decide) (by simp [rf_n2]) dL_law_1396 (fun ls hl => ?_)
          refine v_goto C 18 (by decide) dL_law_1399 ?_
          exact ih hr _ (lv_sub hl [1, 2, 3, 0] rfl)
        · rw [if_neg c360] at hr
          refine v_iconst C 0 (by decide) dL_law_363 ?_
          have h0 := congrArg Prod.fst (os hr)
          rw [h1o] at h0
          exact absurd (show (0 : Int32) = 1 from h0) (by decide)
      rw [if_neg q33_4] at hr
      by_cases q33_5 : (v29 &&& 63) = 5
      · rw [if_pos q33_5] at hr
        refine v_tableIn C (off := 332) 365 (by rw [q33_5]; decide) (by rw [q33_5]; decide) (by rw [q33_5]; decide) (by decide) dL_law_33 ?_
        refine v_aload_n C (lv_at hl 1 rfl) rfl dL_law_365 ?_
        refine v_aload_n C (lv_at hl 0 rfl) rfl dL_law_366 ?_
        refine v_iload_n C (lv_at hl 3 rfl) rfl dL_law_367 ?_
        refine v_iconst C 1 (by decide) dL_law_368 ?_
        refine v_iadd C dL_law_369 ?_
        obtain ⟨v370, e370, hr⟩ := ob hr
        refine v_sld C hX hbA e370 dL_law_370 ?_
        refine v_aload_n C (lv_at hl 0 rfl) rfl dL_law_371 ?_
        refine v_iload_n C (lv_at hl 3 rfl) rfl dL_law_372 ?_
        refine v_iconst C 2 (by decide) dL_law_373 ?_
        refine v_iadd C dL_law_374 ?_
        obtain ⟨v375, e375, hr⟩ := ob hr
        refine v_sld C hX hbA e375 dL_law_375 ?_
        obtain ⟨b376, f376, hr⟩ := ob hr
        obtain ⟨g376, h376⟩ := rcv_n f376
        obtain ⟨⟨v376, S376⟩, e376, hr⟩ := ob hr
        (try dsimp only at hr)
        refine v_callV C (b := b376) h376 (by decide) rfl rfl (k_X11_dies e376) cw_X11_dies w_538 w_539 w_540 (show (parseMethodDescriptor (yX11_dies).desc).map (fun d => d.parameters.length) = some 2 by decide +kernel) ⟨by decide, by decide⟩ (rest := []) (stk2 := [.int v376]) (by rw [g376]; rfl) rfl (Nat.le_of_ble_eq_true rfl) hl dL_law_376 ?_
        refine v_aload_n C (lv_at hl 2 rfl) rfl dL_law_379 ?_
        refine v_aload_n C (lv_at hl 0 rfl) rfl dL_law_380 ?_
        refine v_iload_n C (lv_at hl 3 rfl) rfl dL_law_381 ?_
        refine v_iconst C 1 (by decide) dL_law_382 ?_
        refine v_iadd C dL_law_383 ?_
        obtain ⟨v384, e384, hr⟩ := ob hr
        refine v_sld C hX hbA e384 dL_law_384 ?_
        refine v_aload_n C (lv_at hl 0 rfl) rfl dL_law_385 ?_
        refine v_iload_n C (lv_at hl 3 rfl) rfl dL_law_386 ?_
        refine v_iconst C 2 (by decide) dL_law_387 ?_
        refine v_iadd C dL_law_388 ?_
        obtain ⟨v389, e389, hr⟩ := ob hr
        refine v_sld C hX hbA e389 dL_law_389 ?_
        obtain ⟨b390, f390, hr⟩ := ob hr
        obtain ⟨g390, h390⟩ := rcv_n f390
        obtain ⟨⟨v390, S390⟩, e390, hr⟩ := ob hr
        (try dsimp only at hr)
        refine v_callV C (b := b390) h390 (by decide) rfl rfl (k_X12_dies e390) cw_X12_dies w_1597 w_1598 w_1599 (show (parseMethodDescriptor (yX12_dies).desc).map (fun d => d.parameters.length) = some 2 by decide +kernel) ⟨by decide, by decide⟩ (rest := [.int v376]) (stk2 := [.int v390, .int v376]) (by rw [g390]; rfl) rfl (Nat.le_of_ble_eq_true rfl) hl dL_law_390 ?_
        refine v_icmp_eq C 1396 (by decide) dL_law_393 (fun c393 => ?_) (fun c393 => ?_)
        · rw [if_pos c393] at hr
          refine v_iinc C (x3 + 6) (k0 := 3) (lv' := [(3, .int (x3 + 6)), (0, va_rf (some x0)), (1, va_rf x1), (2, va_rf x2)]) hl rfl rfl (by decide) (by simp [rf_n2]) dL_law_1396 (fun ls hl => ?_)
          refine v_goto C 18 (by decide) dL_law_1399 ?_
          exact ih hr _ (lv_sub hl [1, 2, 3, 0] rfl)
        · rw [if_neg c393] at hr
          refine v_iconst C 0 (by decide) dL_law_396 ?_
          have h0 := congrArg Prod.fst (os hr)
          rw [h1o] at h0
          exact absurd (show (0 : Int32) = 1 from h0) (by decide)
      rw [if_neg q33_5] at hr
      by_cases q33_6 : (v29 &&& 63) = 6
      · rw [if_pos q33_6] at hr
        refine v_tableIn C (off := 365) 398 (by rw [q33_6]; decide) (by rw [q33_6]; decide) (by rw [q33_6]; decide) (by decide) dL_law_33 ?_
        refine v_aload_n C (lv_at hl 1 rfl) rfl dL_law_398 ?_
        refine v_aload_n C (lv_at hl 0 rfl) rfl dL_law_399 ?_
        refine v_iload_n C (lv_at hl 3 rfl) rfl dL_law_400 ?_
        refine v_iconst C 1 (by decide) dL_law_401 ?_
        refine v_iadd C dL_law_402 ?_
        obtain ⟨v403, e403, hr⟩ := ob hr
        refine v_sld C hX hbA e403 dL_law_403 ?_
        refine v_aload_n C (lv_at hl 0 rfl) rfl dL_law_404 ?_
        refine v_iload_n C (lv_at hl 3 rfl) rfl dL_law_405 ?_
        refine v_iconst C 2 (by decide) dL_law_406 ?_
        refine v_iadd C dL_law_407 ?_
        obtain ⟨v408, e408, hr⟩ := ob hr
        refine v_sld C hX hbA e408 dL_law_408 ?_
        obtain ⟨b409, f409, hr⟩ := ob hr
        obtain ⟨g409, h409⟩ := rcv_n f409
        obtain ⟨⟨v409, S409⟩, e409, hr⟩ := ob hr
        (try dsimp only at hr)
        refine v_callV C (b := b409) h409 (by decide) rfl rfl (k_X11_moves e409) cw_X11_moves w_542 w_543 w_544 (show (parseMethodDescriptor (yX11_moves).desc).map (fun d => d.parameters.length) = some 2 by decide +kernel) ⟨by decide, by decide⟩ (rest := []) (stk2 := [.int v409]) (by rw [g409]; rfl) rfl (Nat.le_of_ble_eq_true rfl) hl dL_law_409 ?_
        refine v_aload_n C (lv_at hl 2 rfl) rfl dL_law_412 ?_
        refine v_aload_n C (lv_at hl 0 rfl) rfl dL_law_413 ?_
        refine v_iload_n C (lv_at hl 3 rfl) rfl dL_law_414 ?_
        refine v_iconst C 1 (by decide) dL_law_415 ?_
        refine v_iadd C dL_law_416 ?_
        obtain ⟨v417, e417, hr⟩ := ob hr
        refine v_sld C hX hbA e417 dL_law_417 ?_
        refine v_aload_n C (lv_at hl 0 rfl) rfl dL_law_418 ?_
        refine v_iload_n C (lv_at hl 3 rfl) rfl dL_law_419 ?_
        refine v_iconst C 2 (by decide) dL_law_420 ?_
        refine v_iadd C dL_law_421 ?_
        obtain ⟨v422, e422, hr⟩ := ob hr
        refine v_sld C hX hbA e422 dL_law_422 ?_
        obtain ⟨b423, f423, hr⟩ := ob hr
        obtain ⟨g423, h423⟩ := rcv_n f423
        obtain ⟨⟨v423, S423⟩, e423, hr⟩ := ob hr
        (try dsimp only at hr)
        refine v_callV C (b := b423) h423 (by decide) rfl rfl (k_X12_moves e423) cw_X12_moves w_1601 w_1602 w_1603 (show (parseMethodDescriptor (yX12_moves).desc).map (fun d => d.parameters.length) = some 2 by decide +kernel) ⟨by decide, by decide⟩ (rest := [.int v409]) (stk2 := [.int v423, .int v409]) (by rw [g423]; rfl) rfl (Nat.le_of_ble_eq_true rfl) hl dL_law_423 ?_
        refine v_icmp_eq C 1396 (by decide) dL_law_426 (fun c426 => ?_) (fun c426 => ?_)
        · rw [if_pos c426] at hr
          refine v_iinc C (x3 + 6) (k0 := 3) (lv' := [(3, .int (x3 + 6)), (0, va_rf (some x0)), (1, va_rf x1), (2, va_rf x2)]) hl rfl rfl (by decide) (by simp [rf_n2]) dL_law_1396 (fun ls hl => ?_)
          refine v_goto C 18 (by decide) dL_law_1399 ?_
          exact ih hr _ (lv_sub hl [1, 2, 3, 0] rfl)
        · rw [if_neg c426] at hr
          refine v_iconst C 0 (by decide) dL_law_429 ?_
          have h0 := congrArg Prod.fst (os hr)
          rw [h1o] at h0
          exact absurd (show (0 : Int32) = 1 from h0) (by decide)
      rw [if_neg q33_6] at hr
      by_cases q33_7 : (v29 &&& 63) = 7
      · rw [if_pos q33_7] at hr
        refine v_tableIn C (off := 398) 431 (by rw [q33_7]; decide) (by rw [q33_7]; decide) (by rw [q33_7]; decide) (by decide) dL_law_33 ?_
        refine v_aload_n C (lv_at hl 1 rfl) rfl dL_law_431 ?_
        refine v_aload_n C (lv_at hl 0 rfl) rfl dL_law_432 ?_
        refine v_iload_n C (lv_at hl 3 rfl) rfl dL_law_433 ?_
        refine v_iconst C 1 (by decide) dL_law_434 ?_
        refine v_iadd C dL_law_435 ?_
        obtain ⟨v436, e436, hr⟩ := ob hr
        refine v_sld C hX hbA e436 dL_law_436 ?_
        refine v_aload_n C (lv_at hl 0 rfl) rfl dL_law_437 ?_
        refine v_iload_n C (lv_at hl 3 rfl) rfl dL_law_438 ?_
        refine v_iconst C 2 (by decide) dL_law_439 ?_
        refine v_iadd C dL_law_440 ?_
        obtain ⟨v441, e441, hr⟩ := ob hr
        refine v_sld C hX hbA e441 dL_law_441 ?_
        refine v_aload_n C (lv_at hl 0 rfl) rfl dL_law_442 ?_
        refine v_iload_n C (lv_at hl 3 rfl) rfl dL_law_443 ?_
        refine v_iconst C 3 (by decide) dL_law_444 ?_
        refine v_iadd C dL_law_445 ?_
        obtain ⟨v446, e446, hr⟩ := ob hr
        refine v_sld C hX hbA e446 dL_law_446 ?_
        refine v_aload_n C (lv_at hl 0 rfl) rfl dL_law_447 ?_
        refine v_iload_n C (lv_at hl 3 rfl) rfl dL_law_448 ?_
        refine v_iconst C 4 (by decide) dL_law_449 ?_
        refine v_iadd C dL_law_450 ?_
        obtain ⟨v451, e451, hr⟩ := ob hr
        refine v_sld C hX hbA e451 dL_law_451 ?_
        obtain ⟨b452, f452, hr⟩ := ob hr
        obtain ⟨g452, h452⟩ := rcv_n f452
        obtain ⟨⟨v452, S452⟩, e452, hr⟩ := ob hr
        (try dsimp only at hr)
        refine v_callV C (b := b452) h452 (by decide) rfl rfl (k_X11_account e452) cw_X11_account w_546 w_547 w_548 (show (parseMethodDescriptor (yX11_account).desc).map (fun d => d.parameters.length) = some 4 by decide +kernel) ⟨by decide, by decide⟩ (rest := []) (stk2 := [.int v452]) (by rw [g452]; rfl) rfl (Nat.le_of_ble_eq_true rfl) hl dL_law_452 ?_
        refine v_aload_n C (lv_at hl 2 rfl) rfl dL_law_455 ?_
        refine v_aload_n C (lv_at hl 0 rfl) rfl dL_law_456 ?_
        refine v_iload_n C (lv_at hl 3 rfl) rfl dL_law_457 ?_
        refine v_iconst C 1 (by decide) dL_law_458 ?_
        refine v_iadd C dL_law_459 ?_
        obtain ⟨v460, e460, hr⟩ := ob hr
        refine v_sld C hX hbA e460 dL_law_460 ?_
        refine v_aload_n C (lv_at hl 0 rfl) rfl dL_law_461 ?_
        refine v_iload_n C (lv_at hl 3 rfl) rfl dL_law_462 ?_
        refine v_iconst C 2 (by decide) dL_law_463 ?_
        refine v_iadd C dL_law_464 ?_
        obtain ⟨v465, e465, hr⟩ := ob hr
        refine v_sld C hX hbA e465 dL_law_465 ?_
        refine v_aload_n C (lv_at hl 0 rfl) rfl dL_law_466 ?_
        refine v_iload_n C (lv_at hl 3 rfl) rfl dL_law_467 ?_
        refine v_iconst C 3 (by decide) dL_law_468 ?_
        refine v_iadd C dL_law_469 ?_
        obtain ⟨v470, e470, hr⟩ := ob hr
        refine v_sld C hX hbA e470 dL_law_470 ?_
        refine v_aload_n C (lv_at hl 0 rfl) rfl dL_law_471 ?_
        refine v_iload_n C (lv_at hl 3 rfl) rfl dL_law_472 ?_
        refine v_iconst C 4 (by decide) dL_law_473 ?_
        refine v_iadd C dL_law_474 ?_
        obtain ⟨v475, e475, hr⟩ := ob hr
        refine v_sld C hX hbA e475 dL_law_475 ?_
        obtain ⟨b476, f476, hr⟩ := ob hr
        obtain ⟨g476, h476⟩ := rcv_n f476
        obtain ⟨⟨v476, S476⟩, e476, hr⟩ := ob hr
        (try dsimp only at hr)
        refine v_callV C (b := b476) h476 (by decide) rfl rfl (k_X12_account e476) cw_X12_account w_1605 w_1606 w_1607 (show (parseMethodDescriptor (yX12_account).desc).map (fun d => d.parameters.length) = some 4 by decide +kernel) ⟨by decide, by decide⟩ (rest := [.int v452]) (stk2 := [.int v476, .int v452]) (by rw [g476]; rfl) rfl (Nat.le_of_ble_eq_true rfl) hl dL_law_476 ?_
        refine v_icmp_eq C 1396 (by decide) dL_law_479 (fun c479 => ?_) (fun c479 => ?_)
        · rw [if_pos c479] at hr
          refine v_iinc C (x3 + 6) (k0 := 3) (lv' := [(3, .int (x3 + 6)), (0, va_rf (some x0)), (1, va_rf x1), (2, va_rf x2)]) hl rfl rfl (by decide) (by simp [rf_n2]) dL_law_1396 (fun ls hl => ?_)
          refine v_goto C 18 (by decide) dL_law_1399 ?_
          exact ih hr _ (lv_sub hl [1, 2, 3, 0] rfl)
        · rw [if_neg c479] at hr
          refine v_iconst C 0 (by decide) dL_law_482 ?_
          have h0 := congrArg Prod.fst (os hr)
          rw [h1o] at h0
          exact absurd (show (0 : Int32) = 1 from h0) (by decide)
      rw [if_neg q33_7] at hr
      by_cases q33_8 : (v29 &&& 63) = 8
      · rw [if_pos q33_8] at hr
        refine v_tableIn C (off := 451) 484 (by rw [q33_8]; decide) (by rw [q33_8]; decide) (by rw [q33_8]; decide) (by decide) dL_law_33 ?_
        refine v_aload_n C (lv_at hl 1 rfl) rfl dL_law_484 ?_
        refine v_aload_n C (lv_at hl 0 rfl) rfl dL_law_485 ?_
        refine v_iload_n C (lv_at hl 3 rfl) rfl dL_law_486 ?_
        refine v_iconst C 1 (by decide) dL_law_487 ?_
        refine v_iadd C dL_law_488 ?_
        obtain ⟨v489, e489, hr⟩ := ob hr
        refine v_sld C hX hbA e489 dL_law_489 ?_
        refine v_aload_n C (lv_at hl 0 rfl) rfl dL_law_490 ?_
        refine v_iload_n C (lv_at hl 3 rfl) rfl dL_law_491 ?_
        refine v_iconst C 2 (by decide) dL_law_492 ?_
        refine v_iadd C dL_law_493 ?_
        obtain ⟨v494, e494, hr⟩ := ob hr
        refine v_sld C hX hbA e494 dL_law_494 ?_
        refine v_aload_n C (lv_at hl 0 rfl) rfl dL_law_495 ?_
        refine v_iload_n C (lv_at hl 3 rfl) rfl dL_law_496 ?_
        refine v_iconst C 3 (by decide) dL_law_497 ?_
        refine v_iadd C dL_law_498 ?_
        obtain ⟨v499, e499, hr⟩ := ob hr
        refine v_sld C hX hbA e499 dL_law_499 ?_
        refine v_aload_n C (lv_at hl 0 rfl) rfl dL_law_500 ?_
        refine v_iload_n C (lv_at hl 3 rfl) rfl dL_law_501 ?_
        refine v_iconst C 4 (by decide) dL_law_502 ?_
        refine v_iadd C dL_law_503 ?_
        obtain ⟨v504, e504, hr⟩ := ob hr
        refine v_sld C hX hbA e504 dL_law_504 ?_
        obtain ⟨b505, f505, hr⟩ := ob hr
        obtain ⟨g505, h505⟩ := rcv_n f505
        obtain ⟨⟨v505, S505⟩, e505, hr⟩ := ob hr
        (try dsimp only at hr)
        refine v_callV C (b := b505) h505 (by decide) rfl rfl (k_X11_act e505) cw_X11_act w_602 w_603 w_604 (show (parseMethodDescriptor (yX11_act).desc).map (fun d => d.parameters.length) = some 4 by decide +kernel) ⟨by decide, by decide⟩ (rest := []) (stk2 := [.int v505]) (by rw [g505]; rfl) rfl (Nat.le_of_ble_eq_true rfl) hl dL_law_505 ?_
        refine v_aload_n C (lv_at hl 2 rfl) rfl dL_law_508 ?_
        refine v_aload_n C (lv_at hl 0 rfl) rfl dL_law_509 ?_
        refine v_iload_n C (lv_at hl 3 rfl) rfl dL_law_510 ?_
        refine v_iconst C 1 (by decide) dL_law_511 ?_
        refine v_iadd C dL_law_512 ?_
        obtain ⟨v513, e513, hr⟩ := ob hr
        refine v_sld C hX hbA e513 dL_law_513 ?_
        refine v_aload_n C (lv_at hl 0 rfl) rfl dL_law_514 ?_
        refine v_iload_n C (lv_at hl 3 rfl) rfl dL_law_515 ?_
        refine v_iconst C 2 (by decide) dL_law_516 ?_
        refine v_iadd C dL_law_517 ?_
        obtain ⟨v518, e518, hr⟩ := ob hr
        refine v_sld C hX hbA e518 dL_law_518 ?_
        refine v_aload_n C (lv_at hl 0 rfl) rfl dL_law_519 ?_
        refine v_iload_n C (lv_at hl 3 rfl) rfl dL_law_520 ?_
        refine v_iconst C 3 (by decide) dL_law_521 ?_
        refine v_iadd C dL_law_522 ?_
        obtain ⟨v523, e523, hr⟩ := ob hr
        refine v_sld C hX hbA e523 dL_law_523 ?_
        refine v_aload_n C (lv_at hl 0 rfl) rfl dL_law_524 ?_
        refine v_iload_n C (lv_at hl 3 rfl) rfl dL_law_525 ?_
        refine v_iconst C 4 (by decide) dL_law_526 ?_
        refine v_iadd C dL_law_527 ?_
        obtain ⟨v528, e528, hr⟩ := ob hr
        refine v_sld C hX hbA e528 dL_law_528 ?_
        obtain ⟨b529, f529, hr⟩ := ob hr
        obtain ⟨g529, h529⟩ := rcv_n f529
        obtain ⟨⟨v529, S529⟩, e529, hr⟩ := ob hr
        (try dsimp only at hr)
        refine v_callV C (b := b529) h529 (by decide) rfl rfl (k_X12_act e529) cw_X12_act w_1609 w_1610 w_1611 (show (parseMethodDescriptor (yX12_act).desc).map (fun d => d.parameters.length) = some 4 by decide +kernel) ⟨by decide, by decide⟩ (rest := [.int v505]) (stk2 := [.int v529, .int v505]) (by rw [g529]; rfl) rfl (Nat.le_of_ble_eq_true rfl) hl dL_law_529 ?_
        refine v_icmp_eq C 1396 (by decide) dL_law_532 (fun c532 => ?_) (fun c532 => ?_)
        · rw [if_pos c532] at hr
          refine v_iinc C (x3 + 6) (k0 := 3) (lv' := [(3, .int (x3 + 6)), (0, va_rf (some x0)), (1, va_rf x1), (2, va_rf x2)]) hl rfl rfl (by decide) (by simp [rf_n2]) dL_law_1396 (fun ls hl => ?_)
          refine v_goto C 18 (by decide) dL_law_1399 ?_
          exact ih hr _ (lv_sub hl [1, 2, 3, 0] rfl)
        · rw [if_neg c532] at hr
          refine v_iconst C 0 (by decide) dL_law_535 ?_
          have h0 := congrArg Prod.fst (os hr)
          rw [h1o] at h0
          exact absurd (show (0 : Int32) = 1 from h0) (by decide)
      rw [if_neg q33_8] at hr
      by_cases q33_9 : (v29 &&& 63) = 9
      · rw [if_pos q33_9] at hr
        refine v_tableIn C (off := 504) 537 (by rw [q33_9]; decide) (by rw [q33_9]; decide) (by rw [q33_9]; decide) (by decide) dL_law_33 ?_
        refine v_aload_n C (lv_at hl 1 rfl) rfl dL_law_537 ?_
        refine v_aload_n C (lv_at hl 0 rfl) rfl dL_law_538 ?_
        refine v_iload_n C (lv_at hl 3 rfl) rfl dL_law_539 ?_
        refine v_iconst C 1 (by decide) dL_law_540 ?_
        refine v_iadd C dL_law_541 ?_
        obtain ⟨v542, e542, hr⟩ := ob hr
        refine v_sld C hX hbA e542 dL_law_542 ?_
        refine v_aload_n C (lv_at hl 0 rfl) rfl dL_law_543 ?_
        refine v_iload_n C (lv_at hl 3 rfl) rfl dL_law_544 ?_
        refine v_iconst C 2 (by decide) dL_law_545 ?_
        refine v_iadd C dL_law_546 ?_
        obtain ⟨v547, e547, hr⟩ := ob hr
        refine v_sld C hX hbA e547 dL_law_547 ?_
        refine v_aload_n C (lv_at hl 0 rfl) rfl dL_law_548 ?_
        refine v_iload_n C (lv_at hl 3 rfl) rfl dL_law_549 ?_
        refine v_iconst C 3 (by decide) dL_law_550 ?_
        refine v_iadd C dL_law_551 ?_
        obtain ⟨v552, e552, hr⟩ := ob hr
        refine v_sld C hX hbA e552 dL_law_552 ?_
        refine v_aload_n C (lv_at hl 0 rfl) rfl dL_law_553 ?_
        refine v_iload_n C (lv_at hl 3 rfl) rfl dL_law_554 ?_
        refine v_iconst C 4 (by decide) dL_law_555 ?_
        refine v_iadd C dL_law_556 ?_
        obtain ⟨v557, e557, hr⟩ := ob hr
        refine v_sld C hX hbA e557 dL_law_557 ?_
        obtain ⟨b558, f558, hr⟩ := ob hr
        obtain ⟨g558, h558⟩ := rcv_n f558
        obtain ⟨⟨v558, S558⟩, e558, hr⟩ := ob hr
        (try dsimp only at hr)
        refine v_callV C (b := b558) h558 (by decide) rfl rfl (k_X11_grow e558) cw_X11_grow w_664 w_665 w_666 (show (parseMethodDescriptor (yX11_grow).desc).map (fun d => d.parameters.length) = some 4 by decide +kernel) ⟨by decide, by decide⟩ (rest := []) (stk2 := [.int v558]) (by rw [g558]; rfl) rfl (Nat.le_of_ble_eq_true rfl) hl dL_law_558 ?_
        refine v_aload_n C (lv_at hl 2 rfl) rfl dL_law_561 ?_
        refine v_aload_n C (lv_at hl 0 rfl) rfl dL_law_562 ?_
        refine v_iload_n C (lv_at hl 3 rfl) rfl dL_law_563 ?_
        refine v_iconst C 1 (by decide) dL_law_564 ?_
        refine v_iadd C dL_law_565 ?_
        obtain ⟨v566, e566, hr⟩ := ob hr
        refine v_sld C hX hbA e566 dL_law_566 ?_
        refine v_aload_n C (lv_at hl 0 rfl) rfl dL_law_567 ?_
        refine v_iload_n C (lv_at hl 3 rfl) rfl dL_law_568 ?_
        refine v_iconst C 2 (by decide) dL_law_569 ?_
        refine v_iadd C dL_law_570 ?_
        obtain ⟨v571, e571, hr⟩ := ob hr
        refine v_sld C hX hbA e571 dL_law_571 ?_
        refine v_aload_n C (lv_at hl 0 rfl) rfl dL_law_572 ?_
        refine v_iload_n C (lv_at hl 3 rfl) rfl dL_law_573 ?_
        refine v_iconst C 3 (by decide) dL_law_574 ?_
        refine v_iadd C dL_law_575 ?_
        obtain ⟨v576, e576, hr⟩ := ob hr
        refine v_sld C hX hbA e576 dL_law_576 ?_
        refine v_aload_n C (lv_at hl 0 rfl) rfl dL_law_577 ?_
        refine v_iload_n C (lv_at hl 3 rfl) rfl dL_law_578 ?_
        refine v_iconst C 4 (by decide) dL_law_579 ?_
        refine v_iadd C dL_law_580 ?_
        obtain ⟨v581, e581, hr⟩ := ob hr
        refine v_sld C hX hbA e581 dL_law_581 ?_
        obtain ⟨b582, f582, hr⟩ := ob hr
        obtain ⟨g582, h582⟩ := rcv_n f582
        obtain ⟨⟨v582, S582⟩, e582, hr⟩ := ob hr
        (try dsimp only at hr)
        refine v_callV C (b := b582) h582 (by decide) rfl rfl (k_X12_grow e582) cw_X12_grow w_1623 w_1624 w_1625 (show (parseMethodDescriptor (yX12_grow).desc).map (fun d => d.parameters.length) = some 4 by decide +kernel) ⟨by decide, by decide⟩ (rest := [.int v558]) (stk2 := [.int v582, .int v558]) (by rw [g582]; rfl) rfl (Nat.le_of_ble_eq_true rfl) hl dL_law_582 ?_
        refine v_icmp_eq C 1396 (by decide) dL_law_585 (fun c585 => ?_) (fun c585 => ?_)
        · rw [if_pos c585] at hr
          refine v_iinc C (x3 + 6) (k0 := 3) (lv' := [(3, .int (x3 + 6)), (0, va_rf (some x0)), (1, va_rf x1), (2, va_rf x2)]) hl rfl rfl (by decide) (by simp [rf_n2]) dL_law_1396 (fun ls hl => ?_)
          refine v_goto C 18 (by decide) dL_law_1399 ?_
          exact ih hr _ (lv_sub hl [1, 2, 3, 0] rfl)
        · rw [if_neg c585] at hr
          refine v_iconst C 0 (by decide) dL_law_588 ?_
          have h0 := congrArg Prod.fst (os hr)
          rw [h1o] at h0
          exact absurd (show (0 : Int32) = 1 from h0) (by decide)
      rw [if_neg q33_9] at hr
      by_cases q33_10 : (v29 &&& 63) = 10
      · rw [if_pos q33_10] at hr
        refine v_tableIn C (off := 557) 590 (by rw [q33_10]; decide) (by rw [q33_10]; decide) (by rw [q33_10]; decide) (by decide) dL_law_33 ?_
        refine v_aload_n C (lv_at hl 1 rfl) rfl dL_law_590 ?_
        refine v_aload_n C (lv_at hl 0 rfl) rfl dL_law_591 ?_
        refine v_iload_n C (lv_at hl 3 rfl) rfl dL_law_592 ?_
        refine v_iconst C 1 (by decide) dL_law_593 ?_
        refine v_iadd C dL_law_594 ?_
        obtain ⟨v595, e595, hr⟩ := ob hr
        refine v_sld C hX hbA e595 dL_law_595 ?_
        refine v_aload_n C (lv_at hl 0 rfl) rfl dL_law_596 ?_
        refine v_iload_n C (lv_at hl 3 rfl) rfl dL_law_597 ?_
        refine v_iconst C 2 (by decide) dL_law_598 ?_
        refine v_iadd C dL_law_599 ?_
        obtain ⟨v600, e600, hr⟩ := ob hr
        refine v_sld C hX hbA e600 dL_law_600 ?_
        refine v_aload_n C (lv_at hl 0 rfl) rfl dL_law_601 ?_
        refine v_iload_n C (lv_at hl 3 rfl) rfl dL_law_602 ?_
        refine v_iconst C 3 (by decide) dL_law_603 ?_
        refine v_iadd C dL_law_604 ?_
        obtain ⟨v605, e605, hr⟩ := ob hr
        refine v_sld C hX hbA e605 dL_law_605 ?_
        obtain ⟨b606, f606, hr⟩ := ob hr
        obtain ⟨g606, h606⟩ := rcv_n f606
        obtain ⟨v606, e606, hr⟩ := ob hr
        refine v_callV C (b := b606) h606 (by decide) rfl rfl (k_X11_sum e606) cw_X11_sum w_672 w_673 w_674 (show (parseMethodDescriptor (yX11_sum).desc).map (fun d => d.parameters.length) = some 3 by decide +kernel) ⟨by decide, by decide⟩ (rest := []) (stk2 := [.long v606]) (by rw [g606]; rfl) rfl (Nat.le_of_ble_eq_true rfl) hl dL_law_606 ?_
        refine v_aload_n C (lv_at hl 2 rfl) rfl dL_law_609 ?_
        refine v_aload_n C (lv_at hl 0 rfl) rfl dL_law_610 ?_
        refine v_iload_n C (lv_at hl 3 rfl) rfl dL_law_611 ?_
        refine v_iconst C 1 (by decide) dL_law_612 ?_
        refine v_iadd C dL_law_613 ?_
        obtain ⟨v614, e614, hr⟩ := ob hr
        refine v_sld C hX hbA e614 dL_law_614 ?_
        refine v_aload_n C (lv_at hl 0 rfl) rfl dL_law_615 ?_
        refine v_iload_n C (lv_at hl 3 rfl) rfl dL_law_616 ?_
        refine v_iconst C 2 (by decide) dL_law_617 ?_
        refine v_iadd C dL_law_618 ?_
        obtain ⟨v619, e619, hr⟩ := ob hr
        refine v_sld C hX hbA e619 dL_law_619 ?_
        refine v_aload_n C (lv_at hl 0 rfl) rfl dL_law_620 ?_
        refine v_iload_n C (lv_at hl 3 rfl) rfl dL_law_621 ?_
        refine v_iconst C 3 (by decide) dL_law_622 ?_
        refine v_iadd C dL_law_623 ?_
        obtain ⟨v624, e624, hr⟩ := ob hr
        refine v_sld C hX hbA e624 dL_law_624 ?_
        obtain ⟨b625, f625, hr⟩ := ob hr
        obtain ⟨g625, h625⟩ := rcv_n f625
        obtain ⟨v625, e625, hr⟩ := ob hr
        refine v_callV C (b := b625) h625 (by decide) rfl rfl (k_X12_sum e625) cw_X12_sum w_1627 w_1628 w_1629 (show (parseMethodDescriptor (yX12_sum).desc).map (fun d => d.parameters.length) = some 3 by decide +kernel) ⟨by decide, by decide⟩ (rest := [.long v606]) (stk2 := [.long v625, .long v606]) (by rw [g625]; rfl) rfl (Nat.le_of_ble_eq_true rfl) hl dL_law_625 ?_
        refine v_lcmp C dL_law_628 ?_
        refine v_if_eq C 1396 (by decide) dL_law_629 (fun c629 => ?_) (fun c629 => ?_)
        · rw [if_pos c629] at hr
          refine v_iinc C (x3 + 6) (k0 := 3) (lv' := [(3, .int (x3 + 6)), (0, va_rf (some x0)), (1, va_rf x1), (2, va_rf x2)]) hl rfl rfl (by decide) (by simp [rf_n2]) dL_law_1396 (fun ls hl => ?_)
          refine v_goto C 18 (by decide) dL_law_1399 ?_
          exact ih hr _ (lv_sub hl [1, 2, 3, 0] rfl)
        · rw [if_neg c629] at hr
          refine v_iconst C 0 (by decide) dL_law_632 ?_
          have h0 := congrArg Prod.fst (os hr)
          rw [h1o] at h0
          exact absurd (show (0 : Int32) = 1 from h0) (by decide)
      rw [if_neg q33_10] at hr
      by_cases q33_11 : (v29 &&& 63) = 11
      · rw [if_pos q33_11] at hr
        refine v_tableIn C (off := 601) 634 (by rw [q33_11]; decide) (by rw [q33_11]; decide) (by rw [q33_11]; decide) (by decide) dL_law_33 ?_
        refine v_aload_n C (lv_at hl 1 rfl) rfl dL_law_634 ?_
        refine v_aload_n C (lv_at hl 0 rfl) rfl dL_law_635 ?_
        refine v_iload_n C (lv_at hl 3 rfl) rfl dL_law_636 ?_
        refine v_iconst C 1 (by decide) dL_law_637 ?_
        refine v_iadd C dL_law_638 ?_
        obtain ⟨v639, e639, hr⟩ := ob hr
        refine v_sld C hX hbA e639 dL_law_639 ?_
        refine v_aload_n C (lv_at hl 0 rfl) rfl dL_law_640 ?_
        refine v_iload_n C (lv_at hl 3 rfl) rfl dL_law_641 ?_
        refine v_iconst C 2 (by decide) dL_law_642 ?_
        refine v_iadd C dL_law_643 ?_
        obtain ⟨v644, e644, hr⟩ := ob hr
        refine v_sld C hX hbA e644 dL_law_644 ?_
        refine v_aload_n C (lv_at hl 0 rfl) rfl dL_law_645 ?_
        refine v_iload_n C (lv_at hl 3 rfl) rfl dL_law_646 ?_
        refine v_iconst C 3 (by decide) dL_law_647 ?_
        refine v_iadd C dL_law_648 ?_
        obtain ⟨v649, e649, hr⟩ := ob hr
        refine v_sld C hX hbA e649 dL_law_649 ?_
        refine v_aload_n C (lv_at hl 0 rfl) rfl dL_law_650 ?_
        refine v_iload_n C (lv_at hl 3 rfl) rfl dL_law_651 ?_
        refine v_iconst C 4 (by decide) dL_law_652 ?_
        refine v_iadd C dL_law_653 ?_
        obtain ⟨v654, e654, hr⟩ := ob hr
        refine v_sld C hX hbA e654 dL_law_654 ?_
        refine v_aload_n C (lv_at hl 0 rfl) rfl dL_law_655 ?_
        refine v_iload_n C (lv_at hl 3 rfl) rfl dL_law_656 ?_
        refine v_iconst C 5 (by decide) dL_law_657 ?_
        refine v_iadd C dL_law_658 ?_
        obtain ⟨v659, e659, hr⟩ := ob hr
        refine v_sld C hX hbA e659 dL_law_659 ?_
        obtain ⟨b660, f660, hr⟩ := ob hr
        obtain ⟨g660, h660⟩ := rcv_n f660
        obtain ⟨⟨v660, S660⟩, e660, hr⟩ := ob hr
        (try dsimp only at hr)
        refine v_callV C (b := b660) h660 (by decide) rfl rfl (k_X11_feed e660) cw_X11_feed w_691 w_692 w_693 (show (parseMethodDescriptor (yX11_feed).desc).map (fun d => d.parameters.length) = some 5 by decide +kernel) ⟨by decide, by decide⟩ (rest := []) (stk2 := [.int v660]) (by rw [g660]; rfl) rfl (Nat.le_of_ble_eq_true rfl) hl dL_law_660 ?_
        refine v_aload_n C (lv_at hl 2 rfl) rfl dL_law_663 ?_
        refine v_aload_n C (lv_at hl 0 rfl) rfl dL_law_664 ?_
        refine v_iload_n C (lv_at hl 3 rfl) rfl dL_law_665 ?_
        refine v_iconst C 1 (by decide) dL_law_666 ?_
        refine v_iadd C dL_law_667 ?_
        obtain ⟨v668, e668, hr⟩ := ob hr
        refine v_sld C hX hbA e668 dL_law_668 ?_
        refine v_aload_n C (lv_at hl 0 rfl) rfl dL_law_669 ?_
        refine v_iload_n C (lv_at hl 3 rfl) rfl dL_law_670 ?_
        refine v_iconst C 2 (by decide) dL_law_671 ?_
        refine v_iadd C dL_law_672 ?_
        obtain ⟨v673, e673, hr⟩ := ob hr
        refine v_sld C hX hbA e673 dL_law_673 ?_
        refine v_aload_n C (lv_at hl 0 rfl) rfl dL_law_674 ?_
        refine v_iload_n C (lv_at hl 3 rfl) rfl dL_law_675 ?_
        refine v_iconst C 3 (by decide) dL_law_676 ?_
        refine v_iadd C dL_law_677 ?_
        obtain ⟨v678, e678, hr⟩ := ob hr
        refine v_sld C hX hbA e678 dL_law_678 ?_
        refine v_aload_n C (lv_at hl 0 rfl) rfl dL_law_679 ?_
        refine v_iload_n C (lv_at hl 3 rfl) rfl dL_law_680 ?_
        refine v_iconst C 4 (by decide) dL_law_681 ?_
        refine v_iadd C dL_law_682 ?_
        obtain ⟨v683, e683, hr⟩ := ob hr
        refine v_sld C hX hbA e683 dL_law_683 ?_
        refine v_aload_n C (lv_at hl 0 rfl) rfl dL_law_684 ?_
        refine v_iload_n C (lv_at hl 3 rfl) rfl dL_law_685 ?_
        refine v_iconst C 5 (by decide) dL_law_686 ?_
        refine v_iadd C dL_law_687 ?_
        obtain ⟨v688, e688, hr⟩ := ob hr
        refine v_sld C hX hbA e688 dL_law_688 ?_
        obtain ⟨b689, f689, hr⟩ := ob hr
        obtain ⟨g689, h689⟩ := rcv_n f689
        obtain ⟨⟨v689, S689⟩, e689, hr⟩ := ob hr
        (try dsimp only at hr)
        refine v_callV C (b := b689) h689 (by decide) rfl rfl (k_X12_feed e689) cw_X12_feed w_1644 w_1645 w_1646 (show (parseMethodDescriptor (yX12_feed).desc).map (fun d => d.parameters.length) = some 5 by decide +kernel) ⟨by decide, by decide⟩ (rest := [.int v660]) (stk2 := [.int v689, .int v660]) (by rw [g689]; rfl) rfl (Nat.le_of_ble_eq_true rfl) hl dL_law_689 ?_
        refine v_icmp_eq C 1396 (by decide) dL_law_692 (fun c692 => ?_) (fun c692 => ?_)
        · rw [if_pos c692] at hr
          refine v_iinc C (x3 + 6) (k0 := 3) (lv' := [(3, .int (x3 + 6)), (0, va_rf (some x0)), (1, va_rf x1), (2, va_rf x2)]) hl rfl rfl (by decide) (by simp [rf_n2]) dL_law_1396 (fun ls hl => ?_)
          refine v_goto C 18 (by decide) dL_law_1399 ?_
          exact ih hr _ (lv_sub hl [1, 2, 3, 0] rfl)
        · rw [if_neg c692] at hr
          refine v_iconst C 0 (by decide) dL_law_695 ?_
          have h0 := congrArg Prod.fst (os hr)
          rw [h1o] at h0
          exact absurd (show (0 : Int32) = 1 from h0) (by decide)
      rw [if_neg q33_11] at hr
      by_cases q33_12 : (v29 &&& 63) = 12
      · rw [if_pos q33_12] at hr
        refine v_tableIn C (off := 664) 697 (by rw [q33_12]; decide) (by rw [q33_12]; decide) (by rw [q33_12]; decide) (by decide) dL_law_33 ?_
        refine v_aload_n C (lv_at hl 1 rfl) rfl dL_law_697 ?_
        refine v_aload_n C (lv_at hl 0 rfl) rfl dL_law_698 ?_
        refine v_iload_n C (lv_at hl 3 rfl) rfl dL_law_699 ?_
        refine v_iconst C 1 (by decide) dL_law_700 ?_
        refine v_iadd C dL_law_701 ?_
        obtain ⟨v702, e702, hr⟩ := ob hr
        refine v_sld C hX hbA e702 dL_law_702 ?_
        obtain ⟨b703, f703, hr⟩ := ob hr
        obtain ⟨g703, h703⟩ := rcv_n f703
        obtain ⟨⟨v703, S703⟩, e703, hr⟩ := ob hr
        (try dsimp only at hr)
        refine v_callV C (b := b703) h703 (by decide) rfl rfl (k_X11_end e703) cw_X11_end w_699 w_700 w_701 (show (parseMethodDescriptor (yX11_end).desc).map (fun d => d.parameters.length) = some 1 by decide +kernel) ⟨by decide, by decide⟩ (rest := []) (stk2 := [.int v703]) (by rw [g703]; rfl) rfl (Nat.le_of_ble_eq_true rfl) hl dL_law_703 ?_
        refine v_aload_n C (lv_at hl 2 rfl) rfl dL_law_706 ?_
        refine v_aload_n C (lv_at hl 0 rfl) rfl dL_law_707 ?_
        refine v_iload_n C (lv_at hl 3 rfl) rfl dL_law_708 ?_
        refine v_iconst C 1 (by decide) dL_law_709 ?_
        refine v_iadd C dL_law_710 ?_
        obtain ⟨v711, e711, hr⟩ := ob hr
        refine v_sld C hX hbA e711 dL_law_711 ?_
        obtain ⟨b712, f712, hr⟩ := ob hr
        obtain ⟨g712, h712⟩ := rcv_n f712
        obtain ⟨⟨v712, S712⟩, e712, hr⟩ := ob hr
        (try dsimp only at hr)
        refine v_callV C (b := b712) h712 (by decide) rfl rfl (k_X12_end e712) cw_X12_end w_1648 w_1649 w_1650 (show (parseMethodDescriptor (yX12_end).desc).map (fun d => d.parameters.length) = some 1 by decide +kernel) ⟨by decide, by decide⟩ (rest := [.int v703]) (stk2 := [.int v712, .int v703]) (by rw [g712]; rfl) rfl (Nat.le_of_ble_eq_true rfl) hl dL_law_712 ?_
        refine v_icmp_eq C 1396 (by decide) dL_law_715 (fun c715 => ?_) (fun c715 => ?_)
        · rw [if_pos c715] at hr
          refine v_iinc C (x3 + 6) (k0 := 3) (lv' := [(3, .int (x3 + 6)), (0, va_rf (some x0)), (1, va_rf x1), (2, va_rf x2)]) hl rfl rfl (by decide) (by simp [rf_n2]) dL_law_1396 (fun ls hl => ?_)
          refine v_goto C 18 (by decide) dL_law_1399 ?_
          exact ih hr _ (lv_sub hl [1, 2, 3, 0] rfl)
        · rw [if_neg c715] at hr
          refine v_iconst C 0 (by decide) dL_law_718 ?_
          have h0 := congrArg Prod.fst (os hr)
          rw [h1o] at h0
          exact absurd (show (0 : Int32) = 1 from h0) (by decide)
      rw [if_neg q33_12] at hr
      by_cases q33_13 : (v29 &&& 63) = 13
      · rw [if_pos q33_13] at hr
        refine v_tableIn C (off := 687) 720 (by rw [q33_13]; decide) (by rw [q33_13]; decide) (by rw [q33_13]; decide) (by decide) dL_law_33 ?_
        refine v_aload_n C (lv_at hl 1 rfl) rfl dL_law_720 ?_
        refine v_aload_n C (lv_at hl 0 rfl) rfl dL_law_721 ?_
        refine v_iload_n C (lv_at hl 3 rfl) rfl dL_law_722 ?_
        refine v_iconst C 1 (by decide) dL_law_723 ?_
        refine v_iadd C dL_law_724 ?_
        obtain ⟨v725, e725, hr⟩ := ob hr
        refine v_sld C hX hbA e725 dL_law_725 ?_
        obtain ⟨b726, f726, hr⟩ := ob hr
        obtain ⟨g726, h726⟩ := rcv_n f726
        obtain ⟨⟨v726, S726⟩, e726, hr⟩ := ob hr
        (try dsimp only at hr)
        refine v_callV C (b := b726) h726 (by decide) rfl rfl (k_X11_reads e726) cw_X11_reads w_703 w_704 w_705 (show (parseMethodDescriptor (yX11_reads).desc).map (fun d => d.parameters.length) = some 1 by decide +kernel) ⟨by decide, by decide⟩ (rest := []) (stk2 := [.int v726]) (by rw [g726]; rfl) rfl (Nat.le_of_ble_eq_true rfl) hl dL_law_726 ?_
        refine v_aload_n C (lv_at hl 2 rfl) rfl dL_law_729 ?_
        refine v_aload_n C (lv_at hl 0 rfl) rfl dL_law_730 ?_
        refine v_iload_n C (lv_at hl 3 rfl) rfl dL_law_731 ?_
        refine v_iconst C 1 (by decide) dL_law_732 ?_
        refine v_iadd C dL_law_733 ?_
        obtain ⟨v734, e734, hr⟩ := ob hr
        refine v_sld C hX hbA e734 dL_law_734 ?_
        obtain ⟨b735, f735, hr⟩ := ob hr
        obtain ⟨g735, h735⟩ := rcv_n f735
        obtain ⟨⟨v735, S735⟩, e735, hr⟩ := ob hr
        (try dsimp only at hr)
        refine v_callV C (b := b735) h735 (by decide) rfl rfl (k_X12_reads e735) cw_X12_reads w_1652 w_1653 w_1654 (show (parseMethodDescriptor (yX12_reads).desc).map (fun d => d.parameters.length) = some 1 by decide +kernel) ⟨by decide, by decide⟩ (rest := [.int v726]) (stk2 := [.int v735, .int v726]) (by rw [g735]; rfl) rfl (Nat.le_of_ble_eq_true rfl) hl dL_law_735 ?_
        refine v_icmp_eq C 1396 (by decide) dL_law_738 (fun c738 => ?_) (fun c738 => ?_)
        · rw [if_pos c738] at hr
          refine v_iinc C (x3 + 6) (k0 := 3) (lv' := [(3, .int (x3 + 6)), (0, va_rf (some x0)), (1, va_rf x1), (2, va_rf x2)]) hl rfl rfl (by decide) (by simp [rf_n2]) dL_law_1396 (fun ls hl => ?_)
          refine v_goto C 18 (by decide) dL_law_1399 ?_
          exact ih hr _ (lv_sub hl [1, 2, 3, 0] rfl)
        · rw [if_neg c738] at hr
          refine v_iconst C 0 (by decide) dL_law_741 ?_
          have h0 := congrArg Prod.fst (os hr)
          rw [h1o] at h0
          exact absurd (show (0 : Int32) = 1 from h0) (by decide)
      rw [if_neg q33_13] at hr
      by_cases q33_14 : (v29 &&& 63) = 14
      · rw [if_pos q33_14] at hr
        refine v_tableIn C (off := 710) 743 (by rw [q33_14]; decide) (by rw [q33_14]; decide) (by rw [q33_14]; decide) (by decide) dL_law_33 ?_
        refine v_aload_n C (lv_at hl 1 rfl) rfl dL_law_743 ?_
        refine v_aload_n C (lv_at hl 0 rfl) rfl dL_law_744 ?_
        refine v_iload_n C (lv_at hl 3 rfl) rfl dL_law_745 ?_
        refine v_iconst C 1 (by decide) dL_law_746 ?_
        refine v_iadd C dL_law_747 ?_
        obtain ⟨v748, e748, hr⟩ := ob hr
        refine v_sld C hX hbA e748 dL_law_748 ?_
        obtain ⟨b749, f749, hr⟩ := ob hr
        obtain ⟨g749, h749⟩ := rcv_n f749
        obtain ⟨v749, e749, hr⟩ := ob hr
        refine v_callV C (b := b749) h749 (by decide) rfl rfl (k_X11_fault e749) cw_X11_fault w_921 w_922 w_923 (show (parseMethodDescriptor (yX11_fault).desc).map (fun d => d.parameters.length) = some 1 by decide +kernel) ⟨by decide, by decide⟩ (rest := []) (stk2 := [.int v749]) (by rw [g749]; rfl) rfl (Nat.le_of_ble_eq_true rfl) hl dL_law_749 ?_
        refine v_aload_n C (lv_at hl 2 rfl) rfl dL_law_752 ?_
        refine v_aload_n C (lv_at hl 0 rfl) rfl dL_law_753 ?_
        refine v_iload_n C (lv_at hl 3 rfl) rfl dL_law_754 ?_
        refine v_iconst C 1 (by decide) dL_law_755 ?_
        refine v_iadd C dL_law_756 ?_
        obtain ⟨v757, e757, hr⟩ := ob hr
        refine v_sld C hX hbA e757 dL_law_757 ?_
        obtain ⟨b758, f758, hr⟩ := ob hr
        obtain ⟨g758, h758⟩ := rcv_n f758
        obtain ⟨v758, e758, hr⟩ := ob hr
        refine v_callV C (b := b758) h758 (by decide) rfl rfl (k_X12_fault e758) cw_X12_fault w_1754 w_1755 w_1756 (show (parseMethodDescriptor (yX12_fault).desc).map (fun d => d.parameters.length) = some 1 by decide +kernel) ⟨by decide, by decide⟩ (rest := [.int v749]) (stk2 := [.int v758, .int v749]) (by rw [g758]; rfl) rfl (Nat.le_of_ble_eq_true rfl) hl dL_law_758 ?_
        refine v_icmp_eq C 1396 (by decide) dL_law_761 (fun c761 => ?_) (fun c761 => ?_)
        · rw [if_pos c761] at hr
          refine v_iinc C (x3 + 6) (k0 := 3) (lv' := [(3, .int (x3 + 6)), (0, va_rf (some x0)), (1, va_rf x1), (2, va_rf x2)]) hl rfl rfl (by decide) (by simp [rf_n2]) dL_law_1396 (fun ls hl => ?_)
          refine v_goto C 18 (by decide) dL_law_1399 ?_
          exact ih hr _ (lv_sub hl [1, 2, 3, 0] rfl)
        · rw [if_neg c761] at hr
          refine v_iconst C 0 (by decide) dL_law_764 ?_
          have h0 := congrArg Prod.fst (os hr)
          rw [h1o] at h0
          exact absurd (show (0 : Int32) = 1 from h0) (by decide)
      rw [if_neg q33_14] at hr
      by_cases q33_15 : (v29 &&& 63) = 15
      · rw [if_pos q33_15] at hr
        refine v_tableIn C (off := 733) 766 (by rw [q33_15]; decide) (by rw [q33_15]; decide) (by rw [q33_15]; decide) (by decide) dL_law_33 ?_
        refine v_aload_n C (lv_at hl 1 rfl) rfl dL_law_766 ?_
        refine v_aload_n C (lv_at hl 0 rfl) rfl dL_law_767 ?_
        refine v_iload_n C (lv_at hl 3 rfl) rfl dL_law_768 ?_
        refine v_iconst C 1 (by decide) dL_law_769 ?_
        refine v_iadd C dL_law_770 ?_
        obtain ⟨v771, e771, hr⟩ := ob hr
        refine v_sld C hX hbA e771 dL_law_771 ?_
        refine v_aload_n C (lv_at hl 0 rfl) rfl dL_law_772 ?_
        refine v_iload_n C (lv_at hl 3 rfl) rfl dL_law_773 ?_
        refine v_iconst C 2 (by decide) dL_law_774 ?_
        refine v_iadd C dL_law_775 ?_
        obtain ⟨v776, e776, hr⟩ := ob hr
        refine v_sld C hX hbA e776 dL_law_776 ?_
        obtain ⟨b777, f777, hr⟩ := ob hr
        obtain ⟨g777, h777⟩ := rcv_n f777
        obtain ⟨v777, e777, hr⟩ := ob hr
        refine v_callV C (b := b777) h777 (by decide) rfl rfl (k_X11_told e777) cw_X11_told w_925 w_926 w_927 (show (parseMethodDescriptor (yX11_told).desc).map (fun d => d.parameters.length) = some 2 by decide +kernel) ⟨by decide, by decide⟩ (rest := []) (stk2 := [.int v777]) (by rw [g777]; rfl) rfl (Nat.le_of_ble_eq_true rfl) hl dL_law_777 ?_
        refine v_aload_n C (lv_at hl 2 rfl) rfl dL_law_780 ?_
        refine v_aload_n C (lv_at hl 0 rfl) rfl dL_law_781 ?_
        refine v_iload_n C (lv_at hl 3 rfl) rfl dL_law_782 ?_
        refine v_iconst C 1 (by decide) dL_law_783 ?_
        refine v_iadd C dL_law_784 ?_
        obtain ⟨v785, e785, hr⟩ := ob hr
        refine v_sld C hX hbA e785 dL_law_785 ?_
        refine v_aload_n C (lv_at hl 0 rfl) rfl dL_law_786 ?_
        refine v_iload_n C (lv_at hl 3 rfl) rfl dL_law_787 ?_
        refine v_iconst C 2 (by decide) dL_law_788 ?_
        refine v_iadd C dL_law_789 ?_
        obtain ⟨v790, e790, hr⟩ := ob hr
        refine v_sld C hX hbA e790 dL_law_790 ?_
        obtain ⟨b791, f791, hr⟩ := ob hr
        obtain ⟨g791, h791⟩ := rcv_n f791
        obtain ⟨v791, e791, hr⟩ := ob hr
        refine v_callV C (b := b791) h791 (by decide) rfl rfl (k_X12_told e791) cw_X12_told w_1758 w_1759 w_1760 (show (parseMethodDescriptor (yX12_told).desc).map (fun d => d.parameters.length) = some 2 by decide +kernel) ⟨by decide, by decide⟩ (rest := [.int v777]) (stk2 := [.int v791, .int v777]) (by rw [g791]; rfl) rfl (Nat.le_of_ble_eq_true rfl) hl dL_law_791 ?_
        refine v_icmp_eq C 1396 (by decide) dL_law_794 (fun c794 => ?_) (fun c794 => ?_)
        · rw [if_pos c794] at hr
          refine v_iinc C (x3 + 6) (k0 := 3) (lv' := [(3, .int (x3 + 6)), (0, va_rf (some x0)), (1, va_rf x1), (2, va_rf x2)]) hl rfl rfl (by decide) (by simp [rf_n2]) dL_law_1396 (fun ls hl => ?_)
          refine v_goto C 18 (by decide) dL_law_1399 ?_
          exact ih hr _ (lv_sub hl [1, 2, 3, 0] rfl)
        · rw [if_neg c794] at hr
          refine v_iconst C 0 (by decide) dL_law_797 ?_
          have h0 := congrArg Prod.fst (os hr)
          rw [h1o] at h0
          exact absurd (show (0 : Int32) = 1 from h0) (by decide)
      rw [if_neg q33_15] at hr
      by_cases q33_16 : (v29 &&& 63) = 16
      · rw [if_pos q33_16] at hr
        refine v_tableIn C (off := 766) 799 (by rw [q33_16]; decide) (by rw [q33_16]; decide) (by rw [q33_16]; decide) (by decide) dL_law_33 ?_
        refine v_aload_n C (lv_at hl 1 rfl) rfl dL_law_799 ?_
        refine v_aload_n C (lv_at hl 0 rfl) rfl dL_law_800 ?_
        refine v_iload_n C (lv_at hl 3 rfl) rfl dL_law_801 ?_
        refine v_iconst C 1 (by decide) dL_law_802 ?_
        refine v_iadd C dL_law_803 ?_
        obtain ⟨v804, e804, hr⟩ := ob hr
        refine v_sld C hX hbA e804 dL_law_804 ?_
        refine v_aload_n C (lv_at hl 0 rfl) rfl dL_law_805 ?_
        refine v_iload_n C (lv_at hl 3 rfl) rfl dL_law_806 ?_
        refine v_iconst C 2 (by decide) dL_law_807 ?_
        refine v_iadd C dL_law_808 ?_
        obtain ⟨v809, e809, hr⟩ := ob hr
        refine v_sld C hX hbA e809 dL_law_809 ?_
        refine v_aload_n C (lv_at hl 0 rfl) rfl dL_law_810 ?_
        refine v_iload_n C (lv_at hl 3 rfl) rfl dL_law_811 ?_
        refine v_iconst C 3 (by decide) dL_law_812 ?_
        refine v_iadd C dL_law_813 ?_
        obtain ⟨v814, e814, hr⟩ := ob hr
        refine v_sld C hX hbA e814 dL_law_814 ?_
        obtain ⟨b815, f815, hr⟩ := ob hr
        obtain ⟨g815, h815⟩ := rcv_n f815
        obtain ⟨v815, e815, hr⟩ := ob hr
        refine v_callV C (b := b815) h815 (by decide) rfl rfl (k_X11_sleep e815) cw_X11_sleep w_941 w_942 w_943 (show (parseMethodDescriptor (yX11_sleep).desc).map (fun d => d.parameters.length) = some 3 by decide +kernel) ⟨by decide, by decide⟩ (rest := []) (stk2 := [.int v815]) (by rw [g815]; rfl) rfl (Nat.le_of_ble_eq_true rfl) hl dL_law_815 ?_
        refine v_aload_n C (lv_at hl 2 rfl) rfl dL_law_818 ?_
        refine v_aload_n C (lv_at hl 0 rfl) rfl dL_law_819 ?_
        refine v_iload_n C (lv_at hl 3 rfl) rfl dL_law_820 ?_
        refine v_iconst C 1 (by decide) dL_law_821 ?_
        refine v_iadd C dL_law_822 ?_
        obtain ⟨v823, e823, hr⟩ := ob hr
        refine v_sld C hX hbA e823 dL_law_823 ?_
        refine v_aload_n C (lv_at hl 0 rfl) rfl dL_law_824 ?_
        refine v_iload_n C (lv_at hl 3 rfl) rfl dL_law_825 ?_
        refine v_iconst C 2 (by decide) dL_law_826 ?_
        refine v_iadd C dL_law_827 ?_
        obtain ⟨v828, e828, hr⟩ := ob hr
        refine v_sld C hX hbA e828 dL_law_828 ?_
        refine v_aload_n C (lv_at hl 0 rfl) rfl dL_law_829 ?_
        refine v_iload_n C (lv_at hl 3 rfl) rfl dL_law_830 ?_
        refine v_iconst C 3 (by decide) dL_law_831 ?_
        refine v_iadd C dL_law_832 ?_
        obtain ⟨v833, e833, hr⟩ := ob hr
        refine v_sld C hX hbA e833 dL_law_833 ?_
        obtain ⟨b834, f834, hr⟩ := ob hr
        obtain ⟨g834, h834⟩ := rcv_n f834
        obtain ⟨v834, e834, hr⟩ := ob hr
        refine v_callV C (b := b834) h834 (by decide) rfl rfl (k_X12_sleep e834) cw_X12_sleep w_1762 w_1763 w_1764 (show (parseMethodDescriptor (yX12_sleep).desc).map (fun d => d.parameters.length) = some 3 by decide +kernel) ⟨by decide, by decide⟩ (rest := [.int v815]) (stk2 := [.int v834, .int v815]) (by rw [g834]; rfl) rfl (Nat.le_of_ble_eq_true rfl) hl dL_law_834 ?_
        refine v_icmp_eq C 1396 (by decide) dL_law_837 (fun c837 => ?_) (fun c837 => ?_)
        · rw [if_pos c837] at hr
          refine v_iinc C (x3 + 6) (k0 := 3) (lv' := [(3, .int (x3 + 6)), (0, va_rf (some x0)), (1, va_rf x1), (2, va_rf x2)]) hl rfl rfl (by decide) (by simp [rf_n2]) dL_law_1396 (fun ls hl => ?_)
          refine v_goto C 18 (by decide) dL_law_1399 ?_
          exact ih hr _ (lv_sub hl [1, 2, 3, 0] rfl)
        · rw [if_neg c837] at hr
          refine v_iconst C 0 (by decide) dL_law_840 ?_
          have h0 := congrArg Prod.fst (os hr)
          rw [h1o] at h0
          exact absurd (show (0 : Int32) = 1 from h0) (by decide)
      rw [if_neg q33_16] at hr
      by_cases q33_17 : (v29 &&& 63) = 17
      · rw [if_pos q33_17] at hr
        refine v_tableIn C (off := 809) 842 (by rw [q33_17]; decide) (by rw [q33_17]; decide) (by rw [q33_17]; decide) (by decide) dL_law_33 ?_
        refine v_aload_n C (lv_at hl 1 rfl) rfl dL_law_842 ?_
        refine v_aload_n C (lv_at hl 0 rfl) rfl dL_law_843 ?_
        refine v_iload_n C (lv_at hl 3 rfl) rfl dL_law_844 ?_
        refine v_iconst C 1 (by decide) dL_law_845 ?_
        refine v_iadd C dL_law_846 ?_
        obtain ⟨v847, e847, hr⟩ := ob hr
        refine v_sld C hX hbA e847 dL_law_847 ?_
        obtain ⟨b848, f848, hr⟩ := ob hr
        obtain ⟨g848, h848⟩ := rcv_n f848
        obtain ⟨⟨v848, S848⟩, e848, hr⟩ := ob hr
        (try dsimp only at hr)
        refine v_callV C (b := b848) h848 (by decide) rfl rfl (k_X11_report e848) cw_X11_report w_958 w_959 w_960 (show (parseMethodDescriptor (yX11_report).desc).map (fun d => d.parameters.length) = some 1 by decide +kernel) ⟨by decide, by decide⟩ (rest := []) (stk2 := [.int v848]) (by rw [g848]; rfl) rfl (Nat.le_of_ble_eq_true rfl) hl dL_law_848 ?_
        refine v_aload_n C (lv_at hl 2 rfl) rfl dL_law_851 ?_
        refine v_aload_n C (lv_at hl 0 rfl) rfl dL_law_852 ?_
        refine v_iload_n C (lv_at hl 3 rfl) rfl dL_law_853 ?_
        refine v_iconst C 1 (by decide) dL_law_854 ?_
        refine v_iadd C dL_law_855 ?_
        obtain ⟨v856, e856, hr⟩ := ob hr
        refine v_sld C hX hbA e856 dL_law_856 ?_
        obtain ⟨b857, f857, hr⟩ := ob hr
        obtain ⟨g857, h857⟩ := rcv_n f857
        obtain ⟨⟨v857, S857⟩, e857, hr⟩ := ob hr
        (try dsimp only at hr)
        refine v_callV C (b := b857) h857 (by decide) rfl rfl (k_X12_report e857) cw_X12_report w_1775 w_1776 w_1777 (show (parseMethodDescriptor (yX12_report).desc).map (fun d => d.parameters.length) = some 1 by decide +kernel) ⟨by decide, by decide⟩ (rest := [.int v848]) (stk2 := [.int v857, .int v848]) (by rw [g857]; rfl) rfl (Nat.le_of_ble_eq_true rfl) hl dL_law_857 ?_
        refine v_icmp_eq C 1396 (by decide) dL_law_860 (fun c860 => ?_) (fun c860 => ?_)
        · rw [if_pos c860] at hr
          refine v_iinc C (x3 + 6) (k0 := 3) (lv' := [(3, .int (x3 + 6)), (0, va_rf (some x0)), (1, va_rf x1), (2, va_rf x2)]) hl rfl rfl (by decide) (by simp [rf_n2]) dL_law_1396 (fun ls hl => ?_)
          refine v_goto C 18 (by decide) dL_law_1399 ?_
          exact ih hr _ (lv_sub hl [1, 2, 3, 0] rfl)
        · rw [if_neg c860] at hr
          refine v_iconst C 0 (by decide) dL_law_863 ?_
          have h0 := congrArg Prod.fst (os hr)
          rw [h1o] at h0
          exact absurd (show (0 : Int32) = 1 from h0) (by decide)
      rw [if_neg q33_17] at hr
      by_cases q33_18 : (v29 &&& 63) = 18
      · rw [if_pos q33_18] at hr
        refine v_tableIn C (off := 832) 865 (by rw [q33_18]; decide) (by rw [q33_18]; decide) (by rw [q33_18]; decide) (by decide) dL_law_33 ?_
        refine v_aload_n C (lv_at hl 1 rfl) rfl dL_law_865 ?_
        refine v_aload_n C (lv_at hl 0 rfl) rfl dL_law_866 ?_
        refine v_iload_n C (lv_at hl 3 rfl) rfl dL_law_867 ?_
        refine v_iconst C 1 (by decide) dL_law_868 ?_
        refine v_iadd C dL_law_869 ?_
        obtain ⟨v870, e870, hr⟩ := ob hr
        refine v_sld C hX hbA e870 dL_law_870 ?_
        refine v_aload_n C (lv_at hl 0 rfl) rfl dL_law_871 ?_
        refine v_iload_n C (lv_at hl 3 rfl) rfl dL_law_872 ?_
        refine v_iconst C 2 (by decide) dL_law_873 ?_
        refine v_iadd C dL_law_874 ?_
        obtain ⟨v875, e875, hr⟩ := ob hr
        refine v_sld C hX hbA e875 dL_law_875 ?_
        obtain ⟨b876, f876, hr⟩ := ob hr
        obtain ⟨g876, h876⟩ := rcv_n f876
        obtain ⟨v876, e876, hr⟩ := ob hr
        refine v_callV C (b := b876) h876 (by decide) rfl rfl (k_X11_held e876) cw_X11_held w_970 w_971 w_972 (show (parseMethodDescriptor (yX11_held).desc).map (fun d => d.parameters.length) = some 2 by decide +kernel) ⟨by decide, by decide⟩ (rest := []) (stk2 := [.long v876]) (by rw [g876]; rfl) rfl (Nat.le_of_ble_eq_true rfl) hl dL_law_876 ?_
        refine v_aload_n C (lv_at hl 2 rfl) rfl dL_law_879 ?_
        refine v_aload_n C (lv_at hl 0 rfl) rfl dL_law_880 ?_
        refine v_iload_n C (lv_at hl 3 rfl) rfl dL_law_881 ?_
        refine v_iconst C 1 (by decide) dL_law_882 ?_
        refine v_iadd C dL_law_883 ?_
        obtain ⟨v884, e884, hr⟩ := ob hr
        refine v_sld C hX hbA e884 dL_law_884 ?_
        refine v_aload_n C (lv_at hl 0 rfl) rfl dL_law_885 ?_
        refine v_iload_n C (lv_at hl 3 rfl) rfl dL_law_886 ?_
        refine v_iconst C 2 (by decide) dL_law_887 ?_
        refine v_iadd C dL_law_888 ?_
        obtain ⟨v889, e889, hr⟩ := ob hr
        refine v_sld C hX hbA e889 dL_law_889 ?_
        obtain ⟨b890, f890, hr⟩ := ob hr
        obtain ⟨g890, h890⟩ := rcv_n f890
        obtain ⟨v890, e890, hr⟩ := ob hr
        refine v_callV C (b := b890) h890 (by decide) rfl rfl (k_X12_held e890) cw_X12_held w_1779 w_1780 w_1781 (show (parseMethodDescriptor (yX12_held).desc).map (fun d => d.parameters.length) = some 2 by decide +kernel) ⟨by decide, by decide⟩ (rest := [.long v876]) (stk2 := [.long v890, .long v876]) (by rw [g890]; rfl) rfl (Nat.le_of_ble_eq_true rfl) hl dL_law_890 ?_
        refine v_lcmp C dL_law_893 ?_
        refine v_if_eq C 1396 (by decide) dL_law_894 (fun c894 => ?_) (fun c894 => ?_)
        · rw [if_pos c894] at hr
          refine v_iinc C (x3 + 6) (k0 := 3) (lv' := [(3, .int (x3 + 6)), (0, va_rf (some x0)), (1, va_rf x1), (2, va_rf x2)]) hl rfl rfl (by decide) (by simp [rf_n2]) dL_law_1396 (fun ls hl => ?_)
          refine v_goto C 18 (by decide) dL_law_1399 ?_
          exact ih hr _ (lv_sub hl [1, 2, 3, 0] rfl)
        · rw [if_neg c894] at hr
          refine v_iconst C 0 (by decide) dL_law_897 ?_
          have h0 := congrArg Prod.fst (os hr)
          rw [h1o] at h0
          exact absurd (show (0 : Int32) = 1 from h0) (by decide)
      rw [if_neg q33_18] at hr
      by_cases q33_19 : (v29 &&& 63) = 19
      · rw [if_pos q33_19] at hr
        refine v_tableIn C (off := 866) 899 (by rw [q33_19]; decide) (by rw [q33_19]; decide) (by rw [q33_19]; decide) (by decide) dL_law_33 ?_
        refine v_aload_n C (lv_at hl 1 rfl) rfl dL_law_899 ?_
        refine v_aload_n C (lv_at hl 0 rfl) rfl dL_law_900 ?_
        refine v_iload_n C (lv_at hl 3 rfl) rfl dL_law_901 ?_
        refine v_iconst C 1 (by decide) dL_law_902 ?_
        refine v_iadd C dL_law_903 ?_
        obtain ⟨v904, e904, hr⟩ := ob hr
        refine v_sld C hX hbA e904 dL_law_904 ?_
        refine v_aload_n C (lv_at hl 0 rfl) rfl dL_law_905 ?_
        refine v_iload_n C (lv_at hl 3 rfl) rfl dL_law_906 ?_
        refine v_iconst C 2 (by decide) dL_law_907 ?_
        refine v_iadd C dL_law_908 ?_
        obtain ⟨v909, e909, hr⟩ := ob hr
        refine v_sld C hX hbA e909 dL_law_909 ?_
        obtain ⟨b910, f910, hr⟩ := ob hr
        obtain ⟨g910, h910⟩ := rcv_n f910
        obtain ⟨v910, e910, hr⟩ := ob hr
        refine v_callV C (b := b910) h910 (by decide) rfl rfl (k_X11_points e910) cw_X11_points w_985 w_986 w_987 (show (parseMethodDescriptor (yX11_points).desc).map (fun d => d.parameters.length) = some 2 by decide +kernel) ⟨by decide, by decide⟩ (rest := []) (stk2 := [.int v910]) (by rw [g910]; rfl) rfl (Nat.le_of_ble_eq_true rfl) hl dL_law_910 ?_
        refine v_aload_n C (lv_at hl 2 rfl) rfl dL_law_913 ?_
        refine v_aload_n C (lv_at hl 0 rfl) rfl dL_law_914 ?_
        refine v_iload_n C (lv_at hl 3 rfl) rfl dL_law_915 ?_
        refine v_iconst C 1 (by decide) dL_law_916 ?_
        refine v_iadd C dL_law_917 ?_
        obtain ⟨v918, e918, hr⟩ := ob hr
        refine v_sld C hX hbA e918 dL_law_918 ?_
        refine v_aload_n C (lv_at hl 0 rfl) rfl dL_law_919 ?_
        refine v_iload_n C (lv_at hl 3 rfl) rfl dL_law_920 ?_
        refine v_iconst C 2 (by decide) dL_law_921 ?_
        refine v_iadd C dL_law_922 ?_
        obtain ⟨v923, e923, hr⟩ := ob hr
        refine v_sld C hX hbA e923 dL_law_923 ?_
        obtain ⟨b924, f924, hr⟩ := ob hr
        obtain ⟨g924, h924⟩ := rcv_n f924
        obtain ⟨v924, e924, hr⟩ := ob hr
        refine v_callV C (b := b924) h924 (by decide) rfl rfl (k_X12_points e924) cw_X12_points w_1797 w_1798 w_1799 (show (parseMethodDescriptor (yX12_points).desc).map (fun d => d.parameters.length) = some 2 by decide +kernel) ⟨by decide, by decide⟩ (rest := [.int v910]) (stk2 := [.int v924, .int v910]) (by rw [g924]; rfl) rfl (Nat.le_of_ble_eq_true rfl) hl dL_law_924 ?_
        refine v_icmp_eq C 1396 (by decide) dL_law_927 (fun c927 => ?_) (fun c927 => ?_)
        · rw [if_pos c927] at hr
          refine v_iinc C (x3 + 6) (k0 := 3) (lv' := [(3, .int (x3 + 6)), (0, va_rf (some x0)), (1, va_rf x1), (2, va_rf x2)]) hl rfl rfl (by decide) (by simp [rf_n2]) dL_law_1396 (fun ls hl => ?_)
          refine v_goto C 18 (by decide) dL_law_1399 ?_
          exact ih hr _ (lv_sub hl [1, 2, 3, 0] rfl)
        · rw [if_neg c927] at hr
          refine v_iconst C 0 (by decide) dL_law_930 ?_
          have h0 := congrArg Prod.fst (os hr)
          rw [h1o] at h0
          exact absurd (show (0 : Int32) = 1 from h0) (by decide)
      rw [if_neg q33_19] at hr
      by_cases q33_20 : (v29 &&& 63) = 20
      · rw [if_pos q33_20] at hr
        refine v_tableIn C (off := 899) 932 (by rw [q33_20]; decide) (by rw [q33_20]; decide) (by rw [q33_20]; decide) (by decide) dL_law_33 ?_
        refine v_aload_n C (lv_at hl 1 rfl) rfl dL_law_932 ?_
        refine v_aload_n C (lv_at hl 0 rfl) rfl dL_law_933 ?_
        refine v_iload_n C (lv_at hl 3 rfl) rfl dL_law_934 ?_
        refine v_iconst C 1 (by decide) dL_law_935 ?_
        refine v_iadd C dL_law_936 ?_
        obtain ⟨v937, e937, hr⟩ := ob hr
        refine v_sld C hX hbA e937 dL_law_937 ?_
        refine v_aload_n C (lv_at hl 0 rfl) rfl dL_law_938 ?_
        refine v_iload_n C (lv_at hl 3 rfl) rfl dL_law_939 ?_
        refine v_iconst C 2 (by decide) dL_law_940 ?_
        refine v_iadd C dL_law_941 ?_
        obtain ⟨v942, e942, hr⟩ := ob hr
        refine v_sld C hX hbA e942 dL_law_942 ?_
        obtain ⟨b943, f943, hr⟩ := ob hr
        obtain ⟨g943, h943⟩ := rcv_n f943
        obtain ⟨⟨v943, S943⟩, e943, hr⟩ := ob hr
        (try dsimp only at hr)
        refine v_callV C (b := b943) h943 (by decide) rfl rfl (k_X11_join e943) cw_X11_join w_1007 w_1008 w_1009 (show (parseMethodDescriptor (yX11_join).desc).map (fun d => d.parameters.length) = some 2 by decide +kernel) ⟨by decide, by decide⟩ (rest := []) (stk2 := [.int v943]) (by rw [g943]; rfl) rfl (Nat.le_of_ble_eq_true rfl) hl dL_law_943 ?_
        refine v_aload_n C (lv_at hl 2 rfl) rfl dL_law_946 ?_
        refine v_aload_n C (lv_at hl 0 rfl) rfl dL_law_947 ?_
        refine v_iload_n C (lv_at hl 3 rfl) rfl dL_law_948 ?_
        refine v_iconst C 1 (by decide) dL_law_949 ?_
        refine v_iadd C dL_law_950 ?_
        obtain ⟨v951, e951, hr⟩ := ob hr
        refine v_sld C hX hbA e951 dL_law_951 ?_
        refine v_aload_n C (lv_at hl 0 rfl) rfl dL_law_952 ?_
        refine v_iload_n C (lv_at hl 3 rfl) rfl dL_law_953 ?_
        refine v_iconst C 2 (by decide) dL_law_954 ?_
        refine v_iadd C dL_law_955 ?_
        obtain ⟨v956, e956, hr⟩ := ob hr
        refine v_sld C hX hbA e956 dL_law_956 ?_
        obtain ⟨b957, f957, hr⟩ := ob hr
        obtain ⟨g957, h957⟩ := rcv_n f957
        obtain ⟨⟨v957, S957⟩, e957, hr⟩ := ob hr
        (try dsimp only at hr)
        refine v_callV C (b := b957) h957 (by decide) rfl rfl (k_X12_join e957) cw_X12_join w_1817 w_1818 w_1819 (show (parseMethodDescriptor (yX12_join).desc).map (fun d => d.parameters.length) = some 2 by decide +kernel) ⟨by decide, by decide⟩ (rest := [.int v943]) (stk2 := [.int v957, .int v943]) (by rw [g957]; rfl) rfl (Nat.le_of_ble_eq_true rfl) hl dL_law_957 ?_
        refine v_icmp_eq C 1396 (by decide) dL_law_960 (fun c960 => ?_) (fun c960 => ?_)
        · rw [if_pos c960] at hr
          refine v_iinc C (x3 + 6) (k0 := 3) (lv' := [(3, .int (x3 + 6)), (0, va_rf (some x0)), (1, va_rf x1), (2, va_rf x2)]) hl rfl rfl (by decide) (by simp [rf_n2]) dL_law_1396 (fun ls hl => ?_)
          refine v_goto C 18 (by decide) dL_law_1399 ?_
          exact ih hr _ (lv_sub hl [1, 2, 3, 0] rfl)
        · rw [if_neg c960] at hr
          refine v_iconst C 0 (by decide) dL_law_963 ?_
          have h0 := congrArg Prod.fst (os hr)
          rw [h1o] at h0
          exact absurd (show (0 : Int32) = 1 from h0) (by decide)
      rw [if_neg q33_20] at hr
      by_cases q33_21 : (v29 &&& 63) = 21
      · rw [if_pos q33_21] at hr
        refine v_tableIn C (off := 932) 965 (by rw [q33_21]; decide) (by rw [q33_21]; decide) (by rw [q33_21]; decide) (by decide) dL_law_33 ?_
        refine v_aload_n C (lv_at hl 1 rfl) rfl dL_law_965 ?_
        refine v_aload_n C (lv_at hl 0 rfl) rfl dL_law_966 ?_
        refine v_iload_n C (lv_at hl 3 rfl) rfl dL_law_967 ?_
        refine v_iconst C 1 (by decide) dL_law_968 ?_
        refine v_iadd C dL_law_969 ?_
        obtain ⟨v970, e970, hr⟩ := ob hr
        refine v_sld C hX hbA e970 dL_law_970 ?_
        refine v_aload_n C (lv_at hl 0 rfl) rfl dL_law_971 ?_
        refine v_iload_n C (lv_at hl 3 rfl) rfl dL_law_972 ?_
        refine v_iconst C 2 (by decide) dL_law_973 ?_
        refine v_iadd C dL_law_974 ?_
        obtain ⟨v975, e975, hr⟩ := ob hr
        refine v_sld C hX hbA e975 dL_law_975 ?_
        refine v_aload_n C (lv_at hl 0 rfl) rfl dL_law_976 ?_
        refine v_iload_n C (lv_at hl 3 rfl) rfl dL_law_977 ?_
        refine v_iconst C 3 (by decide) dL_law_978 ?_
        refine v_iadd C dL_law_979 ?_
        obtain ⟨v980, e980, hr⟩ := ob hr
        refine v_sld C hX hbA e980 dL_law_980 ?_
        obtain ⟨b981, f981, hr⟩ := ob hr
        obtain ⟨g981, h981⟩ := rcv_n f981
        obtain ⟨⟨v981, S981⟩, e981, hr⟩ := ob hr
        (try dsimp only at hr)
        refine v_callV C (b := b981) h981 (by decide) rfl rfl (k_X11_joined e981) cw_X11_joined w_1054 w_1055 w_1056 (show (parseMethodDescriptor (yX11_joined).desc).map (fun d => d.parameters.length) = some 3 by decide +kernel) ⟨by decide, by decide⟩ (rest := []) (stk2 := [.int v981]) (by rw [g981]; rfl) rfl (Nat.le_of_ble_eq_true rfl) hl dL_law_981 ?_
        refine v_aload_n C (lv_at hl 2 rfl) rfl dL_law_984 ?_
        refine v_aload_n C (lv_at hl 0 rfl) rfl dL_law_985 ?_
        refine v_iload_n C (lv_at hl 3 rfl) rfl dL_law_986 ?_
        refine v_iconst C 1 (by decide) dL_law_987 ?_
        refine v_iadd C dL_law_988 ?_
        obtain ⟨v989, e989, hr⟩ := ob hr
        refine v_sld C hX hbA e989 dL_law_989 ?_
        refine v_aload_n C (lv_at hl 0 rfl) rfl dL_law_990 ?_
        refine v_iload_n C (lv_at hl 3 rfl) rfl dL_law_991 ?_
        refine v_iconst C 2 (by decide) dL_law_992 ?_
        refine v_iadd C dL_law_993 ?_
        obtain ⟨v994, e994, hr⟩ := ob hr
        refine v_sld C hX hbA e994 dL_law_994 ?_
        refine v_aload_n C (lv_at hl 0 rfl) rfl dL_law_995 ?_
        refine v_iload_n C (lv_at hl 3 rfl) rfl dL_law_996 ?_
        refine v_iconst C 3 (by decide) dL_law_997 ?_
        refine v_iadd C dL_law_998 ?_
        obtain ⟨v999, e999, hr⟩ := ob hr
        refine v_sld C hX hbA e999 dL_law_999 ?_
        obtain ⟨b1000, f1000, hr⟩ := ob hr
        obtain ⟨g1000, h1000⟩ := rcv_n f1000
        obtain ⟨⟨v1000, S1000⟩, e1000, hr⟩ := ob hr
        (try dsimp only at hr)
        refine v_callV C (b := b1000) h1000 (by decide) rfl rfl (k_X12_joined e1000) cw_X12_joined w_1837 w_1838 w_1839 (show (parseMethodDescriptor (yX12_joined).desc).map (fun d => d.parameters.length) = some 3 by decide +kernel) ⟨by decide, by decide⟩ (rest := [.int v981]) (stk2 := [.int v1000, .int v981]) (by rw [g1000]; rfl) rfl (Nat.le_of_ble_eq_true rfl) hl dL_law_1000 ?_
        refine v_icmp_eq C 1396 (by decide) dL_law_1003 (fun c1003 => ?_) (fun c1003 => ?_)
        · rw [if_pos c1003] at hr
          refine v_iinc C (x3 + 6) (k0 := 3) (lv' := [(3, .int (x3 + 6)), (0, va_rf (some x0)), (1, va_rf x1), (2, va_rf x2)]) hl rfl rfl (by decide) (by simp [rf_n2]) dL_law_1396 (fun ls hl => ?_)
          refine v_goto C 18 (by decide) dL_law_1399 ?_
          exact ih hr _ (lv_sub hl [1, 2, 3, 0] rfl)
        · rw [if_neg c1003] at hr
          refine v_iconst C 0 (by decide) dL_law_1006 ?_
          have h0 := congrArg Prod.fst (os hr)
          rw [h1o] at h0
          exact absurd (show (0 : Int32) = 1 from h0) (by decide)
      rw [if_neg q33_21] at hr
      by_cases q33_22 : (v29 &&& 63) = 22
      · rw [if_pos q33_22] at hr
        refine v_tableIn C (off := 975) 1008 (by rw [q33_22]; decide) (by rw [q33_22]; decide) (by rw [q33_22]; decide) (by decide) dL_law_33 ?_
        refine v_aload_n C (lv_at hl 1 rfl) rfl dL_law_1008 ?_
        refine v_aload_n C (lv_at hl 0 rfl) rfl dL_law_1009 ?_
        refine v_iload_n C (lv_at hl 3 rfl) rfl dL_law_1010 ?_
        refine v_iconst C 1 (by decide) dL_law_1011 ?_
        refine v_iadd C dL_law_1012 ?_
        obtain ⟨v1013, e1013, hr⟩ := ob hr
        refine v_sld C hX hbA e1013 dL_law_1013 ?_
        obtain ⟨b1014, f1014, hr⟩ := ob hr
        obtain ⟨g1014, h1014⟩ := rcv_n f1014
        obtain ⟨v1014, e1014, hr⟩ := ob hr
        refine v_callV C (b := b1014) h1014 (by decide) rfl rfl (k_X11_heirs e1014) cw_X11_heirs w_1072 w_1073 w_1074 (show (parseMethodDescriptor (yX11_heirs).desc).map (fun d => d.parameters.length) = some 1 by decide +kernel) ⟨by decide, by decide⟩ (rest := []) (stk2 := [.int v1014]) (by rw [g1014]; rfl) rfl (Nat.le_of_ble_eq_true rfl) hl dL_law_1014 ?_
        refine v_aload_n C (lv_at hl 2 rfl) rfl dL_law_1017 ?_
        refine v_aload_n C (lv_at hl 0 rfl) rfl dL_law_1018 ?_
        refine v_iload_n C (lv_at hl 3 rfl) rfl dL_law_1019 ?_
        refine v_iconst C 1 (by decide) dL_law_1020 ?_
        refine v_iadd C dL_law_1021 ?_
        obtain ⟨v1022, e1022, hr⟩ := ob hr
        refine v_sld C hX hbA e1022 dL_law_1022 ?_
        obtain ⟨b1023, f1023, hr⟩ := ob hr
        obtain ⟨g1023, h1023⟩ := rcv_n f1023
        obtain ⟨⟨v1023, S1023⟩, e1023, hr⟩ := ob hr
        (try dsimp only at hr)
        refine v_callV C (b := b1023) h1023 (by decide) rfl rfl (k_X12_heirs e1023) cw_X12_heirs w_1841 w_1842 w_1843 (show (parseMethodDescriptor (yX12_heirs).desc).map (fun d => d.parameters.length) = some 1 by decide +kernel) ⟨by decide, by decide⟩ (rest := [.int v1014]) (stk2 := [.int v1023, .int v1014]) (by rw [g1023]; rfl) rfl (Nat.le_of_ble_eq_true rfl) hl dL_law_1023 ?_
        refine v_icmp_eq C 1396 (by decide) dL_law_1026 (fun c1026 => ?_) (fun c1026 => ?_)
        · rw [if_pos c1026] at hr
          refine v_iinc C (x3 + 6) (k0 := 3) (lv' := [(3, .int (x3 + 6)), (0, va_rf (some x0)), (1, va_rf x1), (2, va_rf x2)]) hl rfl rfl (by decide) (by simp [rf_n2]) dL_law_1396 (fun ls hl => ?_)
          refine v_goto C 18 (by decide) dL_law_1399 ?_
          exact ih hr _ (lv_sub hl [1, 2, 3, 0] rfl)
        · rw [if_neg c1026] at hr
          refine v_iconst C 0 (by decide) dL_law_1029 ?_
          have h0 := congrArg Prod.fst (os hr)
          rw [h1o] at h0
          exact absurd (show (0 : Int32) = 1 from h0) (by decide)
      rw [if_neg q33_22] at hr
      by_cases q33_23 : (v29 &&& 63) = 23
      · rw [if_pos q33_23] at hr
        refine v_tableIn C (off := 998) 1031 (by rw [q33_23]; decide) (by rw [q33_23]; decide) (by rw [q33_23]; decide) (by decide) dL_law_33 ?_
        refine v_aload_n C (lv_at hl 1 rfl) rfl dL_law_1031 ?_
        refine v_aload_n C (lv_at hl 0 rfl) rfl dL_law_1032 ?_
        refine v_iload_n C (lv_at hl 3 rfl) rfl dL_law_1033 ?_
        refine v_iconst C 1 (by decide) dL_law_1034 ?_
        refine v_iadd C dL_law_1035 ?_
        obtain ⟨v1036, e1036, hr⟩ := ob hr
        refine v_sld C hX hbA e1036 dL_law_1036 ?_
        refine v_aload_n C (lv_at hl 0 rfl) rfl dL_law_1037 ?_
        refine v_iload_n C (lv_at hl 3 rfl) rfl dL_law_1038 ?_
        refine v_iconst C 2 (by decide) dL_law_1039 ?_
        refine v_iadd C dL_law_1040 ?_
        obtain ⟨v1041, e1041, hr⟩ := ob hr
        refine v_sld C hX hbA e1041 dL_law_1041 ?_
        refine v_aload_n C (lv_at hl 0 rfl) rfl dL_law_1042 ?_
        refine v_iload_n C (lv_at hl 3 rfl) rfl dL_law_1043 ?_
        refine v_iconst C 3 (by decide) dL_law_1044 ?_
        refine v_iadd C dL_law_1045 ?_
        obtain ⟨v1046, e1046, hr⟩ := ob hr
        refine v_sld C hX hbA e1046 dL_law_1046 ?_
        obtain ⟨b1047, f1047, hr⟩ := ob hr
        obtain ⟨g1047, h1047⟩ := rcv_n f1047
        obtain ⟨v1047, e1047, hr⟩ := ob hr
        refine v_callV C (b := b1047) h1047 (by decide) rfl rfl (k_X11_share e1047) cw_X11_share w_1083 w_1084 w_1085 (show (parseMethodDescriptor (yX11_share).desc).map (fun d => d.parameters.length) = some 3 by decide +kernel) ⟨by decide, by decide⟩ (rest := []) (stk2 := [.long v1047]) (by rw [g1047]; rfl) rfl (Nat.le_of_ble_eq_true rfl) hl dL_law_1047 ?_
        refine v_aload_n C (lv_at hl 2 rfl) rfl dL_law_1050 ?_
        refine v_aload_n C (lv_at hl 0 rfl) rfl dL_law_1051 ?_
        refine v_iload_n C (lv_at hl 3 rfl) rfl dL_law_1052 ?_
        refine v_iconst C 1 (by decide) dL_law_1053 ?_
        refine v_iadd C dL_law_1054 ?_
        obtain ⟨v1055, e1055, hr⟩ := ob hr
        refine v_sld C hX hbA e1055 dL_law_1055 ?_
        refine v_aload_n C (lv_at hl 0 rfl) rfl dL_law_1056 ?_
        refine v_iload_n C (lv_at hl 3 rfl) rfl dL_law_1057 ?_
        refine v_iconst C 2 (by decide) dL_law_1058 ?_
        refine v_iadd C dL_law_1059 ?_
        obtain ⟨v1060, e1060, hr⟩ := ob hr
        refine v_sld C hX hbA e1060 dL_law_1060 ?_
        refine v_aload_n C (lv_at hl 0 rfl) rfl dL_law_1061 ?_
        refine v_iload_n C (lv_at hl 3 rfl) rfl dL_law_1062 ?_
        refine v_iconst C 3 (by decide) dL_law_1063 ?_
        refine v_iadd C dL_law_1064 ?_
        obtain ⟨v1065, e1065, hr⟩ := ob hr
        refine v_sld C hX hbA e1065 dL_law_1065 ?_
        obtain ⟨b1066, f1066, hr⟩ := ob hr
        obtain ⟨g1066, h1066⟩ := rcv_n f1066
        obtain ⟨⟨v1066, S1066⟩, e1066, hr⟩ := ob hr
        (try dsimp only at hr)
        refine v_callV C (b := b1066) h1066 (by decide) rfl rfl (k_X12_share e1066) cw_X12_share w_1857 w_1858 w_1859 (show (parseMethodDescriptor (yX12_share).desc).map (fun d => d.parameters.length) = some 3 by decide +kernel) ⟨by decide, by decide⟩ (rest := [.long v1047]) (stk2 := [.long v1066, .long v1047]) (by rw [g1066]; rfl) rfl (Nat.le_of_ble_eq_true rfl) hl dL_law_1066 ?_
        refine v_lcmp C dL_law_1069 ?_
        refine v_if_eq C 1396 (by decide) dL_law_1070 (fun c1070 => ?_) (fun c1070 => ?_)
        · rw [if_pos c1070] at hr
          refine v_iinc C (x3 + 6) (k0 := 3) (lv' := [(3, .int (x3 + 6)), (0, va_rf (some x0)), (1, va_rf x1), (2, va_rf x2)]) hl rfl rfl (by decide) (by simp [rf_n2]) dL_law_1396 (fun ls hl => ?_)
          refine v_goto C 18 (by decide) dL_law_1399 ?_
          exact ih hr _ (lv_sub hl [1, 2, 3, 0] rfl)
        · rw [if_neg c1070] at hr
          refine v_iconst C 0 (by decide) dL_law_1073 ?_
          have h0 := congrArg Prod.fst (os hr)
          rw [h1o] at h0
          exact absurd (show (0 : Int32) = 1 from h0) (by decide)
      rw [if_neg q33_23] at hr
      by_cases q33_24 : (v29 &&& 63) = 24
      · rw [if_pos q33_24] at hr
        refine v_tableIn C (off := 1042) 1075 (by rw [q33_24]; decide) (by rw [q33_24]; decide) (by rw [q33_24]; decide) (by decide) dL_law_33 ?_
        refine v_aload_n C (lv_at hl 1 rfl) rfl dL_law_1075 ?_
        refine v_aload_n C (lv_at hl 0 rfl) rfl dL_law_1076 ?_
        refine v_iload_n C (lv_at hl 3 rfl) rfl dL_law_1077 ?_
        refine v_iconst C 1 (by decide) dL_law_1078 ?_
        refine v_iadd C dL_law_1079 ?_
        obtain ⟨v1080, e1080, hr⟩ := ob hr
        refine v_sld C hX hbA e1080 dL_law_1080 ?_
        refine v_aload_n C (lv_at hl 0 rfl) rfl dL_law_1081 ?_
        refine v_iload_n C (lv_at hl 3 rfl) rfl dL_law_1082 ?_
        refine v_iconst C 2 (by decide) dL_law_1083 ?_
        refine v_iadd C dL_law_1084 ?_
        obtain ⟨v1085, e1085, hr⟩ := ob hr
        refine v_sld C hX hbA e1085 dL_law_1085 ?_
        refine v_aload_n C (lv_at hl 0 rfl) rfl dL_law_1086 ?_
        refine v_iload_n C (lv_at hl 3 rfl) rfl dL_law_1087 ?_
        refine v_iconst C 3 (by decide) dL_law_1088 ?_
        refine v_iadd C dL_law_1089 ?_
        obtain ⟨v1090, e1090, hr⟩ := ob hr
        refine v_sld C hX hbA e1090 dL_law_1090 ?_
        refine v_aload_n C (lv_at hl 0 rfl) rfl dL_law_1091 ?_
        refine v_iload_n C (lv_at hl 3 rfl) rfl dL_law_1092 ?_
        refine v_iconst C 4 (by decide) dL_law_1093 ?_
        refine v_iadd C dL_law_1094 ?_
        obtain ⟨v1095, e1095, hr⟩ := ob hr
        refine v_sld C hX hbA e1095 dL_law_1095 ?_
        obtain ⟨b1096, f1096, hr⟩ := ob hr
        obtain ⟨g1096, h1096⟩ := rcv_n f1096
        obtain ⟨⟨v1096, S1096⟩, e1096, hr⟩ := ob hr
        (try dsimp only at hr)
        refine v_callV C (b := b1096) h1096 (by decide) rfl rfl (k_X11_claim e1096) cw_X11_claim w_1087 w_1088 w_1089 (show (parseMethodDescriptor (yX11_claim).desc).map (fun d => d.parameters.length) = some 4 by decide +kernel) ⟨by decide, by decide⟩ (rest := []) (stk2 := [.int v1096]) (by rw [g1096]; rfl) rfl (Nat.le_of_ble_eq_true rfl) hl dL_law_1096 ?_
        refine v_aload_n C (lv_at hl 2 rfl) rfl dL_law_1099 ?_
        refine v_aload_n C (lv_at hl 0 rfl) rfl dL_law_1100 ?_
        refine v_iload_n C (lv_at hl 3 rfl) rfl dL_law_1101 ?_
        refine v_iconst C 1 (by decide) dL_law_1102 ?_
        refine v_iadd C dL_law_1103 ?_
        obtain ⟨v1104, e1104, hr⟩ := ob hr
        refine v_sld C hX hbA e1104 dL_law_1104 ?_
        refine v_aload_n C (lv_at hl 0 rfl) rfl dL_law_1105 ?_
        refine v_iload_n C (lv_at hl 3 rfl) rfl dL_law_1106 ?_
        refine v_iconst C 2 (by decide) dL_law_1107 ?_
        refine v_iadd C dL_law_1108 ?_
        obtain ⟨v1109, e1109, hr⟩ := ob hr
        refine v_sld C hX hbA e1109 dL_law_1109 ?_
        refine v_aload_n C (lv_at hl 0 rfl) rfl dL_law_1110 ?_
        refine v_iload_n C (lv_at hl 3 rfl) rfl dL_law_1111 ?_
        refine v_iconst C 3 (by decide) dL_law_1112 ?_
        refine v_iadd C dL_law_1113 ?_
        obtain ⟨v1114, e1114, hr⟩ := ob hr
        refine v_sld C hX hbA e1114 dL_law_1114 ?_
        refine v_aload_n C (lv_at hl 0 rfl) rfl dL_law_1115 ?_
        refine v_iload_n C (lv_at hl 3 rfl) rfl dL_law_1116 ?_
        refine v_iconst C 4 (by decide) dL_law_1117 ?_
        refine v_iadd C dL_law_1118 ?_
        obtain ⟨v1119, e1119, hr⟩ := ob hr
        refine v_sld C hX hbA e1119 dL_law_1119 ?_
        obtain ⟨b1120, f1120, hr⟩ := ob hr
        obtain ⟨g1120, h1120⟩ := rcv_n f1120
        obtain ⟨⟨v1120, S1120⟩, e1120, hr⟩ := ob hr
        (try dsimp only at hr)
        refine v_callV C (b := b1120) h1120 (by decide) rfl rfl (k_X12_claim e1120) cw_X12_claim w_1864 w_1865 w_1866 (show (parseMethodDescriptor (yX12_claim).desc).map (fun d => d.parameters.length) = some 4 by decide +kernel) ⟨by decide, by decide⟩ (rest := [.int v1096]) (stk2 := [.int v1120, .int v1096]) (by rw [g1120]; rfl) rfl (Nat.le_of_ble_eq_true rfl) hl dL_law_1120 ?_
        refine v_icmp_eq C 1396 (by decide) dL_law_1123 (fun c1123 => ?_) (fun c1123 => ?_)
        · rw [if_pos c1123] at hr
          refine v_iinc C (x3 + 6) (k0 := 3) (lv' := [(3, .int (x3 + 6)), (0, va_rf (some x0)), (1, va_rf x1), (2, va_rf x2)]) hl rfl rfl (by decide) (by simp [rf_n2]) dL_law_1396 (fun ls hl => ?_)
          refine v_goto C 18 (by decide) dL_law_1399 ?_
          exact ih hr _ (lv_sub hl [1, 2, 3, 0] rfl)
        · rw [if_neg c1123] at hr
          refine v_iconst C 0 (by decide) dL_law_1126 ?_
          have h0 := congrArg Prod.fst (os hr)
          rw [h1o] at h0
          exact absurd (show (0 : Int32) = 1 from h0) (by decide)
      rw [if_neg q33_24] at hr
      by_cases q33_25 : (v29 &&& 63) = 25
      · rw [if_pos q33_25] at hr
        refine v_tableIn C (off := 1095) 1128 (by rw [q33_25]; decide) (by rw [q33_25]; decide) (by rw [q33_25]; decide) (by decide) dL_law_33 ?_
        refine v_aload_n C (lv_at hl 1 rfl) rfl dL_law_1128 ?_
        refine v_aload_n C (lv_at hl 0 rfl) rfl dL_law_1129 ?_
        refine v_iload_n C (lv_at hl 3 rfl) rfl dL_law_1130 ?_
        refine v_iconst C 1 (by decide) dL_law_1131 ?_
        refine v_iadd C dL_law_1132 ?_
        obtain ⟨v1133, e1133, hr⟩ := ob hr
        refine v_sld C hX hbA e1133 dL_law_1133 ?_
        refine v_aload_n C (lv_at hl 0 rfl) rfl dL_law_1134 ?_
        refine v_iload_n C (lv_at hl 3 rfl) rfl dL_law_1135 ?_
        refine v_iconst C 2 (by decide) dL_law_1136 ?_
        refine v_iadd C dL_law_1137 ?_
        obtain ⟨v1138, e1138, hr⟩ := ob hr
        refine v_sld C hX hbA e1138 dL_law_1138 ?_
        obtain ⟨b1139, f1139, hr⟩ := ob hr
        obtain ⟨g1139, h1139⟩ := rcv_n f1139
        obtain ⟨⟨v1139, S1139⟩, e1139, hr⟩ := ob hr
        (try dsimp only at hr)
        refine v_callV C (b := b1139) h1139 (by decide) rfl rfl (k_X11_claimOf e1139) cw_X11_claimOf w_1125 w_1126 w_1127 (show (parseMethodDescriptor (yX11_claimOf).desc).map (fun d => d.parameters.length) = some 2 by decide +kernel) ⟨by decide, by decide⟩ (rest := []) (stk2 := [.long v1139]) (by rw [g1139]; rfl) rfl (Nat.le_of_ble_eq_true rfl) hl dL_law_1139 ?_
        refine v_aload_n C (lv_at hl 2 rfl) rfl dL_law_1142 ?_
        refine v_aload_n C (lv_at hl 0 rfl) rfl dL_law_1143 ?_
        refine v_iload_n C (lv_at hl 3 rfl) rfl dL_law_1144 ?_
        refine v_iconst C 1 (by decide) dL_law_1145 ?_
        refine v_iadd C dL_law_1146 ?_
        obtain ⟨v1147, e1147, hr⟩ := ob hr
        refine v_sld C hX hbA e1147 dL_law_1147 ?_
        refine v_aload_n C (lv_at hl 0 rfl) rfl dL_law_1148 ?_
        refine v_iload_n C (lv_at hl 3 rfl) rfl dL_law_1149 ?_
        refine v_iconst C 2 (by decide) dL_law_1150 ?_
        refine v_iadd C dL_law_1151 ?_
        obtain ⟨v1152, e1152, hr⟩ := ob hr
        refine v_sld C hX hbA e1152 dL_law_1152 ?_
        obtain ⟨b1153, f1153, hr⟩ := ob hr
        obtain ⟨g1153, h1153⟩ := rcv_n f1153
        obtain ⟨⟨v1153, S1153⟩, e1153, hr⟩ := ob hr
        (try dsimp only at hr)
        refine v_callV C (b := b1153) h1153 (by decide) rfl rfl (k_X12_claimOf e1153) cw_X12_claimOf w_1868 w_1869 w_1870 (show (parseMethodDescriptor (yX12_claimOf).desc).map (fun d => d.parameters.length) = some 2 by decide +kernel) ⟨by decide, by decide⟩ (rest := [.long v1139]) (stk2 := [.long v1153, .long v1139]) (by rw [g1153]; rfl) rfl (Nat.le_of_ble_eq_true rfl) hl dL_law_1153 ?_
        refine v_lcmp C dL_law_1156 ?_
        refine v_if_eq C 1396 (by decide) dL_law_1157 (fun c1157 => ?_) (fun c1157 => ?_)
        · rw [if_pos c1157] at hr
          refine v_iinc C (x3 + 6) (k0 := 3) (lv' := [(3, .int (x3 + 6)), (0, va_rf (some x0)), (1, va_rf x1), (2, va_rf x2)]) hl rfl rfl (by decide) (by simp [rf_n2]) dL_law_1396 (fun ls hl => ?_)
          refine v_goto C 18 (by decide) dL_law_1399 ?_
          exact ih hr _ (lv_sub hl [1, 2, 3, 0] rfl)
        · rw [if_neg c1157] at hr
          refine v_iconst C 0 (by decide) dL_law_1160 ?_
          have h0 := congrArg Prod.fst (os hr)
          rw [h1o] at h0
          exact absurd (show (0 : Int32) = 1 from h0) (by decide)
      rw [if_neg q33_25] at hr
      by_cases q33_26 : (v29 &&& 63) = 26
      · rw [if_pos q33_26] at hr
        refine v_tableIn C (off := 1129) 1162 (by rw [q33_26]; decide) (by rw [q33_26]; decide) (by rw [q33_26]; decide) (by decide) dL_law_33 ?_
        refine v_aload_n C (lv_at hl 1 rfl) rfl dL_law_1162 ?_
        refine v_aload_n C (lv_at hl 0 rfl) rfl dL_law_1163 ?_
        refine v_iload_n C (lv_at hl 3 rfl) rfl dL_law_1164 ?_
        refine v_iconst C 1 (by decide) dL_law_1165 ?_
        refine v_iadd C dL_law_1166 ?_
        obtain ⟨v1167, e1167, hr⟩ := ob hr
        refine v_sld C hX hbA e1167 dL_law_1167 ?_
        obtain ⟨b1168, f1168, hr⟩ := ob hr
        obtain ⟨g1168, h1168⟩ := rcv_n f1168
        obtain ⟨⟨v1168, S1168⟩, e1168, hr⟩ := ob hr
        (try dsimp only at hr)
        refine v_callV C (b := b1168) h1168 (by decide) rfl rfl (k_X11_pay e1168) cw_X11_pay w_1181 w_1182 w_1183 (show (parseMethodDescriptor (yX11_pay).desc).map (fun d => d.parameters.length) = some 1 by decide +kernel) ⟨by decide, by decide⟩ (rest := []) (stk2 := [.long v1168]) (by rw [g1168]; rfl) rfl (Nat.le_of_ble_eq_true rfl) hl dL_law_1168 ?_
        refine v_aload_n C (lv_at hl 2 rfl) rfl dL_law_1171 ?_
        refine v_aload_n C (lv_at hl 0 rfl) rfl dL_law_1172 ?_
        refine v_iload_n C (lv_at hl 3 rfl) rfl dL_law_1173 ?_
        refine v_iconst C 1 (by decide) dL_law_1174 ?_
        refine v_iadd C dL_law_1175 ?_
        obtain ⟨v1176, e1176, hr⟩ := ob hr
        refine v_sld C hX hbA e1176 dL_law_1176 ?_
        obtain ⟨b1177, f1177, hr⟩ := ob hr
        obtain ⟨g1177, h1177⟩ := rcv_n f1177
        obtain ⟨⟨v1177, S1177⟩, e1177, hr⟩ := ob hr
        (try dsimp only at hr)
        refine v_callV C (b := b1177) h1177 (by decide) rfl rfl (k_X12_pay e1177) cw_X12_pay w_1889 w_1890 w_1891 (show (parseMethodDescriptor (yX12_pay).desc).map (fun d => d.parameters.length) = some 1 by decide +kernel) ⟨by decide, by decide⟩ (rest := [.long v1168]) (stk2 := [.long v1177, .long v1168]) (by rw [g1177]; rfl) rfl (Nat.le_of_ble_eq_true rfl) hl dL_law_1177 ?_
        refine v_lcmp C dL_law_1180 ?_
        refine v_if_eq C 1396 (by decide) dL_law_1181 (fun c1181 => ?_) (fun c1181 => ?_)
        · rw [if_pos c1181] at hr
          refine v_iinc C (x3 + 6) (k0 := 3) (lv' := [(3, .int (x3 + 6)), (0, va_rf (some x0)), (1, va_rf x1), (2, va_rf x2)]) hl rfl rfl (by decide) (by simp [rf_n2]) dL_law_1396 (fun ls hl => ?_)
          refine v_goto C 18 (by decide) dL_law_1399 ?_
          exact ih hr _ (lv_sub hl [1, 2, 3, 0] rfl)
        · rw [if_neg c1181] at hr
          refine v_iconst C 0 (by decide) dL_law_1184 ?_
          have h0 := congrArg Prod.fst (os hr)
          rw [h1o] at h0
          exact absurd (show (0 : Int32) = 1 from h0) (by decide)
      rw [if_neg q33_26] at hr
      by_cases q33_27 : (v29 &&& 63) = 27
      · rw [if_pos q33_27] at hr
        refine v_tableIn C (off := 1153) 1186 (by rw [q33_27]; decide) (by rw [q33_27]; decide) (by rw [q33_27]; decide) (by decide) dL_law_33 ?_
        refine v_aload_n C (lv_at hl 1 rfl) rfl dL_law_1186 ?_
        refine v_aload_n C (lv_at hl 0 rfl) rfl dL_law_1187 ?_
        refine v_iload_n C (lv_at hl 3 rfl) rfl dL_law_1188 ?_
        refine v_iconst C 1 (by decide) dL_law_1189 ?_
        refine v_iadd C dL_law_1190 ?_
        obtain ⟨v1191, e1191, hr⟩ := ob hr
        refine v_sld C hX hbA e1191 dL_law_1191 ?_
        obtain ⟨b1192, f1192, hr⟩ := ob hr
        obtain ⟨g1192, h1192⟩ := rcv_n f1192
        obtain ⟨⟨v1192, S1192⟩, e1192, hr⟩ := ob hr
        (try dsimp only at hr)
        refine v_callV C (b := b1192) h1192 (by decide) rfl rfl (k_X11_back e1192) cw_X11_back w_1190 w_1191 w_1192 (show (parseMethodDescriptor (yX11_back).desc).map (fun d => d.parameters.length) = some 1 by decide +kernel) ⟨by decide, by decide⟩ (rest := []) (stk2 := [.long v1192]) (by rw [g1192]; rfl) rfl (Nat.le_of_ble_eq_true rfl) hl dL_law_1192 ?_
        refine v_aload_n C (lv_at hl 2 rfl) rfl dL_law_1195 ?_
        refine v_aload_n C (lv_at hl 0 rfl) rfl dL_law_1196 ?_
        refine v_iload_n C (lv_at hl 3 rfl) rfl dL_law_1197 ?_
        refine v_iconst C 1 (by decide) dL_law_1198 ?_
        refine v_iadd C dL_law_1199 ?_
        obtain ⟨v1200, e1200, hr⟩ := ob hr
        refine v_sld C hX hbA e1200 dL_law_1200 ?_
        obtain ⟨b1201, f1201, hr⟩ := ob hr
        obtain ⟨g1201, h1201⟩ := rcv_n f1201
        obtain ⟨⟨v1201, S1201⟩, e1201, hr⟩ := ob hr
        (try dsimp only at hr)
        refine v_callV C (b := b1201) h1201 (by decide) rfl rfl (k_X12_back e1201) cw_X12_back w_1894 w_1895 w_1896 (show (parseMethodDescriptor (yX12_back).desc).map (fun d => d.parameters.length) = some 1 by decide +kernel) ⟨by decide, by decide⟩ (rest := [.long v1192]) (stk2 := [.long v1201, .long v1192]) (by rw [g1201]; rfl) rfl (Nat.le_of_ble_eq_true rfl) hl dL_law_1201 ?_
        refine v_lcmp C dL_law_1204 ?_
        refine v_if_eq C 1396 (by decide) dL_law_1205 (fun c1205 => ?_) (fun c1205 => ?_)
        · rw [if_pos c1205] at hr
          refine v_iinc C (x3 + 6) (k0 := 3) (lv' := [(3, .int (x3 + 6)), (0, va_rf (some x0)), (1, va_rf x1), (2, va_rf x2)]) hl rfl rfl (by decide) (by simp [rf_n2]) dL_law_1396 (fun ls hl => ?_)
          refine v_goto C 18 (by decide) dL_law_1399 ?_
          exact ih hr _ (lv_sub hl [1, 2, 3, 0] rfl)
        · rw [if_neg c1205] at hr
          refine v_iconst C 0 (by decide) dL_law_1208 ?_
          have h0 := congrArg Prod.fst (os hr)
          rw [h1o] at h0
          exact absurd (show (0 : Int32) = 1 from h0) (by decide)
      rw [if_neg q33_27] at hr
      by_cases q33_28 : (v29 &&& 63) = 28
      · rw [if_pos q33_28] at hr
        refine v_tableIn C (off := 1177) 1210 (by rw [q33_28]; decide) (by rw [q33_28]; decide) (by rw [q33_28]; decide) (by decide) dL_law_33 ?_
        refine v_aload_n C (lv_at hl 1 rfl) rfl dL_law_1210 ?_
        refine v_aload_n C (lv_at hl 0 rfl) rfl dL_law_1211 ?_
        refine v_iload_n C (lv_at hl 3 rfl) rfl dL_law_1212 ?_
        refine v_iconst C 1 (by decide) dL_law_1213 ?_
        refine v_iadd C dL_law_1214 ?_
        obtain ⟨v1215, e1215, hr⟩ := ob hr
        refine v_sld C hX hbA e1215 dL_law_1215 ?_
        refine v_aload_n C (lv_at hl 0 rfl) rfl dL_law_1216 ?_
        refine v_iload_n C (lv_at hl 3 rfl) rfl dL_law_1217 ?_
        refine v_iconst C 2 (by decide) dL_law_1218 ?_
        refine v_iadd C dL_law_1219 ?_
        obtain ⟨v1220, e1220, hr⟩ := ob hr
        refine v_sld C hX hbA e1220 dL_law_1220 ?_
        refine v_aload_n C (lv_at hl 0 rfl) rfl dL_law_1221 ?_
        refine v_iload_n C (lv_at hl 3 rfl) rfl dL_law_1222 ?_
        refine v_iconst C 3 (by decide) dL_law_1223 ?_
        refine v_iadd C dL_law_1224 ?_
        obtain ⟨v1225, e1225, hr⟩ := ob hr
        refine v_sld C hX hbA e1225 dL_law_1225 ?_
        obtain ⟨b1226, f1226, hr⟩ := ob hr
        obtain ⟨g1226, h1226⟩ := rcv_n f1226
        obtain ⟨⟨v1226, S1226⟩, e1226, hr⟩ := ob hr
        (try dsimp only at hr)
        refine v_callV C (b := b1226) h1226 (by decide) rfl rfl (k_X11_figure e1226) cw_X11_figure w_1194 w_1195 w_1196 (show (parseMethodDescriptor (yX11_figure).desc).map (fun d => d.parameters.length) = some 3 by decide +kernel) ⟨by decide, by decide⟩ (rest := []) (stk2 := [.int v1226]) (by rw [g1226]; rfl) rfl (Nat.le_of_ble_eq_true rfl) hl dL_law_1226 ?_
        refine v_aload_n C (lv_at hl 2 rfl) rfl dL_law_1229 ?_
        refine v_aload_n C (lv_at hl 0 rfl) rfl dL_law_1230 ?_
        refine v_iload_n C (lv_at hl 3 rfl) rfl dL_law_1231 ?_
        refine v_iconst C 1 (by decide) dL_law_1232 ?_
        refine v_iadd C dL_law_1233 ?_
        obtain ⟨v1234, e1234, hr⟩ := ob hr
        refine v_sld C hX hbA e1234 dL_law_1234 ?_
        refine v_aload_n C (lv_at hl 0 rfl) rfl dL_law_1235 ?_
        refine v_iload_n C (lv_at hl 3 rfl) rfl dL_law_1236 ?_
        refine v_iconst C 2 (by decide) dL_law_1237 ?_
        refine v_iadd C dL_law_1238 ?_
        obtain ⟨v1239, e1239, hr⟩ := ob hr
        refine v_sld C hX hbA e1239 dL_law_1239 ?_
        refine v_aload_n C (lv_at hl 0 rfl) rfl dL_law_1240 ?_
        refine v_iload_n C (lv_at hl 3 rfl) rfl dL_law_1241 ?_
        refine v_iconst C 3 (by decide) dL_law_1242 ?_
        refine v_iadd C dL_law_1243 ?_
        obtain ⟨v1244, e1244, hr⟩ := ob hr
        refine v_sld C hX hbA e1244 dL_law_1244 ?_
        obtain ⟨b1245, f1245, hr⟩ := ob hr
        obtain ⟨g1245, h1245⟩ := rcv_n f1245
        obtain ⟨⟨v1245, S1245⟩, e1245, hr⟩ := ob hr
        (try dsimp only at hr)
        refine v_callV C (b := b1245) h1245 (by decide) rfl rfl (k_X12_figure e1245) cw_X12_figure w_1898 w_1899 w_1900 (show (parseMethodDescriptor (yX12_figure).desc).map (fun d => d.parameters.length) = some 3 by decide +kernel) ⟨by decide, by decide⟩ (rest := [.int v1226]) (stk2 := [.int v1245, .int v1226]) (by rw [g1245]; rfl) rfl (Nat.le_of_ble_eq_true rfl) hl dL_law_1245 ?_
        refine v_icmp_eq C 1396 (by decide) dL_law_1248 (fun c1248 => ?_) (fun c1248 => ?_)
        · rw [if_pos c1248] at hr
          refine v_iinc C (x3 + 6) (k0 := 3) (lv' := [(3, .int (x3 + 6)), (0, va_rf (some x0)), (1, va_rf x1), (2, va_rf x2)]) hl rfl rfl (by decide) (by simp [rf_n2]) dL_law_1396 (fun ls hl => ?_)
          refine v_goto C 18 (by decide) dL_law_1399 ?_
          exact ih hr _ (lv_sub hl [1, 2, 3, 0] rfl)
        · rw [if_neg c1248] at hr
          refine v_iconst C 0 (by decide) dL_law_1251 ?_
          have h0 := congrArg Prod.fst (os hr)
          rw [h1o] at h0
          exact absurd (show (0 : Int32) = 1 from h0) (by decide)
      rw [if_neg q33_28] at hr
      by_cases q33_29 : (v29 &&& 63) = 29
      · rw [if_pos q33_29] at hr
        refine v_tableIn C (off := 1220) 1253 (by rw [q33_29]; decide) (by rw [q33_29]; decide) (by rw [q33_29]; decide) (by decide) dL_law_33 ?_
        refine v_aload_n C (lv_at hl 1 rfl) rfl dL_law_1253 ?_
        refine v_aload_n C (lv_at hl 0 rfl) rfl dL_law_1254 ?_
        refine v_iload_n C (lv_at hl 3 rfl) rfl dL_law_1255 ?_
        refine v_iconst C 1 (by decide) dL_law_1256 ?_
        refine v_iadd C dL_law_1257 ?_
        obtain ⟨v1258, e1258, hr⟩ := ob hr
        refine v_sld C hX hbA e1258 dL_law_1258 ?_
        refine v_aload_n C (lv_at hl 0 rfl) rfl dL_law_1259 ?_
        refine v_iload_n C (lv_at hl 3 rfl) rfl dL_law_1260 ?_
        refine v_iconst C 2 (by decide) dL_law_1261 ?_
        refine v_iadd C dL_law_1262 ?_
        obtain ⟨v1263, e1263, hr⟩ := ob hr
        refine v_sld C hX hbA e1263 dL_law_1263 ?_
        obtain ⟨b1264, f1264, hr⟩ := ob hr
        obtain ⟨g1264, h1264⟩ := rcv_n f1264
        obtain ⟨⟨v1264, S1264⟩, e1264, hr⟩ := ob hr
        (try dsimp only at hr)
        refine v_callV C (b := b1264) h1264 (by decide) rfl rfl (k_X11_costs e1264) cw_X11_costs w_1204 w_1205 w_1206 (show (parseMethodDescriptor (yX11_costs).desc).map (fun d => d.parameters.length) = some 2 by decide +kernel) ⟨by decide, by decide⟩ (rest := []) (stk2 := [.int v1264]) (by rw [g1264]; rfl) rfl (Nat.le_of_ble_eq_true rfl) hl dL_law_1264 ?_
        refine v_aload_n C (lv_at hl 2 rfl) rfl dL_law_1267 ?_
        refine v_aload_n C (lv_at hl 0 rfl) rfl dL_law_1268 ?_
        refine v_iload_n C (lv_at hl 3 rfl) rfl dL_law_1269 ?_
        refine v_iconst C 1 (by decide) dL_law_1270 ?_
        refine v_iadd C dL_law_1271 ?_
        obtain ⟨v1272, e1272, hr⟩ := ob hr
        refine v_sld C hX hbA e1272 dL_law_1272 ?_
        refine v_aload_n C (lv_at hl 0 rfl) rfl dL_law_1273 ?_
        refine v_iload_n C (lv_at hl 3 rfl) rfl dL_law_1274 ?_
        refine v_iconst C 2 (by decide) dL_law_1275 ?_
        refine v_iadd C dL_law_1276 ?_
        obtain ⟨v1277, e1277, hr⟩ := ob hr
        refine v_sld C hX hbA e1277 dL_law_1277 ?_
        obtain ⟨b1278, f1278, hr⟩ := ob hr
        obtain ⟨g1278, h1278⟩ := rcv_n f1278
        obtain ⟨⟨v1278, S1278⟩, e1278, hr⟩ := ob hr
        (try dsimp only at hr)
        refine v_callV C (b := b1278) h1278 (by decide) rfl rfl (k_X12_costs e1278) cw_X12_costs w_1903 w_1904 w_1905 (show (parseMethodDescriptor (yX12_costs).desc).map (fun d => d.parameters.length) = some 2 by decide +kernel) ⟨by decide, by decide⟩ (rest := [.int v1264]) (stk2 := [.int v1278, .int v1264]) (by rw [g1278]; rfl) rfl (Nat.le_of_ble_eq_true rfl) hl dL_law_1278 ?_
        refine v_icmp_eq C 1396 (by decide) dL_law_1281 (fun c1281 => ?_) (fun c1281 => ?_)
        · rw [if_pos c1281] at hr
          refine v_iinc C (x3 + 6) (k0 := 3) (lv' := [(3, .int (x3 + 6)), (0, va_rf (some x0)), (1, va_rf x1), (2, va_rf x2)]) hl rfl rfl (by decide) (by simp [rf_n2]) dL_law_1396 (fun ls hl => ?_)
          refine v_goto C 18 (by decide) dL_law_1399 ?_
          exact ih hr _ (lv_sub hl [1, 2, 3, 0] rfl)
        · rw [if_neg c1281] at hr
          refine v_iconst C 0 (by decide) dL_law_1284 ?_
          have h0 := congrArg Prod.fst (os hr)
          rw [h1o] at h0
          exact absurd (show (0 : Int32) = 1 from h0) (by decide)
      rw [if_neg q33_29] at hr
      by_cases q33_30 : (v29 &&& 63) = 30
      · rw [if_pos q33_30] at hr
        refine v_tableIn C (off := 1253) 1286 (by rw [q33_30]; decide) (by rw [q33_30]; decide) (by rw [q33_30]; decide) (by decide) dL_law_33 ?_
        refine v_aload_n C (lv_at hl 1 rfl) rfl dL_law_1286 ?_
        refine v_aload_n C (lv_at hl 0 rfl) rfl dL_law_1287 ?_
        refine v_iload_n C (lv_at hl 3 rfl) rfl dL_law_1288 ?_
        refine v_iconst C 1 (by decide) dL_law_1289 ?_
        refine v_iadd C dL_law_1290 ?_
        obtain ⟨v1291, e1291, hr⟩ := ob hr
        refine v_sld C hX hbA e1291 dL_law_1291 ?_
        refine v_aload_n C (lv_at hl 0 rfl) rfl dL_law_1292 ?_
        refine v_iload_n C (lv_at hl 3 rfl) rfl dL_law_1293 ?_
        refine v_iconst C 2 (by decide) dL_law_1294 ?_
        refine v_iadd C dL_law_1295 ?_
        obtain ⟨v1296, e1296, hr⟩ := ob hr
        refine v_sld C hX hbA e1296 dL_law_1296 ?_
        obtain ⟨b1297, f1297, hr⟩ := ob hr
        obtain ⟨g1297, h1297⟩ := rcv_n f1297
        obtain ⟨v1297, e1297, hr⟩ := ob hr
        refine v_callV C (b := b1297) h1297 (by decide) rfl rfl (k_X11_audit e1297) cw_X11_audit w_1208 w_1209 w_1210 (show (parseMethodDescriptor (yX11_audit).desc).map (fun d => d.parameters.length) = some 2 by decide +kernel) ⟨by decide, by decide⟩ (rest := []) (stk2 := [.int v1297]) (by rw [g1297]; rfl) rfl (Nat.le_of_ble_eq_true rfl) hl dL_law_1297 ?_
        refine v_aload_n C (lv_at hl 2 rfl) rfl dL_law_1300 ?_
        refine v_aload_n C (lv_at hl 0 rfl) rfl dL_law_1301 ?_
        refine v_iload_n C (lv_at hl 3 rfl) rfl dL_law_1302 ?_
        refine v_iconst C 1 (by decide) dL_law_1303 ?_
        refine v_iadd C dL_law_1304 ?_
        obtain ⟨v1305, e1305, hr⟩ := ob hr
        refine v_sld C hX hbA e1305 dL_law_1305 ?_
        refine v_aload_n C (lv_at hl 0 rfl) rfl dL_law_1306 ?_
        refine v_iload_n C (lv_at hl 3 rfl) rfl dL_law_1307 ?_
        refine v_iconst C 2 (by decide) dL_law_1308 ?_
        refine v_iadd C dL_law_1309 ?_
        obtain ⟨v1310, e1310, hr⟩ := ob hr
        refine v_sld C hX hbA e1310 dL_law_1310 ?_
        obtain ⟨b1311, f1311, hr⟩ := ob hr
        obtain ⟨g1311, h1311⟩ := rcv_n f1311
        obtain ⟨v1311, e1311, hr⟩ := ob hr
        refine v_callV C (b := b1311) h1311 (by decide) rfl rfl (k_X12_audit e1311) cw_X12_audit w_1907 w_1908 w_1909 (show (parseMethodDescriptor (yX12_audit).desc).map (fun d => d.parameters.length) = some 2 by decide +kernel) ⟨by decide, by decide⟩ (rest := [.int v1297]) (stk2 := [.int v1311, .int v1297]) (by rw [g1311]; rfl) rfl (Nat.le_of_ble_eq_true rfl) hl dL_law_1311 ?_
        refine v_icmp_eq C 1396 (by decide) dL_law_1314 (fun c1314 => ?_) (fun c1314 => ?_)
        · rw [if_pos c1314] at hr
          refine v_iinc C (x3 + 6) (k0 := 3) (lv' := [(3, .int (x3 + 6)), (0, va_rf (some x0)), (1, va_rf x1), (2, va_rf x2)]) hl rfl rfl (by decide) (by simp [rf_n2]) dL_law_1396 (fun ls hl => ?_)
          refine v_goto C 18 (by decide) dL_law_1399 ?_
          exact ih hr _ (lv_sub hl [1, 2, 3, 0] rfl)
        · rw [if_neg c1314] at hr
          refine v_iconst C 0 (by decide) dL_law_1317 ?_
          have h0 := congrArg Prod.fst (os hr)
          rw [h1o] at h0
          exact absurd (show (0 : Int32) = 1 from h0) (by decide)
      rw [if_neg q33_30] at hr
      by_cases q33_31 : (v29 &&& 63) = 31
      · rw [if_pos q33_31] at hr
        refine v_tableIn C (off := 1286) 1319 (by rw [q33_31]; decide) (by rw [q33_31]; decide) (by rw [q33_31]; decide) (by decide) dL_law_33 ?_
        refine v_aload_n C (lv_at hl 1 rfl) rfl dL_law_1319 ?_
        refine v_aload_n C (lv_at hl 0 rfl) rfl dL_law_1320 ?_
        refine v_iload_n C (lv_at hl 3 rfl) rfl dL_law_1321 ?_
        refine v_iconst C 1 (by decide) dL_law_1322 ?_
        refine v_iadd C dL_law_1323 ?_
        obtain ⟨v1324, e1324, hr⟩ := ob hr
        refine v_sld C hX hbA e1324 dL_law_1324 ?_
        refine v_aload_n C (lv_at hl 0 rfl) rfl dL_law_1325 ?_
        refine v_iload_n C (lv_at hl 3 rfl) rfl dL_law_1326 ?_
        refine v_iconst C 2 (by decide) dL_law_1327 ?_
        refine v_iadd C dL_law_1328 ?_
        obtain ⟨v1329, e1329, hr⟩ := ob hr
        refine v_sld C hX hbA e1329 dL_law_1329 ?_
        refine v_aload_n C (lv_at hl 0 rfl) rfl dL_law_1330 ?_
        refine v_iload_n C (lv_at hl 3 rfl) rfl dL_law_1331 ?_
        refine v_iconst C 3 (by decide) dL_law_1332 ?_
        refine v_iadd C dL_law_1333 ?_
        obtain ⟨v1334, e1334, hr⟩ := ob hr
        refine v_sld C hX hbA e1334 dL_law_1334 ?_
        refine v_aload_n C (lv_at hl 0 rfl) rfl dL_law_1335 ?_
        refine v_iload_n C (lv_at hl 3 rfl) rfl dL_law_1336 ?_
        refine v_iconst C 4 (by decide) dL_law_1337 ?_
        refine v_iadd C dL_law_1338 ?_
        obtain ⟨v1339, e1339, hr⟩ := ob hr
        refine v_sld C hX hbA e1339 dL_law_1339 ?_
        obtain ⟨b1340, f1340, hr⟩ := ob hr
        obtain ⟨g1340, h1340⟩ := rcv_n f1340
        obtain ⟨⟨v1340, S1340⟩, e1340, hr⟩ := ob hr
        (try dsimp only at hr)
        refine v_callV C (b := b1340) h1340 (by decide) rfl rfl (k_X11_looks e1340) cw_X11_looks w_1233 w_1234 w_1235 (show (parseMethodDescriptor (yX11_looks).desc).map (fun d => d.parameters.length) = some 4 by decide +kernel) ⟨by decide, by decide⟩ (rest := []) (stk2 := [.int v1340]) (by rw [g1340]; rfl) rfl (Nat.le_of_ble_eq_true rfl) hl dL_law_1340 ?_
        refine v_aload_n C (lv_at hl 2 rfl) rfl dL_law_1343 ?_
        refine v_aload_n C (lv_at hl 0 rfl) rfl dL_law_1344 ?_
        refine v_iload_n C (lv_at hl 3 rfl) rfl dL_law_1345 ?_
        refine v_iconst C 1 (by decide) dL_law_1346 ?_
        refine v_iadd C dL_law_1347 ?_
        obtain ⟨v1348, e1348, hr⟩ := ob hr
        refine v_sld C hX hbA e1348 dL_law_1348 ?_
        refine v_aload_n C (lv_at hl 0 rfl) rfl dL_law_1349 ?_
        refine v_iload_n C (lv_at hl 3 rfl) rfl dL_law_1350 ?_
        refine v_iconst C 2 (by decide) dL_law_1351 ?_
        refine v_iadd C dL_law_1352 ?_
        obtain ⟨v1353, e1353, hr⟩ := ob hr
        refine v_sld C hX hbA e1353 dL_law_1353 ?_
        refine v_aload_n C (lv_at hl 0 rfl) rfl dL_law_1354 ?_
        refine v_iload_n C (lv_at hl 3 rfl) rfl dL_law_1355 ?_
        refine v_iconst C 3 (by decide) dL_law_1356 ?_
        refine v_iadd C dL_law_1357 ?_
        obtain ⟨v1358, e1358, hr⟩ := ob hr
        refine v_sld C hX hbA e1358 dL_law_1358 ?_
        refine v_aload_n C (lv_at hl 0 rfl) rfl dL_law_1359 ?_
        refine v_iload_n C (lv_at hl 3 rfl) rfl dL_law_1360 ?_
        refine v_iconst C 4 (by decide) dL_law_1361 ?_
        refine v_iadd C dL_law_1362 ?_
        obtain ⟨v1363, e1363, hr⟩ := ob hr
        refine v_sld C hX hbA e1363 dL_law_1363 ?_
        obtain ⟨b1364, f1364, hr⟩ := ob hr
        obtain ⟨g1364, h1364⟩ := rcv_n f1364
        obtain ⟨⟨v1364, S1364⟩, e1364, hr⟩ := ob hr
        (try dsimp only at hr)
        refine v_callV C (b := b1364) h1364 (by decide) rfl rfl (k_X12_looks e1364) cw_X12_looks w_1915 w_1916 w_1917 (show (parseMethodDescriptor (yX12_looks).desc).map (fun d => d.parameters.length) = some 4 by decide +kernel) ⟨by decide, by decide⟩ (rest := [.int v1340]) (stk2 := [.int v1364, .int v1340]) (by rw [g1364]; rfl) rfl (Nat.le_of_ble_eq_true rfl) hl dL_law_1364 ?_
        refine v_icmp_eq C 1396 (by decide) dL_law_1367 (fun c1367 => ?_) (fun c1367 => ?_)
        · rw [if_pos c1367] at hr
          refine v_iinc C (x3 + 6) (k0 := 3) (lv' := [(3, .int (x3 + 6)), (0, va_rf (some x0)), (1, va_rf x1), (2, va_rf x2)]) hl rfl rfl (by decide) (by simp [rf_n2]) dL_law_1396 (fun ls hl => ?_)
          refine v_goto C 18 (by decide) dL_law_1399 ?_
          exact ih hr _ (lv_sub hl [1, 2, 3, 0] rfl)
        · rw [if_neg c1367] at hr
          refine v_iconst C 0 (by decide) dL_law_1370 ?_
          have h0 := congrArg Prod.fst (os hr)
          rw [h1o] at h0
          exact absurd (show (0 : Int32) = 1 from h0) (by decide)
      rw [if_neg q33_31] at hr
      by_cases q33_32 : (v29 &&& 63) = 32
      · rw [if_pos q33_32] at hr
        refine v_tableIn C (off := 1339) 1372 (by rw [q33_32]; decide) (by rw [q33_32]; decide) (by rw [q33_32]; decide) (by decide) dL_law_33 ?_
        refine v_aload_n C (lv_at hl 1 rfl) rfl dL_law_1372 ?_
        refine v_aload_n C (lv_at hl 0 rfl) rfl dL_law_1373 ?_
        refine v_iload_n C (lv_at hl 3 rfl) rfl dL_law_1374 ?_
        refine v_iconst C 1 (by decide) dL_law_1375 ?_
        refine v_iadd C dL_law_1376 ?_
        obtain ⟨v1377, e1377, hr⟩ := ob hr
        refine v_sld C hX hbA e1377 dL_law_1377 ?_
        obtain ⟨b1378, f1378, hr⟩ := ob hr
        obtain ⟨g1378, h1378⟩ := rcv_n f1378
        obtain ⟨v1378, e1378, hr⟩ := ob hr
        refine v_callV C (b := b1378) h1378 (by decide) rfl rfl (k_X11_look e1378) cw_X11_look w_1280 w_1281 w_1282 (show (parseMethodDescriptor (yX11_look).desc).map (fun d => d.parameters.length) = some 1 by decide +kernel) ⟨by decide, by decide⟩ (rest := []) (stk2 := [.long v1378]) (by rw [g1378]; rfl) rfl (Nat.le_of_ble_eq_true rfl) hl dL_law_1378 ?_
        refine v_aload_n C (lv_at hl 2 rfl) rfl dL_law_1381 ?_
        refine v_aload_n C (lv_at hl 0 rfl) rfl dL_law_1382 ?_
        refine v_iload_n C (lv_at hl 3 rfl) rfl dL_law_1383 ?_
        refine v_iconst C 1 (by decide) dL_law_1384 ?_
        refine v_iadd C dL_law_1385 ?_
        obtain ⟨v1386, e1386, hr⟩ := ob hr
        refine v_sld C hX hbA e1386 dL_law_1386 ?_
        obtain ⟨b1387, f1387, hr⟩ := ob hr
        obtain ⟨g1387, h1387⟩ := rcv_n f1387
        obtain ⟨v1387, e1387, hr⟩ := ob hr
        refine v_callV C (b := b1387) h1387 (by decide) rfl rfl (k_X12_look e1387) cw_X12_look w_1919 w_1920 w_1921 (show (parseMethodDescriptor (yX12_look).desc).map (fun d => d.parameters.length) = some 1 by decide +kernel) ⟨by decide, by decide⟩ (rest := [.long v1378]) (stk2 := [.long v1387, .long v1378]) (by rw [g1387]; rfl) rfl (Nat.le_of_ble_eq_true rfl) hl dL_law_1387 ?_
        refine v_lcmp C dL_law_1390 ?_
        refine v_if_eq C 1396 (by decide) dL_law_1391 (fun c1391 => ?_) (fun c1391 => ?_)
        · rw [if_pos c1391] at hr
          refine v_iinc C (x3 + 6) (k0 := 3) (lv' := [(3, .int (x3 + 6)), (0, va_rf (some x0)), (1, va_rf x1), (2, va_rf x2)]) hl rfl rfl (by decide) (by simp [rf_n2]) dL_law_1396 (fun ls hl => ?_)
          refine v_goto C 18 (by decide) dL_law_1399 ?_
          exact ih hr _ (lv_sub hl [1, 2, 3, 0] rfl)
        · rw [if_neg c1391] at hr
          refine v_iconst C 0 (by decide) dL_law_1394 ?_
          have h0 := congrArg Prod.fst (os hr)
          rw [h1o] at h0
          exact absurd (show (0 : Int32) = 1 from h0) (by decide)
      rw [if_neg q33_32] at hr
      have kd33 : V p l e (rmo 2048 84000 S0) s m #[Value.ref x0] below meth c G S0 S (lw_Z below #[Value.ref x0] s) (F0 m 1396 ls []) := by
        refine v_iinc C (x3 + 6) (k0 := 3) (lv' := [(3, .int (x3 + 6)), (0, va_rf (some x0)), (1, va_rf x1), (2, va_rf x2)]) hl rfl rfl (by decide) (by simp [rf_n2]) dL_law_1396 (fun ls hl => ?_)
        refine v_goto C 18 (by decide) dL_law_1399 ?_
        exact ih hr _ (lv_sub hl [1, 2, 3, 0] rfl)
      have z0 := lv_neT q33_0 (a := 0) (by decide)
      have z1 := lv_neT q33_1 (a := 1) (by decide)
      have z2 := lv_neT q33_2 (a := 2) (by decide)
      have z3 := lv_neT q33_3 (a := 3) (by decide)
      have z4 := lv_neT q33_4 (a := 4) (by decide)
      have z5 := lv_neT q33_5 (a := 5) (by decide)
      have z6 := lv_neT q33_6 (a := 6) (by decide)
      have z7 := lv_neT q33_7 (a := 7) (by decide)
      have z8 := lv_neT q33_8 (a := 8) (by decide)
      have z9 := lv_neT q33_9 (a := 9) (by decide)
      have z10 := lv_neT q33_10 (a := 10) (by decide)
      have z11 := lv_neT q33_11 (a := 11) (by decide)
      have z12 := lv_neT q33_12 (a := 12) (by decide)
      have z13 := lv_neT q33_13 (a := 13) (by decide)
      have z14 := lv_neT q33_14 (a := 14) (by decide)
      have z15 := lv_neT q33_15 (a := 15) (by decide)
      have z16 := lv_neT q33_16 (a := 16) (by decide)
      have z17 := lv_neT q33_17 (a := 17) (by decide)
      have z18 := lv_neT q33_18 (a := 18) (by decide)
      have z19 := lv_neT q33_19 (a := 19) (by decide)
      have z20 := lv_neT q33_20 (a := 20) (by decide)
      have z21 := lv_neT q33_21 (a := 21) (by decide)
      have z22 := lv_neT q33_22 (a := 22) (by decide)
      have z23 := lv_neT q33_23 (a := 23) (by decide)
      have z24 := lv_neT q33_24 (a := 24) (by decide)
      have z25 := lv_neT q33_25 (a := 25) (by decide)
      have z26 := lv_neT q33_26 (a := 26) (by decide)
      have z27 := lv_neT q33_27 (a := 27) (by decide)
      have z28 := lv_neT q33_28 (a := 28) (by decide)
      have z29 := lv_neT q33_29 (a := 29) (by decide)
      have z30 := lv_neT q33_30 (a := 30) (by decide)
      have z31 := lv_neT q33_31 (a := 31) (by decide)
      have z32 := lv_neT q33_32 (a := 32) (by decide)
      exact v_tableOut C 1396 (by omega) (by decide) dL_law_33 kd33
theorem b_L_law {p : Program} {l : Launch} {e : Env} {s : State} {m : MethodId} {below : List Frame} {meth : Method} {c : Code} {G : Ge} {L : Nat} {xs : Nat → Int32} {x0 : Nat} {S0 : St} (C : Cx p s m #[Value.ref x0] meth c G S0 (ly meth) cL_law 4 ret) (hX : va_X x0 L xs s s.heap) (hbA : x0 < bs G) (hB : nx S0 = bs G ∧ sl S0 = 0) {o : Int32 × St} (h1o : o.1 = 1) (hr : f_L_law L xs S0 x0 = some o) : ∀ ls : Array Slot, lv_has ls 4 [(0, va_rf (some x0))] → V p l e (rmo 2048 84000 S0) s m #[Value.ref x0] below meth c G S0 S0 (lw_Z below #[Value.ref x0] s) (F0 m 0 ls []) := by
  intro ls hl
  unfold f_L_law at hr
  obtain ⟨⟨a0, S0⟩, e0, hr⟩ := ob hr
  (try dsimp only at hr)
  refine v_newO C e0 (by decide) rfl w_128 w_129 w_102 lay_12 tyo_12 dfo_12 dL_law_0 ?_
  refine v_dup C (rf_cat _) dL_law_3 ?_
  obtain ⟨b4, f4, hr⟩ := ob hr
  obtain ⟨g4, h4⟩ := rcv_n f4
  obtain ⟨S4, e4, hr⟩ := ob hr
  refine v_callI C (b := b4) (k_X11_init e4) cw_X11_init w_130 w_131 rfl (show (parseMethodDescriptor (yX11_init).desc).map (fun d => d.parameters.length) = some 0 by decide +kernel) ⟨by decide, by decide⟩ (rest := [va_rf (some a0)]) (stk2 := [va_rf (some a0)]) (by rw [g4]; rfl) rfl (by simp [rf_cat, cat_i, cat_l]) hl dL_law_4 ?_
  refine v_astore_n C (i := 1) (lv' := [(1, va_rf (some a0)), (0, va_rf (some x0))]) hl rfl (by decide) rfl dL_law_7 (fun ls hl => ?_)
  obtain ⟨⟨a8, S8⟩, e8, hr⟩ := ob hr
  (try dsimp only at hr)
  refine v_newO C e8 (by decide) rfl w_1296 w_1297 w_111 lay_13 tyo_13 dfo_13 dL_law_8 ?_
  refine v_dup C (rf_cat _) dL_law_11 ?_
  obtain ⟨b12, f12, hr⟩ := ob hr
  obtain ⟨g12, h12⟩ := rcv_n f12
  obtain ⟨S12, e12, hr⟩ := ob hr
  refine v_callI C (b := b12) (k_X12_init e12) cw_X12_init w_1298 w_1299 rfl (show (parseMethodDescriptor (yX12_init).desc).map (fun d => d.parameters.length) = some 0 by decide +kernel) ⟨by decide, by decide⟩ (rest := [va_rf (some a8)]) (stk2 := [va_rf (some a8)]) (by rw [g12]; rfl) rfl (by simp [rf_cat, cat_i, cat_l]) hl dL_law_12 ?_
  refine v_astore_n C (i := 2) (lv' := [(2, va_rf (some a8)), (1, va_rf (some a0)), (0, va_rf (some x0))]) hl rfl (by decide) rfl dL_law_15 (fun ls hl => ?_)
  refine v_iconst C 0 (by decide) dL_law_16 ?_
  refine v_istore_n C (i := 3) (lv' := [(3, .int 0), (2, va_rf (some a8)), (1, va_rf (some a0)), (0, va_rf (some x0))]) hl rfl (by decide) rfl dL_law_17 (fun ls hl => ?_)
  exact b_L_law_18 C hX hbA hB h1o FU hr _ (lv_sub hl [3, 2, 1, 0] rfl)
