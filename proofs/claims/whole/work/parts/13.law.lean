theorem k601_ : Cond.methodLink RL 17 yX6_work ∈ T0 := in_T0 601 (by decide +kernel) (by decide +kernel)
theorem k604_ : Cond.code yX6_work cX6_work 3 (some .int) ∈ T0 := in_T0 604 (by decide +kernel) (by decide +kernel)
theorem k602_ : Cond.instanceMethod yX6_work ∈ T0 := in_T0 602 (by decide +kernel) (by decide +kernel)
theorem k603_ : Cond.selects RX6 yX6_work yX6_work ∈ T0 := in_T0 603 (by decide +kernel) (by decide +kernel)
theorem k224_ : Cond.methodLink RL 13 yX5_work ∈ T0 := in_T0 224 (by decide +kernel) (by decide +kernel)
theorem k227_ : Cond.code yX5_work cX5_work 3 (some .int) ∈ T0 := in_T0 227 (by decide +kernel) (by decide +kernel)
theorem k225_ : Cond.instanceMethod yX5_work ∈ T0 := in_T0 225 (by decide +kernel) (by decide +kernel)
theorem k226_ : Cond.selects RX5 yX5_work yX5_work ∈ T0 := in_T0 226 (by decide +kernel) (by decide +kernel)
theorem k608_ : Cond.methodLink RL 22 yX6_user ∈ T0 := in_T0 608 (by decide +kernel) (by decide +kernel)
theorem k611_ : Cond.code yX6_user cX6_user 1 (some .int) ∈ T0 := in_T0 611 (by decide +kernel) (by decide +kernel)
theorem k609_ : Cond.instanceMethod yX6_user ∈ T0 := in_T0 609 (by decide +kernel) (by decide +kernel)
theorem k610_ : Cond.selects RX6 yX6_user yX6_user ∈ T0 := in_T0 610 (by decide +kernel) (by decide +kernel)
theorem k239_ : Cond.methodLink RL 18 yX5_user ∈ T0 := in_T0 239 (by decide +kernel) (by decide +kernel)
theorem k242_ : Cond.code yX5_user cX5_user 1 (some .int) ∈ T0 := in_T0 242 (by decide +kernel) (by decide +kernel)
theorem k240_ : Cond.instanceMethod yX5_user ∈ T0 := in_T0 240 (by decide +kernel) (by decide +kernel)
theorem k241_ : Cond.selects RX5 yX5_user yX5_user ∈ T0 := in_T0 241 (by decide +kernel) (by decide +kernel)
theorem k612_ : Cond.methodLink RL 27 yX6_change ∈ T0 := in_T0 612 (by decide +kernel) (by decide +kernel)
theorem k615_ : Cond.code yX6_change cX6_change 4 (some .boolean) ∈ T0 := in_T0 615 (by decide +kernel) (by decide +kernel)
theorem k613_ : Cond.instanceMethod yX6_change ∈ T0 := in_T0 613 (by decide +kernel) (by decide +kernel)
theorem k614_ : Cond.selects RX6 yX6_change yX6_change ∈ T0 := in_T0 614 (by decide +kernel) (by decide +kernel)
theorem k251_ : Cond.methodLink RL 23 yX5_change ∈ T0 := in_T0 251 (by decide +kernel) (by decide +kernel)
theorem k254_ : Cond.code yX5_change cX5_change 4 (some .boolean) ∈ T0 := in_T0 254 (by decide +kernel) (by decide +kernel)
theorem k252_ : Cond.instanceMethod yX5_change ∈ T0 := in_T0 252 (by decide +kernel) (by decide +kernel)
theorem k253_ : Cond.selects RX5 yX5_change yX5_change ∈ T0 := in_T0 253 (by decide +kernel) (by decide +kernel)
theorem k620_ : Cond.methodLink RL 31 yX6_use ∈ T0 := in_T0 620 (by decide +kernel) (by decide +kernel)
theorem k623_ : Cond.code yX6_use cX6_use 4 (some .boolean) ∈ T0 := in_T0 623 (by decide +kernel) (by decide +kernel)
theorem k621_ : Cond.instanceMethod yX6_use ∈ T0 := in_T0 621 (by decide +kernel) (by decide +kernel)
theorem k622_ : Cond.selects RX6 yX6_use yX6_use ∈ T0 := in_T0 622 (by decide +kernel) (by decide +kernel)
theorem k260_ : Cond.methodLink RL 28 yX5_use ∈ T0 := in_T0 260 (by decide +kernel) (by decide +kernel)
theorem k263_ : Cond.code yX5_use cX5_use 4 (some .boolean) ∈ T0 := in_T0 263 (by decide +kernel) (by decide +kernel)
theorem k261_ : Cond.instanceMethod yX5_use ∈ T0 := in_T0 261 (by decide +kernel) (by decide +kernel)
theorem k262_ : Cond.selects RX5 yX5_use yX5_use ∈ T0 := in_T0 262 (by decide +kernel) (by decide +kernel)
theorem k628_ : Cond.methodLink RL 35 yX6_feed ∈ T0 := in_T0 628 (by decide +kernel) (by decide +kernel)
theorem k631_ : Cond.code yX6_feed cX6_feed 4 (some .boolean) ∈ T0 := in_T0 631 (by decide +kernel) (by decide +kernel)
theorem k629_ : Cond.instanceMethod yX6_feed ∈ T0 := in_T0 629 (by decide +kernel) (by decide +kernel)
theorem k630_ : Cond.selects RX6 yX6_feed yX6_feed ∈ T0 := in_T0 630 (by decide +kernel) (by decide +kernel)
theorem k290_ : Cond.methodLink RL 32 yX5_feed ∈ T0 := in_T0 290 (by decide +kernel) (by decide +kernel)
theorem k293_ : Cond.code yX5_feed cX5_feed 4 (some .boolean) ∈ T0 := in_T0 293 (by decide +kernel) (by decide +kernel)
theorem k291_ : Cond.instanceMethod yX5_feed ∈ T0 := in_T0 291 (by decide +kernel) (by decide +kernel)
theorem k292_ : Cond.selects RX5 yX5_feed yX5_feed ∈ T0 := in_T0 292 (by decide +kernel) (by decide +kernel)
theorem k632_ : Cond.methodLink RL 40 yX6_set ∈ T0 := in_T0 632 (by decide +kernel) (by decide +kernel)
theorem k635_ : Cond.code yX6_set cX6_set 3 (some .boolean) ∈ T0 := in_T0 635 (by decide +kernel) (by decide +kernel)
theorem k633_ : Cond.instanceMethod yX6_set ∈ T0 := in_T0 633 (by decide +kernel) (by decide +kernel)
theorem k634_ : Cond.selects RX6 yX6_set yX6_set ∈ T0 := in_T0 634 (by decide +kernel) (by decide +kernel)
theorem k298_ : Cond.methodLink RL 36 yX5_set ∈ T0 := in_T0 298 (by decide +kernel) (by decide +kernel)
theorem k301_ : Cond.code yX5_set cX5_set 3 (some .boolean) ∈ T0 := in_T0 301 (by decide +kernel) (by decide +kernel)
theorem k299_ : Cond.instanceMethod yX5_set ∈ T0 := in_T0 299 (by decide +kernel) (by decide +kernel)
theorem k300_ : Cond.selects RX5 yX5_set yX5_set ∈ T0 := in_T0 300 (by decide +kernel) (by decide +kernel)
theorem k636_ : Cond.methodLink RL 44 yX6_mark ∈ T0 := in_T0 636 (by decide +kernel) (by decide +kernel)
theorem k639_ : Cond.code yX6_mark cX6_mark 5 (some .int) ∈ T0 := in_T0 639 (by decide +kernel) (by decide +kernel)
theorem k637_ : Cond.instanceMethod yX6_mark ∈ T0 := in_T0 637 (by decide +kernel) (by decide +kernel)
theorem k638_ : Cond.selects RX6 yX6_mark yX6_mark ∈ T0 := in_T0 638 (by decide +kernel) (by decide +kernel)
theorem k309_ : Cond.methodLink RL 41 yX5_mark ∈ T0 := in_T0 309 (by decide +kernel) (by decide +kernel)
theorem k312_ : Cond.code yX5_mark cX5_mark 5 (some .int) ∈ T0 := in_T0 312 (by decide +kernel) (by decide +kernel)
theorem k310_ : Cond.instanceMethod yX5_mark ∈ T0 := in_T0 310 (by decide +kernel) (by decide +kernel)
theorem k311_ : Cond.selects RX5 yX5_mark yX5_mark ∈ T0 := in_T0 311 (by decide +kernel) (by decide +kernel)
theorem k642_ : Cond.methodLink RL 48 yX6_needed ∈ T0 := in_T0 642 (by decide +kernel) (by decide +kernel)
theorem k645_ : Cond.code yX6_needed cX6_needed 1 (some .int) ∈ T0 := in_T0 645 (by decide +kernel) (by decide +kernel)
theorem k643_ : Cond.instanceMethod yX6_needed ∈ T0 := in_T0 643 (by decide +kernel) (by decide +kernel)
theorem k644_ : Cond.selects RX6 yX6_needed yX6_needed ∈ T0 := in_T0 644 (by decide +kernel) (by decide +kernel)
theorem k315_ : Cond.methodLink RL 45 yX5_needed ∈ T0 := in_T0 315 (by decide +kernel) (by decide +kernel)
theorem k318_ : Cond.code yX5_needed cX5_needed 1 (some .int) ∈ T0 := in_T0 318 (by decide +kernel) (by decide +kernel)
theorem k316_ : Cond.instanceMethod yX5_needed ∈ T0 := in_T0 316 (by decide +kernel) (by decide +kernel)
theorem k317_ : Cond.selects RX5 yX5_needed yX5_needed ∈ T0 := in_T0 317 (by decide +kernel) (by decide +kernel)
theorem k654_ : Cond.methodLink RL 52 yX6_idle ∈ T0 := in_T0 654 (by decide +kernel) (by decide +kernel)
theorem k657_ : Cond.code yX6_idle cX6_idle 8 (some .int) ∈ T0 := in_T0 657 (by decide +kernel) (by decide +kernel)
theorem k655_ : Cond.instanceMethod yX6_idle ∈ T0 := in_T0 655 (by decide +kernel) (by decide +kernel)
theorem k656_ : Cond.selects RX6 yX6_idle yX6_idle ∈ T0 := in_T0 656 (by decide +kernel) (by decide +kernel)
theorem k323_ : Cond.methodLink RL 49 yX5_idle ∈ T0 := in_T0 323 (by decide +kernel) (by decide +kernel)
theorem k326_ : Cond.code yX5_idle cX5_idle 1 (some .int) ∈ T0 := in_T0 326 (by decide +kernel) (by decide +kernel)
theorem k324_ : Cond.instanceMethod yX5_idle ∈ T0 := in_T0 324 (by decide +kernel) (by decide +kernel)
theorem k325_ : Cond.selects RX5 yX5_idle yX5_idle ∈ T0 := in_T0 325 (by decide +kernel) (by decide +kernel)
theorem k658_ : Cond.methodLink RL 57 yX6_total ∈ T0 := in_T0 658 (by decide +kernel) (by decide +kernel)
theorem k661_ : Cond.code yX6_total cX6_total 4 (some .int) ∈ T0 := in_T0 661 (by decide +kernel) (by decide +kernel)
theorem k659_ : Cond.instanceMethod yX6_total ∈ T0 := in_T0 659 (by decide +kernel) (by decide +kernel)
theorem k660_ : Cond.selects RX6 yX6_total yX6_total ∈ T0 := in_T0 660 (by decide +kernel) (by decide +kernel)
theorem k331_ : Cond.methodLink RL 53 yX5_total ∈ T0 := in_T0 331 (by decide +kernel) (by decide +kernel)
theorem k334_ : Cond.code yX5_total cX5_total 2 (some .int) ∈ T0 := in_T0 334 (by decide +kernel) (by decide +kernel)
theorem k332_ : Cond.instanceMethod yX5_total ∈ T0 := in_T0 332 (by decide +kernel) (by decide +kernel)
theorem k333_ : Cond.selects RX5 yX5_total yX5_total ∈ T0 := in_T0 333 (by decide +kernel) (by decide +kernel)
theorem k666_ : Cond.methodLink RL 61 yX6_cost ∈ T0 := in_T0 666 (by decide +kernel) (by decide +kernel)
theorem k669_ : Cond.code yX6_cost cX6_cost 2 (some .int) ∈ T0 := in_T0 669 (by decide +kernel) (by decide +kernel)
theorem k667_ : Cond.instanceMethod yX6_cost ∈ T0 := in_T0 667 (by decide +kernel) (by decide +kernel)
theorem k668_ : Cond.selects RX6 yX6_cost yX6_cost ∈ T0 := in_T0 668 (by decide +kernel) (by decide +kernel)
theorem k344_ : Cond.methodLink RL 58 yX5_cost ∈ T0 := in_T0 344 (by decide +kernel) (by decide +kernel)
theorem k347_ : Cond.code yX5_cost cX5_cost 2 (some .int) ∈ T0 := in_T0 347 (by decide +kernel) (by decide +kernel)
theorem k345_ : Cond.instanceMethod yX5_cost ∈ T0 := in_T0 345 (by decide +kernel) (by decide +kernel)
theorem k346_ : Cond.selects RX5 yX5_cost yX5_cost ∈ T0 := in_T0 346 (by decide +kernel) (by decide +kernel)
theorem k678_ : Cond.methodLink RL 66 yX6_price ∈ T0 := in_T0 678 (by decide +kernel) (by decide +kernel)
theorem k681_ : Cond.code yX6_price cX6_price 3 (some .long) ∈ T0 := in_T0 681 (by decide +kernel) (by decide +kernel)
theorem k679_ : Cond.instanceMethod yX6_price ∈ T0 := in_T0 679 (by decide +kernel) (by decide +kernel)
theorem k680_ : Cond.selects RX6 yX6_price yX6_price ∈ T0 := in_T0 680 (by decide +kernel) (by decide +kernel)
theorem k362_ : Cond.methodLink RL 62 yX5_price ∈ T0 := in_T0 362 (by decide +kernel) (by decide +kernel)
theorem k365_ : Cond.code yX5_price cX5_price 3 (some .long) ∈ T0 := in_T0 365 (by decide +kernel) (by decide +kernel)
theorem k363_ : Cond.instanceMethod yX5_price ∈ T0 := in_T0 363 (by decide +kernel) (by decide +kernel)
theorem k364_ : Cond.selects RX5 yX5_price yX5_price ∈ T0 := in_T0 364 (by decide +kernel) (by decide +kernel)
theorem k698_ : Cond.methodLink RL 71 yX6_bill ∈ T0 := in_T0 698 (by decide +kernel) (by decide +kernel)
theorem k701_ : Cond.code yX6_bill cX6_bill 4 (some .long) ∈ T0 := in_T0 701 (by decide +kernel) (by decide +kernel)
theorem k699_ : Cond.instanceMethod yX6_bill ∈ T0 := in_T0 699 (by decide +kernel) (by decide +kernel)
theorem k700_ : Cond.selects RX6 yX6_bill yX6_bill ∈ T0 := in_T0 700 (by decide +kernel) (by decide +kernel)
theorem k412_ : Cond.methodLink RL 67 yX5_bill ∈ T0 := in_T0 412 (by decide +kernel) (by decide +kernel)
theorem k415_ : Cond.code yX5_bill cX5_bill 6 (some .long) ∈ T0 := in_T0 415 (by decide +kernel) (by decide +kernel)
theorem k413_ : Cond.instanceMethod yX5_bill ∈ T0 := in_T0 413 (by decide +kernel) (by decide +kernel)
theorem k414_ : Cond.selects RX5 yX5_bill yX5_bill ∈ T0 := in_T0 414 (by decide +kernel) (by decide +kernel)
theorem k717_ : Cond.methodLink RL 75 yX6_coins ∈ T0 := in_T0 717 (by decide +kernel) (by decide +kernel)
theorem k720_ : Cond.code yX6_coins cX6_coins 3 (some .int) ∈ T0 := in_T0 720 (by decide +kernel) (by decide +kernel)
theorem k718_ : Cond.instanceMethod yX6_coins ∈ T0 := in_T0 718 (by decide +kernel) (by decide +kernel)
theorem k719_ : Cond.selects RX6 yX6_coins yX6_coins ∈ T0 := in_T0 719 (by decide +kernel) (by decide +kernel)
theorem k444_ : Cond.methodLink RL 72 yX5_coins ∈ T0 := in_T0 444 (by decide +kernel) (by decide +kernel)
theorem k447_ : Cond.code yX5_coins cX5_coins 3 (some .int) ∈ T0 := in_T0 447 (by decide +kernel) (by decide +kernel)
theorem k445_ : Cond.instanceMethod yX5_coins ∈ T0 := in_T0 445 (by decide +kernel) (by decide +kernel)
theorem k446_ : Cond.selects RX5 yX5_coins yX5_coins ∈ T0 := in_T0 446 (by decide +kernel) (by decide +kernel)
theorem k726_ : Cond.methodLink RL 79 yX6_leaving ∈ T0 := in_T0 726 (by decide +kernel) (by decide +kernel)
theorem k729_ : Cond.code yX6_leaving cX6_leaving 6 (some .int) ∈ T0 := in_T0 729 (by decide +kernel) (by decide +kernel)
theorem k727_ : Cond.instanceMethod yX6_leaving ∈ T0 := in_T0 727 (by decide +kernel) (by decide +kernel)
theorem k728_ : Cond.selects RX6 yX6_leaving yX6_leaving ∈ T0 := in_T0 728 (by decide +kernel) (by decide +kernel)
theorem k462_ : Cond.methodLink RL 76 yX5_leaving ∈ T0 := in_T0 462 (by decide +kernel) (by decide +kernel)
theorem k465_ : Cond.code yX5_leaving cX5_leaving 4 (some .int) ∈ T0 := in_T0 465 (by decide +kernel) (by decide +kernel)
theorem k463_ : Cond.instanceMethod yX5_leaving ∈ T0 := in_T0 463 (by decide +kernel) (by decide +kernel)
theorem k464_ : Cond.selects RX5 yX5_leaving yX5_leaving ∈ T0 := in_T0 464 (by decide +kernel) (by decide +kernel)
theorem k730_ : Cond.methodLink RL 83 yX6_saved ∈ T0 := in_T0 730 (by decide +kernel) (by decide +kernel)
theorem k733_ : Cond.code yX6_saved cX6_saved 2 (some .int) ∈ T0 := in_T0 733 (by decide +kernel) (by decide +kernel)
theorem k731_ : Cond.instanceMethod yX6_saved ∈ T0 := in_T0 731 (by decide +kernel) (by decide +kernel)
theorem k732_ : Cond.selects RX6 yX6_saved yX6_saved ∈ T0 := in_T0 732 (by decide +kernel) (by decide +kernel)
theorem k470_ : Cond.methodLink RL 80 yX5_saved ∈ T0 := in_T0 470 (by decide +kernel) (by decide +kernel)
theorem k473_ : Cond.code yX5_saved cX5_saved 2 (some .int) ∈ T0 := in_T0 473 (by decide +kernel) (by decide +kernel)
theorem k471_ : Cond.instanceMethod yX5_saved ∈ T0 := in_T0 471 (by decide +kernel) (by decide +kernel)
theorem k472_ : Cond.selects RX5 yX5_saved yX5_saved ∈ T0 := in_T0 472 (by decide +kernel) (by decide +kernel)
theorem k734_ : Cond.methodLink RL 87 yX6_differ ∈ T0 := in_T0 734 (by decide +kernel) (by decide +kernel)
theorem k737_ : Cond.code yX6_differ cX6_differ 6 (some .int) ∈ T0 := in_T0 737 (by decide +kernel) (by decide +kernel)
theorem k735_ : Cond.instanceMethod yX6_differ ∈ T0 := in_T0 735 (by decide +kernel) (by decide +kernel)
theorem k736_ : Cond.selects RX6 yX6_differ yX6_differ ∈ T0 := in_T0 736 (by decide +kernel) (by decide +kernel)
theorem k474_ : Cond.methodLink RL 84 yX5_differ ∈ T0 := in_T0 474 (by decide +kernel) (by decide +kernel)
theorem k477_ : Cond.code yX5_differ cX5_differ 5 (some .int) ∈ T0 := in_T0 477 (by decide +kernel) (by decide +kernel)
theorem k475_ : Cond.instanceMethod yX5_differ ∈ T0 := in_T0 475 (by decide +kernel) (by decide +kernel)
theorem k476_ : Cond.selects RX5 yX5_differ yX5_differ ∈ T0 := in_T0 476 (by decide +kernel) (by decide +kernel)
theorem k746_ : Cond.methodLink RL 91 yX6_book ∈ T0 := in_T0 746 (by decide +kernel) (by decide +kernel)
theorem k749_ : Cond.code yX6_book cX6_book 4 (some .int) ∈ T0 := in_T0 749 (by decide +kernel) (by decide +kernel)
theorem k747_ : Cond.instanceMethod yX6_book ∈ T0 := in_T0 747 (by decide +kernel) (by decide +kernel)
theorem k748_ : Cond.selects RX6 yX6_book yX6_book ∈ T0 := in_T0 748 (by decide +kernel) (by decide +kernel)
theorem k481_ : Cond.methodLink RL 88 yX5_book ∈ T0 := in_T0 481 (by decide +kernel) (by decide +kernel)
theorem k484_ : Cond.code yX5_book cX5_book 3 (some .int) ∈ T0 := in_T0 484 (by decide +kernel) (by decide +kernel)
theorem k482_ : Cond.instanceMethod yX5_book ∈ T0 := in_T0 482 (by decide +kernel) (by decide +kernel)
theorem k483_ : Cond.selects RX5 yX5_book yX5_book ∈ T0 := in_T0 483 (by decide +kernel) (by decide +kernel)
theorem k750_ : Cond.methodLink RL 95 yX6_booked ∈ T0 := in_T0 750 (by decide +kernel) (by decide +kernel)
theorem k753_ : Cond.code yX6_booked cX6_booked 2 (some .int) ∈ T0 := in_T0 753 (by decide +kernel) (by decide +kernel)
theorem k751_ : Cond.instanceMethod yX6_booked ∈ T0 := in_T0 751 (by decide +kernel) (by decide +kernel)
theorem k752_ : Cond.selects RX6 yX6_booked yX6_booked ∈ T0 := in_T0 752 (by decide +kernel) (by decide +kernel)
theorem k493_ : Cond.methodLink RL 92 yX5_booked ∈ T0 := in_T0 493 (by decide +kernel) (by decide +kernel)
theorem k496_ : Cond.code yX5_booked cX5_booked 2 (some .int) ∈ T0 := in_T0 496 (by decide +kernel) (by decide +kernel)
theorem k494_ : Cond.instanceMethod yX5_booked ∈ T0 := in_T0 494 (by decide +kernel) (by decide +kernel)
theorem k495_ : Cond.selects RX5 yX5_booked yX5_booked ∈ T0 := in_T0 495 (by decide +kernel) (by decide +kernel)
theorem k754_ : Cond.methodLink RL 99 yX6_line ∈ T0 := in_T0 754 (by decide +kernel) (by decide +kernel)
theorem k757_ : Cond.code yX6_line cX6_line 3 (some .int) ∈ T0 := in_T0 757 (by decide +kernel) (by decide +kernel)
theorem k755_ : Cond.instanceMethod yX6_line ∈ T0 := in_T0 755 (by decide +kernel) (by decide +kernel)
theorem k756_ : Cond.selects RX6 yX6_line yX6_line ∈ T0 := in_T0 756 (by decide +kernel) (by decide +kernel)
theorem k497_ : Cond.methodLink RL 96 yX5_line ∈ T0 := in_T0 497 (by decide +kernel) (by decide +kernel)
theorem k500_ : Cond.code yX5_line cX5_line 3 (some .int) ∈ T0 := in_T0 500 (by decide +kernel) (by decide +kernel)
theorem k498_ : Cond.instanceMethod yX5_line ∈ T0 := in_T0 498 (by decide +kernel) (by decide +kernel)
theorem k499_ : Cond.selects RX5 yX5_line yX5_line ∈ T0 := in_T0 499 (by decide +kernel) (by decide +kernel)
theorem k758_ : Cond.methodLink RL 103 yX6_count ∈ T0 := in_T0 758 (by decide +kernel) (by decide +kernel)
theorem k761_ : Cond.code yX6_count cX6_count 4 (some .int) ∈ T0 := in_T0 761 (by decide +kernel) (by decide +kernel)
theorem k759_ : Cond.instanceMethod yX6_count ∈ T0 := in_T0 759 (by decide +kernel) (by decide +kernel)
theorem k760_ : Cond.selects RX6 yX6_count yX6_count ∈ T0 := in_T0 760 (by decide +kernel) (by decide +kernel)
theorem k501_ : Cond.methodLink RL 100 yX5_count ∈ T0 := in_T0 501 (by decide +kernel) (by decide +kernel)
theorem k504_ : Cond.code yX5_count cX5_count 2 (some .int) ∈ T0 := in_T0 504 (by decide +kernel) (by decide +kernel)
theorem k502_ : Cond.instanceMethod yX5_count ∈ T0 := in_T0 502 (by decide +kernel) (by decide +kernel)
theorem k503_ : Cond.selects RX5 yX5_count yX5_count ∈ T0 := in_T0 503 (by decide +kernel) (by decide +kernel)
/-! ===== the law: its loop, as a predicate over the script, and the walk ===== -/
def wB_law (L : Nat) (xs : Nat → Int32) (rec : Int32 → St → Prop) (v3 : Int32) (S : St) : Prop :=
  (((Int32.ofNat L) - (4 : Int32)) < v3 → True) ∧ (¬ (((Int32.ofNat L) - (4 : Int32)) < v3) → (vp_in v3 L) ∧ ((((xs v3.toNatClampNeg) &&& (31 : Int32)).toInt < 0 ∨ 20 < ((xs v3.toNatClampNeg) &&& (31 : Int32)).toInt → rec (v3 + 4) S) ∧ (((xs v3.toNatClampNeg) &&& (31 : Int32)).toInt = 0 → (vp_in (v3 + (1 : Int32)) L) ∧ ((vp_in (v3 + (2 : Int32)) L) ∧ (wp_X5_work S (xs (v3 + (1 : Int32)).toNatClampNeg) (xs (v3 + (2 : Int32)).toNatClampNeg) (fun (r5 : Int32) (S4 : St) => (vp_in (v3 + (1 : Int32)) L) ∧ ((vp_in (v3 + (2 : Int32)) L) ∧ (wp_X6_work S4 (xs (v3 + (1 : Int32)).toNatClampNeg) (xs (v3 + (2 : Int32)).toNatClampNeg) (fun (r9 : Int32) (S8 : St) => (r5 = r9 → rec (v3 + 4) S8) ∧ (¬ (r5 = r9) → False)))))))) ∧ (((xs v3.toNatClampNeg) &&& (31 : Int32)).toInt = 1 → wp_X5_user S (fun (r11 : Int32) (S10 : St) => wp_X6_user S10 (fun (r13 : Int32) (S12 : St) => (r11 = r13 → rec (v3 + 4) S12) ∧ (¬ (r11 = r13) → False)))) ∧ (((xs v3.toNatClampNeg) &&& (31 : Int32)).toInt = 2 → (vp_in (v3 + (1 : Int32)) L) ∧ ((vp_in (v3 + (2 : Int32)) L) ∧ ((vp_in (v3 + (3 : Int32)) L) ∧ (wp_X5_change S (xs (v3 + (1 : Int32)).toNatClampNeg) (xs (v3 + (2 : Int32)).toNatClampNeg) (xs (v3 + (3 : Int32)).toNatClampNeg) (fun (r18 : Int32) (S17 : St) => (vp_in (v3 + (1 : Int32)) L) ∧ ((vp_in (v3 + (2 : Int32)) L) ∧ ((vp_in (v3 + (3 : Int32)) L) ∧ (wp_X6_change S17 (xs (v3 + (1 : Int32)).toNatClampNeg) (xs (v3 + (2 : Int32)).toNatClampNeg) (xs (v3 + (3 : Int32)).toNatClampNeg) (fun (r23 : Int32) (S22 : St) => (r18 = r23 → rec (v3 + 4) S22) ∧ (¬ (r18 = r23) → False)))))))))) ∧ (((xs v3.toNatClampNeg) &&& (31 : Int32)).toInt = 3 → (vp_in (v3 + (1 : Int32)) L) ∧ ((vp_in (v3 + (2 : Int32)) L) ∧ ((vp_in (v3 + (3 : Int32)) L) ∧ (wp_X5_use S (xs (v3 + (1 : Int32)).toNatClampNeg) (xs (v3 + (2 : Int32)).toNatClampNeg) (xs (v3 + (3 : Int32)).toNatClampNeg) (fun (r28 : Int32) (S27 : St) => (vp_in (v3 + (1 : Int32)) L) ∧ ((vp_in (v3 + (2 : Int32)) L) ∧ ((vp_in (v3 + (3 : Int32)) L) ∧ (wp_X6_use S27 (xs (v3 + (1 : Int32)).toNatClampNeg) (xs (v3 + (2 : Int32)).toNatClampNeg) (xs (v3 + (3 : Int32)).toNatClampNeg) (fun (r33 : Int32) (S32 : St) => (r28 = r33 → rec (v3 + 4) S32) ∧ (¬ (r28 = r33) → False)))))))))) ∧ (((xs v3.toNatClampNeg) &&& (31 : Int32)).toInt = 4 → (vp_in (v3 + (1 : Int32)) L) ∧ ((vp_in (v3 + (2 : Int32)) L) ∧ ((vp_in (v3 + (3 : Int32)) L) ∧ (wp_X5_feed S (xs (v3 + (1 : Int32)).toNatClampNeg) (xs (v3 + (2 : Int32)).toNatClampNeg) (xs (v3 + (3 : Int32)).toNatClampNeg) (fun (r38 : Int32) (S37 : St) => (vp_in (v3 + (1 : Int32)) L) ∧ ((vp_in (v3 + (2 : Int32)) L) ∧ ((vp_in (v3 + (3 : Int32)) L) ∧ (wp_X6_feed S37 (xs (v3 + (1 : Int32)).toNatClampNeg) (xs (v3 + (2 : Int32)).toNatClampNeg) (xs (v3 + (3 : Int32)).toNatClampNeg) (fun (r43 : Int32) (S42 : St) => (r38 = r43 → rec (v3 + 4) S42) ∧ (¬ (r38 = r43) → False)))))))))) ∧ (((xs v3.toNatClampNeg) &&& (31 : Int32)).toInt = 5 → (vp_in (v3 + (1 : Int32)) L) ∧ ((vp_in (v3 + (2 : Int32)) L) ∧ (((xs (v3 + (2 : Int32)).toNatClampNeg) = 0 → wp_X5_set S (xs (v3 + (1 : Int32)).toNatClampNeg) (0 : Int32) (fun (r47 : Int32) (S46 : St) => (vp_in (v3 + (1 : Int32)) L) ∧ ((vp_in (v3 + (2 : Int32)) L) ∧ (((xs (v3 + (2 : Int32)).toNatClampNeg) = 0 → wp_X6_set S46 (xs (v3 + (1 : Int32)).toNatClampNeg) (0 : Int32) (fun (r51 : Int32) (S50 : St) => (r47 = r51 → rec (v3 + 4) S50) ∧ (¬ (r47 = r51) → False))) ∧ (¬ ((xs (v3 + (2 : Int32)).toNatClampNeg) = 0) → wp_X6_set S46 (xs (v3 + (1 : Int32)).toNatClampNeg) (1 : Int32) (fun (r53 : Int32) (S52 : St) => (r47 = r53 → rec (v3 + 4) S52) ∧ (¬ (r47 = r53) → False))))))) ∧ (¬ ((xs (v3 + (2 : Int32)).toNatClampNeg) = 0) → wp_X5_set S (xs (v3 + (1 : Int32)).toNatClampNeg) (1 : Int32) (fun (r55 : Int32) (S54 : St) => (vp_in (v3 + (1 : Int32)) L) ∧ ((vp_in (v3 + (2 : Int32)) L) ∧ (((xs (v3 + (2 : Int32)).toNatClampNeg) = 0 → wp_X6_set S54 (xs (v3 + (1 : Int32)).toNatClampNeg) (0 : Int32) (fun (r59 : Int32) (S58 : St) => (r55 = r59 → rec (v3 + 4) S58) ∧ (¬ (r55 = r59) → False))) ∧ (¬ ((xs (v3 + (2 : Int32)).toNatClampNeg) = 0) → wp_X6_set S54 (xs (v3 + (1 : Int32)).toNatClampNeg) (1 : Int32) (fun (r61 : Int32) (S60 : St) => (r55 = r61 → rec (v3 + 4) S60) ∧ (¬ (r55 = r61) → False)))))))))) ∧ (((xs v3.toNatClampNeg) &&& (31 : Int32)).toInt = 6 → (vp_in (v3 + (1 : Int32)) L) ∧ ((vp_in (v3 + (2 : Int32)) L) ∧ (wp_X5_mark S (xs (v3 + (1 : Int32)).toNatClampNeg) (xs (v3 + (2 : Int32)).toNatClampNeg) (fun (r65 : Int32) (S64 : St) => (vp_in (v3 + (1 : Int32)) L) ∧ ((vp_in (v3 + (2 : Int32)) L) ∧ (wp_X6_mark S64 (xs (v3 + (1 : Int32)).toNatClampNeg) (xs (v3 + (2 : Int32)).toNatClampNeg) (fun (r69 : Int32) (S68 : St) => (r65 = r69 → rec (v3 + 4) S68) ∧ (¬ (r65 = r69) → False)))))))) ∧ (((xs v3.toNatClampNeg) &&& (31 : Int32)).toInt = 7 → wp_X5_needed S (fun (r71 : Int32) (S70 : St) => wp_X6_needed S70 (fun (r73 : Int32) (S72 : St) => (r71 = r73 → rec (v3 + 4) S72) ∧ (¬ (r71 = r73) → False)))) ∧ (((xs v3.toNatClampNeg) &&& (31 : Int32)).toInt = 8 → wp_X5_idle S (fun (r75 : Int32) (S74 : St) => wp_X6_idle S74 (fun (r77 : Int32) (S76 : St) => (r75 = r77 → rec (v3 + 4) S76) ∧ (¬ (r75 = r77) → False)))) ∧ (((xs v3.toNatClampNeg) &&& (31 : Int32)).toInt = 9 → (vp_in (v3 + (1 : Int32)) L) ∧ (wp_X5_total S (xs (v3 + (1 : Int32)).toNatClampNeg) (fun (r80 : Int32) (S79 : St) => (vp_in (v3 + (1 : Int32)) L) ∧ (wp_X6_total S79 (xs (v3 + (1 : Int32)).toNatClampNeg) (fun (r83 : Int32) (S82 : St) => (r80 = r83 → rec (v3 + 4) S82) ∧ (¬ (r80 = r83) → False)))))) ∧ (((xs v3.toNatClampNeg) &&& (31 : Int32)).toInt = 10 → (vp_in (v3 + (1 : Int32)) L) ∧ (wp_X5_cost S (xs (v3 + (1 : Int32)).toNatClampNeg) (fun (r86 : Int32) (S85 : St) => (vp_in (v3 + (1 : Int32)) L) ∧ (wp_X6_cost S85 (xs (v3 + (1 : Int32)).toNatClampNeg) (fun (r89 : Int32) (S88 : St) => (r86 = r89 → rec (v3 + 4) S88) ∧ (¬ (r86 = r89) → False)))))) ∧ (((xs v3.toNatClampNeg) &&& (31 : Int32)).toInt = 11 → (vp_in (v3 + (1 : Int32)) L) ∧ ((vp_in (v3 + (2 : Int32)) L) ∧ (wp_X5_price S (xs (v3 + (1 : Int32)).toNatClampNeg) (xs (v3 + (2 : Int32)).toNatClampNeg) (fun (r93 : Int64) (S92 : St) => (vp_in (v3 + (1 : Int32)) L) ∧ ((vp_in (v3 + (2 : Int32)) L) ∧ (wp_X6_price S92 (xs (v3 + (1 : Int32)).toNatClampNeg) (xs (v3 + (2 : Int32)).toNatClampNeg) (fun (r97 : Int64) (S96 : St) => (r93 = r97 → rec (v3 + 4) S96) ∧ (¬ (r93 = r97) → False)))))))) ∧ (((xs v3.toNatClampNeg) &&& (31 : Int32)).toInt = 12 → (vp_in (v3 + (1 : Int32)) L) ∧ ((vp_in (v3 + (2 : Int32)) L) ∧ ((vp_in (v3 + (3 : Int32)) L) ∧ (wp_X5_bill S (xs (v3 + (1 : Int32)).toNatClampNeg) (xs (v3 + (2 : Int32)).toNatClampNeg) (xs (v3 + (3 : Int32)).toNatClampNeg) (fun (r102 : Int64) (S101 : St) => (vp_in (v3 + (1 : Int32)) L) ∧ ((vp_in (v3 + (2 : Int32)) L) ∧ ((vp_in (v3 + (3 : Int32)) L) ∧ (wp_X6_bill S101 (xs (v3 + (1 : Int32)).toNatClampNeg) (xs (v3 + (2 : Int32)).toNatClampNeg) (xs (v3 + (3 : Int32)).toNatClampNeg) (fun (r107 : Int64) (S106 : St) => (r102 = r107 → rec (v3 + 4) S106) ∧ (¬ (r102 = r107) → False)))))))))) ∧ (((xs v3.toNatClampNeg) &&& (31 : Int32)).toInt = 13 → (vp_in (v3 + (1 : Int32)) L) ∧ ((vp_in (v3 + (2 : Int32)) L) ∧ (wp_X5_coins S (xs (v3 + (1 : Int32)).toNatClampNeg) (xs (v3 + (2 : Int32)).toNatClampNeg) (fun (r111 : Int32) (S110 : St) => (vp_in (v3 + (1 : Int32)) L) ∧ ((vp_in (v3 + (2 : Int32)) L) ∧ (wp_X6_coins S110 (xs (v3 + (1 : Int32)).toNatClampNeg) (xs (v3 + (2 : Int32)).toNatClampNeg) (fun (r115 : Int32) (S114 : St) => (r111 = r115 → rec (v3 + 4) S114) ∧ (¬ (r111 = r115) → False)))))))) ∧ (((xs v3.toNatClampNeg) &&& (31 : Int32)).toInt = 14 → (vp_in (v3 + (1 : Int32)) L) ∧ (wp_X5_leaving S (xs (v3 + (1 : Int32)).toNatClampNeg) (fun (r118 : Int32) (S117 : St) => (vp_in (v3 + (1 : Int32)) L) ∧ (wp_X6_leaving S117 (xs (v3 + (1 : Int32)).toNatClampNeg) (fun (r121 : Int32) (S120 : St) => (r118 = r121 → rec (v3 + 4) S120) ∧ (¬ (r118 = r121) → False)))))) ∧ (((xs v3.toNatClampNeg) &&& (31 : Int32)).toInt = 15 → (vp_in (v3 + (1 : Int32)) L) ∧ (wp_X5_saved S (xs (v3 + (1 : Int32)).toNatClampNeg) (fun (r124 : Int32) (S123 : St) => (vp_in (v3 + (1 : Int32)) L) ∧ (wp_X6_saved S123 (xs (v3 + (1 : Int32)).toNatClampNeg) (fun (r127 : Int32) (S126 : St) => (r124 = r127 → rec (v3 + 4) S126) ∧ (¬ (r124 = r127) → False)))))) ∧ (((xs v3.toNatClampNeg) &&& (31 : Int32)).toInt = 16 → (vp_in (v3 + (1 : Int32)) L) ∧ ((vp_in (v3 + (2 : Int32)) L) ∧ (wp_X5_differ S (xs (v3 + (1 : Int32)).toNatClampNeg) (xs (v3 + (2 : Int32)).toNatClampNeg) (fun (r131 : Int32) (S130 : St) => (vp_in (v3 + (1 : Int32)) L) ∧ ((vp_in (v3 + (2 : Int32)) L) ∧ (wp_X6_differ S130 (xs (v3 + (1 : Int32)).toNatClampNeg) (xs (v3 + (2 : Int32)).toNatClampNeg) (fun (r135 : Int32) (S134 : St) => (r131 = r135 → rec (v3 + 4) S134) ∧ (¬ (r131 = r135) → False)))))))) ∧ (((xs v3.toNatClampNeg) &&& (31 : Int32)).toInt = 17 → (vp_in (v3 + (1 : Int32)) L) ∧ (wp_X5_book S (xs (v3 + (1 : Int32)).toNatClampNeg) (fun (r138 : Int32) (S137 : St) => (vp_in (v3 + (1 : Int32)) L) ∧ (wp_X6_book S137 (xs (v3 + (1 : Int32)).toNatClampNeg) (fun (r141 : Int32) (S140 : St) => (r138 = r141 → rec (v3 + 4) S140) ∧ (¬ (r138 = r141) → False)))))) ∧ (((xs v3.toNatClampNeg) &&& (31 : Int32)).toInt = 18 → (vp_in (v3 + (1 : Int32)) L) ∧ (wp_X5_booked S (xs (v3 + (1 : Int32)).toNatClampNeg) (fun (r144 : Int32) (S143 : St) => (vp_in (v3 + (1 : Int32)) L) ∧ (wp_X6_booked S143 (xs (v3 + (1 : Int32)).toNatClampNeg) (fun (r147 : Int32) (S146 : St) => (r144 = r147 → rec (v3 + 4) S146) ∧ (¬ (r144 = r147) → False)))))) ∧ (((xs v3.toNatClampNeg) &&& (31 : Int32)).toInt = 19 → (vp_in (v3 + (1 : Int32)) L) ∧ ((vp_in (v3 + (2 : Int32)) L) ∧ (wp_X5_line S (xs (v3 + (1 : Int32)).toNatClampNeg) (xs (v3 + (2 : Int32)).toNatClampNeg) (fun (r151 : Int32) (S150 : St) => (vp_in (v3 + (1 : Int32)) L) ∧ ((vp_in (v3 + (2 : Int32)) L) ∧ (wp_X6_line S150 (xs (v3 + (1 : Int32)).toNatClampNeg) (xs (v3 + (2 : Int32)).toNatClampNeg) (fun (r155 : Int32) (S154 : St) => (r151 = r155 → rec (v3 + 4) S154) ∧ (¬ (r151 = r155) → False)))))))) ∧ (((xs v3.toNatClampNeg) &&& (31 : Int32)).toInt = 20 → (vp_in (v3 + (1 : Int32)) L) ∧ (wp_X5_count S (xs (v3 + (1 : Int32)).toNatClampNeg) (fun (r158 : Int32) (S157 : St) => (vp_in (v3 + (1 : Int32)) L) ∧ (wp_X6_count S157 (xs (v3 + (1 : Int32)).toNatClampNeg) (fun (r161 : Int32) (S160 : St) => (r158 = r161 → rec (v3 + 4) S160) ∧ (¬ (r158 = r161) → False))))))))
def wL_law (L : Nat) (xs : Nat → Int32) : Nat → Int32 → St → Prop
  | 0, _, _ => False
  | n + 1, v3, S => wB_law L xs (wL_law L xs n) v3 S
section GS
variable {p : Program} {l : Launch} {e : Env} {R : Room} {s : State} {m : MethodId} {args : Array Value} {below : List Frame} {meth : Method} {c : Code} {cc : ByteArray} {ret : Option FieldType} {own : String} {D : va_G} {cA : Nat → ClassId} {ad : Nat → Nat} {L0 : List Lay} {nL cells slots : Nat} {Q : State → Prop} {S : St} {lv : List (Nat × Value)} {st : List Value} {b L : Nat} {xs : Nat → Int32}
theorem go_sld (C : Cx p s m args meth c cc nL ret own D cA ad L0) (pc pc2 : Nat) (hX : va_X b L xs s s.heap) (hbl : b < s.heap.size) (hbA : ¬ wA ad L0 s.heap.size b) {i : Int32} (hi : vp_in i L) (hd : decode cc pc = .ok (.iaload, 1)) (hp : pc + 1 = pc2) (k : Go p l e R s m args below meth c D cA ad L0 nL cells slots Q S pc2 lv (.int (xs i.toNatClampNeg) :: st)) : Go p l e R s m args below meth c D cA ad L0 nL cells slots Q S pc lv (.int i :: .ref b :: st) := by
  subst hp
  exact fun H locs ls hP hS hl => va_sld C.1 C.2.1 hX hbl hbA hS hi hd (k H locs ls hP hS hl)
theorem go_slen (C : Cx p s m args meth c cc nL ret own D cA ad L0) (pc pc2 : Nat) (hX : va_X b L xs s s.heap) (hbl : b < s.heap.size) (hbA : ¬ wA ad L0 s.heap.size b) (hd : decode cc pc = .ok (.arraylength, 1)) (hp : pc + 1 = pc2) (k : Go p l e R s m args below meth c D cA ad L0 nL cells slots Q S pc2 lv (.int (Int32.ofNat L) :: st)) : Go p l e R s m args below meth c D cA ad L0 nL cells slots Q S pc lv (.ref b :: st) := by
  subst hp
  exact fun H locs ls hP hS hl => va_slen C.1 C.2.1 hX hbl hbA hS hd (k H locs ls hP hS hl)
end GS
set_option maxHeartbeats 4000000 in
set_option maxRecDepth 100000 in
theorem L_law {p : Program} {l : Launch} {e : Env} {s : State} {m : MethodId} {below : List Frame} {meth : Method} {c : Code} {D : va_G} {cA : Nat → ClassId} {ad : Nat → Nat} {ex : List Lay} {Q : State → Prop} {b L : Nat} {xs : Nat → Int32} (C : Cx p s m #[Value.ref b] meth c code 4 ret RL D cA ad (LU ++ ex)) (hX : va_X b L xs s s.heap) (hbl : b < s.heap.size) (hbA : ¬ wA ad (LU ++ ex) s.heap.size b)
    (hend : ∀ (cc ss : Nat) (S : St) (lv : List (Nat × Value)), cc ≤ 600000 → ss ≤ 7302250 → Go p l e room_1 s m #[Value.ref b] below meth c D cA ad (LU ++ ex) 4 cc ss Q S 760 lv (.int 1 :: [])) :
    ∀ (n cc ss : Nat), cc + 3 * n ≤ 600000 → ss + 24 * n ≤ 7302250 → ∀ (v3 : Int32) (S : St), wL_law L xs n v3 S → Go p l e room_1 s m #[Value.ref b] below meth c D cA ad (LU ++ ex) 4 cc ss Q S 18 [(0, .ref b), (1, .ref (ad 0)), (2, .ref (ad 25)), (3, .int v3)] [] := by
  intro n
  induction n with
  | zero => intro cc ss _ _ v3 S h; exact h.elim
  | succ n ih =>
    intro cc ss hcc hss v3 S h
    replace h : wB_law L xs (wL_law L xs n) v3 S := h
    unfold wB_law at h
    refine go_iload_n C 18 19 3 3 dL_law_18 rfl rfl rfl ?_
    refine go_aload_n C 19 20 0 0 dL_law_19 rfl rfl rfl ?_
    refine go_slen C 20 21 hX hbl hbA dL_law_20 rfl ?_
    refine go_iconst C 21 22 (4) dL_law_21 (by decide) rfl ?_
    refine go_isub C 22 23 dL_law_22 rfl ?_
    refine go_icmp_gt C 23 26 759 dL_law_23 (by decide) rfl (fun hc => ?_) (fun hc => ?_)
    · have h := h.1 hc
      refine go_iconst C 759 760 (1) dL_law_759 (by decide) rfl ?_
      exact hend _ _ _ _ (by omega) (by omega)
    · have h := h.2 hc
      refine go_aload_n C 26 27 0 0 dL_law_26 rfl rfl rfl ?_
      refine go_iload_n C 27 28 3 3 dL_law_27 rfl rfl rfl ?_
      obtain ⟨hi1, h⟩ := h
      refine go_sld C 28 29 hX hbl hbA hi1 dL_law_28 rfl ?_
      refine go_bipush C 29 31 (31) dL_law_29 (by decide) rfl ?_
      refine go_iand C 31 32 dL_law_31 rfl ?_
      by_cases hlo : ((xs v3.toNatClampNeg) &&& (31 : Int32)).toInt < 0 ∨ 20 < ((xs v3.toNatClampNeg) &&& (31 : Int32)).toInt
      · refine go_tsOut C 32 753 dL_law_32 hlo (by decide) ?_
        have h := h.1 hlo
        refine go_iinc C 753 756 3 3 (v3 + 4) [(3, .int _), (0, .ref _), (1, .ref _), (2, .ref _)] dL_law_753 rfl rfl (by decide) rfl rfl ?_
        refine go_goto C 756 18 dL_law_756 (by decide) ?_
        refine go_widen (k := cc + 3) (n := ss + 24) (by omega) (by omega) ?_
        exact go_perm [1, 2, 3, 0] rfl (ih (cc + 3) (ss + 24) (by omega) (by omega) _ _ h)
      · replace h := h.2
        have hor : ((xs v3.toNatClampNeg) &&& (31 : Int32)).toInt = 0 ∨ ((xs v3.toNatClampNeg) &&& (31 : Int32)).toInt = 1 ∨ ((xs v3.toNatClampNeg) &&& (31 : Int32)).toInt = 2 ∨ ((xs v3.toNatClampNeg) &&& (31 : Int32)).toInt = 3 ∨ ((xs v3.toNatClampNeg) &&& (31 : Int32)).toInt = 4 ∨ ((xs v3.toNatClampNeg) &&& (31 : Int32)).toInt = 5 ∨ ((xs v3.toNatClampNeg) &&& (31 : Int32)).toInt = 6 ∨ ((xs v3.toNatClampNeg) &&& (31 : Int32)).toInt = 7 ∨ ((xs v3.toNatClampNeg) &&& (31 : Int32)).toInt = 8 ∨ ((xs v3.toNatClampNeg) &&& (31 : Int32)).toInt = 9 ∨ ((xs v3.toNatClampNeg) &&& (31 : Int32)).toInt = 10 ∨ ((xs v3.toNatClampNeg) &&& (31 : Int32)).toInt = 11 ∨ ((xs v3.toNatClampNeg) &&& (31 : Int32)).toInt = 12 ∨ ((xs v3.toNatClampNeg) &&& (31 : Int32)).toInt = 13 ∨ ((xs v3.toNatClampNeg) &&& (31 : Int32)).toInt = 14 ∨ ((xs v3.toNatClampNeg) &&& (31 : Int32)).toInt = 15 ∨ ((xs v3.toNatClampNeg) &&& (31 : Int32)).toInt = 16 ∨ ((xs v3.toNatClampNeg) &&& (31 : Int32)).toInt = 17 ∨ ((xs v3.toNatClampNeg) &&& (31 : Int32)).toInt = 18 ∨ ((xs v3.toNatClampNeg) &&& (31 : Int32)).toInt = 19 ∨ ((xs v3.toNatClampNeg) &&& (31 : Int32)).toInt = 20 := by omega
        rcases hor with hc | hc | hc | hc | hc | hc | hc | hc | hc | hc | hc | hc | hc | hc | hc | hc | hc | hc | hc | hc | hc
        · refine go_tsIn C 32 132 dL_law_32 (by omega) (by omega) (off := 100) (by rw [hc]; rfl) (by decide) ?_
          have h := h.1 hc
          refine go_aload_n C 132 133 1 1 dL_law_132 rfl rfl rfl ?_
          refine go_aload_n C 133 134 0 0 dL_law_133 rfl rfl rfl ?_
          refine go_iload_n C 134 135 3 3 dL_law_134 rfl rfl rfl ?_
          refine go_iconst C 135 136 (1) dL_law_135 (by decide) rfl ?_
          refine go_iadd C 136 137 dL_law_136 rfl ?_
          obtain ⟨hi2, h⟩ := h
          refine go_sld C 137 138 hX hbl hbA hi2 dL_law_137 rfl ?_
          refine go_aload_n C 138 139 0 0 dL_law_138 rfl rfl rfl ?_
          refine go_iload_n C 139 140 3 3 dL_law_139 rfl rfl rfl ?_
          refine go_iconst C 140 141 (2) dL_law_140 (by decide) rfl ?_
          refine go_iadd C 141 142 dL_law_141 rfl ?_
          obtain ⟨hi3, h⟩ := h
          refine go_sld C 142 143 hX hbl hbA hi3 dL_law_142 rfl ?_
          refine go_vi C 143 146 cc ss [.int (xs (v3 + (1 : Int32)).toNatClampNeg), .int (xs (v3 + (2 : Int32)).toNatClampNeg)] 0 (lu0 ex) rfl (c_X5_work _ _ _  h) k224_ k227_ k50_ k225_ k226_ qX5_work mhX5_work (by decide) ⟨by show _ ≤ 600000; omega, by show _ ≤ 7302250; omega⟩ rfl rfl rfl rfl (Nat.le_of_ble_eq_true rfl) rfl rfl dL_law_143 (fun r5 S4 h => ?_)
          refine go_aload_n C 146 147 2 2 dL_law_146 rfl rfl rfl ?_
          refine go_aload_n C 147 148 0 0 dL_law_147 rfl rfl rfl ?_
          refine go_iload_n C 148 149 3 3 dL_law_148 rfl rfl rfl ?_
          refine go_iconst C 149 150 (1) dL_law_149 (by decide) rfl ?_
          refine go_iadd C 150 151 dL_law_150 rfl ?_
          obtain ⟨hi6, h⟩ := h
          refine go_sld C 151 152 hX hbl hbA hi6 dL_law_151 rfl ?_
          refine go_aload_n C 152 153 0 0 dL_law_152 rfl rfl rfl ?_
          refine go_iload_n C 153 154 3 3 dL_law_153 rfl rfl rfl ?_
          refine go_iconst C 154 155 (2) dL_law_154 (by decide) rfl ?_
          refine go_iadd C 155 156 dL_law_155 rfl ?_
          obtain ⟨hi7, h⟩ := h
          refine go_sld C 156 157 hX hbl hbA hi7 dL_law_156 rfl ?_
          refine go_vi C 157 160 cc ss [.int (xs (v3 + (1 : Int32)).toNatClampNeg), .int (xs (v3 + (2 : Int32)).toNatClampNeg)] 25 (lu25 ex) rfl (c_X6_work _ _ _  h) k601_ k604_ k57_ k602_ k603_ qX6_work mhX6_work (by decide) ⟨by show _ ≤ 600000; omega, by show _ ≤ 7302250; omega⟩ rfl rfl rfl rfl (Nat.le_of_ble_eq_true rfl) rfl rfl dL_law_157 (fun r9 S8 h => ?_)
          refine go_icmp_eq C 160 163 753 dL_law_160 (by decide) rfl (fun hc => ?_) (fun hc => ?_)
          · have h := h.1 hc
            refine go_iinc C 753 756 3 3 (v3 + 4) [(3, .int _), (0, .ref _), (1, .ref _), (2, .ref _)] dL_law_753 rfl rfl (by decide) rfl rfl ?_
            refine go_goto C 756 18 dL_law_756 (by decide) ?_
            refine go_widen (k := cc + 3) (n := ss + 24) (by omega) (by omega) ?_
            exact go_perm [1, 2, 3, 0] rfl (ih (cc + 3) (ss + 24) (by omega) (by omega) _ _ h)
          · have h := h.2 hc
            refine go_iconst C 163 164 (0) dL_law_163 (by decide) rfl ?_
            exact h.elim
        · refine go_tsIn C 32 165 dL_law_32 (by omega) (by omega) (off := 133) (by rw [hc]; rfl) (by decide) ?_
          have h := h.2.1 hc
          refine go_aload_n C 165 166 1 1 dL_law_165 rfl rfl rfl ?_
          refine go_vi C 166 169 cc ss [] 0 (lu0 ex) rfl (c_X5_user _  h) k239_ k242_ k50_ k240_ k241_ qX5_user mhX5_user (by decide) ⟨by show _ ≤ 600000; omega, by show _ ≤ 7302250; omega⟩ rfl rfl rfl rfl (Nat.le_of_ble_eq_true rfl) rfl rfl dL_law_166 (fun r11 S10 h => ?_)
          refine go_aload_n C 169 170 2 2 dL_law_169 rfl rfl rfl ?_
          refine go_vi C 170 173 cc ss [] 25 (lu25 ex) rfl (c_X6_user _  h) k608_ k611_ k57_ k609_ k610_ qX6_user mhX6_user (by decide) ⟨by show _ ≤ 600000; omega, by show _ ≤ 7302250; omega⟩ rfl rfl rfl rfl (Nat.le_of_ble_eq_true rfl) rfl rfl dL_law_170 (fun r13 S12 h => ?_)
          refine go_icmp_eq C 173 176 753 dL_law_173 (by decide) rfl (fun hc => ?_) (fun hc => ?_)
          · have h := h.1 hc
            refine go_iinc C 753 756 3 3 (v3 + 4) [(3, .int _), (0, .ref _), (1, .ref _), (2, .ref _)] dL_law_753 rfl rfl (by decide) rfl rfl ?_
            refine go_goto C 756 18 dL_law_756 (by decide) ?_
            refine go_widen (k := cc + 3) (n := ss + 24) (by omega) (by omega) ?_
            exact go_perm [1, 2, 3, 0] rfl (ih (cc + 3) (ss + 24) (by omega) (by omega) _ _ h)
          · have h := h.2 hc
            refine go_iconst C 176 177 (0) dL_law_176 (by decide) rfl ?_
            exact h.elim
        · refine go_tsIn C 32 178 dL_law_32 (by omega) (by omega) (off := 146) (by rw [hc]; rfl) (by decide) ?_
          have h := h.2.2.1 hc
          refine go_aload_n C 178 179 1 1 dL_law_178 rfl rfl rfl ?_
          refine go_aload_n C 179 180 0 0 dL_law_179 rfl rfl rfl ?_
          refine go_iload_n C 180 181 3 3 dL_law_180 rfl rfl rfl ?_
          refine go_iconst C 181 182 (1) dL_law_181 (by decide) rfl ?_
          refine go_iadd C 182 183 dL_law_182 rfl ?_
          obtain ⟨hi14, h⟩ := h
          refine go_sld C 183 184 hX hbl hbA hi14 dL_law_183 rfl ?_
          refine go_aload_n C 184 185 0 0 dL_law_184 rfl rfl rfl ?_
          refine go_iload_n C 185 186 3 3 dL_law_185 rfl rfl rfl ?_
          refine go_iconst C 186 187 (2) dL_law_186 (by decide) rfl ?_
          refine go_iadd C 187 188 dL_law_187 rfl ?_
          obtain ⟨hi15, h⟩ := h
          refine go_sld C 188 189 hX hbl hbA hi15 dL_law_188 rfl ?_
          refine go_aload_n C 189 190 0 0 dL_law_189 rfl rfl rfl ?_
          refine go_iload_n C 190 191 3 3 dL_law_190 rfl rfl rfl ?_
          refine go_iconst C 191 192 (3) dL_law_191 (by decide) rfl ?_
          refine go_iadd C 192 193 dL_law_192 rfl ?_
          obtain ⟨hi16, h⟩ := h
          refine go_sld C 193 194 hX hbl hbA hi16 dL_law_193 rfl ?_
          refine go_vi C 194 197 cc ss [.int (xs (v3 + (1 : Int32)).toNatClampNeg), .int (xs (v3 + (2 : Int32)).toNatClampNeg), .int (xs (v3 + (3 : Int32)).toNatClampNeg)] 0 (lu0 ex) rfl (c_X5_change _ _ _ _  h) k251_ k254_ k50_ k252_ k253_ qX5_change mhX5_change (by decide) ⟨by show _ ≤ 600000; omega, by show _ ≤ 7302250; omega⟩ rfl rfl rfl rfl (Nat.le_of_ble_eq_true rfl) rfl rfl dL_law_194 (fun r18 S17 h => ?_)
          refine go_aload_n C 197 198 2 2 dL_law_197 rfl rfl rfl ?_
          refine go_aload_n C 198 199 0 0 dL_law_198 rfl rfl rfl ?_
          refine go_iload_n C 199 200 3 3 dL_law_199 rfl rfl rfl ?_
          refine go_iconst C 200 201 (1) dL_law_200 (by decide) rfl ?_
          refine go_iadd C 201 202 dL_law_201 rfl ?_
          obtain ⟨hi19, h⟩ := h
          refine go_sld C 202 203 hX hbl hbA hi19 dL_law_202 rfl ?_
          refine go_aload_n C 203 204 0 0 dL_law_203 rfl rfl rfl ?_
          refine go_iload_n C 204 205 3 3 dL_law_204 rfl rfl rfl ?_
          refine go_iconst C 205 206 (2) dL_law_205 (by decide) rfl ?_
          refine go_iadd C 206 207 dL_law_206 rfl ?_
          obtain ⟨hi20, h⟩ := h
          refine go_sld C 207 208 hX hbl hbA hi20 dL_law_207 rfl ?_
          refine go_aload_n C 208 209 0 0 dL_law_208 rfl rfl rfl ?_
          refine go_iload_n C 209 210 3 3 dL_law_209 rfl rfl rfl ?_
          refine go_iconst C 210 211 (3) dL_law_210 (by decide) rfl ?_
          refine go_iadd C 211 212 dL_law_211 rfl ?_
          obtain ⟨hi21, h⟩ := h
          refine go_sld C 212 213 hX hbl hbA hi21 dL_law_212 rfl ?_
          refine go_vi C 213 216 cc ss [.int (xs (v3 + (1 : Int32)).toNatClampNeg), .int (xs (v3 + (2 : Int32)).toNatClampNeg), .int (xs (v3 + (3 : Int32)).toNatClampNeg)] 25 (lu25 ex) rfl (c_X6_change _ _ _ _  h) k612_ k615_ k57_ k613_ k614_ qX6_change mhX6_change (by decide) ⟨by show _ ≤ 600000; omega, by show _ ≤ 7302250; omega⟩ rfl rfl rfl rfl (Nat.le_of_ble_eq_true rfl) rfl rfl dL_law_213 (fun r23 S22 h => ?_)
          refine go_icmp_eq C 216 219 753 dL_law_216 (by decide) rfl (fun hc => ?_) (fun hc => ?_)
          · have h := h.1 hc
            refine go_iinc C 753 756 3 3 (v3 + 4) [(3, .int _), (0, .ref _), (1, .ref _), (2, .ref _)] dL_law_753 rfl rfl (by decide) rfl rfl ?_
            refine go_goto C 756 18 dL_law_756 (by decide) ?_
            refine go_widen (k := cc + 3) (n := ss + 24) (by omega) (by omega) ?_
            exact go_perm [1, 2, 3, 0] rfl (ih (cc + 3) (ss + 24) (by omega) (by omega) _ _ h)
          · have h := h.2 hc
            refine go_iconst C 219 220 (0) dL_law_219 (by decide) rfl ?_
            exact h.elim
        · refine go_tsIn C 32 221 dL_law_32 (by omega) (by omega) (off := 189) (by rw [hc]; rfl) (by decide) ?_
          have h := h.2.2.2.1 hc
          refine go_aload_n C 221 222 1 1 dL_law_221 rfl rfl rfl ?_
          refine go_aload_n C 222 223 0 0 dL_law_222 rfl rfl rfl ?_
          refine go_iload_n C 223 224 3 3 dL_law_223 rfl rfl rfl ?_
          refine go_iconst C 224 225 (1) dL_law_224 (by decide) rfl ?_
          refine go_iadd C 225 226 dL_law_225 rfl ?_
          obtain ⟨hi24, h⟩ := h
          refine go_sld C 226 227 hX hbl hbA hi24 dL_law_226 rfl ?_
          refine go_aload_n C 227 228 0 0 dL_law_227 rfl rfl rfl ?_
          refine go_iload_n C 228 229 3 3 dL_law_228 rfl rfl rfl ?_
          refine go_iconst C 229 230 (2) dL_law_229 (by decide) rfl ?_
          refine go_iadd C 230 231 dL_law_230 rfl ?_
          obtain ⟨hi25, h⟩ := h
          refine go_sld C 231 232 hX hbl hbA hi25 dL_law_231 rfl ?_
          refine go_aload_n C 232 233 0 0 dL_law_232 rfl rfl rfl ?_
          refine go_iload_n C 233 234 3 3 dL_law_233 rfl rfl rfl ?_
          refine go_iconst C 234 235 (3) dL_law_234 (by decide) rfl ?_
          refine go_iadd C 235 236 dL_law_235 rfl ?_
          obtain ⟨hi26, h⟩ := h
          refine go_sld C 236 237 hX hbl hbA hi26 dL_law_236 rfl ?_
          refine go_vi C 237 240 cc ss [.int (xs (v3 + (1 : Int32)).toNatClampNeg), .int (xs (v3 + (2 : Int32)).toNatClampNeg), .int (xs (v3 + (3 : Int32)).toNatClampNeg)] 0 (lu0 ex) rfl (c_X5_use _ _ _ _  h) k260_ k263_ k50_ k261_ k262_ qX5_use mhX5_use (by decide) ⟨by show _ ≤ 600000; omega, by show _ ≤ 7302250; omega⟩ rfl rfl rfl rfl (Nat.le_of_ble_eq_true rfl) rfl rfl dL_law_237 (fun r28 S27 h => ?_)
          refine go_aload_n C 240 241 2 2 dL_law_240 rfl rfl rfl ?_
          refine go_aload_n C 241 242 0 0 dL_law_241 rfl rfl rfl ?_
          refine go_iload_n C 242 243 3 3 dL_law_242 rfl rfl rfl ?_
          refine go_iconst C 243 244 (1) dL_law_243 (by decide) rfl ?_
          refine go_iadd C 244 245 dL_law_244 rfl ?_
          obtain ⟨hi29, h⟩ := h
          refine go_sld C 245 246 hX hbl hbA hi29 dL_law_245 rfl ?_
          refine go_aload_n C 246 247 0 0 dL_law_246 rfl rfl rfl ?_
          refine go_iload_n C 247 248 3 3 dL_law_247 rfl rfl rfl ?_
          refine go_iconst C 248 249 (2) dL_law_248 (by decide) rfl ?_
          refine go_iadd C 249 250 dL_law_249 rfl ?_
          obtain ⟨hi30, h⟩ := h
          refine go_sld C 250 251 hX hbl hbA hi30 dL_law_250 rfl ?_
          refine go_aload_n C 251 252 0 0 dL_law_251 rfl rfl rfl ?_
          refine go_iload_n C 252 253 3 3 dL_law_252 rfl rfl rfl ?_
          refine go_iconst C 253 254 (3) dL_law_253 (by decide) rfl ?_
          refine go_iadd C 254 255 dL_law_254 rfl ?_
          obtain ⟨hi31, h⟩ := h
          refine go_sld C 255 256 hX hbl hbA hi31 dL_law_255 rfl ?_
          refine go_vi C 256 259 cc ss [.int (xs (v3 + (1 : Int32)).toNatClampNeg), .int (xs (v3 + (2 : Int32)).toNatClampNeg), .int (xs (v3 + (3 : Int32)).toNatClampNeg)] 25 (lu25 ex) rfl (c_X6_use _ _ _ _  h) k620_ k623_ k57_ k621_ k622_ qX6_use mhX6_use (by decide) ⟨by show _ ≤ 600000; omega, by show _ ≤ 7302250; omega⟩ rfl rfl rfl rfl (Nat.le_of_ble_eq_true rfl) rfl rfl dL_law_256 (fun r33 S32 h => ?_)
          refine go_icmp_eq C 259 262 753 dL_law_259 (by decide) rfl (fun hc => ?_) (fun hc => ?_)
          · have h := h.1 hc
            refine go_iinc C 753 756 3 3 (v3 + 4) [(3, .int _), (0, .ref _), (1, .ref _), (2, .ref _)] dL_law_753 rfl rfl (by decide) rfl rfl ?_
            refine go_goto C 756 18 dL_law_756 (by decide) ?_
            refine go_widen (k := cc + 3) (n := ss + 24) (by omega) (by omega) ?_
            exact go_perm [1, 2, 3, 0] rfl (ih (cc + 3) (ss + 24) (by omega) (by omega) _ _ h)
          · have h := h.2 hc
            refine go_iconst C 262 263 (0) dL_law_262 (by decide) rfl ?_
            exact h.elim
        · refine go_tsIn C 32 264 dL_law_32 (by omega) (by omega) (off := 232) (by rw [hc]; rfl) (by decide) ?_
          have h := h.2.2.2.2.1 hc
          refine go_aload_n C 264 265 1 1 dL_law_264 rfl rfl rfl ?_
          refine go_aload_n C 265 266 0 0 dL_law_265 rfl rfl rfl ?_
          refine go_iload_n C 266 267 3 3 dL_law_266 rfl rfl rfl ?_
          refine go_iconst C 267 268 (1) dL_law_267 (by decide) rfl ?_
          refine go_iadd C 268 269 dL_law_268 rfl ?_
          obtain ⟨hi34, h⟩ := h
          refine go_sld C 269 270 hX hbl hbA hi34 dL_law_269 rfl ?_
          refine go_aload_n C 270 271 0 0 dL_law_270 rfl rfl rfl ?_
          refine go_iload_n C 271 272 3 3 dL_law_271 rfl rfl rfl ?_
          refine go_iconst C 272 273 (2) dL_law_272 (by decide) rfl ?_
          refine go_iadd C 273 274 dL_law_273 rfl ?_
          obtain ⟨hi35, h⟩ := h
          refine go_sld C 274 275 hX hbl hbA hi35 dL_law_274 rfl ?_
          refine go_aload_n C 275 276 0 0 dL_law_275 rfl rfl rfl ?_
          refine go_iload_n C 276 277 3 3 dL_law_276 rfl rfl rfl ?_
          refine go_iconst C 277 278 (3) dL_law_277 (by decide) rfl ?_
          refine go_iadd C 278 279 dL_law_278 rfl ?_
          obtain ⟨hi36, h⟩ := h
          refine go_sld C 279 280 hX hbl hbA hi36 dL_law_279 rfl ?_
          refine go_vi C 280 283 cc ss [.int (xs (v3 + (1 : Int32)).toNatClampNeg), .int (xs (v3 + (2 : Int32)).toNatClampNeg), .int (xs (v3 + (3 : Int32)).toNatClampNeg)] 0 (lu0 ex) rfl (c_X5_feed _ _ _ _  h) k290_ k293_ k50_ k291_ k292_ qX5_feed mhX5_feed (by decide) ⟨by show _ ≤ 600000; omega, by show _ ≤ 7302250; omega⟩ rfl rfl rfl rfl (Nat.le_of_ble_eq_true rfl) rfl rfl dL_law_280 (fun r38 S37 h => ?_)
          refine go_aload_n C 283 284 2 2 dL_law_283 rfl rfl rfl ?_
          refine go_aload_n C 284 285 0 0 dL_law_284 rfl rfl rfl ?_
          refine go_iload_n C 285 286 3 3 dL_law_285 rfl rfl rfl ?_
          refine go_iconst C 286 287 (1) dL_law_286 (by decide) rfl ?_
          refine go_iadd C 287 288 dL_law_287 rfl ?_
          obtain ⟨hi39, h⟩ := h
          refine go_sld C 288 289 hX hbl hbA hi39 dL_law_288 rfl ?_
          refine go_aload_n C 289 290 0 0 dL_law_289 rfl rfl rfl ?_
          refine go_iload_n C 290 291 3 3 dL_law_290 rfl rfl rfl ?_
          refine go_iconst C 291 292 (2) dL_law_291 (by decide) rfl ?_
          refine go_iadd C 292 293 dL_law_292 rfl ?_
          obtain ⟨hi40, h⟩ := h
          refine go_sld C 293 294 hX hbl hbA hi40 dL_law_293 rfl ?_
          refine go_aload_n C 294 295 0 0 dL_law_294 rfl rfl rfl ?_
          refine go_iload_n C 295 296 3 3 dL_law_295 rfl rfl rfl ?_
          refine go_iconst C 296 297 (3) dL_law_296 (by decide) rfl ?_
          refine go_iadd C 297 298 dL_law_297 rfl ?_
          obtain ⟨hi41, h⟩ := h
          refine go_sld C 298 299 hX hbl hbA hi41 dL_law_298 rfl ?_
          refine go_vi C 299 302 cc ss [.int (xs (v3 + (1 : Int32)).toNatClampNeg), .int (xs (v3 + (2 : Int32)).toNatClampNeg), .int (xs (v3 + (3 : Int32)).toNatClampNeg)] 25 (lu25 ex) rfl (c_X6_feed _ _ _ _  h) k628_ k631_ k57_ k629_ k630_ qX6_feed mhX6_feed (by decide) ⟨by show _ ≤ 600000; omega, by show _ ≤ 7302250; omega⟩ rfl rfl rfl rfl (Nat.le_of_ble_eq_true rfl) rfl rfl dL_law_299 (fun r43 S42 h => ?_)
          refine go_icmp_eq C 302 305 753 dL_law_302 (by decide) rfl (fun hc => ?_) (fun hc => ?_)
          · have h := h.1 hc
            refine go_iinc C 753 756 3 3 (v3 + 4) [(3, .int _), (0, .ref _), (1, .ref _), (2, .ref _)] dL_law_753 rfl rfl (by decide) rfl rfl ?_
            refine go_goto C 756 18 dL_law_756 (by decide) ?_
            refine go_widen (k := cc + 3) (n := ss + 24) (by omega) (by omega) ?_
            exact go_perm [1, 2, 3, 0] rfl (ih (cc + 3) (ss + 24) (by omega) (by omega) _ _ h)
          · have h := h.2 hc
            refine go_iconst C 305 306 (0) dL_law_305 (by decide) rfl ?_
            exact h.elim
        · refine go_tsIn C 32 307 dL_law_32 (by omega) (by omega) (off := 275) (by rw [hc]; rfl) (by decide) ?_
          have h := h.2.2.2.2.2.1 hc
          refine go_aload_n C 307 308 1 1 dL_law_307 rfl rfl rfl ?_
          refine go_aload_n C 308 309 0 0 dL_law_308 rfl rfl rfl ?_
          refine go_iload_n C 309 310 3 3 dL_law_309 rfl rfl rfl ?_
          refine go_iconst C 310 311 (1) dL_law_310 (by decide) rfl ?_
          refine go_iadd C 311 312 dL_law_311 rfl ?_
          obtain ⟨hi44, h⟩ := h
          refine go_sld C 312 313 hX hbl hbA hi44 dL_law_312 rfl ?_
          refine go_aload_n C 313 314 0 0 dL_law_313 rfl rfl rfl ?_
          refine go_iload_n C 314 315 3 3 dL_law_314 rfl rfl rfl ?_
          refine go_iconst C 315 316 (2) dL_law_315 (by decide) rfl ?_
          refine go_iadd C 316 317 dL_law_316 rfl ?_
          obtain ⟨hi45, h⟩ := h
          refine go_sld C 317 318 hX hbl hbA hi45 dL_law_317 rfl ?_
          refine go_if_eq C 318 321 325 dL_law_318 (by decide) rfl (fun hc => ?_) (fun hc => ?_)
          · have h := h.1 hc
            refine go_iconst C 325 326 (0) dL_law_325 (by decide) rfl ?_
            refine go_vi C 326 329 cc ss [.int (xs (v3 + (1 : Int32)).toNatClampNeg), .int (0 : Int32)] 0 (lu0 ex) rfl (c_X5_set _ _ _  h) k298_ k301_ k50_ k299_ k300_ qX5_set mhX5_set (by decide) ⟨by show _ ≤ 600000; omega, by show _ ≤ 7302250; omega⟩ rfl rfl rfl rfl (Nat.le_of_ble_eq_true rfl) rfl rfl dL_law_326 (fun r47 S46 h => ?_)
            refine go_aload_n C 329 330 2 2 dL_law_329 rfl rfl rfl ?_
            refine go_aload_n C 330 331 0 0 dL_law_330 rfl rfl rfl ?_
            refine go_iload_n C 331 332 3 3 dL_law_331 rfl rfl rfl ?_
            refine go_iconst C 332 333 (1) dL_law_332 (by decide) rfl ?_
            refine go_iadd C 333 334 dL_law_333 rfl ?_
            obtain ⟨hi48, h⟩ := h
            refine go_sld C 334 335 hX hbl hbA hi48 dL_law_334 rfl ?_
            refine go_aload_n C 335 336 0 0 dL_law_335 rfl rfl rfl ?_
            refine go_iload_n C 336 337 3 3 dL_law_336 rfl rfl rfl ?_
            refine go_iconst C 337 338 (2) dL_law_337 (by decide) rfl ?_
            refine go_iadd C 338 339 dL_law_338 rfl ?_
            obtain ⟨hi49, h⟩ := h
            refine go_sld C 339 340 hX hbl hbA hi49 dL_law_339 rfl ?_
            refine go_if_eq C 340 343 347 dL_law_340 (by decide) rfl (fun hc => ?_) (fun hc => ?_)
            · have h := h.1 hc
              refine go_iconst C 347 348 (0) dL_law_347 (by decide) rfl ?_
              refine go_vi C 348 351 cc ss [.int (xs (v3 + (1 : Int32)).toNatClampNeg), .int (0 : Int32)] 25 (lu25 ex) rfl (c_X6_set _ _ _  h) k632_ k635_ k57_ k633_ k634_ qX6_set mhX6_set (by decide) ⟨by show _ ≤ 600000; omega, by show _ ≤ 7302250; omega⟩ rfl rfl rfl rfl (Nat.le_of_ble_eq_true rfl) rfl rfl dL_law_348 (fun r51 S50 h => ?_)
              refine go_icmp_eq C 351 354 753 dL_law_351 (by decide) rfl (fun hc => ?_) (fun hc => ?_)
              · have h := h.1 hc
                refine go_iinc C 753 756 3 3 (v3 + 4) [(3, .int _), (0, .ref _), (1, .ref _), (2, .ref _)] dL_law_753 rfl rfl (by decide) rfl rfl ?_
                refine go_goto C 756 18 dL_law_756 (by decide) ?_
                refine go_widen (k := cc + 3) (n := ss + 24) (by omega) (by omega) ?_
                exact go_perm [1, 2, 3, 0] rfl (ih (cc + 3) (ss + 24) (by omega) (by omega) _ _ h)
              · have h := h.2 hc
                refine go_iconst C 354 355 (0) dL_law_354 (by decide) rfl ?_
                exact h.elim
            · have h := h.2 hc
              refine go_iconst C 343 344 (1) dL_law_343 (by decide) rfl ?_
              refine go_goto C 344 348 dL_law_344 (by decide) ?_
              refine go_vi C 348 351 cc ss [.int (xs (v3 + (1 : Int32)).toNatClampNeg), .int (1 : Int32)] 25 (lu25 ex) rfl (c_X6_set _ _ _  h) k632_ k635_ k57_ k633_ k634_ qX6_set mhX6_set (by decide) ⟨by show _ ≤ 600000; omega, by show _ ≤ 7302250; omega⟩ rfl rfl rfl rfl (Nat.le_of_ble_eq_true rfl) rfl rfl dL_law_348 (fun r53 S52 h => ?_)
              refine go_icmp_eq C 351 354 753 dL_law_351 (by decide) rfl (fun hc => ?_) (fun hc => ?_)
              · have h := h.1 hc
                refine go_iinc C 753 756 3 3 (v3 + 4) [(3, .int _), (0, .ref _), (1, .ref _), (2, .ref _)] dL_law_753 rfl rfl (by decide) rfl rfl ?_
                refine go_goto C 756 18 dL_law_756 (by decide) ?_
                refine go_widen (k := cc + 3) (n := ss + 24) (by omega) (by omega) ?_
                exact go_perm [1, 2, 3, 0] rfl (ih (cc + 3) (ss + 24) (by omega) (by omega) _ _ h)
              · have h := h.2 hc
                refine go_iconst C 354 355 (0) dL_law_354 (by decide) rfl ?_
                exact h.elim
          · have h := h.2 hc
            refine go_iconst C 321 322 (1) dL_law_321 (by decide) rfl ?_
            refine go_goto C 322 326 dL_law_322 (by decide) ?_
            refine go_vi C 326 329 cc ss [.int (xs (v3 + (1 : Int32)).toNatClampNeg), .int (1 : Int32)] 0 (lu0 ex) rfl (c_X5_set _ _ _  h) k298_ k301_ k50_ k299_ k300_ qX5_set mhX5_set (by decide) ⟨by show _ ≤ 600000; omega, by show _ ≤ 7302250; omega⟩ rfl rfl rfl rfl (Nat.le_of_ble_eq_true rfl) rfl rfl dL_law_326 (fun r55 S54 h => ?_)
            refine go_aload_n C 329 330 2 2 dL_law_329 rfl rfl rfl ?_
            refine go_aload_n C 330 331 0 0 dL_law_330 rfl rfl rfl ?_
            refine go_iload_n C 331 332 3 3 dL_law_331 rfl rfl rfl ?_
            refine go_iconst C 332 333 (1) dL_law_332 (by decide) rfl ?_
            refine go_iadd C 333 334 dL_law_333 rfl ?_
            obtain ⟨hi56, h⟩ := h
            refine go_sld C 334 335 hX hbl hbA hi56 dL_law_334 rfl ?_
            refine go_aload_n C 335 336 0 0 dL_law_335 rfl rfl rfl ?_
            refine go_iload_n C 336 337 3 3 dL_law_336 rfl rfl rfl ?_
            refine go_iconst C 337 338 (2) dL_law_337 (by decide) rfl ?_
            refine go_iadd C 338 339 dL_law_338 rfl ?_
            obtain ⟨hi57, h⟩ := h
            refine go_sld C 339 340 hX hbl hbA hi57 dL_law_339 rfl ?_
            refine go_if_eq C 340 343 347 dL_law_340 (by decide) rfl (fun hc => ?_) (fun hc => ?_)
            · have h := h.1 hc
              refine go_iconst C 347 348 (0) dL_law_347 (by decide) rfl ?_
              refine go_vi C 348 351 cc ss [.int (xs (v3 + (1 : Int32)).toNatClampNeg), .int (0 : Int32)] 25 (lu25 ex) rfl (c_X6_set _ _ _  h) k632_ k635_ k57_ k633_ k634_ qX6_set mhX6_set (by decide) ⟨by show _ ≤ 600000; omega, by show _ ≤ 7302250; omega⟩ rfl rfl rfl rfl (Nat.le_of_ble_eq_true rfl) rfl rfl dL_law_348 (fun r59 S58 h => ?_)
              refine go_icmp_eq C 351 354 753 dL_law_351 (by decide) rfl (fun hc => ?_) (fun hc => ?_)
              · have h := h.1 hc
                refine go_iinc C 753 756 3 3 (v3 + 4) [(3, .int _), (0, .ref _), (1, .ref _), (2, .ref _)] dL_law_753 rfl rfl (by decide) rfl rfl ?_
                refine go_goto C 756 18 dL_law_756 (by decide) ?_
                refine go_widen (k := cc + 3) (n := ss + 24) (by omega) (by omega) ?_
                exact go_perm [1, 2, 3, 0] rfl (ih (cc + 3) (ss + 24) (by omega) (by omega) _ _ h)
              · have h := h.2 hc
                refine go_iconst C 354 355 (0) dL_law_354 (by decide) rfl ?_
                exact h.elim
            · have h := h.2 hc
              refine go_iconst C 343 344 (1) dL_law_343 (by decide) rfl ?_
              refine go_goto C 344 348 dL_law_344 (by decide) ?_
              refine go_vi C 348 351 cc ss [.int (xs (v3 + (1 : Int32)).toNatClampNeg), .int (1 : Int32)] 25 (lu25 ex) rfl (c_X6_set _ _ _  h) k632_ k635_ k57_ k633_ k634_ qX6_set mhX6_set (by decide) ⟨by show _ ≤ 600000; omega, by show _ ≤ 7302250; omega⟩ rfl rfl rfl rfl (Nat.le_of_ble_eq_true rfl) rfl rfl dL_law_348 (fun r61 S60 h => ?_)
              refine go_icmp_eq C 351 354 753 dL_law_351 (by decide) rfl (fun hc => ?_) (fun hc => ?_)
              · have h := h.1 hc
                refine go_iinc C 753 756 3 3 (v3 + 4) [(3, .int _), (0, .ref _), (1, .ref _), (2, .ref _)] dL_law_753 rfl rfl (by decide) rfl rfl ?_
                refine go_goto C 756 18 dL_law_756 (by decide) ?_
                refine go_widen (k := cc + 3) (n := ss + 24) (by omega) (by omega) ?_
                exact go_perm [1, 2, 3, 0] rfl (ih (cc + 3) (ss + 24) (by omega) (by omega) _ _ h)
              · have h := h.2 hc
                refine go_iconst C 354 355 (0) dL_law_354 (by decide) rfl ?_
                exact h.elim
        · refine go_tsIn C 32 356 dL_law_32 (by omega) (by omega) (off := 324) (by rw [hc]; rfl) (by decide) ?_
          have h := h.2.2.2.2.2.2.1 hc
          refine go_aload_n C 356 357 1 1 dL_law_356 rfl rfl rfl ?_
          refine go_aload_n C 357 358 0 0 dL_law_357 rfl rfl rfl ?_
          refine go_iload_n C 358 359 3 3 dL_law_358 rfl rfl rfl ?_
          refine go_iconst C 359 360 (1) dL_law_359 (by decide) rfl ?_
          refine go_iadd C 360 361 dL_law_360 rfl ?_
          obtain ⟨hi62, h⟩ := h
          refine go_sld C 361 362 hX hbl hbA hi62 dL_law_361 rfl ?_
          refine go_aload_n C 362 363 0 0 dL_law_362 rfl rfl rfl ?_
          refine go_iload_n C 363 364 3 3 dL_law_363 rfl rfl rfl ?_
          refine go_iconst C 364 365 (2) dL_law_364 (by decide) rfl ?_
          refine go_iadd C 365 366 dL_law_365 rfl ?_
          obtain ⟨hi63, h⟩ := h
          refine go_sld C 366 367 hX hbl hbA hi63 dL_law_366 rfl ?_
          refine go_vi C 367 370 cc ss [.int (xs (v3 + (1 : Int32)).toNatClampNeg), .int (xs (v3 + (2 : Int32)).toNatClampNeg)] 0 (lu0 ex) rfl (c_X5_mark _ _ _  h) k309_ k312_ k50_ k310_ k311_ qX5_mark mhX5_mark (by decide) ⟨by show _ ≤ 600000; omega, by show _ ≤ 7302250; omega⟩ rfl rfl rfl rfl (Nat.le_of_ble_eq_true rfl) rfl rfl dL_law_367 (fun r65 S64 h => ?_)
          refine go_aload_n C 370 371 2 2 dL_law_370 rfl rfl rfl ?_
          refine go_aload_n C 371 372 0 0 dL_law_371 rfl rfl rfl ?_
          refine go_iload_n C 372 373 3 3 dL_law_372 rfl rfl rfl ?_
          refine go_iconst C 373 374 (1) dL_law_373 (by decide) rfl ?_
          refine go_iadd C 374 375 dL_law_374 rfl ?_
          obtain ⟨hi66, h⟩ := h
          refine go_sld C 375 376 hX hbl hbA hi66 dL_law_375 rfl ?_
          refine go_aload_n C 376 377 0 0 dL_law_376 rfl rfl rfl ?_
          refine go_iload_n C 377 378 3 3 dL_law_377 rfl rfl rfl ?_
          refine go_iconst C 378 379 (2) dL_law_378 (by decide) rfl ?_
          refine go_iadd C 379 380 dL_law_379 rfl ?_
          obtain ⟨hi67, h⟩ := h
          refine go_sld C 380 381 hX hbl hbA hi67 dL_law_380 rfl ?_
          refine go_vi C 381 384 cc ss [.int (xs (v3 + (1 : Int32)).toNatClampNeg), .int (xs (v3 + (2 : Int32)).toNatClampNeg)] 25 (lu25 ex) rfl (c_X6_mark _ _ _  h) k636_ k639_ k57_ k637_ k638_ qX6_mark mhX6_mark (by decide) ⟨by show _ ≤ 600000; omega, by show _ ≤ 7302250; omega⟩ rfl rfl rfl rfl (Nat.le_of_ble_eq_true rfl) rfl rfl dL_law_381 (fun r69 S68 h => ?_)
          refine go_icmp_eq C 384 387 753 dL_law_384 (by decide) rfl (fun hc => ?_) (fun hc => ?_)
          · have h := h.1 hc
            refine go_iinc C 753 756 3 3 (v3 + 4) [(3, .int _), (0, .ref _), (1, .ref _), (2, .ref _)] dL_law_753 rfl rfl (by decide) rfl rfl ?_
            refine go_goto C 756 18 dL_law_756 (by decide) ?_
            refine go_widen (k := cc + 3) (n := ss + 24) (by omega) (by omega) ?_
            exact go_perm [1, 2, 3, 0] rfl (ih (cc + 3) (ss + 24) (by omega) (by omega) _ _ h)
          · have h := h.2 hc
            refine go_iconst C 387 388 (0) dL_law_387 (by decide) rfl ?_
            exact h.elim
        · refine go_tsIn C 32 389 dL_law_32 (by omega) (by omega) (off := 357) (by rw [hc]; rfl) (by decide) ?_
          have h := h.2.2.2.2.2.2.2.1 hc
          refine go_aload_n C 389 390 1 1 dL_law_389 rfl rfl rfl ?_
          refine go_vi C 390 393 cc ss [] 0 (lu0 ex) rfl (c_X5_needed _  h) k315_ k318_ k50_ k316_ k317_ qX5_needed mhX5_needed (by decide) ⟨by show _ ≤ 600000; omega, by show _ ≤ 7302250; omega⟩ rfl rfl rfl rfl (Nat.le_of_ble_eq_true rfl) rfl rfl dL_law_390 (fun r71 S70 h => ?_)
          refine go_aload_n C 393 394 2 2 dL_law_393 rfl rfl rfl ?_
          refine go_vi C 394 397 cc ss [] 25 (lu25 ex) rfl (c_X6_needed _  h) k642_ k645_ k57_ k643_ k644_ qX6_needed mhX6_needed (by decide) ⟨by show _ ≤ 600000; omega, by show _ ≤ 7302250; omega⟩ rfl rfl rfl rfl (Nat.le_of_ble_eq_true rfl) rfl rfl dL_law_394 (fun r73 S72 h => ?_)
          refine go_icmp_eq C 397 400 753 dL_law_397 (by decide) rfl (fun hc => ?_) (fun hc => ?_)
          · have h := h.1 hc
            refine go_iinc C 753 756 3 3 (v3 + 4) [(3, .int _), (0, .ref _), (1, .ref _), (2, .ref _)] dL_law_753 rfl rfl (by decide) rfl rfl ?_
            refine go_goto C 756 18 dL_law_756 (by decide) ?_
            refine go_widen (k := cc + 3) (n := ss + 24) (by omega) (by omega) ?_
            exact go_perm [1, 2, 3, 0] rfl (ih (cc + 3) (ss + 24) (by omega) (by omega) _ _ h)
          · have h := h.2 hc
            refine go_iconst C 400 401 (0) dL_law_400 (by decide) rfl ?_
            exact h.elim
        · refine go_tsIn C 32 402 dL_law_32 (by omega) (by omega) (off := 370) (by rw [hc]; rfl) (by decide) ?_
          have h := h.2.2.2.2.2.2.2.2.1 hc
          refine go_aload_n C 402 403 1 1 dL_law_402 rfl rfl rfl ?_
          refine go_vi C 403 406 cc ss [] 0 (lu0 ex) rfl (c_X5_idle _  h) k323_ k326_ k50_ k324_ k325_ qX5_idle mhX5_idle (by decide) ⟨by show _ ≤ 600000; omega, by show _ ≤ 7302250; omega⟩ rfl rfl rfl rfl (Nat.le_of_ble_eq_true rfl) rfl rfl dL_law_403 (fun r75 S74 h => ?_)
          refine go_aload_n C 406 407 2 2 dL_law_406 rfl rfl rfl ?_
          refine go_vi C 407 410 cc ss [] 25 (lu25 ex) rfl (c_X6_idle _  h) k654_ k657_ k57_ k655_ k656_ qX6_idle mhX6_idle (by decide) ⟨by show _ ≤ 600000; omega, by show _ ≤ 7302250; omega⟩ rfl rfl rfl rfl (Nat.le_of_ble_eq_true rfl) rfl rfl dL_law_407 (fun r77 S76 h => ?_)
          refine go_icmp_eq C 410 413 753 dL_law_410 (by decide) rfl (fun hc => ?_) (fun hc => ?_)
          · have h := h.1 hc
            refine go_iinc C 753 756 3 3 (v3 + 4) [(3, .int _), (0, .ref _), (1, .ref _), (2, .ref _)] dL_law_753 rfl rfl (by decide) rfl rfl ?_
            refine go_goto C 756 18 dL_law_756 (by decide) ?_
            refine go_widen (k := cc + 3) (n := ss + 24) (by omega) (by omega) ?_
            exact go_perm [1, 2, 3, 0] rfl (ih (cc + 3) (ss + 24) (by omega) (by omega) _ _ h)
          · have h := h.2 hc
            refine go_iconst C 413 414 (0) dL_law_413 (by decide) rfl ?_
            exact h.elim
        · refine go_tsIn C 32 415 dL_law_32 (by omega) (by omega) (off := 383) (by rw [hc]; rfl) (by decide) ?_
          have h := h.2.2.2.2.2.2.2.2.2.1 hc
          refine go_aload_n C 415 416 1 1 dL_law_415 rfl rfl rfl ?_
          refine go_aload_n C 416 417 0 0 dL_law_416 rfl rfl rfl ?_
          refine go_iload_n C 417 418 3 3 dL_law_417 rfl rfl rfl ?_
          refine go_iconst C 418 419 (1) dL_law_418 (by decide) rfl ?_
          refine go_iadd C 419 420 dL_law_419 rfl ?_
          obtain ⟨hi78, h⟩ := h
          refine go_sld C 420 421 hX hbl hbA hi78 dL_law_420 rfl ?_
          refine go_vi C 421 424 cc ss [.int (xs (v3 + (1 : Int32)).toNatClampNeg)] 0 (lu0 ex) rfl (c_X5_total _ _  h) k331_ k334_ k50_ k332_ k333_ qX5_total mhX5_total (by decide) ⟨by show _ ≤ 600000; omega, by show _ ≤ 7302250; omega⟩ rfl rfl rfl rfl (Nat.le_of_ble_eq_true rfl) rfl rfl dL_law_421 (fun r80 S79 h => ?_)
          refine go_aload_n C 424 425 2 2 dL_law_424 rfl rfl rfl ?_
          refine go_aload_n C 425 426 0 0 dL_law_425 rfl rfl rfl ?_
          refine go_iload_n C 426 427 3 3 dL_law_426 rfl rfl rfl ?_
          refine go_iconst C 427 428 (1) dL_law_427 (by decide) rfl ?_
          refine go_iadd C 428 429 dL_law_428 rfl ?_
          obtain ⟨hi81, h⟩ := h
          refine go_sld C 429 430 hX hbl hbA hi81 dL_law_429 rfl ?_
          refine go_vi C 430 433 cc ss [.int (xs (v3 + (1 : Int32)).toNatClampNeg)] 25 (lu25 ex) rfl (c_X6_total _ _  h) k658_ k661_ k57_ k659_ k660_ qX6_total mhX6_total (by decide) ⟨by show _ ≤ 600000; omega, by show _ ≤ 7302250; omega⟩ rfl rfl rfl rfl (Nat.le_of_ble_eq_true rfl) rfl rfl dL_law_430 (fun r83 S82 h => ?_)
          refine go_icmp_eq C 433 436 753 dL_law_433 (by decide) rfl (fun hc => ?_) (fun hc => ?_)
          · have h := h.1 hc
            refine go_iinc C 753 756 3 3 (v3 + 4) [(3, .int _), (0, .ref _), (1, .ref _), (2, .ref _)] dL_law_753 rfl rfl (by decide) rfl rfl ?_
            refine go_goto C 756 18 dL_law_756 (by decide) ?_
            refine go_widen (k := cc + 3) (n := ss + 24) (by omega) (by omega) ?_
            exact go_perm [1, 2, 3, 0] rfl (ih (cc + 3) (ss + 24) (by omega) (by omega) _ _ h)
          · have h := h.2 hc
            refine go_iconst C 436 437 (0) dL_law_436 (by decide) rfl ?_
            exact h.elim
        · refine go_tsIn C 32 438 dL_law_32 (by omega) (by omega) (off := 406) (by rw [hc]; rfl) (by decide) ?_
          have h := h.2.2.2.2.2.2.2.2.2.2.1 hc
          refine go_aload_n C 438 439 1 1 dL_law_438 rfl rfl rfl ?_
          refine go_aload_n C 439 440 0 0 dL_law_439 rfl rfl rfl ?_
          refine go_iload_n C 440 441 3 3 dL_law_440 rfl rfl rfl ?_
          refine go_iconst C 441 442 (1) dL_law_441 (by decide) rfl ?_
          refine go_iadd C 442 443 dL_law_442 rfl ?_
          obtain ⟨hi84, h⟩ := h
          refine go_sld C 443 444 hX hbl hbA hi84 dL_law_443 rfl ?_
          refine go_vi C 444 447 cc ss [.int (xs (v3 + (1 : Int32)).toNatClampNeg)] 0 (lu0 ex) rfl (c_X5_cost _ _  h) k344_ k347_ k50_ k345_ k346_ qX5_cost mhX5_cost (by decide) ⟨by show _ ≤ 600000; omega, by show _ ≤ 7302250; omega⟩ rfl rfl rfl rfl (Nat.le_of_ble_eq_true rfl) rfl rfl dL_law_444 (fun r86 S85 h => ?_)
          refine go_aload_n C 447 448 2 2 dL_law_447 rfl rfl rfl ?_
          refine go_aload_n C 448 449 0 0 dL_law_448 rfl rfl rfl ?_
          refine go_iload_n C 449 450 3 3 dL_law_449 rfl rfl rfl ?_
          refine go_iconst C 450 451 (1) dL_law_450 (by decide) rfl ?_
          refine go_iadd C 451 452 dL_law_451 rfl ?_
          obtain ⟨hi87, h⟩ := h
          refine go_sld C 452 453 hX hbl hbA hi87 dL_law_452 rfl ?_
          refine go_vi C 453 456 cc ss [.int (xs (v3 + (1 : Int32)).toNatClampNeg)] 25 (lu25 ex) rfl (c_X6_cost _ _  h) k666_ k669_ k57_ k667_ k668_ qX6_cost mhX6_cost (by decide) ⟨by show _ ≤ 600000; omega, by show _ ≤ 7302250; omega⟩ rfl rfl rfl rfl (Nat.le_of_ble_eq_true rfl) rfl rfl dL_law_453 (fun r89 S88 h => ?_)
          refine go_icmp_eq C 456 459 753 dL_law_456 (by decide) rfl (fun hc => ?_) (fun hc => ?_)
          · have h := h.1 hc
            refine go_iinc C 753 756 3 3 (v3 + 4) [(3, .int _), (0, .ref _), (1, .ref _), (2, .ref _)] dL_law_753 rfl rfl (by decide) rfl rfl ?_
            refine go_goto C 756 18 dL_law_756 (by decide) ?_
            refine go_widen (k := cc + 3) (n := ss + 24) (by omega) (by omega) ?_
            exact go_perm [1, 2, 3, 0] rfl (ih (cc + 3) (ss + 24) (by omega) (by omega) _ _ h)
          · have h := h.2 hc
            refine go_iconst C 459 460 (0) dL_law_459 (by decide) rfl ?_
            exact h.elim
        · refine go_tsIn C 32 461 dL_law_32 (by omega) (by omega) (off := 429) (by rw [hc]; rfl) (by decide) ?_
          have h := h.2.2.2.2.2.2.2.2.2.2.2.1 hc
          refine go_aload_n C 461 462 1 1 dL_law_461 rfl rfl rfl ?_
          refine go_aload_n C 462 463 0 0 dL_law_462 rfl rfl rfl ?_
          refine go_iload_n C 463 464 3 3 dL_law_463 rfl rfl rfl ?_
          refine go_iconst C 464 465 (1) dL_law_464 (by decide) rfl ?_
          refine go_iadd C 465 466 dL_law_465 rfl ?_
          obtain ⟨hi90, h⟩ := h
          refine go_sld C 466 467 hX hbl hbA hi90 dL_law_466 rfl ?_
          refine go_aload_n C 467 468 0 0 dL_law_467 rfl rfl rfl ?_
          refine go_iload_n C 468 469 3 3 dL_law_468 rfl rfl rfl ?_
          refine go_iconst C 469 470 (2) dL_law_469 (by decide) rfl ?_
          refine go_iadd C 470 471 dL_law_470 rfl ?_
          obtain ⟨hi91, h⟩ := h
          refine go_sld C 471 472 hX hbl hbA hi91 dL_law_471 rfl ?_
          refine go_vl C 472 475 cc ss [.int (xs (v3 + (1 : Int32)).toNatClampNeg), .int (xs (v3 + (2 : Int32)).toNatClampNeg)] 0 (lu0 ex) rfl (c_X5_price _ _ _  h) k362_ k365_ k50_ k363_ k364_ qX5_price mhX5_price (by decide) ⟨by show _ ≤ 600000; omega, by show _ ≤ 7302250; omega⟩ rfl rfl rfl rfl (Nat.le_of_ble_eq_true rfl) rfl rfl dL_law_472 (fun r93 S92 h => ?_)
          refine go_aload_n C 475 476 2 2 dL_law_475 rfl rfl rfl ?_
          refine go_aload_n C 476 477 0 0 dL_law_476 rfl rfl rfl ?_
          refine go_iload_n C 477 478 3 3 dL_law_477 rfl rfl rfl ?_
          refine go_iconst C 478 479 (1) dL_law_478 (by decide) rfl ?_
          refine go_iadd C 479 480 dL_law_479 rfl ?_
          obtain ⟨hi94, h⟩ := h
          refine go_sld C 480 481 hX hbl hbA hi94 dL_law_480 rfl ?_
          refine go_aload_n C 481 482 0 0 dL_law_481 rfl rfl rfl ?_
          refine go_iload_n C 482 483 3 3 dL_law_482 rfl rfl rfl ?_
          refine go_iconst C 483 484 (2) dL_law_483 (by decide) rfl ?_
          refine go_iadd C 484 485 dL_law_484 rfl ?_
          obtain ⟨hi95, h⟩ := h
          refine go_sld C 485 486 hX hbl hbA hi95 dL_law_485 rfl ?_
          refine go_vl C 486 489 cc ss [.int (xs (v3 + (1 : Int32)).toNatClampNeg), .int (xs (v3 + (2 : Int32)).toNatClampNeg)] 25 (lu25 ex) rfl (c_X6_price _ _ _  h) k678_ k681_ k57_ k679_ k680_ qX6_price mhX6_price (by decide) ⟨by show _ ≤ 600000; omega, by show _ ≤ 7302250; omega⟩ rfl rfl rfl rfl (Nat.le_of_ble_eq_true rfl) rfl rfl dL_law_486 (fun r97 S96 h => ?_)
          refine go_lcmp_eq C 489 493 753 dL_law_489 dL_law_490 (by decide) rfl (fun hc => ?_) (fun hc => ?_)
          · have h := h.1 hc
            refine go_iinc C 753 756 3 3 (v3 + 4) [(3, .int _), (0, .ref _), (1, .ref _), (2, .ref _)] dL_law_753 rfl rfl (by decide) rfl rfl ?_
            refine go_goto C 756 18 dL_law_756 (by decide) ?_
            refine go_widen (k := cc + 3) (n := ss + 24) (by omega) (by omega) ?_
            exact go_perm [1, 2, 3, 0] rfl (ih (cc + 3) (ss + 24) (by omega) (by omega) _ _ h)
          · have h := h.2 hc
            refine go_iconst C 493 494 (0) dL_law_493 (by decide) rfl ?_
            exact h.elim
        · refine go_tsIn C 32 495 dL_law_32 (by omega) (by omega) (off := 463) (by rw [hc]; rfl) (by decide) ?_
          have h := h.2.2.2.2.2.2.2.2.2.2.2.2.1 hc
          refine go_aload_n C 495 496 1 1 dL_law_495 rfl rfl rfl ?_
          refine go_aload_n C 496 497 0 0 dL_law_496 rfl rfl rfl ?_
          refine go_iload_n C 497 498 3 3 dL_law_497 rfl rfl rfl ?_
          refine go_iconst C 498 499 (1) dL_law_498 (by decide) rfl ?_
          refine go_iadd C 499 500 dL_law_499 rfl ?_
          obtain ⟨hi98, h⟩ := h
          refine go_sld C 500 501 hX hbl hbA hi98 dL_law_500 rfl ?_
          refine go_aload_n C 501 502 0 0 dL_law_501 rfl rfl rfl ?_
          refine go_iload_n C 502 503 3 3 dL_law_502 rfl rfl rfl ?_
          refine go_iconst C 503 504 (2) dL_law_503 (by decide) rfl ?_
          refine go_iadd C 504 505 dL_law_504 rfl ?_
          obtain ⟨hi99, h⟩ := h
          refine go_sld C 505 506 hX hbl hbA hi99 dL_law_505 rfl ?_
          refine go_aload_n C 506 507 0 0 dL_law_506 rfl rfl rfl ?_
          refine go_iload_n C 507 508 3 3 dL_law_507 rfl rfl rfl ?_
          refine go_iconst C 508 509 (3) dL_law_508 (by decide) rfl ?_
          refine go_iadd C 509 510 dL_law_509 rfl ?_
          obtain ⟨hi100, h⟩ := h
          refine go_sld C 510 511 hX hbl hbA hi100 dL_law_510 rfl ?_
          refine go_vl C 511 514 cc ss [.int (xs (v3 + (1 : Int32)).toNatClampNeg), .int (xs (v3 + (2 : Int32)).toNatClampNeg), .int (xs (v3 + (3 : Int32)).toNatClampNeg)] 0 (lu0 ex) rfl (c_X5_bill _ _ _ _  h) k412_ k415_ k50_ k413_ k414_ qX5_bill mhX5_bill (by decide) ⟨by show _ ≤ 600000; omega, by show _ ≤ 7302250; omega⟩ rfl rfl rfl rfl (Nat.le_of_ble_eq_true rfl) rfl rfl dL_law_511 (fun r102 S101 h => ?_)
          refine go_aload_n C 514 515 2 2 dL_law_514 rfl rfl rfl ?_
          refine go_aload_n C 515 516 0 0 dL_law_515 rfl rfl rfl ?_
          refine go_iload_n C 516 517 3 3 dL_law_516 rfl rfl rfl ?_
          refine go_iconst C 517 518 (1) dL_law_517 (by decide) rfl ?_
          refine go_iadd C 518 519 dL_law_518 rfl ?_
          obtain ⟨hi103, h⟩ := h
          refine go_sld C 519 520 hX hbl hbA hi103 dL_law_519 rfl ?_
          refine go_aload_n C 520 521 0 0 dL_law_520 rfl rfl rfl ?_
          refine go_iload_n C 521 522 3 3 dL_law_521 rfl rfl rfl ?_
          refine go_iconst C 522 523 (2) dL_law_522 (by decide) rfl ?_
          refine go_iadd C 523 524 dL_law_523 rfl ?_
          obtain ⟨hi104, h⟩ := h
          refine go_sld C 524 525 hX hbl hbA hi104 dL_law_524 rfl ?_
          refine go_aload_n C 525 526 0 0 dL_law_525 rfl rfl rfl ?_
          refine go_iload_n C 526 527 3 3 dL_law_526 rfl rfl rfl ?_
          refine go_iconst C 527 528 (3) dL_law_527 (by decide) rfl ?_
          refine go_iadd C 528 529 dL_law_528 rfl ?_
          obtain ⟨hi105, h⟩ := h
          refine go_sld C 529 530 hX hbl hbA hi105 dL_law_529 rfl ?_
          refine go_vl C 530 533 cc ss [.int (xs (v3 + (1 : Int32)).toNatClampNeg), .int (xs (v3 + (2 : Int32)).toNatClampNeg), .int (xs (v3 + (3 : Int32)).toNatClampNeg)] 25 (lu25 ex) rfl (c_X6_bill _ _ _ _  h) k698_ k701_ k57_ k699_ k700_ qX6_bill mhX6_bill (by decide) ⟨by show _ ≤ 600000; omega, by show _ ≤ 7302250; omega⟩ rfl rfl rfl rfl (Nat.le_of_ble_eq_true rfl) rfl rfl dL_law_530 (fun r107 S106 h => ?_)
          refine go_lcmp_eq C 533 537 753 dL_law_533 dL_law_534 (by decide) rfl (fun hc => ?_) (fun hc => ?_)
          · have h := h.1 hc
            refine go_iinc C 753 756 3 3 (v3 + 4) [(3, .int _), (0, .ref _), (1, .ref _), (2, .ref _)] dL_law_753 rfl rfl (by decide) rfl rfl ?_
            refine go_goto C 756 18 dL_law_756 (by decide) ?_
            refine go_widen (k := cc + 3) (n := ss + 24) (by omega) (by omega) ?_
            exact go_perm [1, 2, 3, 0] rfl (ih (cc + 3) (ss + 24) (by omega) (by omega) _ _ h)
          · have h := h.2 hc
            refine go_iconst C 537 538 (0) dL_law_537 (by decide) rfl ?_
            exact h.elim
        · refine go_tsIn C 32 539 dL_law_32 (by omega) (by omega) (off := 507) (by rw [hc]; rfl) (by decide) ?_
          have h := h.2.2.2.2.2.2.2.2.2.2.2.2.2.1 hc
          refine go_aload_n C 539 540 1 1 dL_law_539 rfl rfl rfl ?_
          refine go_aload_n C 540 541 0 0 dL_law_540 rfl rfl rfl ?_
          refine go_iload_n C 541 542 3 3 dL_law_541 rfl rfl rfl ?_
          refine go_iconst C 542 543 (1) dL_law_542 (by decide) rfl ?_
          refine go_iadd C 543 544 dL_law_543 rfl ?_
          obtain ⟨hi108, h⟩ := h
          refine go_sld C 544 545 hX hbl hbA hi108 dL_law_544 rfl ?_
          refine go_aload_n C 545 546 0 0 dL_law_545 rfl rfl rfl ?_
          refine go_iload_n C 546 547 3 3 dL_law_546 rfl rfl rfl ?_
          refine go_iconst C 547 548 (2) dL_law_547 (by decide) rfl ?_
          refine go_iadd C 548 549 dL_law_548 rfl ?_
          obtain ⟨hi109, h⟩ := h
          refine go_sld C 549 550 hX hbl hbA hi109 dL_law_549 rfl ?_
          refine go_vi C 550 553 cc ss [.int (xs (v3 + (1 : Int32)).toNatClampNeg), .int (xs (v3 + (2 : Int32)).toNatClampNeg)] 0 (lu0 ex) rfl (c_X5_coins _ _ _  h) k444_ k447_ k50_ k445_ k446_ qX5_coins mhX5_coins (by decide) ⟨by show _ ≤ 600000; omega, by show _ ≤ 7302250; omega⟩ rfl rfl rfl rfl (Nat.le_of_ble_eq_true rfl) rfl rfl dL_law_550 (fun r111 S110 h => ?_)
          refine go_aload_n C 553 554 2 2 dL_law_553 rfl rfl rfl ?_
          refine go_aload_n C 554 555 0 0 dL_law_554 rfl rfl rfl ?_
          refine go_iload_n C 555 556 3 3 dL_law_555 rfl rfl rfl ?_
          refine go_iconst C 556 557 (1) dL_law_556 (by decide) rfl ?_
          refine go_iadd C 557 558 dL_law_557 rfl ?_
          obtain ⟨hi112, h⟩ := h
          refine go_sld C 558 559 hX hbl hbA hi112 dL_law_558 rfl ?_
          refine go_aload_n C 559 560 0 0 dL_law_559 rfl rfl rfl ?_
          refine go_iload_n C 560 561 3 3 dL_law_560 rfl rfl rfl ?_
          refine go_iconst C 561 562 (2) dL_law_561 (by decide) rfl ?_
          refine go_iadd C 562 563 dL_law_562 rfl ?_
          obtain ⟨hi113, h⟩ := h
          refine go_sld C 563 564 hX hbl hbA hi113 dL_law_563 rfl ?_
          refine go_vi C 564 567 (cc + 1) (ss + 8) [.int (xs (v3 + (1 : Int32)).toNatClampNeg), .int (xs (v3 + (2 : Int32)).toNatClampNeg)] 25 (lu25 ex) rfl (c_X6_coins _ _ _  h) k717_ k720_ k57_ k718_ k719_ qX6_coins mhX6_coins (by decide) ⟨by show _ ≤ 600000; omega, by show _ ≤ 7302250; omega⟩ rfl rfl rfl rfl (Nat.le_of_ble_eq_true rfl) rfl rfl dL_law_564 (fun r115 S114 h => ?_)
          refine go_icmp_eq C 567 570 753 dL_law_567 (by decide) rfl (fun hc => ?_) (fun hc => ?_)
          · have h := h.1 hc
            refine go_iinc C 753 756 3 3 (v3 + 4) [(3, .int _), (0, .ref _), (1, .ref _), (2, .ref _)] dL_law_753 rfl rfl (by decide) rfl rfl ?_
            refine go_goto C 756 18 dL_law_756 (by decide) ?_
            refine go_widen (k := cc + 3) (n := ss + 24) (by omega) (by omega) ?_
            exact go_perm [1, 2, 3, 0] rfl (ih (cc + 3) (ss + 24) (by omega) (by omega) _ _ h)
          · have h := h.2 hc
            refine go_iconst C 570 571 (0) dL_law_570 (by decide) rfl ?_
            exact h.elim
        · refine go_tsIn C 32 572 dL_law_32 (by omega) (by omega) (off := 540) (by rw [hc]; rfl) (by decide) ?_
          have h := h.2.2.2.2.2.2.2.2.2.2.2.2.2.2.1 hc
          refine go_aload_n C 572 573 1 1 dL_law_572 rfl rfl rfl ?_
          refine go_aload_n C 573 574 0 0 dL_law_573 rfl rfl rfl ?_
          refine go_iload_n C 574 575 3 3 dL_law_574 rfl rfl rfl ?_
          refine go_iconst C 575 576 (1) dL_law_575 (by decide) rfl ?_
          refine go_iadd C 576 577 dL_law_576 rfl ?_
          obtain ⟨hi116, h⟩ := h
          refine go_sld C 577 578 hX hbl hbA hi116 dL_law_577 rfl ?_
          refine go_vi C 578 581 cc ss [.int (xs (v3 + (1 : Int32)).toNatClampNeg)] 0 (lu0 ex) rfl (c_X5_leaving _ _  h) k462_ k465_ k50_ k463_ k464_ qX5_leaving mhX5_leaving (by decide) ⟨by show _ ≤ 600000; omega, by show _ ≤ 7302250; omega⟩ rfl rfl rfl rfl (Nat.le_of_ble_eq_true rfl) rfl rfl dL_law_578 (fun r118 S117 h => ?_)
          refine go_aload_n C 581 582 2 2 dL_law_581 rfl rfl rfl ?_
          refine go_aload_n C 582 583 0 0 dL_law_582 rfl rfl rfl ?_
          refine go_iload_n C 583 584 3 3 dL_law_583 rfl rfl rfl ?_
          refine go_iconst C 584 585 (1) dL_law_584 (by decide) rfl ?_
          refine go_iadd C 585 586 dL_law_585 rfl ?_
          obtain ⟨hi119, h⟩ := h
          refine go_sld C 586 587 hX hbl hbA hi119 dL_law_586 rfl ?_
          refine go_vi C 587 590 cc ss [.int (xs (v3 + (1 : Int32)).toNatClampNeg)] 25 (lu25 ex) rfl (c_X6_leaving _ _  h) k726_ k729_ k57_ k727_ k728_ qX6_leaving mhX6_leaving (by decide) ⟨by show _ ≤ 600000; omega, by show _ ≤ 7302250; omega⟩ rfl rfl rfl rfl (Nat.le_of_ble_eq_true rfl) rfl rfl dL_law_587 (fun r121 S120 h => ?_)
          refine go_icmp_eq C 590 593 753 dL_law_590 (by decide) rfl (fun hc => ?_) (fun hc => ?_)
          · have h := h.1 hc
            refine go_iinc C 753 756 3 3 (v3 + 4) [(3, .int _), (0, .ref _), (1, .ref _), (2, .ref _)] dL_law_753 rfl rfl (by decide) rfl rfl ?_
            refine go_goto C 756 18 dL_law_756 (by decide) ?_
            refine go_widen (k := cc + 3) (n := ss + 24) (by omega) (by omega) ?_
            exact go_perm [1, 2, 3, 0] rfl (ih (cc + 3) (ss + 24) (by omega) (by omega) _ _ h)
          · have h := h.2 hc
            refine go_iconst C 593 594 (0) dL_law_593 (by decide) rfl ?_
            exact h.elim
        · refine go_tsIn C 32 595 dL_law_32 (by omega) (by omega) (off := 563) (by rw [hc]; rfl) (by decide) ?_
          have h := h.2.2.2.2.2.2.2.2.2.2.2.2.2.2.2.1 hc
          refine go_aload_n C 595 596 1 1 dL_law_595 rfl rfl rfl ?_
          refine go_aload_n C 596 597 0 0 dL_law_596 rfl rfl rfl ?_
          refine go_iload_n C 597 598 3 3 dL_law_597 rfl rfl rfl ?_
          refine go_iconst C 598 599 (1) dL_law_598 (by decide) rfl ?_
          refine go_iadd C 599 600 dL_law_599 rfl ?_
          obtain ⟨hi122, h⟩ := h
          refine go_sld C 600 601 hX hbl hbA hi122 dL_law_600 rfl ?_
          refine go_vi C 601 604 cc ss [.int (xs (v3 + (1 : Int32)).toNatClampNeg)] 0 (lu0 ex) rfl (c_X5_saved _ _  h) k470_ k473_ k50_ k471_ k472_ qX5_saved mhX5_saved (by decide) ⟨by show _ ≤ 600000; omega, by show _ ≤ 7302250; omega⟩ rfl rfl rfl rfl (Nat.le_of_ble_eq_true rfl) rfl rfl dL_law_601 (fun r124 S123 h => ?_)
          refine go_aload_n C 604 605 2 2 dL_law_604 rfl rfl rfl ?_
          refine go_aload_n C 605 606 0 0 dL_law_605 rfl rfl rfl ?_
          refine go_iload_n C 606 607 3 3 dL_law_606 rfl rfl rfl ?_
          refine go_iconst C 607 608 (1) dL_law_607 (by decide) rfl ?_
          refine go_iadd C 608 609 dL_law_608 rfl ?_
          obtain ⟨hi125, h⟩ := h
          refine go_sld C 609 610 hX hbl hbA hi125 dL_law_609 rfl ?_
          refine go_vi C 610 613 cc ss [.int (xs (v3 + (1 : Int32)).toNatClampNeg)] 25 (lu25 ex) rfl (c_X6_saved _ _  h) k730_ k733_ k57_ k731_ k732_ qX6_saved mhX6_saved (by decide) ⟨by show _ ≤ 600000; omega, by show _ ≤ 7302250; omega⟩ rfl rfl rfl rfl (Nat.le_of_ble_eq_true rfl) rfl rfl dL_law_610 (fun r127 S126 h => ?_)
          refine go_icmp_eq C 613 616 753 dL_law_613 (by decide) rfl (fun hc => ?_) (fun hc => ?_)
          · have h := h.1 hc
            refine go_iinc C 753 756 3 3 (v3 + 4) [(3, .int _), (0, .ref _), (1, .ref _), (2, .ref _)] dL_law_753 rfl rfl (by decide) rfl rfl ?_
            refine go_goto C 756 18 dL_law_756 (by decide) ?_
            refine go_widen (k := cc + 3) (n := ss + 24) (by omega) (by omega) ?_
            exact go_perm [1, 2, 3, 0] rfl (ih (cc + 3) (ss + 24) (by omega) (by omega) _ _ h)
          · have h := h.2 hc
            refine go_iconst C 616 617 (0) dL_law_616 (by decide) rfl ?_
            exact h.elim
        · refine go_tsIn C 32 618 dL_law_32 (by omega) (by omega) (off := 586) (by rw [hc]; rfl) (by decide) ?_
          have h := h.2.2.2.2.2.2.2.2.2.2.2.2.2.2.2.2.1 hc
          refine go_aload_n C 618 619 1 1 dL_law_618 rfl rfl rfl ?_
          refine go_aload_n C 619 620 0 0 dL_law_619 rfl rfl rfl ?_
          refine go_iload_n C 620 621 3 3 dL_law_620 rfl rfl rfl ?_
          refine go_iconst C 621 622 (1) dL_law_621 (by decide) rfl ?_
          refine go_iadd C 622 623 dL_law_622 rfl ?_
          obtain ⟨hi128, h⟩ := h
          refine go_sld C 623 624 hX hbl hbA hi128 dL_law_623 rfl ?_
          refine go_aload_n C 624 625 0 0 dL_law_624 rfl rfl rfl ?_
          refine go_iload_n C 625 626 3 3 dL_law_625 rfl rfl rfl ?_
          refine go_iconst C 626 627 (2) dL_law_626 (by decide) rfl ?_
          refine go_iadd C 627 628 dL_law_627 rfl ?_
          obtain ⟨hi129, h⟩ := h
          refine go_sld C 628 629 hX hbl hbA hi129 dL_law_628 rfl ?_
          refine go_vi C 629 632 cc ss [.int (xs (v3 + (1 : Int32)).toNatClampNeg), .int (xs (v3 + (2 : Int32)).toNatClampNeg)] 0 (lu0 ex) rfl (c_X5_differ _ _ _  h) k474_ k477_ k50_ k475_ k476_ qX5_differ mhX5_differ (by decide) ⟨by show _ ≤ 600000; omega, by show _ ≤ 7302250; omega⟩ rfl rfl rfl rfl (Nat.le_of_ble_eq_true rfl) rfl rfl dL_law_629 (fun r131 S130 h => ?_)
          refine go_aload_n C 632 633 2 2 dL_law_632 rfl rfl rfl ?_
          refine go_aload_n C 633 634 0 0 dL_law_633 rfl rfl rfl ?_
          refine go_iload_n C 634 635 3 3 dL_law_634 rfl rfl rfl ?_
          refine go_iconst C 635 636 (1) dL_law_635 (by decide) rfl ?_
          refine go_iadd C 636 637 dL_law_636 rfl ?_
          obtain ⟨hi132, h⟩ := h
          refine go_sld C 637 638 hX hbl hbA hi132 dL_law_637 rfl ?_
          refine go_aload_n C 638 639 0 0 dL_law_638 rfl rfl rfl ?_
          refine go_iload_n C 639 640 3 3 dL_law_639 rfl rfl rfl ?_
          refine go_iconst C 640 641 (2) dL_law_640 (by decide) rfl ?_
          refine go_iadd C 641 642 dL_law_641 rfl ?_
          obtain ⟨hi133, h⟩ := h
          refine go_sld C 642 643 hX hbl hbA hi133 dL_law_642 rfl ?_
          refine go_vi C 643 646 (cc + 3) (ss + 24) [.int (xs (v3 + (1 : Int32)).toNatClampNeg), .int (xs (v3 + (2 : Int32)).toNatClampNeg)] 25 (lu25 ex) rfl (c_X6_differ _ _ _  h) k734_ k737_ k57_ k735_ k736_ qX6_differ mhX6_differ (by decide) ⟨by show _ ≤ 600000; omega, by show _ ≤ 7302250; omega⟩ rfl rfl rfl rfl (Nat.le_of_ble_eq_true rfl) rfl rfl dL_law_643 (fun r135 S134 h => ?_)
          refine go_icmp_eq C 646 649 753 dL_law_646 (by decide) rfl (fun hc => ?_) (fun hc => ?_)
          · have h := h.1 hc
            refine go_iinc C 753 756 3 3 (v3 + 4) [(3, .int _), (0, .ref _), (1, .ref _), (2, .ref _)] dL_law_753 rfl rfl (by decide) rfl rfl ?_
            refine go_goto C 756 18 dL_law_756 (by decide) ?_
            refine go_widen (k := cc + 3) (n := ss + 24) (by omega) (by omega) ?_
            exact go_perm [1, 2, 3, 0] rfl (ih (cc + 3) (ss + 24) (by omega) (by omega) _ _ h)
          · have h := h.2 hc
            refine go_iconst C 649 650 (0) dL_law_649 (by decide) rfl ?_
            exact h.elim
        · refine go_tsIn C 32 651 dL_law_32 (by omega) (by omega) (off := 619) (by rw [hc]; rfl) (by decide) ?_
          have h := h.2.2.2.2.2.2.2.2.2.2.2.2.2.2.2.2.2.1 hc
          refine go_aload_n C 651 652 1 1 dL_law_651 rfl rfl rfl ?_
          refine go_aload_n C 652 653 0 0 dL_law_652 rfl rfl rfl ?_
          refine go_iload_n C 653 654 3 3 dL_law_653 rfl rfl rfl ?_
          refine go_iconst C 654 655 (1) dL_law_654 (by decide) rfl ?_
          refine go_iadd C 655 656 dL_law_655 rfl ?_
          obtain ⟨hi136, h⟩ := h
          refine go_sld C 656 657 hX hbl hbA hi136 dL_law_656 rfl ?_
          refine go_vi C 657 660 cc ss [.int (xs (v3 + (1 : Int32)).toNatClampNeg)] 0 (lu0 ex) rfl (c_X5_book _ _  h) k481_ k484_ k50_ k482_ k483_ qX5_book mhX5_book (by decide) ⟨by show _ ≤ 600000; omega, by show _ ≤ 7302250; omega⟩ rfl rfl rfl rfl (Nat.le_of_ble_eq_true rfl) rfl rfl dL_law_657 (fun r138 S137 h => ?_)
          refine go_aload_n C 660 661 2 2 dL_law_660 rfl rfl rfl ?_
          refine go_aload_n C 661 662 0 0 dL_law_661 rfl rfl rfl ?_
          refine go_iload_n C 662 663 3 3 dL_law_662 rfl rfl rfl ?_
          refine go_iconst C 663 664 (1) dL_law_663 (by decide) rfl ?_
          refine go_iadd C 664 665 dL_law_664 rfl ?_
          obtain ⟨hi139, h⟩ := h
          refine go_sld C 665 666 hX hbl hbA hi139 dL_law_665 rfl ?_
          refine go_vi C 666 669 (cc + 1) (ss + 8) [.int (xs (v3 + (1 : Int32)).toNatClampNeg)] 25 (lu25 ex) rfl (c_X6_book _ _  h) k746_ k749_ k57_ k747_ k748_ qX6_book mhX6_book (by decide) ⟨by show _ ≤ 600000; omega, by show _ ≤ 7302250; omega⟩ rfl rfl rfl rfl (Nat.le_of_ble_eq_true rfl) rfl rfl dL_law_666 (fun r141 S140 h => ?_)
          refine go_icmp_eq C 669 672 753 dL_law_669 (by decide) rfl (fun hc => ?_) (fun hc => ?_)
          · have h := h.1 hc
            refine go_iinc C 753 756 3 3 (v3 + 4) [(3, .int _), (0, .ref _), (1, .ref _), (2, .ref _)] dL_law_753 rfl rfl (by decide) rfl rfl ?_
            refine go_goto C 756 18 dL_law_756 (by decide) ?_
            refine go_widen (k := cc + 3) (n := ss + 24) (by omega) (by omega) ?_
            exact go_perm [1, 2, 3, 0] rfl (ih (cc + 3) (ss + 24) (by omega) (by omega) _ _ h)
          · have h := h.2 hc
            refine go_iconst C 672 673 (0) dL_law_672 (by decide) rfl ?_
            exact h.elim
        · refine go_tsIn C 32 674 dL_law_32 (by omega) (by omega) (off := 642) (by rw [hc]; rfl) (by decide) ?_
          have h := h.2.2.2.2.2.2.2.2.2.2.2.2.2.2.2.2.2.2.1 hc
          refine go_aload_n C 674 675 1 1 dL_law_674 rfl rfl rfl ?_
          refine go_aload_n C 675 676 0 0 dL_law_675 rfl rfl rfl ?_
          refine go_iload_n C 676 677 3 3 dL_law_676 rfl rfl rfl ?_
          refine go_iconst C 677 678 (1) dL_law_677 (by decide) rfl ?_
          refine go_iadd C 678 679 dL_law_678 rfl ?_
          obtain ⟨hi142, h⟩ := h
          refine go_sld C 679 680 hX hbl hbA hi142 dL_law_679 rfl ?_
          refine go_vi C 680 683 cc ss [.int (xs (v3 + (1 : Int32)).toNatClampNeg)] 0 (lu0 ex) rfl (c_X5_booked _ _  h) k493_ k496_ k50_ k494_ k495_ qX5_booked mhX5_booked (by decide) ⟨by show _ ≤ 600000; omega, by show _ ≤ 7302250; omega⟩ rfl rfl rfl rfl (Nat.le_of_ble_eq_true rfl) rfl rfl dL_law_680 (fun r144 S143 h => ?_)
          refine go_aload_n C 683 684 2 2 dL_law_683 rfl rfl rfl ?_
          refine go_aload_n C 684 685 0 0 dL_law_684 rfl rfl rfl ?_
          refine go_iload_n C 685 686 3 3 dL_law_685 rfl rfl rfl ?_
          refine go_iconst C 686 687 (1) dL_law_686 (by decide) rfl ?_
          refine go_iadd C 687 688 dL_law_687 rfl ?_
          obtain ⟨hi145, h⟩ := h
          refine go_sld C 688 689 hX hbl hbA hi145 dL_law_688 rfl ?_
          refine go_vi C 689 692 cc ss [.int (xs (v3 + (1 : Int32)).toNatClampNeg)] 25 (lu25 ex) rfl (c_X6_booked _ _  h) k750_ k753_ k57_ k751_ k752_ qX6_booked mhX6_booked (by decide) ⟨by show _ ≤ 600000; omega, by show _ ≤ 7302250; omega⟩ rfl rfl rfl rfl (Nat.le_of_ble_eq_true rfl) rfl rfl dL_law_689 (fun r147 S146 h => ?_)
          refine go_icmp_eq C 692 695 753 dL_law_692 (by decide) rfl (fun hc => ?_) (fun hc => ?_)
          · have h := h.1 hc
            refine go_iinc C 753 756 3 3 (v3 + 4) [(3, .int _), (0, .ref _), (1, .ref _), (2, .ref _)] dL_law_753 rfl rfl (by decide) rfl rfl ?_
            refine go_goto C 756 18 dL_law_756 (by decide) ?_
            refine go_widen (k := cc + 3) (n := ss + 24) (by omega) (by omega) ?_
            exact go_perm [1, 2, 3, 0] rfl (ih (cc + 3) (ss + 24) (by omega) (by omega) _ _ h)
          · have h := h.2 hc
            refine go_iconst C 695 696 (0) dL_law_695 (by decide) rfl ?_
            exact h.elim
        · refine go_tsIn C 32 697 dL_law_32 (by omega) (by omega) (off := 665) (by rw [hc]; rfl) (by decide) ?_
          have h := h.2.2.2.2.2.2.2.2.2.2.2.2.2.2.2.2.2.2.2.1 hc
          refine go_aload_n C 697 698 1 1 dL_law_697 rfl rfl rfl ?_
          refine go_aload_n C 698 699 0 0 dL_law_698 rfl rfl rfl ?_
          refine go_iload_n C 699 700 3 3 dL_law_699 rfl rfl rfl ?_
          refine go_iconst C 700 701 (1) dL_law_700 (by decide) rfl ?_
          refine go_iadd C 701 702 dL_law_701 rfl ?_
          obtain ⟨hi148, h⟩ := h
          refine go_sld C 702 703 hX hbl hbA hi148 dL_law_702 rfl ?_
          refine go_aload_n C 703 704 0 0 dL_law_703 rfl rfl rfl ?_
          refine go_iload_n C 704 705 3 3 dL_law_704 rfl rfl rfl ?_
          refine go_iconst C 705 706 (2) dL_law_705 (by decide) rfl ?_
          refine go_iadd C 706 707 dL_law_706 rfl ?_
          obtain ⟨hi149, h⟩ := h
          refine go_sld C 707 708 hX hbl hbA hi149 dL_law_707 rfl ?_
          refine go_vi C 708 711 cc ss [.int (xs (v3 + (1 : Int32)).toNatClampNeg), .int (xs (v3 + (2 : Int32)).toNatClampNeg)] 0 (lu0 ex) rfl (c_X5_line _ _ _  h) k497_ k500_ k50_ k498_ k499_ qX5_line mhX5_line (by decide) ⟨by show _ ≤ 600000; omega, by show _ ≤ 7302250; omega⟩ rfl rfl rfl rfl (Nat.le_of_ble_eq_true rfl) rfl rfl dL_law_708 (fun r151 S150 h => ?_)
          refine go_aload_n C 711 712 2 2 dL_law_711 rfl rfl rfl ?_
          refine go_aload_n C 712 713 0 0 dL_law_712 rfl rfl rfl ?_
          refine go_iload_n C 713 714 3 3 dL_law_713 rfl rfl rfl ?_
          refine go_iconst C 714 715 (1) dL_law_714 (by decide) rfl ?_
          refine go_iadd C 715 716 dL_law_715 rfl ?_
          obtain ⟨hi152, h⟩ := h
          refine go_sld C 716 717 hX hbl hbA hi152 dL_law_716 rfl ?_
          refine go_aload_n C 717 718 0 0 dL_law_717 rfl rfl rfl ?_
          refine go_iload_n C 718 719 3 3 dL_law_718 rfl rfl rfl ?_
          refine go_iconst C 719 720 (2) dL_law_719 (by decide) rfl ?_
          refine go_iadd C 720 721 dL_law_720 rfl ?_
          obtain ⟨hi153, h⟩ := h
          refine go_sld C 721 722 hX hbl hbA hi153 dL_law_721 rfl ?_
          refine go_vi C 722 725 cc ss [.int (xs (v3 + (1 : Int32)).toNatClampNeg), .int (xs (v3 + (2 : Int32)).toNatClampNeg)] 25 (lu25 ex) rfl (c_X6_line _ _ _  h) k754_ k757_ k57_ k755_ k756_ qX6_line mhX6_line (by decide) ⟨by show _ ≤ 600000; omega, by show _ ≤ 7302250; omega⟩ rfl rfl rfl rfl (Nat.le_of_ble_eq_true rfl) rfl rfl dL_law_722 (fun r155 S154 h => ?_)
          refine go_icmp_eq C 725 728 753 dL_law_725 (by decide) rfl (fun hc => ?_) (fun hc => ?_)
          · have h := h.1 hc
            refine go_iinc C 753 756 3 3 (v3 + 4) [(3, .int _), (0, .ref _), (1, .ref _), (2, .ref _)] dL_law_753 rfl rfl (by decide) rfl rfl ?_
            refine go_goto C 756 18 dL_law_756 (by decide) ?_
            refine go_widen (k := cc + 3) (n := ss + 24) (by omega) (by omega) ?_
            exact go_perm [1, 2, 3, 0] rfl (ih (cc + 3) (ss + 24) (by omega) (by omega) _ _ h)
          · have h := h.2 hc
            refine go_iconst C 728 729 (0) dL_law_728 (by decide) rfl ?_
            exact h.elim
        · refine go_tsIn C 32 730 dL_law_32 (by omega) (by omega) (off := 698) (by rw [hc]; rfl) (by decide) ?_
          have h := h.2.2.2.2.2.2.2.2.2.2.2.2.2.2.2.2.2.2.2.2 hc
          refine go_aload_n C 730 731 1 1 dL_law_730 rfl rfl rfl ?_
          refine go_aload_n C 731 732 0 0 dL_law_731 rfl rfl rfl ?_
          refine go_iload_n C 732 733 3 3 dL_law_732 rfl rfl rfl ?_
          refine go_iconst C 733 734 (1) dL_law_733 (by decide) rfl ?_
          refine go_iadd C 734 735 dL_law_734 rfl ?_
          obtain ⟨hi156, h⟩ := h
          refine go_sld C 735 736 hX hbl hbA hi156 dL_law_735 rfl ?_
          refine go_vi C 736 739 cc ss [.int (xs (v3 + (1 : Int32)).toNatClampNeg)] 0 (lu0 ex) rfl (c_X5_count _ _  h) k501_ k504_ k50_ k502_ k503_ qX5_count mhX5_count (by decide) ⟨by show _ ≤ 600000; omega, by show _ ≤ 7302250; omega⟩ rfl rfl rfl rfl (Nat.le_of_ble_eq_true rfl) rfl rfl dL_law_736 (fun r158 S157 h => ?_)
          refine go_aload_n C 739 740 2 2 dL_law_739 rfl rfl rfl ?_
          refine go_aload_n C 740 741 0 0 dL_law_740 rfl rfl rfl ?_
          refine go_iload_n C 741 742 3 3 dL_law_741 rfl rfl rfl ?_
          refine go_iconst C 742 743 (1) dL_law_742 (by decide) rfl ?_
          refine go_iadd C 743 744 dL_law_743 rfl ?_
          obtain ⟨hi159, h⟩ := h
          refine go_sld C 744 745 hX hbl hbA hi159 dL_law_744 rfl ?_
          refine go_vi C 745 748 cc ss [.int (xs (v3 + (1 : Int32)).toNatClampNeg)] 25 (lu25 ex) rfl (c_X6_count _ _  h) k758_ k761_ k57_ k759_ k760_ qX6_count mhX6_count (by decide) ⟨by show _ ≤ 600000; omega, by show _ ≤ 7302250; omega⟩ rfl rfl rfl rfl (Nat.le_of_ble_eq_true rfl) rfl rfl dL_law_745 (fun r161 S160 h => ?_)
          refine go_icmp_eq C 748 751 753 dL_law_748 (by decide) rfl (fun hc => ?_) (fun hc => ?_)
          · have h := h.1 hc
            refine go_iinc C 753 756 3 3 (v3 + 4) [(3, .int _), (0, .ref _), (1, .ref _), (2, .ref _)] dL_law_753 rfl rfl (by decide) rfl rfl ?_
            refine go_goto C 756 18 dL_law_756 (by decide) ?_
            refine go_widen (k := cc + 3) (n := ss + 24) (by omega) (by omega) ?_
            exact go_perm [1, 2, 3, 0] rfl (ih (cc + 3) (ss + 24) (by omega) (by omega) _ _ h)
          · have h := h.2 hc
            refine go_iconst C 751 752 (0) dL_law_751 (by decide) rfl ?_
            exact h.elim
