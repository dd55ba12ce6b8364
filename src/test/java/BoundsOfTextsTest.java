/** 'Terms' II, the language of texts: each sentence that names a bound, and each of the FAULTS. */
public final class BoundsOfTextsTest {
    private static void due(String call, long got, long want) { Bounds.due(call, got, want); }

    private static void due(String call, boolean got, boolean want) { Bounds.due(call, got, want); }

    private static void sound(String text) { Bounds.sound(text); }

    private static void faulty(String text, int kind, int place) { Bounds.faulty(text, kind, place); }

    public static void main(String[] args) {
        texts();
        tokens();
        clauses();
        sums();
        firstFaults();
        numbers();
        open();
        otherFaults();
        arithmetic();
        laws();
        played();
        Bounds.end();
    }

    // ---- TEXTS, TOKENS

    private static void texts() {
        Bounds.sentence("TEXTS 0 .. 3", () -> {
            HouseClearedUp x = Bounds.one(0, 50, 9);
            for (int i = 0; i < 4; i++) due("text", Bounds.read(x, "reserve " + (10 + i) + ";"), i);
            due("a 5th", Bounds.read(x, "reserve 14;"), -1);
            due("texts", x.about(2), 4);
            for (int i = 0; i < 4; i++) {
                due("by", x.by(i), true);
                due("reserve by it", x.of(0, 4), 10 + i);
            }
            due("by(4)", x.by(4), false);
        });
        Bounds.sentence("of up to 300 bytes", () -> {
            for (int length = 298; length <= 300; length++) {
                sound("bids 1;" + " ".repeat(length - 7));
                sound("bids" + " ".repeat(length - 6) + "1;");
                faulty("bids 1" + " ".repeat(length - 6), 1, length);
                faulty(" ".repeat(length - 1) + "x", 1, length - 1);
            }
            faulty(";".repeat(300), 1, 0);
            faulty("bids " + "1-".repeat(147) + "1", 1, 300);
            faulty("bids " + "0".repeat(295), 1, 300);
            faulty(" ".repeat(296) + "bids", 1, 300);
            faulty("bids if" + " ".repeat(291) + "1<", 1, 300);
            HouseClearedUp x = Bounds.one(0, 0);
            // what was read ahead of it leaves no room the less
            for (int i = 0; i < 3; i++) due("a faulty one", Bounds.read(x, "bids " + "1-".repeat(147) + "1"), -1);
            Bounds.ruledBy(x, "reserve " + "1+".repeat(145) + "1;");
            due("a sum as long as it can be", x.of(0, 4), 146);
            Bounds.ruledBy(x, "reserve " + "1+".repeat(144) + "9;");
            due("and once more", x.of(0, 4), 153);
            Bounds.ruledBy(x, "reserve" + " ".repeat(288) + "123" + " ;");
            due("a number at the end", x.of(0, 4), 123);
        });
        Bounds.sentence("blanks (32, 10) aside", () -> {
            sound("\nbids \n 1 \n\n ;\n ");
            for (int sign = 0; sign < 256; sign++) {
                if (sign == 32 || sign == 10) sound("bids" + (char) sign + "1" + (char) sign + ";" + (char) sign);
                else if (sign != ';') faulty("bids 1;" + (char) sign, 1, 7);
            }
            for (int sign : new int[] {0, 9, 11, 12, 13, 31, 33, 127, 128, 160, 255}) faulty("bids 1" + (char) sign + ";", 1, 6);
            faulty("bids 1;;", 1, 7);
        });
    }

    private static void tokens() {
        Bounds.sentence("letters a .. z, A .. Z one behind the other (one TOKEN)", () -> {
            for (char c : new char[] {'a', 'z', 'A', 'Z'}) {
                faulty("bids" + c + " 1;", 1, 0);
                faulty(c + "bids 1;", 1, 0);
                faulty("bids 1" + c + ";", 1, 6);
            }
            for (char c : new char[] {'`', '{', '@', '['}) faulty("bids" + c + "1;", 1, 4);
            faulty("BIDS 1;", 1, 0);
            faulty("bid s 1;", 1, 0);
            faulty("bids ifweek<1 then 1 else 2 end;", 1, 5);
            sound("bids if week<1then 1else 2end;");
            faulty("bids evenlot by 2;", 1, 5);
        });
        Bounds.sentence("digits likewise", () -> {
            sound("bids1;");
            sound("sell0;");
            sound("bids 0;bidder 9;");
            faulty("bids 1 2;", 1, 7);
            faulty("bids:1;", 1, 4);
            faulty("bids 1:;", 1, 6);
            faulty("sell 1a;", 1, 6);
            faulty("sell 1 1;", 1, 7);
            sound("buy 1for 1;");
        });
        Bounds.sentence("NUMBERS, 0 .. 9999", () -> {
            for (String n : new String[] {"0", "9", "10", "9998", "9999", "00000", "09999", "000000000000000000009999"}) {
                sound("bids " + n + ";");
                sound("bidder " + n + ";");
            }
            for (String n : new String[] {"10000", "010000", "99999", "2147483648", "4294967296", "4294967297", "18446744073709551617", "1" + "0".repeat(200)}) {
                faulty("bids " + n + ";", 2, 5);
                faulty("bidder " + n + ";", 2, 7);
                faulty("sell " + n + ";", 2, 5);
            }
            HouseClearedUp x = new HouseClearedUp();
            Bounds.read(x, "bidder 9999;bidder 0;bidder 007;");
            x.played(0);
            due("9999", x.ofBidder(0, 0), 9999);
            due("0", x.ofBidder(1, 0), 0);
            due("007", x.ofBidder(2, 0), 7);
        });
        Bounds.sentence("<= >= < > = # + - * / ( ) ; (the longest)", () -> {
            for (String sign : new String[] {"<", "<=", ">", ">=", "=", "#"}) sound("bids if 1" + sign + "2 then 1 else 2 end;");
            faulty("bids if 1< =2 then 1 else 2 end;", 1, 11);
            faulty("bids if 1> =2 then 1 else 2 end;", 1, 11);
            faulty("bids if 1<>2 then 1 else 2 end;", 1, 10);
            faulty("bids if 1=<2 then 1 else 2 end;", 1, 10);
            faulty("bids if 1==2 then 1 else 2 end;", 1, 10);
            faulty("bids if 1<==2 then 1 else 2 end;", 1, 11);
            faulty("bids if 1!2 then 1 else 2 end;", 1, 9);
            faulty("bids 1%2;", 1, 6);
            faulty("bids if 1<", 1, 10);
            faulty("bids if 1<=", 1, 11);
            sound("bids(1+2)*3/4-5;");
        });
    }

    // ---- CLAUSES

    private static void clauses() {
        Bounds.sentence("{CLAUSE}, 24 at most", () -> {
            sound("");
            sound(" \n");
            for (int many = 22; many <= 24; many++) sound("sell 0;".repeat(many));
            for (int many = 25; many <= 27; many++) faulty("sell 0;".repeat(many), 6, 168);
            sound("bids 1;reserve 1;warms 1;" + "week 1;".repeat(21));
            faulty("bids 1;reserve 1;warms 1;" + "week 1;".repeat(22), 6, 25 + 147);
            HouseClearedUp x = new HouseClearedUp();
            Bounds.read(x, "week 1;".repeat(24));
            due("all of them are played", x.played(0), -1);
            due("week", x.is(0), 24);
        });
        Bounds.sentence("bids SUM ; or reserve SUM ; or warms SUM ; (each once)", () -> {
            for (String law : new String[] {"bids", "reserve", "warms"}) {
                sound(law + " 1;");
                faulty(law, 1, law.length());
                faulty(law + ";", 1, law.length());
                faulty(law + " 1", 1, law.length() + 2);
                faulty(law + " 1;" + law + " 1;", 4, law.length() + 3);
                faulty(law + " 1;week 1;" + law, 4, law.length() + 10);
            }
            sound("warms 1;reserve 2;bids 3;");
        });
        String[] whole = {"lot 5 worth 99 weight 9;", "bidder 9999;", "want 99 of 11 by 4;", "sell 11;", "carry 11;", "burn 11;", "buy 11 for 999;", "week 60;"};
        Bounds.sentence("lot NUMBER worth NUMBER weight NUMBER ; or bidder NUMBER ; or want NUMBER of NUMBER by NUMBER ; or ..", () -> {
            for (String clause : whole) {
                sound(clause);
                sound(clause.replace(" ", "\n"));
                String[] words = clause.replace(";", " ;").split(" ");
                int place = 0;
                for (int i = 0; i < words.length; i++) {
                    String ahead = clause.substring(0, place);
                    if (i > 0) {
                        faulty(ahead, 1, place);
                        for (String other : new String[] {"-", "bids", ":", words[i].matches("\\d+") ? "lot" : "0"}) faulty(ahead + " " + other, 1, place + 1);
                    }
                    place += words[i].length();
                    if (place < clause.length() && clause.charAt(place) == ' ') place++;
                }
            }
        });
        Bounds.sentence("a CLAUSE begins with one of its words", () -> {
            for (String word : new String[] {"worth", "weight", "floor", "purse", "who", "has", "of", "by", "for", "then", "else", "end", "if", "not", "even", "worths", "or", "and",
                "(", ")", "+", "-", "*", "/", "<", "<=", ">", ">=", "=", "#", ";", "7", "10000", "sells", "x"}) {
                faulty(word + " 1;", 1, 0);
                faulty("week 1;" + word + " 1;", 1, 7);
            }
        });
    }

    // ---- SUM, PRODUCT, ONE, EITHER, BOTH, ASK

    private static void sums() {
        Bounds.sentence("SUM: PRODUCT {+ or - PRODUCT}. PRODUCT: ONE {* or / ONE}", () -> {
            for (String sign : new String[] {"+", "-", "*", "/"}) {
                sound("bids 1" + sign + "2" + sign + "3;");
                faulty("bids 1" + sign + ";", 1, 7);
                faulty("bids 1" + sign, 1, 7);
                faulty("bids 1" + sign + "*2;", 1, 7);
                faulty("bids 1" + sign + "+2;", 1, 7);
                sound("bids 1" + sign + "-2;");
            }
            faulty("bids *1;", 1, 5);
            faulty("bids /1;", 1, 5);
            faulty("bids +1;", 1, 5);
        });
        Bounds.sentence("ONE: NUMBER, NAME, ( SUM ), - ONE, even ONE by ONE, worths ONE, if EITHER then SUM else SUM end", () -> {
            faulty("bids ();", 1, 6);
            faulty("bids (1;", 1, 7);
            faulty("bids 1);", 1, 6);
            faulty("bids (1", 1, 7);
            faulty("bids -;", 1, 6);
            faulty("bids even 1;", 1, 11);
            faulty("bids even 1+1 by 2;", 1, 11);
            faulty("bids even by 2;", 1, 10);
            faulty("bids even 1 by;", 1, 14);
            faulty("bids even 1 of 2;", 1, 12);
            sound("bids even(1+1)by(2);");
            sound("bids even 1 by 2+3;");
            faulty("bids worths;", 1, 11);
            faulty("bids worths+1;", 1, 11);
            sound("bids worths 1+1;");
            faulty("bids if then 1 else 2 end;", 1, 8);
            faulty("bids if 1 then 1 else 2 end;", 1, 10);
            faulty("bids if 1<2 1 else 2 end;", 1, 12);
            faulty("bids if 1<2 then else 2 end;", 1, 17);
            faulty("bids if 1<2 then 1 end;", 1, 19);
            faulty("bids if 1<2 then 1 else end;", 1, 24);
            faulty("bids if 1<2 then 1 else 2;", 1, 25);
            faulty("bids if 1<2 then 1 else 2", 1, 25);
            faulty("bids end;", 1, 5);
            faulty("bids 1 end;", 1, 7);
        });
        Bounds.sentence("EITHER: BOTH {or BOTH}. BOTH: ASK {and ASK}. ASK: not ASK, or SUM one of < <= > >= = # SUM", () -> {
            for (String join : new String[] {"or", "and"}) {
                sound("bids if 1<2 " + join + " 1<2 " + join + " not 1<2 then 1 else 2 end;");
                faulty("bids if 1<2 " + join + " then 1 else 2 end;", 1, 13 + join.length());
                faulty("bids if " + join + " 1<2 then 1 else 2 end;", 1, 8);
                faulty("bids 1 " + join + " 2;", 1, 7);
                faulty("bids if 1 " + join + " 1<2 then 1 else 2 end;", 1, 10);
            }
            faulty("bids if not then 1 else 2 end;", 1, 12);
            faulty("bids if not 1 then 1 else 2 end;", 1, 14);
            faulty("bids if 1<2<3 then 1 else 2 end;", 1, 11);
            faulty("bids if (1<2) then 1 else 2 end;", 1, 10);
            faulty("bids not 1<2;", 1, 5);
            faulty("bids 1+not 1<2;", 1, 7);
            faulty("bids 1<2;", 1, 6);
        });
        Bounds.sentence("NAMES: week, floor, worth, weight, lot in all; want, purse, who, has in bids", () -> {
            for (String name : new String[] {"week", "floor", "worth", "weight", "lot"}) {
                for (String law : new String[] {"bids", "reserve", "warms"}) sound(law + " " + name + ";");
            }
            for (String name : new String[] {"want", "purse", "who", "has"}) {
                sound("bids " + name + ";");
                for (String law : new String[] {"reserve", "warms"}) {
                    faulty(law + " " + name + ";", 5, law.length() + 1);
                    sound("bids " + name + ";" + law + " 1;");
                    faulty("bids " + name + ";" + law + " 1+" + name + ";", 5, 5 + name.length() + 1 + law.length() + 3);
                    sound(law + " 1;bids " + name + ";");
                }
            }
            for (String word : new String[] {"bids", "reserve", "warms", "bidder", "sell", "carry", "burn", "buy", "of", "by", "for", "takings", "x"}) faulty("bids " + word + ";", 1, 5);
        });
    }

    // ---- FAULTS

    private static void firstFaults() {
        Bounds.sentence("FAULTS, the first as TOKENS are come to", () -> {
            faulty("week 0;week 61;x", 2, 5);
            faulty("x;week 0;", 1, 0);
            faulty("week 1;reserve want;week 0;", 5, 15);
            faulty("reserve 10000+want;", 2, 8);
            faulty("reserve want+10000;", 5, 8);
            faulty("bids 1;bids 10000;", 4, 7);
            faulty("lot 6 worth 100 weight 0;", 2, 4);
            faulty("lot 5 worth 100 weight 0;", 2, 12);
            faulty("lot 5 worth 99 weight 0 ?", 2, 22);
        });
        Bounds.sentence("at the TOKEN's first byte (of the end at the length)", () -> {
            faulty("  \n xyz", 1, 4);
            faulty("bids 1 \n\n 23456", 1, 10);
            faulty("bids    10000;", 2, 8);
            faulty("bids", 1, 4);
            faulty("bids ", 1, 5);
            faulty("bids 1\n\n  ", 1, 10);
            faulty("lot 1 worth 2 weight", 1, 20);
        });
        Bounds.sentence("of one the least", () -> {
            faulty("bids 1 10000;", 1, 7);
            faulty("10000", 1, 0);
            faulty("reserve 1 want;", 1, 10);
            faulty("bids 1;" + "week 1;".repeat(23) + "bids 2;", 4, 168);
            faulty("bids 1;" + "week 1;".repeat(23) + "want 100 of 1 by 1;", 6, 168);
            faulty("week 1;".repeat(24) + "x", 1, 168);
            faulty("week 1;".repeat(24) + "10000", 1, 168);
            faulty("bids " + "(".repeat(8) + "not", 1, 13);
            faulty("bids 1" + "(".repeat(9), 1, 6);
        });
        Bounds.sentence("1 it can't stand there, or is none", () -> {
            faulty("bids ?;", 1, 5);
            faulty("bids \0;", 1, 5);
            faulty("bids _;", 1, 5);
            faulty("bids .;", 1, 5);
            faulty("bids 1.5;", 1, 6);
            faulty("bids ,;", 1, 5);
        });
    }

    /** The number stands at a place of a clause: from least to most it is sound, beside these a fault 2. */
    private static void numberAt(String ahead, String behind, int least, int most) {
        for (int n : new int[] {least, least + 1, most - 1, most}) sound(ahead + n + behind);
        if (least > 0) faulty(ahead + (least - 1) + behind, 2, ahead.length());
        for (int n : new int[] {most + 1, 9999, 10000}) if (n > most) faulty(ahead + n + behind, 2, ahead.length());
    }

    private static void numbers() {
        Bounds.sentence("2 a NUMBER above 9999", () -> {
            numberAt("bids ", ";", 0, 9999);
            numberAt("reserve 1+", ";", 0, 9999);
            numberAt("warms worths ", ";", 0, 9999);
            numberAt("bids even 7 by ", ";", 0, 9999);
            numberAt("bids if 1<", " then 1 else 1 end;", 0, 9999);
        });
        Bounds.sentence("2 FLOORS 0 .. 5", () -> numberAt("lot ", " worth 1 weight 1;", 0, 5));
        Bounds.sentence("2 WORTH 0 .. 99", () -> numberAt("lot 0 worth ", " weight 1;", 0, 99));
        Bounds.sentence("2 WEIGHT 1 .. 9", () -> numberAt("lot 0 worth 1 weight ", ";", 1, 9));
        Bounds.sentence("2 PURSE 0 .. 9999", () -> numberAt("bidder ", ";", 0, 9999));
        Bounds.sentence("2 WANT 0 .. 99", () -> numberAt("want ", " of 1 by 1;", 0, 99));
        Bounds.sentence("2 LOTS 0 .. 11", () -> {
            numberAt("want 1 of ", " by 1;", 0, 11);
            numberAt("sell ", ";", 0, 11);
            numberAt("carry ", ";", 0, 11);
            numberAt("burn ", ";", 0, 11);
            numberAt("buy ", " for 1;", 0, 11);
        });
        Bounds.sentence("2 BIDDERS 0 .. 4", () -> numberAt("want 1 of 1 by ", ";", 0, 4));
        Bounds.sentence("2 PRICES 0 .. 999", () -> numberAt("buy 1 for ", ";", 0, 999));
        Bounds.sentence("2 WEEKS 1 .. 60", () -> numberAt("week ", ";", 1, 60));
    }

    private static void open() {
        String[] opens = {"(", "-", "even ", "even 1 by ", "worths ", "if 1<", "if not 1<", "if 1<2 then ", "if 1<2 then 3 else ", "if 1<2 or 1<", "if 1<2 and 1<"};
        String[] closes = {")", "", " by 1", "", "", " then 1 else 2 end", " then 1 else 2 end", " else 2 end", " end", " then 1 else 2 end", " then 1 else 2 end"};
        int[] counts = {1, 1, 1, 1, 1, 1, 2, 1, 1, 1, 1};
        Bounds.sentence("3 the 9th of ( not even worths if and - (of one ONE) that are open around one another (at it)", () -> {
            for (int i = 0; i < opens.length; i++) {
                // eight of one kind, then each other kind as the ninth
                int many = 8 / counts[i];
                String ahead = "bids " + opens[i].repeat(many);
                String behind = closes[i].repeat(many) + ";";
                if (ahead.length() + behind.length() < 300) sound(ahead + "1" + behind);
                for (String ninth : new String[] {"(", "-", "even", "worths", "if"}) {
                    if (ahead.length() + 8 < 300) faulty(ahead + ninth, 3, ahead.length());
                }
                String seven = "bids " + "(".repeat(8 - counts[i]) + opens[i] + "1" + closes[i] + ")".repeat(8 - counts[i]) + ";";
                sound(seven);
                faulty("bids (" + seven.substring(5, seven.length() - 1) + ");", 3, 5 + 9 - counts[i] + (counts[i] == 2 ? 3 : 0));
            }
        });
        Bounds.sentence("3 not among these", () -> {
            sound("bids if " + "not ".repeat(7) + "1<2 then 1 else 2 end;");
            faulty("bids if " + "not ".repeat(8) + "1<2 then 1 else 2 end;", 3, 36);
            sound("bids if " + "not ".repeat(6) + "1<2 or " + "not ".repeat(7) + "1<2 and " + "not ".repeat(7) + "1<2 then 1 else 2 end;");
            faulty("bids if " + "not ".repeat(7) + "(1)<2 then 1 else 2 end;", 3, 36);
            faulty("bids if " + "not ".repeat(7) + "1<(2) then 1 else 2 end;", 3, 38);
            sound("bids if " + "not ".repeat(7) + "1<2 and (1)<2 then 1 else 2 end;");
            sound("bids if " + "not ".repeat(7) + "1<2 then (1) else (2) end;");
            faulty("bids " + "(".repeat(7) + "if not 1<2 then 1 else 2 end", 3, 15);
        });
        Bounds.sentence("3 - of one ONE, not between two", () -> {
            sound("bids 1" + "-1".repeat(20) + ";");
            sound("bids " + "(".repeat(8) + "1-1" + ")".repeat(8) + ";");
            faulty("bids " + "(".repeat(8) + "1--1" + ")".repeat(8) + ";", 3, 15);
            sound("bids -1-1-1-1-1-1-1-1-1-1;");
            sound("bids " + "-1*".repeat(12) + "1;");
            sound("bids " + "-".repeat(8) + "1-" + "-".repeat(8) + "1;");
            faulty("bids " + "-".repeat(9) + "1;", 3, 13);
        });
        Bounds.sentence("3 even till its second is whole", () -> {
            String seven = "(".repeat(7), closed = ")".repeat(7);
            faulty("bids " + seven + "even (1) by 1" + closed + ";", 3, 17);
            faulty("bids " + seven + "even 1 by (1)" + closed + ";", 3, 22);
            sound("bids " + seven + "even 1 by 1+(1)" + closed + ";");
            sound("bids " + seven + "even 1 by 1*-1" + closed + ";");
            sound("bids " + "even 1 by ".repeat(8) + "1;");
            faulty("bids " + "even 1 by ".repeat(9) + "1;", 3, 85);
        });
        Bounds.sentence("3 what is whole is open no more", () -> {
            sound("bids " + "(1)+".repeat(20) + "1;");
            sound("bids " + "worths 1+".repeat(20) + "1;");
            sound("bids " + "even 1 by 1+".repeat(12) + "1;");
            sound("bids " + "if 1<2 then 1 else 2 end+".repeat(10) + "1;");
            sound("bids " + "(".repeat(7) + "(1)+(1)*-1+worths 1" + ")".repeat(7) + ";reserve " + "(".repeat(8) + "1" + ")".repeat(8) + ";");
        });
        Bounds.sentence("3 as deep as a text can go, it ends", () -> {
            for (String s : new String[] {"(", "-", "if ", "not ", "even ", "worths "}) {
                String text = "bids " + (s.equals("not ") ? "if " : "") + s.repeat(280 / s.length());
                int nine = s.equals("not ") ? 8 + 7 * 4 : 5 + 8 * s.length();
                faulty(text, 3, nine);
            }
        });
    }

    private static void otherFaults() {
        Bounds.sentence("4 bids, reserve, warms for the second time (at it)", () -> {
            faulty("bids 1;bids", 4, 7);
            faulty("bids 1; \n bids 1;", 4, 10);
            faulty("reserve 1;bids 1;warms 1;warms 1;", 4, 25);
            faulty("reserve 1;bids 1;warms 1;bids 1;", 4, 25);
            faulty("reserve 1;bids 1;warms 1;reserve 1;", 4, 25);
            HouseClearedUp x = new HouseClearedUp();
            due("one text", Bounds.read(x, "bids 1;"), 0);
            due("another has its own", Bounds.read(x, "bids 1;"), 1);
        });
        Bounds.sentence("5 a NAME that isn't of that CLAUSE (at it)", () -> {
            faulty("reserve even 1 by has;", 5, 18);
            faulty("warms if 1<who then 1 else 2 end;", 5, 11);
            faulty("warms worths purse;", 5, 13);
            faulty("bids want;reserve -want;", 5, 19);
            faulty("reserve " + "(".repeat(8) + "want", 5, 16);
        });
        Bounds.sentence("6 the 25th CLAUSE (at its first TOKEN)", () -> {
            faulty("week 1;".repeat(24) + "  week", 6, 170);
            faulty("week 1;".repeat(24) + "warms", 6, 168);
            faulty("week 1;".repeat(24) + "week 0;", 6, 168);
            sound("week 1;".repeat(24) + "   ");
            faulty("week 1;".repeat(23) + "week", 1, 165);
            faulty("week 1;".repeat(23) + "week 0;", 2, 166);
        });
    }

    // ---- what a law answers

    /** Lot 0 has worth 20, weight 3; lot 1 worth 99; two bidders of 9999, whose wants of lot 0 are 40 and 30. */
    private static HouseClearedUp ruled(String laws) {
        HouseClearedUp x = new HouseClearedUp();
        x.lot(0, 20, 3);
        x.lot(0, 99, 1);
        x.bidder(9999);
        x.bidder(9999);
        x.want(0, 0, 40);
        x.want(1, 0, 30);
        return Bounds.ruledBy(x, laws);
    }

    private static void is(String sum, int value) { due("bids " + sum, ruled("bids " + sum + ";").bids(0, 0), value); }

    private static void arithmetic() {
        Bounds.sentence("From the left", () -> {
            is("20-7-3", 10);
            is("100/7/2", 7);
            is("100/7*7", 98);
            is("2+3*4", 14);
            is("2*3+4", 10);
            is("20-2*3-1", 13);
        });
        Bounds.sentence("/ cuts towards 0, by 0 it is 0", () -> {
            is("7/2", 3);
            is("8/2", 4);
            is("9/10", 0);
            is("10+-7/2", 7);
            is("10+7/-2", 7);
            is("10+-7/-2", 13);
            is("10+-1/2", 10);
            is("7/0+3", 3);
            is("-7/0+3", 3);
            is("0/0+3", 3);
            is("7/(1-1)+3", 3);
        });
        Bounds.sentence("even: the first, cut towards 0 to the next multiple of the second; by 0 it is 0", () -> {
            is("even 14 by 5", 10);
            is("even 15 by 5", 15);
            is("even 16 by 5", 15);
            is("even 4 by 5", 0);
            is("20+even -14 by 5", 10);
            is("20+even -15 by 5", 5);
            is("20+even -16 by 5", 5);
            is("even 14 by -5", 10);
            is("20+even -14 by -5", 10);
            is("even 14 by 1", 14);
            is("even 14 by -1", 14);
            is("5+even 14 by 0", 5);
            is("5+even 0 by 0", 5);
            is("5+even 0 by 7", 5);
            is("even (2*7) by 5*3", 30);
        });
        Bounds.sentence("worths ONE (WORTH of the LOT of that number; 0 if none such is told)", () -> {
            is("worths 0", 20);
            is("worths 1", 99);
            is("7+worths 2", 7);
            is("7+worths -1", 7);
            is("7+worths 11", 7);
            is("7+worths 12", 7);
            is("7+worths 9999", 7);
            is("7+worths (9999*9999)", 7);
            is("7+worths -(9999*9999)", 7);
            HouseClearedUp x = ruled("reserve worths 11;");
            for (int i = 2; i < 11; i++) x.lot(0, 1, 1);
            due("not told yet", x.of(0, 4), 0);
            x.lot(0, 77, 1);
            due("the last lot", x.of(0, 4), 77);
            x.burn(11);
            due("wherever it is", x.of(0, 4), 77);
            Bounds.ruledBy(x, "reserve 5+worths 12;");
            due("beyond the last of twelve", x.of(0, 4), 5);
        });
        Bounds.sentence("what is above 1000000 (below the same less) is that, at each step", () -> {
            // 1000000 is 9999 * 100 + 100
            String million = "(9999*100+100)";
            is(million + "-9999*100-99", 1);
            is("(" + million + "+1)-999*1000-1000+3", 3);
            is("(" + million + "-1)-999*1000-1000+3", 2);
            is("(" + million + "+9999)-999*1000-1000+3", 3);
            is("(" + million + "*2)-999*1000-1000+3", 3);
            is("(9999*9999)-999*1000-1000+3", 3);
            is("(" + million + "*" + million + ")-999*1000-1000+3", 3);
            is("(" + million + "*-" + million + ")+999*1000+1000+3", 3);
            is("(-" + million + "-1)+999*1000+1000+3", 3);
            is("(-" + million + "+1)+999*1000+1000+3", 4);
            is("(-" + million + "-9999)+999*1000+1000+3", 3);
            is("-" + million + "*9999+999*1000+1000+3", 3);
            is(million + "+" + million + "-" + million + "+3", 3);
            is("9999*9999/9999", 100);
            is("9999*101/9999", 100);
            is("9999*100/9999", 100);
        });
        Bounds.sentence("of if just the SUM that is chosen", () -> {
            is("if 1<2 then 3 else 4 end", 3);
            is("if 2<2 then 3 else 4 end", 4);
            is("if 3<2 then 3 else 4 end", 4);
            is("if 1<=2 then 3 else 4 end", 3);
            is("if 2<=2 then 3 else 4 end", 3);
            is("if 3<=2 then 3 else 4 end", 4);
            is("if 1>2 then 3 else 4 end", 4);
            is("if 2>2 then 3 else 4 end", 4);
            is("if 3>2 then 3 else 4 end", 3);
            is("if 1>=2 then 3 else 4 end", 4);
            is("if 2>=2 then 3 else 4 end", 3);
            is("if 3>=2 then 3 else 4 end", 3);
            is("if 1=2 then 3 else 4 end", 4);
            is("if 2=2 then 3 else 4 end", 3);
            is("if 1#2 then 3 else 4 end", 3);
            is("if 2#2 then 3 else 4 end", 4);
            is("if -1<0 then 3 else 4 end", 3);
            is("if not 1<2 then 3 else 4 end", 4);
            is("if not 2<2 then 3 else 4 end", 3);
            is("1+if 1<2 then 3 else 4 end*2", 7);
            is("if 1<2 then if 2<2 then 5 else 6 end else 7 end", 6);
        });
        Bounds.sentence("or and and look at both sides", () -> {
            String[] sides = {"1=2", "1=1"};
            for (int a = 0; a < 2; a++) {
                for (int b = 0; b < 2; b++) {
                    is("if " + sides[a] + " or " + sides[b] + " then 3 else 4 end", a + b > 0 ? 3 : 4);
                    is("if " + sides[a] + " and " + sides[b] + " then 3 else 4 end", a + b == 2 ? 3 : 4);
                    is("if not " + sides[a] + " and " + sides[b] + " then 3 else 4 end", a == 0 && b == 1 ? 3 : 4);
                    for (int c = 0; c < 2; c++) {
                        is("if " + sides[a] + " or " + sides[b] + " and " + sides[c] + " then 3 else 4 end", a == 1 || b + c == 2 ? 3 : 4);
                        is("if " + sides[a] + " and " + sides[b] + " or " + sides[c] + " then 3 else 4 end", a + b == 2 || c == 1 ? 3 : 4);
                    }
                }
            }
        });
    }

    private static void laws() {
        Bounds.sentence("THE TEXT (told; at first none) rules", () -> {
            HouseClearedUp x = Bounds.one(0, 20, 40);
            due("at first", x.about(3), -1);
            Bounds.read(x, "bids 7;reserve 8;warms 9;");
            due("read isn't told", x.about(3), -1);
            due("bids", x.bids(0, 0), 40);
            x.by(0);
            due("bids by it", x.bids(0, 0), 7);
            due("reserve by it", x.of(0, 4), 8);
            due("warms by it", x.of(0, 5), 9);
            x.by(-1);
            due("bids without", x.bids(0, 0), 40);
            due("reserve without", x.of(0, 4), 10);
            due("warms without", x.of(0, 5), 3);
        });
        Bounds.sentence("bids: 0 at least; without: WANT", () -> {
            is("-1", 0);
            is("0", 0);
            is("1", 1);
            is("-9999*9999", 0);
            is("9999", 9999);
            is("9999+1", 9999);
            due("without", ruled("reserve 1;").bids(1, 0), 30);
        });
        Bounds.sentence("reserve: 0 at least, 999 at most; without: WORTH by 2, cut", () -> {
            int[][] rows = {{-1, 0}, {0, 0}, {1, 1}, {998, 998}, {999, 999}, {1000, 999}, {9999, 999}, {-9999, 0}};
            for (int[] r : rows) due("reserve " + r[0], ruled("reserve " + r[0] + ";").of(0, 4), r[1]);
            for (int worth : new int[] {0, 1, 2, 3, 98, 99}) {
                due("without, of " + worth, Bounds.one(0, worth).of(0, 4), worth / 2);
                due("by a text without", Bounds.ruledBy(Bounds.one(0, worth), "bids 1;warms 1;").of(0, 4), worth / 2);
            }
        });
        Bounds.sentence("warms: 0 at least, 10 at most; without: 3", () -> {
            int[][] rows = {{-1, 0}, {0, 0}, {1, 1}, {9, 9}, {10, 10}, {11, 10}, {9999, 10}, {-9999, 0}};
            for (int[] r : rows) due("warms " + r[0], ruled("warms " + r[0] + ";").of(0, 5), r[1]);
            due("without", Bounds.one(0, 0).of(0, 5), 3);
            due("by a text without", ruled("bids 1;reserve 1;").of(0, 5), 3);
        });
        Bounds.sentence("NAMES: week, floor, worth, weight, lot (its number), want, purse, who, has (how many LOTS it has)", () -> {
            HouseClearedUp x = ruled("bids want*1000+who*100+has;reserve floor*100+weight*10+lot;warms week;");
            due("want, who, has", x.bids(0, 0), 9999);
            due("want, who, has", x.bids(1, 1), 100);
            due("floor, weight, lot", x.of(0, 4), 30);
            x.by(-1);
            x.want(0, 1, 60);
            x.sell(1);
            x.want(0, 1, 0);
            x.carry(0);
            x.by(0);
            due("has one", x.bids(0, 1), 1);
            due("has none", x.bids(1, 1), 100);
            due("floor", x.of(0, 4), 130);
            due("lot", x.of(1, 4), 11);
            x.week(7);
            due("week", x.of(0, 5), 7);
            HouseClearedUp y = ruled("bids want*10+has;");
            y.want(1, 1, 70);
            y.want(0, 1, 60);
            int[][] bids = {{400, 600}, {300, 700}};
            for (int b = 0; b < 2; b++) for (int lot = 0; lot < 2; lot++) due("want", y.bids(b, lot), bids[b][lot]);
            y.sell(0);
            y.sell(1);
            due("lot 0 is with bidder 0", y.bids(0, 1), 601);
            due("lot 1 is with bidder 1", y.bids(1, 1), 701);
            due("purse", ruled("bids purse/2;").bids(0, 0), 4999);
            due("worth", ruled("bids worth;").bids(0, 1), 99);
        });
    }

    // ---- PLAYED

    private static void played() {
        Bounds.sentence("its CLAUSES but laws, in their order, as by hand", () -> {
            HouseClearedUp x = new HouseClearedUp();
            Bounds.read(x, "warms 9;lot 2 worth 30 weight 4;bidder 70;bids 1;want 20 of 0 by 0;week 2;sell 0;");
            due("played", x.played(0), -1);
            due("the laws don't rule", x.about(3), -1);
            due("where", x.of(0, 3), 3);
            due("takings", x.is(1), 15);
            due("week", x.is(0), 2);
            due("steps", x.about(4), 3);
            due("an empty text", Bounds.read(x, ""), 1);
            Bounds.refused("played of an empty one", () -> {
                HouseClearedUp y = Bounds.lived();
                Bounds.read(y, "");
                return y;
            }, y -> y.played(2), -1);
            Bounds.refused("played of laws alone", () -> {
                HouseClearedUp y = Bounds.lived();
                Bounds.read(y, "bids 1;reserve 2;warms 3;");
                return y;
            }, y -> y.played(2), -1);
        });
        Bounds.sentence("buy NUMBER for NUMBER ; (LOT, PRICE)", () -> {
            for (int price = 29; price <= 32; price++) {
                HouseClearedUp x = Bounds.one(0, 98, 0);
                for (int i = 0; i < 2; i++) x.lot(0, 62, 1);
                for (int i = 1; i < 3; i++) x.want(0, i, 40);
                x.sell(2);
                x.want(0, 2, 30);
                Bounds.read(x, "buy 2 for " + price + ";");
                boolean can = price == 30 || price == 31;
                due("played for " + price, x.played(0), can ? -1 : 0);
                due("where", x.of(2, 3), can ? 1 : 3);
                due("takings", x.is(1), can ? 31 - price : 31);
            }
        });
        Bounds.sentence("want NUMBER of NUMBER by NUMBER ; (WANT, LOT, BIDDER)", () -> {
            HouseClearedUp y = new HouseClearedUp();
            for (int i = 0; i < 12; i++) y.lot(0, 0, 1);
            for (int i = 0; i < 5; i++) y.bidder(500);
            Bounds.read(y, "want 99 of 11 by 4;want 7 of 0 by 0;want 2 of 3 by 1;");
            due("played", y.played(0), -1);
            for (int b = 0; b < 5; b++) {
                for (int lot = 0; lot < 12; lot++) due("bids", y.bids(b, lot), b == 4 && lot == 11 ? 99 : b + lot == 0 ? 7 : b == 1 && lot == 3 ? 2 : 0);
            }
        });
        Bounds.sentence("(a sale that is passed in isn't one that can't be)", () -> {
            HouseClearedUp x = Bounds.one(0, 20, 9);
            Bounds.read(x, "sell 0;burn 0;");
            due("played", x.played(0), -1);
            due("steps", x.about(4), 2);
            due("burnt", x.of(0, 3), 2);
        });
        Bounds.sentence("one that can't be ends it: its number among all CLAUSES (from 0); what was done stays", () -> {
            String[] cant = {"sell 1;", "sell 11;", "carry 1;", "burn 2;", "buy 0 for 0;", "buy 11 for 0;", "want 1 of 1 by 0;", "want 1 of 0 by 1;", "carry 11;", "burn 11;"};
            for (String clause : cant) {
                HouseClearedUp x = Bounds.one(0, 98, 9);
                Bounds.read(x, "warms 1;week 1;" + clause + "burn 0;");
                due("played " + clause, x.played(0), 2);
                due("what was done stays", x.is(0), 1);
                due("what comes behind isn't done", x.of(0, 3), 0);
                HouseClearedUp y = Bounds.one(1, 98, 9);
                Bounds.read(y, clause + "week 1;");
                due("the first one", y.played(0), 0);
                due("nothing is done", y.about(4), 0);
            }
            Bounds.refused("a 13th lot", () -> fullBut("lot 0 worth 1 weight 1;"), x -> x.played(0), 0);
            Bounds.refused("a 6th bidder", () -> fullBut("bidder 1;"), x -> x.played(0), 0);
            HouseClearedUp last = new HouseClearedUp();
            Bounds.read(last, "week 1;".repeat(23) + "sell 0;");
            due("the last of 24", last.played(0), 23);
        });
        Bounds.sentence("(of so many WEEKS those that can pass do)", () -> {
            for (int left = 0; left <= 4; left++) {
                HouseClearedUp x = Bounds.atWeek(9999 - left);
                Bounds.read(x, "week 3;bidder 5;");
                int steps = x.about(4);
                due("played with " + left + " left", x.played(1), left < 3 ? 0 : -1);
                due("week", x.is(0), Math.min(9999, 9999 - left + 3));
                due("what comes behind", x.about(1), left < 3 ? 1 : 2);
                due("steps", x.about(4), Math.min(30, steps + Math.min(3, left)));
            }
        });
    }

    private static HouseClearedUp fullBut(String text) {
        HouseClearedUp x = new HouseClearedUp();
        Bounds.read(x, text);
        for (int i = 0; i < 12; i++) x.lot(i % 6, i, 1);
        for (int i = 0; i < 5; i++) x.bidder(i);
        return x;
    }
}
