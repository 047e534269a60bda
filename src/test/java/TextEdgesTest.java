import java.util.function.ToIntFunction;

/** Part 1 and promises 1 to 4: each sentence about the text that names an edge, just inside and just outside of it. */
public final class TextEdgesTest {
    private static final int NONE = OatFerry.NONE, OUTSIDE = OatFerry.OUTSIDE, FULL = OatFerry.FULL;
    private static final String BELT = "belt sum 2 100;";
    private static final String TWO = BELT + "horse 7 8 9;horse 6 5 4;";
    private static final String SIX = BELT + "horse 1 2 3;".repeat(6);

    public static void main(String[] args) {
        newObject();
        feedTakesOneToEight();
        feedTakesTheLowestBytes();
        fiveHundredBytes();
        beltFirstAndOnce();
        beltBounds();
        horseBounds();
        sixHorses();
        blindOnes();
        besideBounds();
        besidePairs();
        twelveBesides();
        tideBounds();
        twelveTides();
        carts();
        due();
        numbersHaveOneToThreeFigures();
        words();
        blanks();
        sideBySide();
        otherBytes();
        whatCannotStand();
        theEnd();
        horsesNotToldYet();
        ofFaultsAtOneByteTheLeast();
        behindTheFirstFaultNothing();
        theEmptyText();
        whatAFerryBegins();
        nothingStaysOfAnEarlierText();
        theLatestFault();
        Check.end();
    }

    private static void newObject() {
        Check.about("No PLACES, no HORSES");
        OatFerry x = new OatFerry();
        Check.due("told(0)", x.told(0), 0);
        Check.due("told(1)", x.told(1), NONE);
        Check.due("told(2)", x.told(2), 0);
        Check.due("told(3)", x.told(3), 0);
        Check.due("told(4)", x.told(4), 0);
        Check.due("told(5)", x.told(5), 60);
        for (int what = 6; what <= 12; what++) {
            Check.due("told(" + what + ")", x.told(what), 0);
        }
        Check.due("fault()", x.fault(), NONE);
        Check.due("at(0)", x.at(0), OatFerry.UNKNOWN);
        Check.due("horse(0, 0)", x.horse(0, 0), OatFerry.UNKNOWN);
        Check.due("beside(0, 1)", x.beside(0, 1), OatFerry.UNKNOWN);
        Check.due("cart(0)", x.cart(0), OatFerry.UNKNOWN);
        Check.due("put(0, -1)", x.put(0, -1), OatFerry.UNKNOWN);
    }

    private static void feedTakesOneToEight() {
        Check.about("n 1 .. 8");
        OatFerry x = new OatFerry();
        Check.each("feed", n -> x.feed(n, 0x20L), OUTSIDE, 0, 9, -1, 16, Integer.MIN_VALUE, Integer.MAX_VALUE);
        Check.due("told(6)", x.told(6), 0);
        int length = 0;
        for (int n = 1; n <= 8; n++) {
            length += n;
            Check.due("feed(" + n + ")", x.feed(n, 0x20L), length);
            Check.due("told(6)", x.told(6), length);
        }
    }

    private static void feedTakesTheLowestBytes() {
        Check.about("The n lowest bytes of a long, the highest of these first");
        String text = "belt sum 3 9;";
        for (int n = 1; n <= 8; n++) {
            OatFerry x = new OatFerry();
            for (int from = 0; from < 16; from += n) {
                long bytes = -1L;
                for (int i = from; i < from + n; i++) {
                    bytes = bytes << 8 | (i < text.length() ? text.charAt(i) : ' ');
                }
                x.feed(n, bytes);
            }
            Check.due("ferry() by " + n, x.ferry(), 3);
            Check.due("D by " + n, x.told(2), 9);
        }
        OatFerry x = Check.ferry("");
        Check.due("feed(8) of a long below 0", x.feed(8, 0xe2656c742073756dL), 8);
        Check.due("its highest byte is no 'b'", x.ferry(), -11);
        Check.due("at it", x.fault(), 0);
    }

    /** 500 bytes: blanks between. */
    private static String wide(String ahead, String behind) {
        int told = (ahead + behind).replace("^", "").length();
        return ahead + " ".repeat(500 - told) + behind;
    }

    private static void fiveHundredBytes() {
        Check.about("500 bytes at most");
        Check.due("its last byte is read", Check.good(wide(BELT, "due 7;"), 2).told(5), 7);
        Check.good(wide(BELT, ""), 2);
        Check.bad(1, wide(BELT, "due") + "^");
        Check.bad(1, wide(BELT, "due ") + "^");
        Check.bad(1, wide(BELT, "due 77") + "^");
        Check.bad(1, wide(BELT + "due 7", "") + "^");
        Check.bad(1, wide(BELT, "^x"));
        Check.bad(1, wide(BELT, "due 7^,"));
        Check.bad(2, wide(BELT, "due ^0"));
        for (int n = 1; n <= 8; n++) {
            OatFerry x = new OatFerry();
            Check.feed(x, " ".repeat(500 - n));
            Check.due("one too many", n == 8 ? FULL : x.feed(n + 1, 0x20L), FULL);
            Check.due("told(6)", x.told(6), 500 - n);
            Check.due("feed(" + n + ") up to 500", x.feed(n, 0x20L), 500);
            Check.due("told(6)", x.told(6), 500);
            Check.each("feed", m -> x.feed(m, 0x20L), FULL, 1, 2, 8);
            Check.each("OUTSIDE ahead of FULL: feed", m -> x.feed(m, 0x20L), OUTSIDE, 0, 9);
            Check.due("told(6)", x.told(6), 500);
        }
        OatFerry x = Check.ferry(wide(BELT, "due 7;"));
        Check.due("it is empty then", x.feed(1, 'b'), 1);
    }

    private static void beltFirstAndOnce() {
        Check.about("another one first than 'belt'");
        for (String word : new String[] {"horse", "blind", "beside", "tide", "cart", "due", "sum", "slowest", "x"}) {
            Check.bad(1, "^" + word);
            Check.bad(1, "  ^" + word + " 1 1 1;" + BELT);
        }
        Check.about("'belt' again");
        Check.bad(3, BELT + "^belt sum 2 100;");
        Check.bad(3, BELT + "^belt");
        Check.bad(3, SIX + "due 5; ^belt slowest 1 1;");
        Check.bad(1, "belt ^belt sum 2 100;");
    }

    /** A number in its place: the least and the most are told, one less, one more and four figures are faults. */
    private static void bounds(String ahead, int least, int most, String behind, ToIntFunction<OatFerry> told) {
        for (int n : new int[] {least, least + 1, most - 1, most}) {
            for (String figures : new String[] {"%d", "%02d", "%03d"}) {
                OatFerry x = Check.ferry(ahead + String.format(figures, n) + behind);
                Check.due("what '" + ahead + n + behind + "' told", told.applyAsInt(x), n);
            }
            Check.bad(2, ahead + "^" + String.format("%04d", n) + behind);
        }
        if (least > 0) {
            Check.bad(2, ahead + "^" + (least - 1) + behind);
        }
        Check.bad(2, ahead + "^" + (most + 1) + behind);
        Check.bad(2, ahead + "^" + (most + 1000) + behind);
        Check.bad(2, ahead + "^4294967297" + behind);
        Check.bad(1, ahead + "^-1" + behind);
        Check.bad(1, ahead + "^;");
    }

    private static void beltBounds() {
        Check.about("LAW 'sum' 'slowest', numbered so");
        Check.due("sum", Check.good("belt sum 1 1;", 1).told(1), 0);
        Check.due("slowest", Check.good("belt slowest 1 1;", 1).told(1), 1);
        Check.bad(1, "belt ^su 1 1;");
        Check.bad(1, "belt ^summ 1 1;");
        Check.bad(1, "belt ^slowes 1 1;");
        Check.bad(1, "belt ^slowestt 1 1;");
        Check.bad(1, "belt ^fastest 1 1;");
        Check.bad(1, "belt ^1 1;");
        Check.bad(1, "belt sum ^sum 1 1;");
        Check.about("PLACES K 1 .. 3");
        bounds("belt sum ", 1, 3, " 50;", x -> x.told(0));
        Check.about("the river is D broad, 1 .. 999");
        bounds("belt slowest 2 ", 1, 999, ";", x -> x.told(2));
    }

    private static void horseBounds() {
        Check.about("PULL P 1 .. 30");
        bounds(BELT + "horse ", 1, 30, " 9 9;", x -> x.horse(0, 0));
        Check.about("STRENGTH S 1 .. 200, at most and at first");
        bounds(BELT + "horse 9 ", 1, 200, " 9;", x -> x.horse(0, 1));
        bounds(BELT + "horse 9 ", 1, 200, " 9;", x -> x.horse(0, 4));
        Check.about("R 0 .. 60");
        bounds(BELT + "horse 9 9 ", 0, 60, ";", x -> x.horse(0, 2));
    }

    private static void sixHorses() {
        Check.about("6 HORSES at most");
        OatFerry x = Check.good(SIX, 2);
        Check.due("told(3)", x.told(3), 6);
        Check.due("the last", x.horse(5, 1), 2);
        Check.due("no seventh", x.horse(6, 1), OatFerry.UNKNOWN);
        Check.bad(3, SIX + "^horse 1 2 3;");
        Check.bad(3, SIX + " ^horse");
        Check.bad(3, SIX + "due 5;^horse 99");
        Check.about("What has a number has it from 0 on, as it comes");
        OatFerry y = Check.ferry(BELT + "horse 11 1 0;cart 21;horse 12 2 1;cart 22;due 9;horse 13 3 2;");
        for (int h = 0; h < 3; h++) {
            Check.due("P of " + h, y.horse(h, 0), 11 + h);
            Check.due("S of " + h, y.horse(h, 1), 1 + h);
            Check.due("R of " + h, y.horse(h, 2), h);
        }
        Check.due("cart(0)", y.cart(0), 21);
        Check.due("cart(1)", y.cart(1), 22);
    }

    private static void blindOnes() {
        Check.about("'blind' H ';' (each once)");
        OatFerry x = Check.good(SIX + "blind 5;blind 0;blind 2;", 2);
        for (int h = 0; h < 6; h++) {
            Check.due("horse(" + h + ", 3)", x.horse(h, 3), h == 0 || h == 2 || h == 5 ? 1 : 0);
        }
        Check.good(SIX + "blind 0;blind 1;blind 2;blind 3;blind 4;blind 5;", 2);
        Check.about("'blind' again (at the H)");
        for (int h = 0; h < 6; h++) {
            Check.bad(4, SIX + "blind 0;blind 1;blind 2;blind 3;blind 4;blind 5;blind ^" + h + ";");
        }
        Check.bad(4, TWO + "blind 1;blind 0;blind ^001");
        Check.bad(1, TWO + "blind ^;");
        Check.bad(1, TWO + "blind 0 ^1;");
    }

    private static void besideBounds() {
        Check.about("pulls D less 5 more, D 0 .. 10");
        bounds(TWO + "beside 1 0 ", 0, 10, ";", x -> x.beside(1, 0) + 5);
        Check.about("0 untold");
        OatFerry x = Check.ferry(TWO + "beside 1 0 9;");
        Check.due("beside(1, 0)", x.beside(1, 0), 4);
        Check.due("beside(0, 1)", x.beside(0, 1), 0);
        Check.bad(1, TWO + "beside 1 ^;");
        Check.bad(1, TWO + "beside 1 0^;");
        Check.bad(1, TWO + "beside 1 0 5 ^5;");
    }

    private static void besidePairs() {
        Check.about("B like A (at the B)");
        Check.bad(4, TWO + "beside 0 ^0 5;");
        Check.bad(4, TWO + "beside 1 ^1");
        Check.bad(4, TWO + "beside 1 ^001 99;");
        Check.about("each pair A, B once");
        OatFerry x = Check.good(TWO + "beside 0 1 7;beside 1 0 2;", 2);
        Check.due("beside(0, 1)", x.beside(0, 1), 2);
        Check.due("beside(1, 0)", x.beside(1, 0), -3);
        Check.bad(4, TWO + "beside 0 1 7;beside 0 ^1 7;");
        Check.bad(4, TWO + "beside 0 1 5;beside 0 ^1 5;");
        Check.bad(4, TWO + "beside 1 0 5;beside 0 1 5;beside 1 ^0");
        Check.bad(4, SIX + "beside 5 4 5;beside 4 5 5;beside 5 ^4 5;");
    }

    /** So many clauses, each of another pair. */
    private static String besides(int count) {
        StringBuilder s = new StringBuilder();
        for (int i = 0; i < count; i++) {
            s.append("beside ").append(i / 5).append(' ').append(i % 5 < i / 5 ? i % 5 : i % 5 + 1).append(" 5;");
        }
        return s.toString();
    }

    private static void twelveBesides() {
        Check.about("'beside' (12 at most), a 13th 'beside' (at its first letter)");
        Check.good(SIX + besides(11), 2);
        Check.good(SIX + besides(12), 2);
        Check.bad(3, SIX + besides(12) + "^beside 5 4 5;");
        Check.bad(3, SIX + besides(12) + " ^beside 0 0 5;");
        Check.bad(3, SIX + besides(12) + "due 7;^beside");
    }

    private static void tideBounds() {
        Check.about("T less 20 with her, T 0 .. 40");
        bounds(BELT + "tide ", 0, 40, ";", x -> x.told(11) + 20);
        bounds(BELT + "tide 1,2,", 0, 40, ",3;", x -> {
            x.rest(2);
            return x.told(11) + 20;
        });
        Check.about("20 untold");
        OatFerry x = Check.ferry(BELT);
        Check.due("told(11)", x.told(11), 0);
        x.rest(5);
        Check.due("told(11)", x.told(11), 0);
        Check.about("'tide' again");
        Check.bad(3, BELT + "tide 20;^tide 20;");
        Check.bad(3, BELT + "tide 20;due 9;^tide");
    }

    private static void twelveTides() {
        Check.about("1 to 12 hours that come round");
        Check.bad(1, BELT + "tide^;");
        Check.bad(1, BELT + "tide ^,1;");
        Check.bad(1, BELT + "tide 1,^;");
        Check.bad(1, BELT + "tide 1,^,1;");
        Check.bad(1, BELT + "tide 1 ^1;");
        String tides = "tide 1";
        for (int count = 1; count <= 12; count++) {
            OatFerry x = Check.good(BELT + tides + ";", 2);
            for (int hour = 0; hour < 26; hour++) {
                Check.due("tide of " + hour + " by '" + tides + "'", x.told(11), hour % count + 1 - 20);
                x.rest(1);
            }
            tides += "," + (count + 1);
        }
        Check.about("a 13th T: at its ','");
        String twelve = BELT + "tide 1,2,3,4,5,6,7,8,9,10,11,12";
        Check.bad(1, twelve + "^,13;");
        Check.bad(1, twelve + "  ^, 13;");
        Check.bad(1, twelve + "^,");
        Check.bad(1, twelve + "^,9999;");
        Check.bad(1, twelve + "^");
    }

    private static void carts() {
        Check.about("'cart' W ';' (4 at most: 0 .. 60)");
        bounds(BELT + "cart ", 0, 60, ";", x -> x.cart(0));
        bounds(BELT + "cart 1;cart 2;cart 3;cart ", 0, 60, ";", x -> x.cart(3));
        OatFerry x = Check.good(BELT + "cart 1;cart 2;cart 3;cart 4;", 2);
        Check.due("told(4)", x.told(4), 4);
        Check.due("cart(3)", x.cart(3), 4);
        Check.due("cart(4)", x.cart(4), OatFerry.UNKNOWN);
        Check.bad(3, BELT + "cart 1;cart 2;cart 3;cart 4;^cart 5;");
        Check.bad(3, BELT + "cart 1;cart 2;cart 3;cart 4;due 4; ^cart");
    }

    private static void due() {
        Check.about("'due' M ';' (1 .. 120; 60 untold; once)");
        bounds(BELT + "due ", 1, 120, ";", x -> x.told(5));
        Check.due("untold", Check.ferry(BELT).told(5), 60);
        Check.bad(3, BELT + "due 60;^due 60;");
        Check.bad(3, BELT + "due 1;cart 1;^due");
    }

    private static void numbersHaveOneToThreeFigures() {
        Check.about("NUMBERS have one to three figures");
        Check.due("three", Check.good("belt sum 003 007;", 3).told(2), 7);
        Check.due("000 is 0", Check.good(BELT + "cart 000;", 2).cart(0), 0);
        Check.bad(2, "belt sum ^0003 007;");
        Check.bad(2, BELT + "cart ^0000;");
        Check.bad(2, BELT + "cart ^" + "0".repeat(300) + ";");
        // Left over by 2 to the 32 these would be inside their bounds.
        Check.bad(2, BELT + "cart ^4294967296;");
        Check.bad(2, BELT + "due ^18446744073709551617;");
    }

    private static void words() {
        Check.about("words are letters a .. z side by side");
        Check.bad(1, "^beltz sum 1 1;");
        Check.bad(1, "^abelt sum 1 1;");
        Check.bad(1, "belt^` sum 1 1;");
        Check.bad(1, "belt^{ sum 1 1;");
        Check.bad(1, "^`belt sum 1 1;");
        Check.bad(1, "belt^Z sum 1 1;");
        Check.bad(1, "^BELT sum 1 1;");
        Check.about("a word that cannot: at its first letter");
        Check.bad(1, BELT + "^sum;");
        Check.bad(1, BELT + "^horsea 1 1 1;");
        Check.bad(1, BELT + "^zhorse 1 1 1;");
        Check.bad(1, BELT + "horse 1 ^due 1;");
        Check.bad(1, BELT + "due 1 ^due;");
        Check.bad(1, BELT + "due ^due;");
        for (String word : new String[] {"hors", "blin", "besid", "tid", "car", "du", "bel"}) {
            Check.bad(1, BELT + "^" + word + " 0 0 0;");
            Check.bad(1, BELT + "^" + word);
        }
        for (String word : new String[] {"belt", "horse", "blind", "beside", "tide", "cart", "due"}) {
            for (int i = 0; i < word.length(); i++) {
                Check.bad(1, TWO + "^" + other(word, i) + " 1 0 5;");
            }
        }
        for (String law : new String[] {"sum", "slowest"}) {
            for (int i = 0; i < law.length(); i++) {
                Check.bad(1, "belt ^" + other(law, i) + " 1 1;");
            }
        }
        for (int i = 0; i < 4; i++) {
            Check.bad(1, "^" + other("belt", i) + " sum 1 1;");
        }
    }

    /** A word with one letter changed. */
    private static String other(String word, int at) {
        return word.substring(0, at) + "q" + word.substring(at + 1);
    }

    private static void blanks() {
        Check.about("blanks (32) may stand anywhere but within words and NUMBERS");
        OatFerry x = Check.good("  belt   slowest  3   50  ;  horse  1  2  3  ;  tide  4  ,  5  ;   ", 3);
        Check.due("D", x.told(2), 50);
        Check.due("R", x.horse(0, 2), 3);
        x.rest(1);
        Check.due("tide", x.told(11), -15);
        Check.bad(1, "^be lt sum 1 1;");
        Check.bad(1, "belt ^su m 1 1;");
        Check.bad(1, "belt sum 1 1 ^0;");
        Check.bad(1, BELT + "due 1 ^2;");
        for (char sign : new char[] {0, 9, 10, 13, 31, 33, 127, 128, 160, 255}) {
            Check.bad(1, "^" + sign + "belt sum 1 1;");
            Check.bad(1, "belt^" + sign + "sum 1 1;");
            Check.bad(1, "belt sum 1^" + sign + "1;");
            Check.bad(1, "belt sum 1 1;^" + sign);
        }
    }

    private static void sideBySide() {
        Check.about("two words, two NUMBERS side by side need one");
        Check.bad(1, "^beltsum 1 1;");
        Check.bad(2, "belt sum ^11;");
        Check.due("a word and a NUMBER need none", Check.good("belt sum2 1;horse1 2 3;due9;", 2).told(5), 9);
        Check.due("nor signs", Check.good("belt sum 1 1;tide 1,2,3;due 5;", 1).told(5), 5);
        Check.bad(1, "belt sum 1^sum 1;");
        Check.bad(1, "belt sum 1 1^due 1;");
    }

    private static void otherBytes() {
        Check.about("1 it cannot stand there");
        for (int one = 0; one < 256; one++) {
            char sign = (char) one;
            boolean letter = sign >= 'a' && sign <= 'z';
            boolean figure = sign >= '0' && sign <= '9';
            if (sign != ' ' && sign != '^') {
                Check.bad(1, BELT + "^" + sign);
                Check.bad(1, BELT + "horse 1 2 3 ^" + (sign == ';' ? "," : sign));
                Check.bad(1, "belt ^" + sign);
            }
            if (sign != ' ' && sign != '^' && !figure) {
                Check.bad(1, "belt sum ^" + sign);
                Check.bad(1, BELT + "tide 1,^" + sign);
            }
            if (sign != ' ' && sign != '^' && !letter) {
                Check.bad(1, "^" + sign + "belt sum 1 1;");
            }
        }
    }

    private static void whatCannotStand() {
        Check.about("it cannot stand there: each part of a clause left out, each once more");
        Check.bad(1, "belt^;");
        Check.bad(1, "belt sum^;");
        Check.bad(1, "belt sum 1^;");
        Check.bad(1, "belt sum 1 1 ^1;");
        Check.bad(1, "belt sum 1 1;^;");
        Check.bad(1, "^;belt sum 1 1;");
        Check.bad(1, BELT + "horse^;");
        Check.bad(1, BELT + "horse 1^;");
        Check.bad(1, BELT + "horse 1 1^;");
        Check.bad(1, BELT + "horse 1 1 1 ^1;");
        Check.bad(1, BELT + "horse 1^,1,1;");
        Check.bad(1, BELT + "cart^;");
        Check.bad(1, BELT + "cart 1 ^1;");
        Check.bad(1, BELT + "due^;");
        Check.bad(1, BELT + "due 1 ^1;");
        Check.bad(1, BELT + "^7;");
        Check.bad(1, BELT + "^,");
    }

    private static void theEnd() {
        Check.about("the end at the text's length");
        String text = "belt slowest 3 50;horse 9 8 7; horse 6 5 4 ;blind 0;beside 1 0 10;tide 20 , 31;cart 60;due 120; ";
        for (int length = 0; length <= text.length(); length++) {
            // Each earlier text is longer: what was read once must not be read again behind the end.
            for (String earlier : new String[] {"", text, " ".repeat(120), ";".repeat(120), "5".repeat(120),
                ",".repeat(120), "e".repeat(120), text.substring(1) + "due", "x" + text}) {
                OatFerry x = new OatFerry();
                Check.feed(x, earlier);
                x.ferry();
                x.ferry();
                cut(x, text, length);
            }
        }
    }

    /** The text's first bytes alone: a word that is cut through cannot stand, otherwise the end cannot. */
    private static void cut(OatFerry x, String text, int length) {
        String cut = text.substring(0, length);
        boolean fine = cut.isBlank() || cut.stripTrailing().endsWith(";");
        int where = length;
        boolean inWord = isLetter(text, length) && isLetter(text, length - 1);
        while (inWord && isLetter(text, where - 1)) {
            where--;
        }
        Check.feed(x, cut);
        Check.due("ferry() of '" + cut + "'", x.ferry(), cut.isBlank() ? 0 : fine ? 3 : -11);
        Check.due("fault() of '" + cut + "'", x.fault(), fine ? NONE : where);
    }

    private static boolean isLetter(String text, int at) {
        return at >= 0 && at < text.length() && text.charAt(at) >= 'a' && text.charAt(at) <= 'z';
    }

    private static void horsesNotToldYet() {
        Check.about("a HORSE that was not told yet (at its first)");
        Check.bad(2, BELT + "blind ^0;");
        Check.bad(2, BELT + "horse 1 1 1;blind ^1;");
        Check.bad(2, BELT + "horse 1 1 1;blind ^1;horse 1 1 1;");
        Check.bad(2, TWO + "blind ^2;");
        Check.bad(2, TWO + "blind ^002;");
        Check.bad(2, SIX + "blind ^6;");
        Check.good(SIX + "blind 5;", 2);
        Check.bad(2, BELT + "beside ^0 1 5;");
        Check.bad(2, TWO + "beside ^2 1 5;");
        Check.bad(2, TWO + "beside ^2 2 5;");
        Check.bad(2, TWO + "beside 1 ^2 5;");
        Check.bad(2, TWO + "beside 0 ^2 5;horse 1 1 1;");
        Check.bad(2, SIX + "beside ^6 0 5;");
        Check.bad(2, SIX + "beside 0 ^6 5;");
        Check.bad(2, SIX + "beside 0 ^999 5;");
        Check.good(SIX + "beside 5 4 5;beside 0 5 5;", 2);
        Check.good(BELT + "horse 1 1 1;blind 0;horse 1 1 1;beside 0 1 5;horse 1 1 1;blind 2;", 2);
    }

    private static void ofFaultsAtOneByteTheLeast() {
        Check.about("of these the least");
        Check.bad(1, "belt ^1234;");
        Check.bad(1, BELT + "due 1 ^1234;");
        Check.bad(1, BELT + "^1234;");
        Check.bad(1, "belt ^belt");
        Check.bad(1, BELT + "tide 20 ^tide 20;");
        Check.bad(1, SIX + "cart 1 ^horse 1 1 1;");
        Check.bad(2, TWO + "blind 0;blind ^0000;");
        Check.bad(2, TWO + "beside 0 ^0000 5;");
        Check.bad(2, TWO + "beside 0 1 5;beside 0 ^0001 5;");
    }

    private static void behindTheFirstFaultNothing() {
        Check.about("FAULTS, at the first byte that has one");
        Check.bad(2, "belt sum ^4 0;" + BELT);
        Check.bad(2, BELT + "horse ^31 201 61;belt");
        Check.bad(2, BELT + "horse 30 ^201 61;x");
        Check.bad(2, BELT + "horse 30 200 ^61,");
        Check.bad(4, TWO + "beside 1 ^1 11;");
        Check.bad(4, TWO + "blind 1;blind ^1,");
        Check.bad(3, BELT + "due 7;^due 121,");
        Check.bad(1, BELT + "^x;belt;due 0;");
        Check.bad(2, BELT + "tide 20,^41,20,20,20,20,20,20,20,20,20,20,20;");
    }

    private static void theEmptyText() {
        Check.about("An empty text: no PLACES");
        OatFerry x = Check.good("", 0);
        Check.due("told(0)", x.told(0), 0);
        OatFerry y = Check.ferry(SIX + "cart 5;due 9;tide 30;");
        y.put(5, 1);
        y.rest(3);
        Check.due("ferry()", y.ferry(), 0);
        Check.due("fault()", y.fault(), NONE);
        int[] told = {0, NONE, 0, 0, 0, 60, 0, 0, 0, 0, 0, 0, 0};
        for (int what = 0; what <= 12; what++) {
            Check.due("told(" + what + ")", y.told(what), told[what]);
        }
        Check.due("at(0)", y.at(0), OatFerry.UNKNOWN);
        Check.due("horse(0, 0)", y.horse(0, 0), OatFerry.UNKNOWN);
        Check.due("cart(0)", y.cart(0), OatFerry.UNKNOWN);
        Check.due("cross(0)", y.cross(0), OatFerry.NOT);
        Check.due("soonest(0, -1)", y.soonest(0, -1), NONE);
        Check.due("carts(-1)", y.carts(-1), 0);
        Check.good("   ", 0);
    }

    private static void whatAFerryBegins() {
        Check.about("HOUR 0, nobody stands, no OATS eaten, nothing MISSED; no TIMES TOLD; IMAGES are gone; THE SEED stays");
        for (String text : new String[] {TWO, "belt slowest 3 9;horse 30 200 60;", ""}) {
            OatFerry x = Check.ferry(TWO);
            x.put(0, 0);
            x.put(1, 1);
            x.cross(20);
            Check.due("missed", x.told(9), 1);
            x.tell(0, 1, -1, 0, 9);
            x.keep(0);
            x.keep(1);
            x.seed(4711);
            Check.feed(x, text);
            x.ferry();
            for (int what = 6; what <= 10; what++) {
                Check.due("told(" + what + ")", x.told(what), 0);
            }
            Check.due("lame", x.told(12), 0);
            for (int p = 0; p < x.told(0); p++) {
                Check.due("at(" + p + ")", x.at(p), NONE);
            }
            for (int h = 0; h < x.told(3); h++) {
                Check.due("strength", x.horse(h, 4), x.horse(h, 1));
                Check.due("place", x.horse(h, 5), NONE);
            }
            Check.due("goBack(0)", x.goBack(0), OatFerry.NOT);
            Check.due("goBack(1)", x.goBack(1), OatFerry.NOT);
            Check.due("judge()", x.judge(), NONE);
            Check.due("seed(0)", x.seed(0), 4711);
        }
    }

    private static void nothingStaysOfAnEarlierText() {
        Check.about("THE TEXT becomes THE FERRY");
        OatFerry x = Check.ferry("belt slowest 3 9;horse 1 1 1;horse 2 2 2;horse 3 3 3;blind 0;blind 1;beside 0 1 9;"
                + "beside 1 0 0;tide 1,2,3;cart 9;cart 8;due 9;");
        Check.feed(x, TWO);
        Check.due("ferry()", x.ferry(), 2);
        int[] told = {2, 0, 100, 2, 0, 60, 0, 0, 0, 0, 0, 0, 0};
        for (int what = 0; what <= 12; what++) {
            Check.due("told(" + what + ")", x.told(what), told[what]);
        }
        Check.due("not blind", x.horse(0, 3), 0);
        Check.due("not blind", x.horse(1, 3), 0);
        Check.due("beside(0, 1)", x.beside(0, 1), 0);
        Check.due("beside(1, 0)", x.beside(1, 0), 0);
        Check.due("at(2)", x.at(2), OatFerry.UNKNOWN);
        Check.due("horse(2, 0)", x.horse(2, 0), OatFerry.UNKNOWN);
        Check.due("cart(0)", x.cart(0), OatFerry.UNKNOWN);
        Check.due("tell at a place that is no more", x.tell(-1, -1, 0, 0, 0), OatFerry.UNKNOWN);
        for (int again = 0; again < 3; again++) {
            Check.feed(x, TWO + "blind 0;beside 0 1 9;tide 1;cart 1;cart 1;cart 1;due 7;");
            Check.due("the same again", x.ferry(), 2);
        }
        OatFerry y = new OatFerry();
        Check.feed(y, SIX + besides(12));
        Check.due("twelve besides", y.ferry(), 2);
        Check.feed(y, SIX + besides(12));
        Check.due("twelve again", y.ferry(), 2);
        OatFerry z = new OatFerry();
        Check.feed(z, TWO + "blind 0;beside 0 1 9;x");
        Check.due("a fault", z.ferry(), -11);
        Check.feed(z, TWO + "blind 0;beside 0 1 9;");
        Check.due("what a faulty text told is not told", z.ferry(), 2);
    }

    private static void theLatestFault() {
        Check.about("The byte of the FAULT of the latest ferry(); NONE");
        OatFerry x = new OatFerry();
        Check.due("no ferry() yet", x.fault(), NONE);
        Check.feed(x, "belt sum 1 0;");
        Check.due("not read yet", x.fault(), NONE);
        Check.due("ferry()", x.ferry(), -12);
        Check.due("fault()", x.fault(), 11);
        Check.feed(x, "belt sum 1 1;");
        Check.due("still the latest", x.fault(), 11);
        Check.due("ferry()", x.ferry(), 1);
        Check.due("none now", x.fault(), NONE);
        Check.feed(x, "x");
        Check.due("ferry()", x.ferry(), -11);
        Check.due("fault()", x.fault(), 0);
        Check.due("the ferry is as it was", x.told(0), 1);
        Check.due("ferry() of an empty text", x.ferry(), 0);
        Check.due("none now", x.fault(), NONE);
    }
}
