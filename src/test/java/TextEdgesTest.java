import java.util.Locale;

/** Terms and promises 5 to 7: the edges of the tape, of texts and of their faults. */
public final class TextEdgesTest {
    private static final String HEAD = "knots 3 degree 2;";
    private static final String[] SHAPES = {"row", "ring", "all", "star"};
    private static final String[] WORDS = {"knots", "degree", "row", "ring", "all", "star", "off"};

    private TextEdgesTest() {
    }

    public static void main(String[] args) {
        tapeThatIsFull();
        tapeThatIsEmpty();
        bytesHighestFirst();
        firstBytesAlone();
        textOf400Bytes();
        faultsComeAndGo();
        blanks();
        everyByteWhereAWordIsDue();
        everyByteBehindAWord();
        everyByteBetweenKnots();
        everyByteWhereANumberIsDue();
        wordsByTheLongestRow();
        textsThatEndTooSoon();
        tokensThatCannotStand();
        digits();
        sizes();
        clauses20And21();
        knots12And13();
        fewestKnots();
        knotsThatThereAreNot();
        knotsNamedAlready();
        linesThatAreThere();
        linesTooMany();
        firstLineThatCannotBe();
        orderOfAll();
        firstAlongTheText();
        offs();
        everyBeginning();
        everyByteEverywhere();
        Check.end("TextEdgesTest");
    }

    /** Reads a text over a net: the fault and its place, and what lay there stays. */
    private static void fault(String text, int fault, int place) {
        WiredNets x = new WiredNets();
        x.net(6, 7, 3);
        x.line(6, 5, 2);
        int length = Check.feed(x, text);
        Check.due("read of '" + text + "'", fault, () -> x.read(6, length));
        Check.due("fault of '" + text + "'", place, () -> x.fault());
        Check.text("what lay there, behind '" + text + "'", "7 3: 2-5", Seen.slot(x, 6));
        Check.due("bytes behind '" + text + "'", 0, () -> x.count(1));
    }

    /** Reads a text that is right: the net, as Seen tells it. */
    private static void good(String text, String net) {
        WiredNets x = new WiredNets();
        x.net(6, 7, 3);
        x.line(6, 5, 2);
        int length = Check.feed(x, text);
        Check.due("read of '" + text + "'", 0, () -> x.read(6, length));
        Check.due("fault of '" + text + "'", WiredNets.NONE, () -> x.fault());
        Check.text("net of '" + text + "'", net, Seen.slot(x, 6));
        Check.due("bytes behind '" + text + "'", 0, () -> x.count(1));
    }

    private static String times(int many, String text) {
        return text.repeat(many);
    }

    /** "how many it has; NONE, and none come, if it would have more than 400". */
    private static void tapeThatIsFull() {
        WiredNets x = new WiredNets();
        String text = HEAD + times(375, " ") + "row 0 1;";
        for (int at = 0; at < 400; at += 20) {
            int due = at + 20;
            int[] w = words(text, at);
            Check.due("feed to " + due, due, () -> x.feed(w[0], w[1], w[2], w[3], w[4]));
            Check.due("count at " + due, due, () -> x.count(1));
        }
        int[] w = words("knots 9 degree 9;row", 0);
        for (int again = 0; again < 3; again++) {
            Check.due("feed of a full tape", WiredNets.NONE, () -> x.feed(w[0], w[1], w[2], w[3], w[4]));
            Check.due("none come", 400, () -> x.count(1));
        }
        Check.illegal("401 bytes", () -> x.read(0, 401));
        Check.due("the tape is as it was", 0, () -> x.read(0, 400));
        Check.text("all of it was read", "3 2: 0-1", Seen.slot(x, 0));
        Check.due("empty then", 0, () -> x.count(1));
        Check.due("feed of an empty tape", 20, () -> x.feed(w[0], w[1], w[2], w[3], w[4]));
        Check.due("the bytes are the new ones", 2, () -> x.read(0, 20));
        Check.due("at DEGREE", 15, () -> x.fault());
    }

    private static int[] words(String text, int at) {
        int[] words = new int[5];
        for (int i = 0; i < 20; i++) {
            words[i / 4] = words[i / 4] << 8 | text.charAt(at + i);
        }
        return words;
    }

    private static void tapeThatIsEmpty() {
        WiredNets x = new WiredNets();
        Check.due("a new tape", 0, () -> x.count(1));
        Check.illegal("one byte of none", () -> x.read(0, 1));
        Check.illegal("less than none", () -> x.read(0, -1));
        Check.due("still no fault", WiredNets.NONE, () -> x.fault());
        Check.due("none of none", 1, () -> x.read(0, 0));
        Check.due("ends at 0", 0, () -> x.fault());
        Check.noSuch("nothing lies there", () -> x.about(0, 0));
        Check.feed(x, HEAD);
        Check.due("read", 0, () -> x.read(7, 17));
        Check.illegal("it is empty then", () -> x.read(0, 1));
        Check.due("no fault", WiredNets.NONE, () -> x.fault());
        Check.due("none of it again", 1, () -> x.read(7, 0));
        Check.text("what lay there stays", "3 2:", Seen.slot(x, 7));
    }

    /** "Twenty bytes come behind the tape, of each number the highest first". */
    private static void bytesHighestFirst() {
        WiredNets x = new WiredNets();
        x.feed('k' << 24 | 'n' << 16 | 'o' << 8 | 't', 's' << 24 | '1' << 16 | '2' << 8 | 'd',
            'e' << 24 | 'g' << 16 | 'r' << 8 | 'e', 'e' << 24 | '3' << 16 | ';' << 8 | 'r', 'o' << 24 | 'w' << 16 | 0x3131);
        x.feed(0x2031303b, -1, Integer.MIN_VALUE, Integer.MAX_VALUE, 0);
        Check.due("two feeds as one text", 0, () -> x.read(0, 24));
        Check.text("two feeds as one text", "12 3: 10-11", Seen.slot(x, 0));
        // Bytes of 128 and more are no tokens, whatever the number's sign.
        int[][] high = {{0x80202020, 0}, {0x20802020, 1}, {0x20208020, 2}, {0x20202080, 3}, {0xff202020, 0},
            {0x202020ff, 3}, {0xa0202020, 0}, {0x8a0a0a0a, 0}};
        for (int[] h : high) {
            x.feed(h[0], 0x20202020, 0x20202020, 0x20202020, 0x20202020);
            Check.due("byte over 127", 1, () -> x.read(0, 20));
            Check.due("its place", h[1], () -> x.fault());
        }
    }

    /** "The tape's first n bytes (it is empty then)": also what lies behind them goes. */
    private static void firstBytesAlone() {
        WiredNets x = new WiredNets();
        Check.feed(x, HEAD + "row 0 1;row 0 2;!!!");
        Check.due("first bytes", 0, () -> x.read(0, 25));
        Check.text("one clause", "3 2: 0-1", Seen.slot(x, 0));
        Check.due("the rest goes, too", 0, () -> x.count(1));
        Check.feed(x, HEAD + "row 0 1;row 0 2;!!!");
        Check.due("up to the fault", 0, () -> x.read(0, 33));
        Check.text("two clauses", "3 2: 0-1 0-2", Seen.slot(x, 0));
        Check.feed(x, HEAD + "row 0 1;row 0 2;!!!");
        Check.due("the fault", 1, () -> x.read(0, 34));
        Check.due("at 33", 33, () -> x.fault());
        Check.due("empty behind a fault, too", 0, () -> x.count(1));
        // A number is cut where the text ends.
        Check.feed(x, HEAD + "row 0 12;");
        Check.due("KNOT 12", 3, () -> x.read(0, 26));
        Check.feed(x, HEAD + "row 0 12;");
        Check.due("KNOT 1, and it ends", 1, () -> x.read(0, 24));
        Check.due("at 24", 24, () -> x.fault());
    }

    /** "A TEXT of at most 400 bytes": the last byte counts, and the place behind it. */
    private static void textOf400Bytes() {
        good(HEAD + times(383, "\n"), "3 2:");
        good(times(383, " ") + HEAD, "3 2:");
        fault(HEAD + times(382, " ") + "!", 1, 399);
        fault(HEAD + times(375, " ") + "row 0 1 ", 1, 400);
        fault(HEAD + times(378, " ") + "row 0", 1, 400);
        fault(HEAD + times(375, " ") + "row 0 3;", 3, 398);
        fault(HEAD + "row 0 1;" + times(367, " ") + "row 1 0;", 5, 399);
        fault(HEAD + "row 0 1 2;" + times(363, " ") + "off 0 2;  ", 5, 397);
        fault(times(400, " "), 1, 400);
        fault(times(400, "a"), 1, 0);
        fault("knots " + times(394, "1"), 2, 6);
        fault(HEAD + "row 0 " + times(377, "0"), 2, 23);
    }

    /** "The place of the latest read()'s FAULT; NONE without." */
    private static void faultsComeAndGo() {
        WiredNets x = new WiredNets();
        Check.due("none yet", WiredNets.NONE, () -> x.fault());
        String[] texts = {"knots 25", HEAD, "foo", "foo", HEAD + "row 0 4", HEAD, HEAD};
        int[] faults = {2, 0, 1, 1, 3, 0, 0};
        int[] places = {6, -1, 0, 0, 23, -1, -1};
        for (int i = 0; i < texts.length; i++) {
            int at = i;
            int length = Check.feed(x, texts[i]);
            Check.due("read " + at, faults[at], () -> x.read(0, length));
            Check.due("fault " + at, places[at], () -> x.fault());
            Check.due("fault " + at + " asked again", places[at], () -> x.fault());
        }
        int length = Check.feed(x, "knots 25");
        x.read(0, length);
        Check.noSuch("refused", () -> x.read(8, 0));
        Check.illegal("refused", () -> x.read(0, 1));
        Check.due("the latest stays", 6, () -> x.fault());
    }

    /** "blanks (32, 10) between them, which count for nothing". */
    private static void blanks() {
        good("knots3degree2;row0 1;", "3 2: 0-1");
        good("knots3degree2;row 0\n1;", "3 2: 0-1");
        good("\n\n knots \n 3 \n degree \n 2 \n ; \n row \n 0 \n 1 \n ; \n\n", "3 2: 0-1");
        good("knots 3 degree 2;row 0 1;row 1 2;", "3 2: 0-1 1-2");
        good("knots 3 degree 2 ;row 0 1 ;off 0 1 ;", "3 2:");
        // A blank parts what would be one token.
        fault("kn ots 3 degree 2;", 1, 0);
        fault("knots 3 deg ree 2;", 1, 8);
        fault("knots 1 2 degree 2;", 1, 8);
        fault("knots 3 degree 2;r ow 0 1;", 1, 17);
        good("knots 13 degree 2;row 1 2;", "13 2: 1-2");
        fault("knots 13 degree 2;row 12;", 1, 24);
        fault("knots 13 degree 2;row1 2", 1, 24);
    }

    /** Every byte where 'row' begins: none but a blank leaves it standing. */
    private static void everyByteWhereAWordIsDue() {
        for (int sign = 0; sign < 256; sign++) {
            String text = HEAD + (char) sign + "row 0 1;";
            if (sign == 32 || sign == 10) {
                good(text, "3 2: 0-1");
            } else {
                fault(text, 1, 17);
            }
        }
    }

    /** Every byte that follows 'row': a letter makes another word of it, none else does. */
    private static void everyByteBehindAWord() {
        for (int sign = 0; sign < 256; sign++) {
            String text = HEAD + "row" + (char) sign + " 0 1;";
            if (sign == 32 || sign == 10) {
                good(text, "3 2: 0-1");
            } else if (sign >= 'a' && sign <= 'z') {
                fault(text, 1, 17);
            } else if (sign == '0') {
                fault(text, 4, 22);
            } else if (sign == '1') {
                fault(text, 4, 24);
            } else if (sign == '2') {
                fault("knots 3 degree 1;row" + (char) sign + " 0 1;", 6, 25);
            } else if (sign >= '3' && sign <= '9') {
                fault(text, 3, 20);
            } else {
                fault(text, 1, 20);
            }
        }
    }

    /** Every byte between two KNOTS. */
    private static void everyByteBetweenKnots() {
        for (int sign = 0; sign < 256; sign++) {
            String text = HEAD + "row 0" + (char) sign + "1;";
            if (sign == 32 || sign == 10) {
                good(text, "3 2: 0-1");
            } else if (sign == '0') {
                fault(text, 1, 24);
            } else if (sign >= '1' && sign <= '9') {
                fault(text, 3, 21);
            } else {
                fault(text, 1, 22);
            }
        }
    }

    /** Every byte where n is due. */
    private static void everyByteWhereANumberIsDue() {
        for (int sign = 0; sign < 256; sign++) {
            String text = "knots " + (char) sign + " degree 1;";
            if (sign >= '1' && sign <= '9') {
                good(text, (char) sign + " 1:");
            } else if (sign == '0') {
                fault(text, 2, 6);
            } else if (sign == 32 || sign == 10) {
                fault(text, 1, 8);
            } else {
                fault(text, 1, 6);
            }
        }
    }

    /** "words (a .. z, the longest row)": a sign less, more or other is another word. */
    private static void wordsByTheLongestRow() {
        for (String word : WORDS) {
            String end = word.substring(0, word.length() - 1);
            for (String other : new String[] {end, word + "s", word + word, word + "a", word + "z", "a" + word,
                word.substring(1), word.toUpperCase(Locale.ROOT)}) {
                noWord(word, other);
            }
            for (int i = 0; i < word.length(); i++) {
                for (char sign : new char[] {'a', 'z', (char) (word.charAt(i) ^ 1), (char) (word.charAt(i) - 32), 'x'}) {
                    noWord(word, word.substring(0, i) + sign + word.substring(i + 1));
                }
            }
        }
        for (String word : new String[] {"knots", "degree", "foo", "rowring", "x", "z"}) {
            fault(HEAD + word + " 0 1;", 1, 17);
        }
    }

    /** Another word in a word's place; where it has a sign that no word has, the word ends ahead of it. */
    private static void noWord(String word, String other) {
        if (other.equals(word)) {
            return;
        }
        int place = word.equals("knots") ? 0 : word.equals("degree") ? 8 : 25;
        int signs = 0;
        while (signs < other.length() && other.charAt(signs) >= 'a' && other.charAt(signs) <= 'z') {
            signs++;
        }
        boolean stands = place == 25 && other.substring(0, signs).matches("row|ring|all|star|off");
        String before = place == 0 ? "" : place == 8 ? "knots 3 " : HEAD + "row 0 1;";
        String behind = place == 0 ? " 3 degree 2;" : place == 8 ? " 2;" : " 0 1;";
        fault(before + other + behind, 1, stands ? place + signs : place);
    }

    /** "(the text's length where it ends too soon)", behind blanks, too. */
    private static void textsThatEndTooSoon() {
        String[] cut = {"", "knots", "knots 3", "knots 3 degree", "knots 3 degree 2", HEAD + "row", HEAD + "row 0",
            HEAD + "row 0 1", HEAD + "off", HEAD + "off 0", HEAD + "off 0 1", HEAD + "row 0 1;star 0", HEAD + "all 0 1 2",
            HEAD + "ring 2 1"};
        for (String text : cut) {
            fault(text, 1, text.length());
            fault(text + " ", 1, text.length() + 1);
            fault(text + "\n \n", 1, text.length() + 3);
        }
        good(HEAD, "3 2:");
        good(HEAD + "row 0 1;", "3 2: 0-1");
    }

    /** "1 a TOKEN that can't stand there": each sort of token at each place. */
    private static void tokensThatCannotStand() {
        String[] before = {"", "knots ", "knots 3 ", "knots 3 degree ", "knots 3 degree 2 ", HEAD, HEAD + "row ",
            HEAD + "row 0 ", HEAD + "row 0 1 ", HEAD + "off 0 1 "};
        // What may stand there: w a word of a clause, k 'knots', d 'degree', n a number, ; the sign.
        String[] may = {"k", "n", "d", "n", ";", "w", "n", "n", "n;", ";"};
        String[] tokens = {"knots", "degree", "row", "off", "2", ";", "!", "foo"};
        String kinds = "kdwwn;!f";
        for (int i = 0; i < before.length; i++) {
            for (int t = 0; t < tokens.length; t++) {
                if (may[i].indexOf(kinds.charAt(t)) < 0) {
                    fault(before[i] + tokens[t], 1, before[i].length());
                    fault(before[i] + tokens[t] + " 0 1;", 1, before[i].length());
                }
            }
        }
        // A number that is too long can't stand there either: 1 ahead of 2.
        fault("1000", 1, 0);
        fault("knots 3 1000", 1, 8);
        fault("knots 3 degree 2 1000;", 1, 17);
        fault(HEAD + "1000", 1, 17);
        fault(HEAD + "off 0 1 1000;", 1, 25);
    }

    /** "NUMBERS (1 to 3 digits)"; "2 .. a NUMBER of 4 digits or more". */
    private static void digits() {
        good("knots 3 degree 2;row 0 1;", "3 2: 0-1");
        good("knots 03 degree 02;row 00 01;", "3 2: 0-1");
        good("knots 003 degree 002;row 000 001;", "3 2: 0-1");
        good("knots 024 degree 008;row 023 000;", "24 8: 0-23");
        for (String much : new String[] {"0001", "1000", "0000", "00000000000000000001", "4294967297", "18446744073709551617",
            "65537", "2147483648", "9999"}) {
            fault("knots " + much + " degree 2;", 2, 6);
            fault("knots 3 degree " + much + ";", 2, 15);
            fault(HEAD + "row " + much + " 0;", 2, 21);
            fault(HEAD + "row 0 " + much + ";", 2, 23);
            fault(HEAD + "off 0 " + much + ";", 2, 23);
            fault(HEAD + "all 0 2 " + much + ";", 2, 25);
        }
        fault("knots 999 degree 2;", 2, 6);
        fault("knots 3 degree 999;", 2, 15);
        fault(HEAD + "row 0 999;", 3, 23);
    }

    /** "2 .. n, DEGREE not as told": n 1 to 24, DEGREE 1 to 8. */
    private static void sizes() {
        good("knots 1 degree 1;", "1 1:");
        good("knots 24 degree 8;", "24 8:");
        good("knots 1 degree 8;", "1 8:");
        good("knots 24 degree 1;", "24 1:");
        for (int n : new int[] {0, 25, 32, 100, 256, 280, 999}) {
            fault("knots " + n + " degree 2;", 2, 6);
            fault("knots " + n, 2, 6);
        }
        for (int degree : new int[] {0, 9, 10, 24, 256, 264, 999}) {
            fault("knots 5 degree " + degree + ";", 2, 15);
            fault("knots 5 degree " + degree, 2, 15);
        }
        fault("knots 00 degree 2;", 2, 6);
        fault("knots 000 degree 2;", 2, 6);
        fault("knots 5 degree 000;", 2, 15);
    }

    private static String clauses(int many) {
        StringBuilder text = new StringBuilder(HEAD);
        for (int i = 0; i < many; i++) {
            text.append(i % 2 == 0 ? "row 0 1;" : "off 0 1;");
        }
        return text.toString();
    }

    /** "2 .. the first TOKEN of the 21st CLAUSE", if it can stand there. */
    private static void clauses20And21() {
        good(clauses(19), "3 2: 0-1");
        good(clauses(20), "3 2:");
        good(clauses(20) + " \n ", "3 2:");
        int end = clauses(20).length();
        for (String word : new String[] {"row", "ring", "all", "star", "off"}) {
            fault(clauses(20) + word, 2, end);
            fault(clauses(20) + "  " + word + " 0 1;", 2, end + 2);
            fault(clauses(20) + word + " 7 7;", 2, end);
            fault(clauses(20) + word + "!", 2, end);
        }
        for (String token : new String[] {"knots", "degree", "rows", "0", "1000", ";", "!", "Row"}) {
            fault(clauses(20) + token, 1, end);
            fault(clauses(20) + "\n" + token + " 0 1;", 1, end + 1);
        }
        // The 20th one has its own faults.
        int last = clauses(19).length();
        fault(clauses(19) + "row 0 1;row 1 2;", 5, last + 7);
        fault(clauses(19) + "row 0 3;row 1 2;", 3, last + 6);
        fault(clauses(19) + "row 1 2;row 1 2;", 2, last + 8);
        good(clauses(19) + "row 1 2;", "3 2: 0-1 1-2");
    }

    /** "2 .. the 13th KNOT of a CLAUSE", whatever KNOT it is. */
    private static void knots12And13() {
        String twelve = " 0 1 2 3 4 5 6 7 8 9 10 11";
        String row = "14 2: 0-1 1-2 2-3 3-4 4-5 5-6 6-7 7-8 8-9 9-10 10-11";
        String head = "knots 14 degree 2;";
        good(head + "row" + twelve + ";", row);
        good(head + "ring" + twelve + ";", row.replace("0-1 1-2", "0-1 0-11 1-2"));
        good("knots 12 degree 8;star 0 1 2 3 4 5 6 7 8;row 8 9 10 11;",
            "12 8: 0-1 0-2 0-3 0-4 0-5 0-6 0-7 0-8 8-9 9-10 10-11");
        // Of twelve KNOTS these have too many LINES, but not too many KNOTS.
        fault("knots 14 degree 8;all" + twelve + ";", 6, 47);
        fault("knots 14 degree 8;star" + twelve + ";", 6, 48);
        for (String shape : SHAPES) {
            String text = "knots 14 degree 8;" + shape + twelve;
            int place = text.length() + 1;
            fault(text, 1, place - 1);
            fault(text + " 12;", 2, place);
            fault(text + " 13", 2, place);
            fault(text + " 14;", 2, place);
            fault(text + " 999;", 2, place);
            fault(text + " 0;", 2, place);
            fault(text + " 11;", 2, place);
            fault(text + " 1000;", 2, place);
            fault(text + " row", 1, place);
            fault(text + " !", 1, place);
            fault(text + "\n\n 12 13;", 2, place + 2);
        }
        // Eleven and one that is wrong: the 12th has its own faults.
        String eleven = head + "row 0 1 2 3 4 5 6 7 8 9 10";
        fault(eleven + " 14;", 3, eleven.length() + 1);
        fault(eleven + " 0;", 4, eleven.length() + 1);
        fault(eleven + " 0011;", 2, eleven.length() + 1);
    }

    /** "KNOT KNOT KNOT*": at least two. */
    private static void fewestKnots() {
        for (String shape : new String[] {"row", "ring", "all", "star", "off"}) {
            String text = HEAD + shape;
            fault(text + ";", 1, text.length());
            fault(text + " ;", 1, text.length() + 1);
            fault(text + " 0;", 1, text.length() + 2);
            fault(text + " 0 ;", 1, text.length() + 3);
        }
        good(HEAD + "row 0 1;", "3 2: 0-1");
        good(HEAD + "all 2 1;", "3 2: 1-2");
        good(HEAD + "star 2 0;", "3 2: 0-2");
        good(HEAD + "all 0 1 2;", "3 2: 0-1 0-2 1-2");
        good(HEAD + "ring 0 1 2;", "3 2: 0-1 0-2 1-2");
        good(HEAD + "row 0 1 2;", "3 2: 0-1 1-2");
        good(HEAD + "star 0 1 2;", "3 2: 0-1 0-2");
        // A ring of two has the same LINE twice.
        fault(HEAD + "ring 0 1;", 5, 25);
        fault("knots 3 degree 1;ring 0 1;", 5, 25);
    }

    /** "3 a KNOT that there isn't": n is the first one. */
    private static void knotsThatThereAreNot() {
        for (int n = 1; n <= 24; n++) {
            String text = "knots " + n + " degree 2;row ";
            fault(text + n, 3, text.length());
            fault(text + (n + 1) + " 0;", 3, text.length());
            if (n > 1) {
                good(text + (n - 1) + " 0;", n + " 2: 0-" + (n - 1));
                fault(text + "0 " + n + ";", 3, text.length() + 2);
                fault("knots " + n + " degree 2;off 0 " + n + ";", 3, text.length() + 2);
            }
        }
        fault("knots 1 degree 1;row 0 1;", 3, 23);
        fault("knots 24 degree 1;row 31 32;", 3, 22);
        fault("knots 24 degree 1;row 32 0;", 3, 22);
        fault("knots 24 degree 1;row 256 0;", 3, 22);
        fault("knots 3 degree 2;row 0 1 2 3;", 3, 27);
    }

    /** "4 a KNOT that this CLAUSE named already". */
    private static void knotsNamedAlready() {
        for (String shape : new String[] {"row", "ring", "all", "star", "off"}) {
            String text = HEAD + shape;
            fault(text + " 0 0;", 4, text.length() + 3);
            fault(text + " 0 00;", 4, text.length() + 3);
            fault(text + " 002 2;", 4, text.length() + 5);
        }
        for (String shape : SHAPES) {
            String text = HEAD + shape;
            fault(text + " 0 1 0;", 4, text.length() + 5);
            fault(text + " 0 1 1;", 4, text.length() + 5);
            fault(text + " 2 1 0 2;", 4, text.length() + 7);
        }
        fault("knots 1 degree 1;row 0 0;", 4, 23);
        fault("knots 24 degree 8;row 23 23;", 4, 25);
        // Another CLAUSE may name it again.
        good(HEAD + "row 0 1;row 0 2;row 1 2;", "3 2: 0-1 0-2 1-2");
        good(HEAD + "row 0 1;off 0 1;row 0 1;", "3 2: 0-1");
    }

    /** "5 a LINE of it is there already". */
    private static void linesThatAreThere() {
        fault(HEAD + "row 0 1;row 0 1;", 5, 32);
        fault(HEAD + "row 0 1;row 1 0;", 5, 32);
        fault(HEAD + "row 0 1;all 0 1;", 5, 32);
        fault(HEAD + "row 0 1;star 1 0;", 5, 33);
        fault(HEAD + "row 0 1;ring 2 1 0;", 5, 35);
        fault(HEAD + "row 0 2;ring 0 1 2;", 5, 35);
        fault(HEAD + "row 1 2;all 0 1 2;", 5, 34);
        fault(HEAD + "row 0 1;row 2 1 0;", 5, 34);
        fault(HEAD + "row 0 1;row 0 1 \n ;", 5, 35);
    }

    /** "6 a KNOT would have more LINES than DEGREE": so many are fine, one more is not, of each KNOT of the LINE. */
    private static void linesTooMany() {
        for (int degree = 1; degree <= 8; degree++) {
            StringBuilder star = new StringBuilder("knots 12 degree " + degree + ";star 11");
            StringBuilder net = new StringBuilder("12 " + degree + ":");
            for (int a = 0; a < degree; a++) {
                star.append(' ').append(a);
                net.append(' ').append(a).append("-11");
            }
            good(star + ";", net.toString());
            fault(star + " " + degree + ";", 6, star.length() + 2);
            fault(star + ";row 11 10;", 6, star.length() + 10);
            fault(star + ";row 10 11;", 6, star.length() + 10);
            fault(star + ";row 10 9 11;", 6, star.length() + 12);
        }
        fault("knots 4 degree 1;row 0 1 2;", 6, 26);
        fault("knots 4 degree 1;all 0 1 2;", 6, 26);
        fault("knots 4 degree 1;ring 0 1 2;", 6, 27);
        fault("knots 9 degree 7;all 0 1 2 3 4 5 6 7 8;", 6, 38);
        good("knots 4 degree 1;row 0 1;row 2 3;", "4 1: 0-1 2-3");
    }

    /** "the least that is so of the first LINE of it, in its order, that can't be". */
    private static void firstLineThatCannotBe() {
        // Both of one LINE: 5.
        fault("knots 4 degree 1;row 0 1;row 1 0;", 5, 32);
        fault("knots 4 degree 2;ring 0 1 2;all 0 1;", 5, 35);
        // Rows in the order of the text: there already ahead of too many, and too many ahead of there already.
        fault("knots 4 degree 1;row 0 1;row 0 1 2;", 5, 34);
        fault("knots 4 degree 1;row 0 1;row 2 1 0;", 6, 34);
        fault("knots 5 degree 2;row 3 0 4;row 1 2;row 2 1 0 3;", 5, 46);
        fault("knots 5 degree 2;row 3 0 4;row 1 2;row 1 0 3;", 6, 44);
        // Stars.
        fault("knots 5 degree 2;row 3 4;star 3 4 0 1;", 5, 37);
        fault("knots 5 degree 2;row 0 3 4;star 3 1 4;", 6, 37);
        fault("knots 5 degree 2;row 0 3 4;star 3 4 1;", 5, 37);
        // A ring's last LINE is the one back to the first KNOT.
        fault("knots 5 degree 2;row 3 1 4;row 0 2;ring 0 1 2;", 6, 45);
        fault("knots 5 degree 2;row 3 2 4;row 0 1;ring 0 1 2;", 5, 45);
        fault("knots 5 degree 2;row 0 2;ring 0 1 2;", 5, 35);
        fault("knots 5 degree 2;row 0 3;ring 0 1 2;", 6, 35);
    }

    /** "of 'all': by the later one of two as they are told, then the earlier". */
    private static void orderOfAll() {
        // 0 1, 0 2, 1 2 (there already) come ahead of 0 3 (too many).
        fault("knots 4 degree 2;row 1 2;all 0 1 2 3;", 5, 36);
        // 0 2 (too many) comes ahead of 1 2 (there already).
        fault("knots 4 degree 2;row 0 3;row 1 2;all 0 1 2;", 6, 42);
        // 0 2 (there already) comes ahead of 1 2 (too many).
        fault("knots 4 degree 2;row 1 3;row 0 2;all 0 1 2;", 5, 42);
        // As they are told, not by their numbers: 2 1 is the first one.
        fault("knots 3 degree 1;row 1 2;all 2 1 0;", 5, 34);
        fault("knots 3 degree 1;row 0 1;all 2 1 0;", 6, 34);
        good("knots 4 degree 3;all 3 1 0 2;", "4 3: 0-1 0-2 0-3 1-2 1-3 2-3");
        good("knots 9 degree 8;all 8 7 6 5 4 3 2 1 0;", "9 8: 0-1 0-2 0-3 0-4 0-5 0-6 0-7 0-8 1-2 1-3 1-4 1-5 1-6 1-7 "
            + "1-8 2-3 2-4 2-5 2-6 2-7 2-8 3-4 3-5 3-6 3-7 3-8 4-5 4-6 4-7 4-8 5-6 5-7 5-8 6-7 6-8 7-8");
    }

    /** "FAULTS, the first along the text". */
    private static void firstAlongTheText() {
        fault("knots 25 degre 2;", 2, 6);
        fault("knots 25 degree 9;row 0 0;!", 2, 6);
        fault("knots 3 degree 9;row 0 0;!", 2, 15);
        fault(HEAD + "row 0 0 7 !", 4, 23);
        fault(HEAD + "row 0 7 7 !", 3, 23);
        fault(HEAD + "row 0 0001 7 !", 2, 23);
        fault(HEAD + "row 0 ! 7 0", 1, 23);
        // At a clause's ';': what comes ahead of it is ahead of 5 and 6, what comes behind it is not.
        fault(HEAD + "row 0 1;row 0 1 7;", 3, 33);
        fault(HEAD + "row 0 1;row 0 1 0;", 4, 33);
        fault(HEAD + "row 0 1;row 0 1 !;", 1, 33);
        fault(HEAD + "row 0 1;row 0 1", 1, 32);
        fault(HEAD + "row 0 1;row 0 1;!", 5, 32);
        fault("knots 3 degree 1;row 0 1 2;!", 6, 26);
        fault("knots 3 degree 1;row 0 1 2;row 0 0;", 6, 26);
    }

    /** "'off' takes a LINE away", "(of 'off': isn't)". */
    private static void offs() {
        good(HEAD + "all 0 1 2;off 0 1;", "3 2: 0-2 1-2");
        good(HEAD + "all 0 1 2;off 1 0;", "3 2: 0-2 1-2");
        good(HEAD + "all 0 1 2;off 2 0;off 1 2;off 0 1;", "3 2:");
        good("knots 3 degree 1;row 0 1;off 0 1;row 0 2;", "3 1: 0-2");
        fault(HEAD + "off 0 1;", 5, 24);
        fault(HEAD + "off 0 1 \n;", 5, 26);
        fault(HEAD + "row 0 1;off 0 2;", 5, 32);
        fault(HEAD + "row 0 1;off 0 1;off 1 0;", 5, 40);
        fault(HEAD + "row 0 1;off 0 1 2;", 1, 33);
        fault(HEAD + "row 0 1;off 0 1 0;", 1, 33);
        fault(HEAD + "row 0 1;off 0 1 7;", 1, 33);
        fault(HEAD + "row 0 1;off 0 1 row", 1, 33);
    }

    /** The same text read by the plain reading and by the class: fault, its place, and the net. */
    private static void readAs(String text, int n) {
        PlainNets plain = new PlainNets();
        WiredNets x = new WiredNets();
        Check.feed(x, text);
        for (int at = 0; at < text.length(); at += 20) {
            int[] w = words(text + times(20, " "), at);
            plain.feed(w[0], w[1], w[2], w[3], w[4]);
        }
        String what = "first " + n + " bytes of '" + text + "'";
        Check.due(what, plain.read(0, n), () -> x.read(0, n));
        Check.due(what + ", fault", plain.fault(), () -> x.fault());
        StringBuilder net = new StringBuilder(plain.count(0) == 0 ? "nothing" : plain.about(0, 0) + " " + plain.about(0, 1) + ":");
        for (int i = 0; plain.count(0) > 0 && i < plain.about(0, 2); i++) {
            net.append(' ').append(plain.lineAt(0, i) / 32).append('-').append(plain.lineAt(0, i) % 32);
        }
        Check.text(what, net.toString(), Seen.slot(x, 0));
    }

    /** All beginnings of some texts, against the plain reading. */
    private static void everyBeginning() {
        String[] texts = {"knots 12 degree 3;row 0 11 ;ring 1 2 3;all 4 5 6;star 7 8 9 10;off 11 0;row 0 11;",
            "knots 3 degree 2;row 0 1 ;row 1 2 0;row 0 1;", "knots 004 degree 02 ; \n ring 0 01 002 3 ; off 3 0 ; ! row 1 3;",
            "knots 24 degree 1;row 22 23;row 0 1234 5;"};
        for (String text : texts) {
            for (int n = 0; n <= text.length(); n++) {
                readAs(text, n);
            }
        }
    }

    /** Every byte put in or changed at every place of a text, against the plain reading. */
    private static void everyByteEverywhere() {
        String text = "knots 3 degree 2;row 0 1;off 1 0;";
        for (int at = 0; at <= text.length(); at++) {
            for (int sign = 0; sign < 256; sign++) {
                String more = text.substring(0, at) + (char) sign + text.substring(at);
                readAs(more, more.length());
                if (at < text.length()) {
                    readAs(text.substring(0, at) + (char) sign + text.substring(at + 1), text.length());
                }
            }
        }
    }
}
