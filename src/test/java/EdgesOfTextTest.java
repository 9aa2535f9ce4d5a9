/** The bounds that "Terms" names for THE TOWN's text and its FAULTS, and promises 1 to 4, each on both sides. */
public final class EdgesOfTextTest {
    private static final String[] WORDS = {"people", "coins", "thing", "worth", "share", "bell", "eaten"};

    public static void main(String[] args) {
        nineHundredBytes();
        howManyNumbersALineHas();
        theEndOfTheText();
        peopleOneToSix();
        peopleOnceAndFirst();
        personsOfLines();
        coinsOfLines();
        thingsOfLines();
        tenThings();
        worthsOfLines();
        shareBellEaten();
        blanksAndSigns();
        wordsAsLongAsTheyGo();
        oneToFourDigits();
        theFirstFault();
        theLeastKind();
        laterOnesStrike();
        p1ANewObject();
        p2Feed();
        p3Town();
        p4Fault();
        Check.end("EdgesOfTextTest");
    }

    private static void good(String text, int lines) {
        TillTheBell x = new TillTheBell();
        Check.is("town of " + text, Check.tell(x, text), lines);
        Check.is("fault of " + text, x.fault(0), 0);
        Check.is("place of " + text, x.fault(1), -1);
        Check.is("lines of " + text, x.count(0), lines);
        Check.is("tape behind " + text, x.count(11), 0);
    }

    private static void bad(String text, int kind, int place) {
        TillTheBell x = new TillTheBell();
        Check.is("town of " + text, Check.tell(x, text), -10 - kind);
        Check.is("fault of " + text, x.fault(0), kind);
        Check.is("place of " + text, x.fault(1), place);
        Check.is("nobody by " + text, x.count(1), 0);
        Check.is("no line of " + text, x.count(0), 0);
        Check.is("tape behind " + text, x.count(11), 0);
    }

    private static String repeated(String part, int times) {
        StringBuilder all = new StringBuilder();
        for (int i = 0; i < times; i++) {
            all.append(part);
        }
        return all.toString();
    }

    /** "THE TOWN is a TEXT of at most 900 bytes (without one: nobody)" */
    private static void nineHundredBytes() {
        good(repeated(" ", 891) + "people 3;", 1);
        bad(repeated(" ", 892) + "people 3", 2, 900);
        bad(repeated(" ", 899) + "?", 1, 899);
        String all = "people 6;" + repeated("share 1;", 111);
        good(all, 112);
        good(all + "   ", 112);
        bad(all + ";", 2, 897);
        good("", 0);
        good(repeated("\n", 900), 0);
    }

    /** "LINE: people N | coins N N | thing N { N } | worth N N N | share N | bell N | eaten N" */
    private static void howManyNumbersALineHas() {
        bad("people;", 2, 6);
        bad("people 1 1;", 2, 9);
        String told = "people 2;thing 0;";
        int[] due = {0, 2, 0, 3, 1, 1, 1};
        for (int w = 1; w < WORDS.length; w++) {
            for (int many = 0; many <= 4 && w != 2; many++) {
                String line = told + WORDS[w] + repeated(" 1", many).replace(" 1", w == 6 || w == 3 ? " 0" : " 1");
                if (many == due[w]) {
                    good(line + ";", 3);
                } else {
                    bad(line + ";", 2, many < due[w] ? line.length() : told.length() + WORDS[w].length() + 2 * due[w] + 1);
                }
            }
        }
        bad("people 2;thing;", 2, 14);
        good("people 2;thing 1;", 2);
        good("people 2;thing 1 1;", 2);
        good("people 2;thing 1 1 1;", 2);
        bad("people 2;thing 1 1 1 1;", 4, 21);
    }

    /** "the end: the text's length" */
    private static void theEndOfTheText() {
        String[] open = {"people", "people 2", "people 2;coins", "people 2;coins 0", "people 2;coins 0 1", "people 2;thing", "people 2;thing 0",
            "people 2;thing 0 1", "people 2;thing 0 1 1", "people 2;thing 0;worth", "people 2;thing 0;worth 0", "people 2;thing 0;worth 0 0",
            "people 2;thing 0;worth 0 0 5", "people 2;share", "people 2;share 5", "people 2;bell", "people 2;bell 5", "people 2;thing 0;eaten",
            "people 2;thing 0;eaten 0"};
        for (String text : open) {
            bad(text, 2, text.length());
            bad(text + "\n  ", 2, text.length() + 3);
        }
        good("people 2;", 1);
        good("people 2;\n  ", 1);
    }

    /** "people 1 to 6" */
    private static void peopleOneToSix() {
        bad("people 0;", 3, 7);
        for (int n = 1; n <= 6; n++) {
            good("people " + n + ";", 1);
            Check.is("people " + n, Check.of("people " + n + ";").count(1), n);
        }
        bad("people 7;", 3, 7);
        bad("people 10;", 3, 7);
        bad("people 9999;", 3, 7);
    }

    /** "once, ahead of all others"; FAULT 2: "any other LINE ahead of people"; 4: "the first TOKEN of a second people" */
    private static void peopleOnceAndFirst() {
        String[] others = {"coins 0 5;", "thing 0;", "worth 0 0 0;", "share 5;", "bell 5;", "eaten 0;"};
        for (String other : others) {
            bad(other, 2, 0);
            bad(other + "people 2;", 2, 0);
            bad("  " + other.substring(0, 4), 2, 2);
        }
        for (int n = 1; n <= 6; n++) {
            bad("people " + n + ";people " + n + ";", 4, 9);
        }
        bad("people 1;\n people 1;", 4, 11);
        bad("people 2;thing 0;people", 4, 17);
        bad("people 2;people 7;", 4, 9);
        bad("people 2;people 12345;", 4, 9);
    }

    /** "PEOPLE are 0, 1 .." in each LINE that names a PERSON */
    private static void personsOfLines() {
        for (int n = 1; n <= 6; n++) {
            String people = "people " + n + ";";
            good(people + "coins " + (n - 1) + " 5;", 2);
            bad(people + "coins " + n + " 5;", 3, 15);
            good(people + "thing " + (n - 1) + ";", 2);
            bad(people + "thing " + n + ";", 3, 15);
            good(people + "thing 0;worth 0 " + (n - 1) + " 5;", 3);
            bad(people + "thing 0;worth 0 " + n + " 5;", 3, 25);
        }
        bad("people 2;coins 9999 5;", 3, 15);
        bad("people 2;thing 9999 5;", 3, 15);
    }

    /** "coins: a PERSON has 0 to 9999 (0 without)" */
    private static void coinsOfLines() {
        TillTheBell x = Check.of("people 4;coins 0 0;coins 1 9999;coins 2 1;");
        int[] due = {0, 9999, 1, 0};
        for (int p = 0; p < 4; p++) {
            Check.is("coins of " + p, x.person(p, 0), due[p]);
        }
        bad("people 4;coins 1 10000;", 1, 17);
    }

    /** "thing: its HOLDER, and its WORTH (0 to 999) to PERSON 0, 1 .. as many as are told (to others 0)" */
    private static void thingsOfLines() {
        TillTheBell x = Check.of("people 3;thing 2;thing 1 0;thing 0 999 1;thing 2 7 0 999;");
        int[][] due = {{0, 0, 0}, {0, 0, 0}, {999, 1, 0}, {7, 0, 999}};
        int[] holders = {2, 1, 0, 2};
        for (int t = 0; t < 4; t++) {
            Check.is("holder of " + t, x.holder(t), holders[t]);
            for (int p = 0; p < 3; p++) {
                Check.is("worth of " + t + " to " + p, x.worth(t, p), due[t][p]);
            }
        }
        bad("people 3;thing 0 1000;", 3, 17);
        bad("people 3;thing 0 1 1000;", 3, 19);
        bad("people 3;thing 0 1 1 1000;", 3, 21);
        bad("people 3;thing 0 9999;", 3, 17);
        for (int n = 1; n <= 6; n++) {
            String line = "people " + n + ";thing 0" + repeated(" 1", n);
            good(line + ";", 2);
            bad(line + " 1;", 4, line.length() + 1);
            bad(line + " 999;", 4, line.length() + 1);
            bad(line + " 1000;", 3, line.length() + 1);
            bad(line + " 1 1000;", 4, line.length() + 1);
        }
    }

    /** "THINGS are numbered as they come, 10 at most"; FAULT 4: "the first TOKEN .. of an 11th thing" */
    private static void tenThings() {
        String ten = "people 2;";
        for (int t = 0; t < 10; t++) {
            ten += "thing " + t % 2 + " " + (10 + t) + ";";
        }
        good(ten, 11);
        TillTheBell x = Check.of(ten);
        Check.is("ten", x.count(2), 10);
        for (int t = 0; t < 10; t++) {
            Check.is("holder of " + t, x.holder(t), t % 2);
            Check.is("worth of " + t, x.worth(t, 0), 10 + t);
        }
        good(ten + "worth 9 1 5;eaten 9;", 13);
        bad(ten + "worth 10 1 5;", 3, ten.length() + 6);
        bad(ten + "eaten 10;", 3, ten.length() + 6);
        bad(ten + "thing 0;", 4, ten.length());
        bad(ten + " thing", 4, ten.length() + 1);
        bad(ten + "thing 9 1000;", 4, ten.length());
    }

    /** "worth: of a THING told ahead to a PERSON another WORTH" */
    private static void worthsOfLines() {
        TillTheBell x = Check.of("people 2;thing 0 5 6;worth 0 1 0;thing 1 7 8;worth 1 0 999;worth 0 0 1;");
        Check.is("1", x.worth(0, 0), 1);
        Check.is("0", x.worth(0, 1), 0);
        Check.is("999", x.worth(1, 0), 999);
        Check.is("as told", x.worth(1, 1), 8);
        bad("people 2;thing 0;worth 0 1 1000;", 3, 27);
        bad("people 2;worth 0 0 5;thing 0;", 3, 15);
        bad("people 2;thing 0;worth 1 0 5;thing 0;", 3, 23);
        good("people 2;thing 0;thing 0;worth 1 0 5;", 4);
    }

    /** "share 0 to 100 (50); bell: at MINUTE 1 to 999 (720); eaten: a THING told ahead is EATEN" */
    private static void shareBellEaten() {
        Check.is("share without", Check.of("people 1;").count(6), 50);
        Check.is("bell without", Check.of("people 1;").count(7), 720);
        Check.is("none eaten without", Check.of("people 1;thing 0;").count(8), 0);
        for (int n : new int[] {0, 1, 99, 100}) {
            Check.is("share " + n, Check.of("people 1;share " + n + ";").count(6), n);
        }
        bad("people 1;share 101;", 3, 15);
        bad("people 1;share 9999;", 3, 15);
        for (int n : new int[] {1, 2, 998, 999}) {
            Check.is("bell " + n, Check.of("people 1;bell " + n + ";").count(7), n);
        }
        bad("people 1;bell 0;", 3, 14);
        bad("people 1;bell 1000;", 3, 14);
        bad("people 1;eaten 0;", 3, 15);
        bad("people 1;eaten 0;thing 0;", 3, 15);
        bad("people 1;thing 0;eaten 1;thing 0;", 3, 23);
        Check.is("two eaten", Check.of("people 1;thing 0;thing 0;thing 0;eaten 0;eaten 2;").count(8), 5);
        Check.is("eaten twice", Check.of("people 1;thing 0;thing 0;eaten 1;eaten 1;").count(8), 2);
    }

    /** "between them blanks (10, 32)"; "words (small letters), N .., the sign ;"; FAULT 1: "no TOKEN begins so" */
    private static void blanksAndSigns() {
        good(" people\n\n2 ;\n share  5\n; ", 2);
        good("people2;coins1 5;share5;bell5;", 4);
        for (int c = 0; c < 256; c++) {
            boolean token = c >= 'a' && c <= 'z' || c >= '0' && c <= '9' || c == ';';
            if (c == 10 || c == 32) {
                good("people 2;" + (char) c, 1);
                good("people" + (char) c + "2;", 1);
            } else if (token) {
                bad("people 2;" + (char) c, 2, 9);
            } else {
                bad("people 2;" + (char) c, 1, 9);
                bad((char) c + "people 2;", 1, 0);
                bad("people 2" + (char) c, 1, 8);
            }
        }
    }

    /** "TOKENS, as long as they go" */
    private static void wordsAsLongAsTheyGo() {
        for (int w = 1; w < WORDS.length; w++) {
            bad("people 2;thing 0;" + WORDS[w] + "s 0 0 0;", 2, 17);
            bad("people 2;thing 0;" + WORDS[w].substring(1) + " 0 0 0;", 2, 17);
            bad("people 2;thing 0;" + WORDS[w].substring(0, WORDS[w].length() - 1) + " 0 0 0;", 2, 17);
            bad("people 2;thing 0;x" + WORDS[w].substring(1) + " 0 0 0;", 2, 17);
            bad("people 2;thing 0;" + WORDS[w].substring(0, WORDS[w].length() - 1) + "x 0 0 0;", 2, 17);
        }
        bad("peopl 2;", 2, 0);
        bad("peoples 2;", 2, 0);
        bad("xeople 2;", 2, 0);
        bad("peoplx 2;", 2, 0);
        bad("peo ple 2;", 2, 0);
        bad("peoplepeople 2;", 2, 0);
        bad("people 2 3;", 2, 9);
        bad("people 23;", 3, 7);
        bad("people 2;share 5bell 5;", 2, 16);
    }

    /** "N (1 to 4 digits)"; "5 digits and more: at their first" */
    private static void oneToFourDigits() {
        good("people 1;coins 0 9;coins 0 99;coins 0 999;coins 0 9999;", 5);
        good("people 0001;coins 00 0007;share 0100;", 3);
        Check.is("0007", Check.of("people 0001;coins 00 0007;").person(0, 0), 7);
        Check.is("1234", Check.of("people 1;coins 0 1234;").person(0, 0), 1234);
        bad("people 00001;", 1, 7);
        bad("people 1;coins 0 00007;", 1, 17);
        bad("people 1;coins 00000 7;", 1, 15);
        bad("people 1;coins 0 123456;", 1, 17);
        bad("people 1;share " + repeated("1", 880), 1, 15);
        bad("people 1;12345", 1, 9);
        bad("people 1 12345", 1, 9);
        bad("people 1;1234", 2, 9);
        bad("people 1 1234", 2, 9);
    }

    /** "FAULTS, the first along the text" */
    private static void theFirstFault() {
        bad("people 7;?", 3, 7);
        bad("people 1;share 101;people 1;", 3, 15);
        bad("people 1;people 1;share 101;", 4, 9);
        bad("people 1;bell x;?", 2, 14);
        bad("people 1;bell ?;x", 1, 14);
        bad("people 1;thing 0 1 2 ?", 4, 19);
        bad("people 1;coins 1 ?", 3, 15);
    }

    /** "of one TOKEN the least kind" */
    private static void theLeastKind() {
        bad("people 1;share 5 101;", 2, 17);
        bad("people 1;share 5 00101;", 1, 17);
        bad("people 1;coins 0 5 9999;", 2, 19);
        bad("people 1;thing 0 5 1000;", 3, 19);
        bad("people 1;thing 0 5 999;", 4, 19);
        bad("people 1;thing 0 5 99999;", 1, 19);
        bad("people 1;thing 0 5 x;", 2, 19);
        bad("people 1;thing 1;", 3, 15);
    }

    /** "Later ones strike." */
    private static void laterOnesStrike() {
        TillTheBell x = Check.of("people 2;coins 1 9999;coins 0 3;coins 1 0;thing 0 1 2;worth 0 1 3;worth 0 1 0;share 100;share 0;bell 999;bell 1;");
        Check.is("coins of 0", x.person(0, 0), 3);
        Check.is("coins of 1", x.person(1, 0), 0);
        Check.is("worth to 0", x.worth(0, 0), 1);
        Check.is("worth to 1", x.worth(0, 1), 0);
        Check.is("share", x.count(6), 0);
        Check.is("bell", x.count(7), 1);
        Check.is("lines", x.count(0), 11);
    }

    /** "Nobody; TRAYS are MISSING; an empty tape." */
    private static void p1ANewObject() {
        TillTheBell x = new TillTheBell();
        Check.is("nobody", x.count(1), 0);
        Check.is("an empty tape", x.count(11), 0);
        Check.throwsA(IllegalArgumentException.class, "nothing on it", () -> x.town(1));
        for (int t = 0; t < 4; t++) {
            int tray = t;
            Check.throwsA(IllegalStateException.class, "tray " + t + " is missing", () -> x.pour(tray));
        }
        for (int i = 0; i < 3; i++) {
            int image = i;
            Check.throwsA(IllegalStateException.class, "no image " + i, () -> x.restore(image));
        }
    }

    /** "Twenty bytes come behind those on the tape, the highest of each int first: how many it has; NONE, and nothing changes, .." */
    private static void p2Feed() {
        TillTheBell x = new TillTheBell();
        Check.is("20", x.feed(0x70656f70, 0x6c652036, 0x3b636f69, 0x6e732035, 0x20313233), 20);
        Check.is("40", x.feed(0x343b7468, 0x696e6720, 0x343b7368, 0x61726520, 0x37373b20), 40);
        Check.is("people 6;coins 5 1234;thing 4;share 77;", x.town(40), 4);
        Check.is("people", x.count(1), 6);
        Check.is("coins", x.person(5, 0), 1234);
        Check.is("holder", x.holder(0), 4);
        Check.is("share", x.count(6), 77);
        TillTheBell y = new TillTheBell();
        y.feed(0x20202020, 0x202020ff, -1, -1, -1);
        y.town(20);
        Check.is("a byte above 127", y.fault(1), 7);
        TillTheBell z = new TillTheBell();
        for (int i = 1; i <= 44; i++) {
            z.feed(0x20202020, 0x20202020, 0x20202020, 0x20202020, 0x20202020);
        }
        Check.is("880", z.count(11), 880);
        Check.is("900", z.feed(0x20202020, 0x20202020, 0x20207065, 0x6f706c65, 0x2033203b), 900);
        for (int i = 0; i < 3; i++) {
            Check.is("more than 900", z.feed(0x3f3f3f3f, 0x3f3f3f3f, 0x3f3f3f3f, 0x3f3f3f3f, 0x3f3f3f3f), -1);
            Check.is("900 still", z.count(11), 900);
        }
        Check.is("as it was fed", z.town(900), 1);
        Check.is("three", z.count(1), 3);
        Check.is("from the first place again", z.feed(0, 0, 0, 0, 0), 20);
    }

    /** "The first n bytes of the tape (which is empty then) .. IllegalArgumentException: n is below 0 or above what it has." */
    private static void p3Town() {
        String text = "people 3;coins 0 12;";
        for (int n = 0; n <= 20; n++) {
            TillTheBell x = new TillTheBell();
            Check.feed(x, text);
            int lines = n == 0 ? 0 : n == 9 ? 1 : n == 20 ? 2 : -12;
            Check.is("the first " + n, x.town(n), lines);
            Check.is("empty then", x.count(11), 0);
            Check.is("place", x.fault(1), lines < 0 ? n == 0 ? 0 : placeOfCut(text, n) : -1);
        }
        TillTheBell x = new TillTheBell();
        Check.feed(x, text);
        for (int n : new int[] {-1, 21, 900, Integer.MIN_VALUE, Integer.MAX_VALUE}) {
            Check.throwsA(IllegalArgumentException.class, "town(" + n + ")", () -> x.town(n));
            Check.is("the tape stays", x.count(11), 20);
        }
        Check.is("all it has", x.town(20), 2);
        Check.throwsA(IllegalArgumentException.class, "it has none", () -> x.town(1));
        Check.throwsA(IllegalArgumentException.class, "below 0", () -> x.town(-1));
        Check.is("0 of none", x.town(0), 0);
        aTownIsNew();
    }

    /** A word cut off is another word, which can't stand at its own place; a number or nothing needs more, at the text's length. */
    private static int placeOfCut(String text, int n) {
        if (n < 6) {
            return 0;
        }
        return n > 9 && n < 14 ? 9 : n;
    }

    /** "MINUTE 0, no DEEDS: how many LINES; -10 less the FAULT (all stays)" */
    private static void aTownIsNew() {
        TillTheBell x = Check.of("people 2;coins 1 50;thing 0 9 8;thing 1;share 9;bell 99;eaten 1;");
        x.sell(0, 1, 20);
        x.pass(7);
        Check.is("a bad one", Check.tell(x, "people 5;thing 5;"), -13);
        int[] stays = {7, 2, 2, 1, 1, 7, 9, 99, 2, 50, 58, 0};
        for (int what = 0; what < 12; what++) {
            Check.is("all stays: count " + what, x.count(what), stays[what]);
        }
        Check.is("and the holder", x.holder(0), 1);
        Check.is("a good one", Check.tell(x, "people 1;thing 0 4;"), 2);
        int[] fresh = {2, 1, 1, 0, 0, 0, 50, 720, 0, 0, 4, 0};
        for (int what = 0; what < 12; what++) {
            Check.is("a new town: count " + what, x.count(what), fresh[what]);
        }
        behindTrials();
    }

    /** What was only tried (judged, heard as news) leaves nothing in the next town. */
    private static void behindTrials() {
        TillTheBell x = Check.of("people 2;coins 1 50;thing 0 9 8;thing 1;share 9;bell 99;eaten 1;");
        x.sell(0, 1, 20);
        x.pass(7);
        Check.fill(x, 0, 0, 9);
        x.judge(0, 0);
        x.news(0, 1, 777);
        x.bestShare();
        Check.is("another town", Check.tell(x, "people 2;thing 0;thing 1;"), 3);
        int[] due = {3, 2, 2, 0, 0, 0, 50, 720, 0, 0, 0, 0};
        for (int what = 0; what < 12; what++) {
            Check.is("behind trials: count " + what, x.count(what), due[what]);
        }
        Check.is("its worth", x.worth(0, 1), 0);
        Check.is("none open", x.open(), 0);
        Check.is("the tray stays", x.judge(0, 0), 0);
        Check.is("its place", x.write(0, 0, 300), 44);
        Check.throwsA(IndexOutOfBoundsException.class, "it has one", () -> x.write(0, 1, 0));
        Check.throwsA(IllegalStateException.class, "others are missing still", () -> x.write(1, 0, 0));
    }

    /** "Of the latest town() that threw nothing, what 0: the FAULT (0 without, and at first), 1: its place (NONE without). NONE for others." */
    private static void p4Fault() {
        TillTheBell x = new TillTheBell();
        faultIs(x, 0, -1);
        Check.tell(x, "people 9;");
        faultIs(x, 3, 7);
        Check.throwsA(IllegalArgumentException.class, "town(1)", () -> x.town(1));
        faultIs(x, 3, 7);
        Check.tell(x, "?");
        faultIs(x, 1, 0);
        Check.tell(x, "people 2;");
        faultIs(x, 0, -1);
        Check.throwsA(IllegalArgumentException.class, "town(-1)", () -> x.town(-1));
        faultIs(x, 0, -1);
        Check.tell(x, "people 2;people");
        faultIs(x, 4, 9);
        x.town(0);
        faultIs(x, 0, -1);
    }

    private static void faultIs(TillTheBell x, int kind, int place) {
        Check.is("the fault", x.fault(0), kind);
        Check.is("its place", x.fault(1), place);
        for (int what : new int[] {-1, 2, 3, Integer.MIN_VALUE, Integer.MAX_VALUE}) {
            Check.is("others", x.fault(what), -1);
        }
    }
}
