/** Promise by promise: ordinary inputs, the edges that the document names, wrong inputs. Worked out by hand. */
public final class PlayedLawsPromises {
    private static final int BAD = -1, NO = -2, FULL = -3, NONE = -4;
    private static final int[] WILD = {Integer.MIN_VALUE, -1000, -2, 10000, 1 << 30, Integer.MAX_VALUE};

    private static int promise = 0;
    private static int wrong = 0;

    private PlayedLawsPromises() {
    }

    public static void main(String[] args) {
        promise = 1; newObject();
        promise = 2; write();
        promise = 3; wipe();
        promise = 4; fault();
        promise = 5; lay();
        promise = 6; scene();
        promise = 7; seat();
        promise = 8; tonight();
        promise = 9; passes();
        promise = 10; add();
        promise = 11; cut();
        promise = 12; play();
        promise = 13; swap();
        promise = 14; hire();
        promise = 15; undo();
        promise = 16; soonest();
        promise = 17; seating();
        promise = 18; claques();
        promise = 19; falls();
        promise = 20; run();
        promise = 21; most();
        promise = 22; see();
        promise = 23; forget();
        promise = 24; fits();
        promise = 25; coughs();
        promise = 26; season();
        promise = 27; keep();
        promise = 28; back();
        promise = 29; count();
        System.out.println(wrong == 0 ? "all promises hold" : wrong + " answers are not as promised");
        if (wrong != 0) System.exit(1);
    }

    private static void due(String call, int got, int want) {
        if (got == want) return;
        wrong++;
        System.out.println("promise " + promise + ": " + call + " answered " + got + ", due is " + want);
    }

    private static PlayedLaws written(String text) {
        PlayedLaws laws = new PlayedLaws();
        for (char letter : text.toCharArray()) laws.write(letter);
        return laws;
    }

    private static PlayedLaws laid(String text) {
        PlayedLaws laws = written(text);
        if (laws.lay() < 1) due("lay of " + text, NO, 1);
        return laws;
    }

    // ---------------------------------------------------------------- houses

    private static void newObject() {
        due("BAD", PlayedLaws.BAD, -1);
        due("NO", PlayedLaws.NO, -2);
        due("FULL", PlayedLaws.FULL, -3);
        due("NONE", PlayedLaws.NONE, -4);
        PlayedLaws laws = new PlayedLaws();
        int[][] scenes = {{0, 8, 0, 0}, {2, 6, 1, 1}, {1, 4, NONE, 3}, {3, 12, 2, 4}, {0, 10, 3, 2}};
        int[][] seats = {{0, 2, 9}, {1, 0, 6}, {0, 1, 14}, {2, 3, 20}, {0, 0, 5}, {0, 2, 11}};
        for (int s = 0; s < scenes.length; s++) {
            for (int what = 0; what < 4; what++) due("scene " + s + " " + what, laws.scene(s, what), scenes[s][what]);
            due("scene " + s + " 4", laws.scene(s, 4), 0);
        }
        for (int h = 0; h < seats.length; h++) {
            for (int what = 0; what < 3; what++) due("seat " + h + " " + what, laws.seat(h, what), seats[h][what]);
            due("seat " + h + " 3", laws.seat(h, 3), h);
            due("seat " + h + " 4", laws.seat(h, 4), 0);
        }
        int[] counts = {5, 6, 5, 25, 0, 0, 0, 0, 0, 0, 0, 0};
        for (int what = 0; what < counts.length; what++) due("count " + what, laws.count(what), counts[what]);
        due("fault", laws.fault(), NONE);
        PlayedLaws other = new PlayedLaws();
        laws.cut(0);
        due("another object's bill", other.count(2), 5);
    }

    private static void write() {
        PlayedLaws laws = new PlayedLaws();
        due("write(32)", laws.write(32), 1);
        due("write(126)", laws.write(126), 2);
        for (int letter : new int[] {31, 127, 0, -1, 's' + 256}) due("write " + letter, laws.write(letter), BAD);
        for (int letter : WILD) due("write " + letter, laws.write(letter), BAD);
        for (int i = 3; i <= 200; i++) due("write", laws.write('s'), i);
        due("the 201st letter", laws.write('s'), FULL);
        due("a bad 201st letter", laws.write(127), BAD);
        due("count(11)", laws.count(11), 200);
    }

    private static void wipe() {
        PlayedLaws laws = written("s0,1,0;x");
        due("wipe", laws.wipe(), 8);
        due("wipe of none", laws.wipe(), 0);
        due("fault", laws.fault(), NONE);
        due("count(11)", laws.count(11), 0);
        due("write behind it", laws.write('g'), 1);
        due("the house stays", laws.count(1), 6);
    }

    private static void fault() {
        String[] whole = {
            "", "s0,1,0;", "s3,20,8;", "s03,01,08;", "h0,0,0;", "h3,3,30;", "h00,03,09;", "g0;", "g99;", "g07;",
            "s0,1,0;b0;", "s0,1,0;s0,1,0;b10;b0;g1;g2;", "s0,1,0;b0;s0,1,0;",
            "s0,1,0;s0,1,0;s0,1,0;s0,1,0;s0,1,0;s0,1,0;s0,1,0;b6543210;",
            "h0,0,0;h0,0,0;h0,0,0;h0,0,0;h0,0,0;h0,0,0;h0,0,0;"
        };
        for (String text : whole) due("fault of " + text, written(text).fault(), NONE);
        String[] broken = {
            "s", "x", ";", " ", "S0,1,0;", "s4,1,0;", "s0,0,0;", "s0,21,0;", "s0,1,9;", "s0,1,0", "s0,1;", "s0,1,0,0;",
            "s0,1,;", "s,1,0;", "s0,,0;", "s0;1;0;", "s000,1,0;", "s0,001,0;", "s0,1,000;", "s 0,1,0;", "s-1,1,0;",
            "s0,1,0 ;", "s10,1,0;", "s0,100,0;", "h4,0,0;", "h0,4,0;", "h0,0,31;", "h0,0;", "h0,0,0", "h0,0,030;",
            "h0,0,-1;", "b;", "b0;", "g;", "g100;", "g,;", "g1", "g1,2;", "g001;", "k1;", "0"
        };
        for (String text : broken) {
            due("fault of " + text, written(text).fault(), 0);
            due("fault of g5; and " + text, written("g5;" + text).fault(), 3);
        }
        String one = "s0,1,0;";
        for (String bill : new String[] {"b00;", "b1;", "b01;", "b0,0;", "b0", "b;", "b9;", "b 0;"}) {
            due("fault of " + one + bill, written(one + bill).fault(), 7);
        }
        due("a bill ahead of its scene", written("s0,1,0;b1;s0,1,0;").fault(), 7);
        due("the first of two faults", written("g1;b0;s9,9,9;").fault(), 3);
        due("a later right item does not mend", written("g100;g1;").fault(), 0);
        StringBuilder scenes = new StringBuilder(), seats = new StringBuilder();
        for (int i = 0; i < 8; i++) {
            scenes.append("s0,1,0;");
            seats.append("h0,0,0;");
        }
        due("an eighth scene", written(scenes.toString()).fault(), 49);
        due("an eighth seat", written(seats.toString()).fault(), 49);
    }

    private static void lay() {
        PlayedLaws laws = new PlayedLaws();
        for (String text : new String[] {"", "s0,1,0;", "h0,0,0;", "g5;", "s0,1,0;h0,0,0;x", "s0,1,0;h0,0,0"}) {
            laws.wipe();
            for (char letter : text.toCharArray()) laws.write(letter);
            due("lay of " + text, laws.lay(), NO);
        }
        due("nothing changes", laws.count(1), 6);
        laws.wipe();
        for (char letter : "h1,2,3;s0,1,0;h0,0,0;s1,2,3;".toCharArray()) laws.write(letter);
        laws.play();
        laws.keep();
        laws.see(0, 1);
        due("lay", laws.lay(), 2);
        int[] counts = {2, 2, 0, 20, 0, 0, 0, 0, 0, 0, 0, 28};
        for (int what = 0; what < counts.length; what++) due("count " + what, laws.count(what), counts[what]);
        due("back", laws.back(), NO);
        due("undo", laws.undo(), NO);
        due("scene(0, 4)", laws.scene(0, 4), 0);
        laws.swap(0, 1);
        due("lay again", laws.lay(), 2);
        due("the row is by number again", laws.seat(0, 3), 0);
        PlayedLaws last = laid("s0,1,0;s0,2,0;b0;g3;h0,0,0;b1;g44;");
        due("the last bill counts", last.scene(1, 3), 0);
        due("the last bill counts alone", last.scene(0, 3), NONE);
        due("the last till counts", last.count(3), 44);
    }

    private static void scene() {
        PlayedLaws laws = laid("s2,20,7;s1,1,8;h3,0,0;b1;");
        int[][] want = {{2, 20, 7, NONE, 0}, {1, 1, NONE, 0, 0}};
        for (int s = 0; s < 2; s++) {
            for (int what = 0; what < 5; what++) due("scene " + s + " " + what, laws.scene(s, what), want[s][what]);
        }
        laws.play();
        laws.add(0);
        laws.play();
        due("scene(1, 4)", laws.scene(1, 4), 2);
        due("scene(0, 4)", laws.scene(0, 4), 1);
        due("scene(0, 3)", laws.scene(0, 3), 1);
        for (int wild : new int[] {-1, 2, 7}) due("scene " + wild, laws.scene(wild, 0), BAD);
        for (int wild : new int[] {-1, 5}) due("scene 0 " + wild, laws.scene(0, wild), BAD);
        for (int wild : WILD) {
            due("scene " + wild, laws.scene(wild, 0), BAD);
            due("scene 0 " + wild, laws.scene(0, wild), BAD);
        }
    }

    private static void seat() {
        PlayedLaws laws = laid("s0,1,7;s1,1,6;s3,1,7;h0,1,30;h1,0,5;b01;");
        laws.swap(0, 1);
        int[][] before = {{0, 1, 30, 1, 0}, {1, 0, 5, 0, 0}};
        for (int h = 0; h < 2; h++) {
            for (int what = 0; what < 5; what++) due("seat " + h + " " + what, laws.seat(h, what), before[h][what]);
        }
        laws.play();
        due("a song binds whose taste it is", laws.seat(0, 4), 192);
        due("a song does not bind another", laws.seat(1, 4), 128);
        laws.hire(1);
        due("as hired", laws.seat(1, 0), 3);
        laws.add(2);
        laws.play();
        due("a tragedy looses", laws.seat(0, 4), 64);
        due("a tragedy looses this one", laws.seat(1, 4), 0);
        for (int wild : new int[] {-1, 2, 7}) due("seat " + wild, laws.seat(wild, 0), BAD);
        for (int wild : new int[] {-1, 5}) due("seat 0 " + wild, laws.seat(0, wild), BAD);
        for (int wild : WILD) {
            due("seat " + wild, laws.seat(wild, 0), BAD);
            due("seat 0 " + wild, laws.seat(0, wild), BAD);
        }
    }

    private static void dueTonight(PlayedLaws laws, int h, int left, int seen, int boredom) {
        due("tonight " + h + " 0", laws.tonight(h, 0), left);
        due("tonight " + h + " 1", laws.tonight(h, 1), seen);
        due("tonight " + h + " 2", laws.tonight(h, 2), boredom);
    }

    private static void tonight() {
        // boredom 5 and 5 again: above 9, not above 10
        PlayedLaws laws = laid("s0,5,0;s0,5,1;s2,7,2;h0,1,9;h0,1,30;h0,1,10;b012;");
        dueTonight(laws, 0, 2, 3, 10);
        dueTonight(laws, 1, NONE, 7, 17);
        dueTonight(laws, 2, 3, 7, 17);
        // half of seven, cut, is 3; never below 0; a critic is bored twice, pleased once
        laws = laid("s2,7,0;s0,5,0;s2,7,0;h0,2,30;h2,2,30;b012;");
        dueTonight(laws, 0, NONE, 7, 2);
        dueTonight(laws, 1, NONE, 7, 7);
        // a sleeper wakes again: it sees the next scene but one
        laws = laid("s0,9,0;s1,6,0;s1,2,0;s0,1,0;h1,1,6;b0123;");
        dueTonight(laws, 0, NONE, 13, 6);
        // a claque neither sleeps nor leaves
        laws = laid("s0,20,0;s0,20,1;h3,1,0;b01;");
        dueTonight(laws, 0, NONE, 3, 40);
        // one leaves, the right one feels it just now, the left one behind the next scene
        laws = laid("s0,5,0;s1,2,0;h0,1,6;h0,1,4;h0,1,7;b01;");
        dueTonight(laws, 0, 2, 3, 4);
        dueTonight(laws, 1, 1, 1, 5);
        dueTonight(laws, 2, 1, 1, 5);
        laws = laid("s0,5,0;s1,2,0;h0,1,7;h0,1,4;h0,1,8;b01;");
        dueTonight(laws, 0, NONE, 3, 4);
        dueTonight(laws, 2, NONE, 3, 4);
        // patience goes to 0 and no further: boredom 0 is not above it
        laws = laid("s0,5,0;s1,10,0;h0,0,0;h0,1,4;b01;");
        dueTonight(laws, 0, 2, 3, 10);
        laws = laid("s0,5,0;h0,1,4;h0,0,0;b0;");
        dueTonight(laws, 1, NONE, 1, 0);
        // both neighbours: 6 less
        laws = laid("s0,5,0;s0,1,0;h0,1,4;h0,0,30;h0,1,4;b01;");
        dueTonight(laws, 1, NONE, 3, 0);
        laws = laid("s0,5,0;s2,1,0;h0,1,4;h0,0,6;h0,1,4;b01;");
        dueTonight(laws, 1, 2, 3, 1);
        laws = laid("s0,5,0;s2,1,0;h0,1,4;h0,0,7;h0,1,4;b01;");
        dueTonight(laws, 1, NONE, 3, 1);
        // neighbours are those of the row, not of the numbers
        laws = laid("s0,5,0;h0,1,4;h3,1,0;h0,1,7;b0;");
        dueTonight(laws, 2, NONE, 1, 5);
        laws.swap(0, 1);
        dueTonight(laws, 2, 1, 1, 5);
        // what was played bores by 2 a night, three nights at most, a critic by twice that
        laws = laid("s0,5,0;h0,1,30;h2,1,30;b0;");
        for (int night = 0; night < 6; night++) {
            int more = 5 + 2 * (night < 3 ? night : 3);
            due("boredom on night " + night, laws.tonight(0, 2), more);
            due("a critic's on night " + night, laws.tonight(1, 2), 2 * more);
            laws.play();
        }
        // an empty bill
        laws = laid("s0,5,0;h0,1,0;");
        dueTonight(laws, 0, NONE, 0, 0);
        for (int wild : new int[] {-1, 1, 7}) due("tonight " + wild, laws.tonight(wild, 0), BAD);
        for (int wild : new int[] {-1, 3}) due("tonight 0 " + wild, laws.tonight(0, wild), BAD);
        for (int wild : WILD) {
            due("tonight " + wild, laws.tonight(wild, 0), BAD);
            due("tonight 0 " + wild, laws.tonight(0, wild), BAD);
        }
    }

    private static void passes() {
        PlayedLaws laws = laid("s0,5,0;h0,1,0;h3,1,0;h3,1,0;b0;");
        due("two of three stay", laws.passes(0), 2);
        due("two of three are enough", laws.passes(1), 1);
        laws = laid("s0,5,0;h0,1,0;h3,1,0;b0;");
        due("one of two", laws.passes(1), 0);
        laws = laid("s0,5,0;h0,1,0;h0,1,0;h3,1,0;h3,1,0;h3,1,0;h3,1,0;h3,1,0;b0;");
        due("five of seven", laws.passes(1), 1);
        laws = laid("s0,5,0;h0,1,0;h0,1,0;h3,1,0;h3,1,0;h3,1,0;b0;");
        due("three of five", laws.passes(1), 0);
        laws = laid("s0,5,0;h3,1,0;h0,1,0;g0;b0;");
        due("whatever is in the till", laws.passes(0), 1);
        laws = laid("s0,5,0;h0,1,0;");
        due("all stay by an empty bill", laws.passes(0), 1);
        due("an empty bill does not pass", laws.passes(1), 0);
        for (int wild : new int[] {-1, 2}) due("passes " + wild, laws.passes(wild), BAD);
        for (int wild : WILD) due("passes " + wild, laws.passes(wild), BAD);
    }

    // ---------------------------------------------------------------- bills, nights

    private static void add() {
        PlayedLaws laws = laid("s0,1,0;s0,1,1;s0,1,2;h0,0,0;b1;");
        due("add(0)", laws.add(0), 1);
        due("add(0) again", laws.add(0), NO);
        due("add(1)", laws.add(1), NO);
        due("add(2)", laws.add(2), 2);
        due("scene(0, 3)", laws.scene(0, 3), 1);
        for (int wild : new int[] {-1, 3, 7}) due("add " + wild, laws.add(wild), BAD);
        for (int wild : WILD) due("add " + wild, laws.add(wild), BAD);
        due("only two can be undone", laws.count(9), 2);
        PlayedLaws seven = laid("s0,1,0;s0,1,0;s0,1,0;s0,1,0;s0,1,0;s0,1,0;s0,1,0;h0,0,0;");
        for (int s = 6; s >= 0; s--) due("add " + s, seven.add(s), 6 - s);
    }

    private static void cut() {
        PlayedLaws laws = laid("s0,1,0;s0,1,1;s0,1,2;h0,0,0;b210;");
        due("cut(2)", laws.cut(2), 2);
        due("cut(2) again", laws.cut(2), NO);
        due("the rest moves up", laws.scene(1, 3), 0);
        due("the rest moves up too", laws.scene(0, 3), 1);
        due("cut(0)", laws.cut(0), 1);
        due("cut(1)", laws.cut(1), 0);
        due("cut(1) again", laws.cut(1), NO);
        for (int wild : new int[] {-1, 3, 7}) due("cut " + wild, laws.cut(wild), BAD);
        for (int wild : WILD) due("cut " + wild, laws.cut(wild), BAD);
        due("add again", laws.add(2), 0);
        due("only four can be undone", laws.count(9), 4);
    }

    private static void play() {
        due("an empty bill", laid("s0,1,0;h0,0,0;").play(), NO);
        // a claque costs 1 ahead of what the others bring
        PlayedLaws laws = laid("s0,1,0;h3,0,0;h0,0,0;h0,0,0;b0;g0;");
        due("nothing in the till", laws.play(), NO);
        due("nothing was played", laws.count(4), 0);
        laws = laid("s0,1,3;h3,0,0;h0,0,0;h0,0,0;b0;g1;");
        due("just enough", laws.play(), 1);
        due("the till: less 1, more 2", laws.count(3), 2);
        for (int h = 0; h < 3; h++) due("seat " + h + " is bound", laws.seat(h, 4), 8);
        due("nights", laws.count(4), 1);
        due("passed", laws.count(5), 1);
        // does not pass: nobody is bound, those who stay still bring 1
        laws = laid("s0,9,3;h0,0,0;h0,1,0;b0;g5;");
        due("falls", laws.play(), 0);
        due("the till", laws.count(3), 6);
        due("nobody is bound", laws.count(7), 0);
        due("nights", laws.count(4), 1);
        due("passed", laws.count(5), 0);
        due("it was played", laws.scene(0, 4), 1);
        // one who left has seen what it left behind; one asleep has not seen
        laws = laid("s0,9,3;s0,1,4;h0,1,5;h1,1,5;h0,0,0;h0,0,0;b01;");
        due("three of four", laws.play(), 1);
        due("who left behind the first", laws.seat(0, 4), 8);
        due("who slept behind the first", laws.seat(1, 4), 8);
        due("who stayed", laws.seat(2, 4), 24);
        // the order tells whether a tragedy looses
        laws = laid("s0,1,5;s3,1,5;h0,0,30;b01;");
        laws.play();
        due("loosed", laws.seat(0, 4), 0);
        laws = laid("s0,1,5;s3,1,5;h0,0,30;b10;");
        laws.play();
        due("bound behind it", laws.seat(0, 4), 32);
        laws = laid("s0,1,8;s2,1,8;h0,0,30;b01;");
        laws.play();
        due("of no clause", laws.seat(0, 4), 0);
        // 99 and 7 a night: 999 at most
        laws = laid("s0,1,0;h0,0,0;h0,0,0;h0,0,0;h0,0,0;h0,0,0;h0,0,0;h0,0,0;b0;g99;");
        for (int night = 1; night <= 130; night++) {
            laws.play();
            due("the till behind night " + night, laws.count(3), Math.min(999, 99 + 7 * night));
        }
        due("undone at the most", laws.undo(), 7);
        due("still the most", laws.count(3), 999);
    }

    private static void swap() {
        PlayedLaws laws = laid("s0,1,0;h0,0,0;h0,1,0;h0,2,0;");
        due("swap(0, 2)", laws.swap(0, 2), 2);
        due("seat(2, 3)", laws.seat(2, 3), 0);
        due("seat(1, 3)", laws.seat(1, 3), 1);
        due("swap(0, 1)", laws.swap(0, 1), 1);
        due("seat(1, 3)", laws.seat(1, 3), 2);
        due("taste goes with it", laws.seat(1, 1), 1);
        due("alike", laws.swap(1, 1), BAD);
        for (int wild : new int[] {-1, 3, 7}) {
            due("swap 0 " + wild, laws.swap(0, wild), BAD);
            due("swap " + wild + " 0", laws.swap(wild, 0), BAD);
            due("swap " + wild + " twice", laws.swap(wild, wild), BAD);
        }
        for (int wild : WILD) due("swap 0 " + wild, laws.swap(0, wild), BAD);
        due("two can be undone", laws.count(9), 2);
    }

    private static void hire() {
        PlayedLaws laws = laid("s0,9,0;h0,1,0;h1,1,0;h3,0,0;h2,0,0;g14;b0;");
        due("hire(0)", laws.hire(0), 9);
        due("it is a claque", laws.seat(0, 0), 3);
        due("it stays", laws.tonight(0, 0), NONE);
        due("it is one", laws.hire(0), NO);
        due("it was one", laws.hire(2), NO);
        due("a sleeper", laws.hire(1), 4);
        due("fewer than 5", laws.hire(3), NO);
        due("three claques", laws.count(6), 3);
        due("two can be undone", laws.count(9), 2);
        due("just 5", laid("s0,1,0;h0,0,0;g5;").hire(0), 0);
        due("bad ahead of no", laid("s0,1,0;h0,0,0;g4;").hire(1), BAD);
        for (int wild : new int[] {-1, 4, 7}) due("hire " + wild, laws.hire(wild), BAD);
        for (int wild : WILD) due("hire " + wild, laws.hire(wild), BAD);
    }

    private static void undo() {
        PlayedLaws laws = laid("s0,1,0;s0,1,1;h0,0,30;h0,0,30;b0;g20;");
        due("nothing yet", laws.undo(), NO);
        laws.add(1);
        laws.swap(0, 1);
        laws.hire(0);
        laws.play();
        laws.cut(0);
        due("undo cut", laws.undo(), 4);
        due("its place again", laws.scene(0, 3), 0);
        due("undo play", laws.undo(), 3);
        int[] counts = {2, 2, 2, 15, 0, 0, 1, 0};
        for (int what = 0; what < counts.length; what++) due("count " + what, laws.count(what), counts[what]);
        due("not played", laws.scene(1, 4), 0);
        due("undo hire", laws.undo(), 2);
        due("plain again", laws.seat(0, 0), 0);
        due("the till again", laws.count(3), 20);
        due("undo swap", laws.undo(), 1);
        due("its place in the row again", laws.seat(0, 3), 0);
        due("undo add", laws.undo(), 0);
        due("off the bill again", laws.scene(1, 3), NONE);
        due("nothing more", laws.undo(), NO);
        for (int i = 0; i < 11; i++) laws.swap(0, 1);
        due("eight at most", laws.count(9), 8);
        for (int left = 7; left >= 0; left--) due("undo", laws.undo(), left);
        due("no ninth", laws.undo(), NO);
        due("three of eleven stand", laws.seat(0, 3), 1);
        laws.swap(1, 1);
        laws.add(0);
        laws.cut(1);
        due("what was refused is not undone", laws.undo(), NO);
        laws.see(0, 1);
        laws.swap(0, 1);
        laws.keep();
        laws.undo();
        due("what was seen stays", laws.count(8), 1);
        due("what was kept stays", laws.count(10), 1);
    }

    // ---------------------------------------------------------------- what is best

    private static void dueSoonest(PlayedLaws laws, int set, int... want) {
        for (int k = 0; k <= 7; k++) {
            due("soonest " + set + " " + k, laws.soonest(set, k), k < want.length ? want[k] : NONE);
        }
    }

    private static void soonest() {
        // 4 is shorter than 0, a tragedy brings no clause, 5 and 6 are equally long
        PlayedLaws laws = laid("s0,9,0;s3,1,1;s2,5,1;s1,4,0;s0,3,8;s0,4,2;s2,4,2;h0,0,30;");
        dueSoonest(laws, 0, 1, 1);
        dueSoonest(laws, 1, 4, 3);
        dueSoonest(laws, 2, 5, 2);
        dueSoonest(laws, 4, 4, 5);
        dueSoonest(laws, 3, 9, 2, 3);
        dueSoonest(laws, 7, 13, 2, 3, 5);
        dueSoonest(laws, 0, 1, 1);
        dueSoonest(laws, 8, NONE);
        due("nothing is played or put on", laws.count(2), 0);
        // boredom above 5: the farce has to come first, or a row has to be another
        laws = laid("s1,6,0;s0,12,1;h0,0,5;");
        dueSoonest(laws, 1, NONE);
        laws = laid("s1,6,0;s0,12,1;h0,0,6;");
        dueSoonest(laws, 1, 6, 0);
        dueSoonest(laws, 3, 18, 0, 1);
        // only behind a scene of the other's taste does the second one bear it
        laws = laid("s1,6,0;s1,6,1;s0,12,8;h0,0,10;");
        dueSoonest(laws, 3, 24, 0, 2, 1);
        due("a whole set", laws.soonest(255, 0), NONE);
        laws = laid("s0,20,6;s0,20,5;s0,20,4;s0,20,3;s0,20,2;s0,20,1;s0,20,0;h3,1,0;");
        dueSoonest(laws, 127, 140, 0, 1, 2, 3, 4, 5, 6);
        // what was played bores more, so that another row is the soonest
        laws = laid("s1,6,0;s2,7,0;h0,0,7;b0;");
        dueSoonest(laws, 1, 6, 0);
        laws.play();
        dueSoonest(laws, 1, 7, 1);
        laws.undo();
        dueSoonest(laws, 1, 6, 0);
        laws.hire(0);
        laws.play();
        dueSoonest(laws, 1, 6, 0);
        for (int wild : new int[] {-1, 256}) due("soonest " + wild, laws.soonest(wild, 0), BAD);
        for (int wild : new int[] {-1, 8}) due("soonest 1 " + wild, laws.soonest(1, wild), BAD);
        for (int wild : new int[] {-1, 8}) due("bad ahead of none: " + wild, laws.soonest(128, wild), BAD);
        for (int wild : WILD) {
            due("soonest " + wild, laws.soonest(wild, 0), BAD);
            due("soonest 1 " + wild, laws.soonest(1, wild), BAD);
        }
    }

    private static void seating() {
        // 0 leaves in any row; 2 stays if 0 is not next to it: 1 has to sit between them
        PlayedLaws laws = laid("s0,5,0;h0,1,4;h0,1,7;h0,0,0;h0,1,30;b0;");
        due("three stay", laws.seating(-1), 3);
        int[] row = {0, 2, 1, 3};
        for (int k = 0; k < row.length; k++) due("seating " + k, laws.seating(k), row[k]);
        due("the row stays", laws.seat(2, 3), 2);
        // the first of several does not hang on how they sit now
        laws.swap(0, 3);
        for (int k = 0; k < row.length; k++) due("seating " + k + " then", laws.seating(k), row[k]);
        // each but 0 would stay alone, but two of them never do: 1, 2, 0 and 2, 1, 0 keep one
        laws = laid("s0,5,0;s2,1,0;h0,1,4;h0,1,8;h0,1,8;b01;");
        due("one stays", laws.seating(-1), 1);
        int[] best = {1, 2, 0};
        for (int k = 0; k < best.length; k++) due("seating " + k + " of three", laws.seating(k), best[k]);
        // 0 is ahead of 1 as that one leaves, and there is no further scene
        laws = laid("s0,5,0;h0,1,5;h0,1,4;h3,1,0;b0;");
        due("two stay", laws.seating(-1), 2);
        int[] apart = {0, 1, 2};
        for (int k = 0; k < apart.length; k++) due("seating " + k + " apart", laws.seating(k), apart[k]);
        laws = laid("s0,5,0;s2,1,0;h0,1,8;h0,1,4;h3,1,0;b01;");
        due("all but one stay", laws.seating(-1), 2);
        int[] between = {0, 2, 1};
        for (int k = 0; k < between.length; k++) due("seating " + k + " between", laws.seating(k), between[k]);
        laws = laid("s0,5,0;h0,1,9;h0,1,9;h0,1,9;h0,1,9;h0,1,9;h0,1,9;h0,1,4;b0;");
        due("six of seven", laws.seating(-1), 6);
        for (int k = 0; k < 7; k++) due("seating " + k, laws.seating(k), k);
        laws = laid("s0,5,0;h0,1,0;h0,1,0;");
        due("all stay by an empty bill", laws.seating(-1), 2);
        due("by number", laws.seating(0), 0);
        laws = laid("s0,5,0;h0,1,0;b0;");
        due("none stays", laws.seating(-1), 0);
        due("it sits there", laws.seating(0), 0);
        due("behind the last place", laws.seating(1), BAD);
        due("seating(-2)", laws.seating(-2), BAD);
        for (int wild : WILD) due("seating " + wild, laws.seating(wild), BAD);
        // a hired one stays: the search is made anew
        laws.hire(0);
        due("hired", laws.seating(-1), 1);
        laws.undo();
        due("not hired", laws.seating(-1), 0);
    }

    private static void claques() {
        PlayedLaws laws = laid("s0,5,0;h0,1,4;h0,1,4;h0,1,4;b0;");
        due("two of three", laws.claques(0), 2);
        due("the lowest", laws.claques(1), 3);
        laws.hire(0);
        due("one is there", laws.claques(0), 1);
        due("the lowest but for it", laws.claques(1), 2);
        laws.hire(2);
        due("none is wanted", laws.claques(0), 0);
        due("none of them", laws.claques(1), 0);
        // 0 leaves and takes 1 with it; were 0 a claque, 1 would stay by itself
        laws = laid("s0,5,0;h0,1,4;h0,1,6;h0,0,9;h0,1,6;b0;");
        due("one is enough", laws.claques(0), 1);
        due("the first", laws.claques(1), 1);
        laws = laid("s0,5,0;h0,1,4;");
        due("an empty bill does not pass", laws.claques(0), NONE);
        due("an empty bill does not pass: which", laws.claques(1), NONE);
        for (int wild : new int[] {-1, 2}) due("bad ahead of none: " + wild, laws.claques(wild), BAD);
        for (int wild : WILD) due("claques " + wild, laws.claques(wild), BAD);
    }

    private static void falls() {
        // 1 and 2 please: without one of them the bill falls; 1 is the lower
        PlayedLaws laws = laid("s1,6,0;s0,6,1;s0,6,2;s1,5,3;h0,0,8;b0213;");
        due("passes", laws.passes(1), 1);
        due("falls", laws.falls(), NONE);
        laws = laid("s1,6,0;s0,4,1;s0,4,2;s1,6,3;h0,0,8;b0213;");
        due("both are wanted", laws.falls(), 1);
        due("nothing was cut", laws.count(2), 4);
        laws = laid("s0,1,0;s0,1,0;h0,0,0;b1;");
        due("the only one", laws.falls(), 1);
        laws = laid("s0,1,0;s0,1,0;h0,0,0;b10;");
        due("each can go", laws.falls(), NONE);
        laws = laid("s0,9,0;h0,1,0;b0;");
        due("does not pass", laws.falls(), NONE);
        due("an empty bill", laid("s0,1,0;h0,0,0;").falls(), NONE);
    }

    private static void run() {
        // 5, 7, 9, 11, 11, ..
        due("one night", laid("s0,5,0;h0,1,6;b0;").run(), 1);
        due("none", laid("s0,5,0;h0,1,4;b0;").run(), 0);
        due("three nights", laid("s0,5,0;h0,1,10;b0;").run(), 3);
        due("thirty", laid("s0,5,0;h0,1,11;b0;").run(), 30);
        due("whatever is in the till", laid("s0,5,0;h3,1,11;b0;g0;").run(), 30);
        due("an empty bill", laid("s0,5,0;h0,1,11;").run(), 0);
        PlayedLaws laws = laid("s0,5,0;h0,1,10;b0;");
        laws.play();
        due("two are left", laws.run(), 2);
        due("nothing is played", laws.count(4), 1);
        laws.play();
        laws.play();
        due("none is left", laws.run(), 0);
    }

    private static void most() {
        PlayedLaws laws = laid("s0,1,0;s0,1,1;s0,1,1;h0,0,0;h0,0,0;b0;");
        due("the first scene, ahead of all", laws.most(0), 10);
        due("two seats, two clauses", laws.most(1), 4);
        // a tragedy behind the speech looses what it binds: ahead of it is best
        laws = laid("s0,1,0;s3,1,0;h0,0,30;b0;");
        due("the tragedy first", laws.most(0), 10);
        due("one stays bound", laws.most(1), 1);
        laws = laid("s3,1,0;s0,1,0;h0,0,30;b0;");
        due("the speech last", laws.most(0), 11);
        // does not pass, wherever it is put: as bound before
        laws = laid("s0,1,0;s1,20,1;h0,0,5;b0;");
        laws.play();
        due("the first place", laws.most(0), 10);
        due("as before", laws.most(1), 1);
        due("nothing was put on", laws.count(2), 1);
        laws.add(1);
        due("all are on it", laws.most(0), NONE);
        due("all are on it: how many", laws.most(1), NONE);
        laws = laid("s1,1,0;s0,1,0;h0,0,5;");
        due("an empty bill", laws.most(0), 10);
        due("an empty bill: how many", laws.most(1), 1);
        for (int wild : new int[] {-1, 2}) due("most " + wild, laws.most(wild), BAD);
        for (int wild : WILD) due("most " + wild, laws.most(wild), BAD);
        laws.add(0);
        laws.add(1);
        due("bad ahead of none", laws.most(2), BAD);
    }

    // ---------------------------------------------------------------- what was seen

    private static void see() {
        PlayedLaws laws = laid("s0,5,0;h0,1,4;h0,1,4;");
        for (int wild : new int[] {-1, 2, 7}) due("see " + wild, laws.see(wild, 0), BAD);
        for (int wild : new int[] {-1, 8}) due("see 0 " + wild, laws.see(0, wild), BAD);
        for (int i = 1; i <= 6; i++) due("see", laws.see(i % 2, i == 1 ? 0 : i + 1), i);
        due("a seventh", laws.see(0, 0), FULL);
        due("a bad seventh", laws.see(2, 0), BAD);
        due("another bad seventh", laws.see(0, 8), BAD);
        for (int wild : WILD) {
            due("see " + wild, laws.see(wild, 0), BAD);
            due("see 0 " + wild, laws.see(0, wild), BAD);
        }
        due("six", laws.count(8), 6);
        due("nothing to undo", laws.count(9), 0);
    }

    private static void forget() {
        PlayedLaws laws = laid("s0,5,0;h0,1,4;b0;");
        due("none", laws.forget(), 0);
        laws.see(0, 0);
        laws.see(0, 0);
        due("none fits", laws.fits(0, 1), 1);
        due("two", laws.forget(), 2);
        due("none again", laws.forget(), 0);
        due("count", laws.count(8), 0);
        due("all fit", laws.fits(0, 1), 15);
        due("room again", laws.see(0, 0), 1);
    }

    private static void fits() {
        PlayedLaws laws = laid("s0,5,0;s2,6,0;h0,1,4;h0,1,30;b01;");
        due("nothing seen", laws.fits(0, 0), Integer.MAX_VALUE);
        due("nothing seen: tastes", laws.fits(0, 1), 15);
        // boredom 5, then 11
        laws.see(0, 2);
        due("5 to 10", laws.fits(0, 0), 0x7E0);
        due("by patience 4: only whose taste is the first", laws.fits(0, 1), 1);
        due("of another nothing is seen", laws.fits(1, 0), Integer.MAX_VALUE);
        laws.forget();
        laws.see(0, 0);
        due("11 to 30", laws.fits(0, 0), 0x7FFFF800);
        due("no taste", laws.fits(0, 1), 0);
        laws.forget();
        laws.see(0, 1);
        due("0 to 4", laws.fits(0, 0), 31);
        due("all but the first", laws.fits(0, 1), 14);
        laws.see(0, 2);
        due("both cannot be", laws.fits(0, 0), 0);
        laws.forget();
        // 0 has left behind the first: 1 needs 3 more, 8 behind the first and 14 at the end
        laws.see(1, 2);
        due("8 to 13", laws.fits(1, 0), 0x3F00);
        laws.forget();
        laws.see(1, 0);
        due("tastes by patience 30", laws.fits(1, 1), 15);
        laws.see(1, 7);
        due("a seventh scene there is not", laws.fits(1, 1), 0);
        laws.cut(0);
        laws.cut(1);
        laws.forget();
        laws.see(0, 0);
        due("an empty bill", laws.fits(0, 0), Integer.MAX_VALUE);
        due("the seat stays", laws.seat(0, 2), 4);
        due("its taste stays", laws.seat(0, 1), 1);
        for (int wild : new int[] {-1, 2, 7}) due("fits " + wild, laws.fits(wild, 0), BAD);
        for (int wild : new int[] {-1, 2}) due("fits 0 " + wild, laws.fits(0, wild), BAD);
        for (int wild : WILD) {
            due("fits " + wild, laws.fits(wild, 0), BAD);
            due("fits 0 " + wild, laws.fits(0, wild), BAD);
        }
    }

    // ---------------------------------------------------------------- coughs, seasons

    private static void dueCoughs(PlayedLaws laws, int x, int above, int below) {
        due("coughs " + x + " 0", laws.coughs(x, 0), above);
        due("coughs " + x + " 1", laws.coughs(x, 1), below);
    }

    private static void coughs() {
        PlayedLaws laws = laid("s0,5,0;h0,0,30;b0;");
        dueCoughs(laws, 0, 1, 1);
        dueCoughs(laws, 3, 7, 10);
        dueCoughs(laws, 5, 1, 2);
        dueCoughs(laws, 10, 0, 1);
        // of three at most one may cough: 0.8^3 + 3 x 0.2 x 0.8^2 = 0.896
        laws = laid("s0,5,0;h0,0,30;h2,0,30;h0,0,30;b0;");
        dueCoughs(laws, 2, 112, 125);
        // claques and sleepers do not cough: the third alone may leave
        laws = laid("s0,5,0;h3,0,30;h1,0,30;h0,0,30;b0;");
        dueCoughs(laws, 10, 1, 1);
        // two of three are enough, but a cough drives out the left one too: it bears 5, then 2
        laws = laid("s0,5,0;h0,1,5;h0,0,30;h3,0,0;b0;");
        dueCoughs(laws, 0, 1, 1);
        // it passes if 1 does not cough: else 0 is gone too, by a cough or by boredom
        dueCoughs(laws, 5, 1, 2);
        // one who would leave by boredom leaves by a cough as well
        laws = laid("s0,9,0;s0,9,0;h0,1,0;h3,0,0;h3,0,0;b01;");
        dueCoughs(laws, 4, 1, 1);
        // only behind the first scene
        laws = laid("s0,5,0;s0,5,0;h0,0,30;b01;");
        dueCoughs(laws, 1, 9, 10);
        dueCoughs(laid("s0,5,0;h0,0,30;"), 5, 0, 1);
        dueCoughs(laid("s0,5,0;h3,0,30;"), 5, 0, 1);
        laws = laid("s0,5,0;h0,0,30;h0,0,30;h0,0,30;h0,0,30;h0,0,30;h0,0,30;h0,0,30;b0;");
        // 0.9^7 + 7 x 0.1 x 0.9^6 + 21 x 0.01 x 0.9^5 = 0.9743085
        dueCoughs(laws, 1, 1948617, 2000000);
        for (int wild : new int[] {-1, 11}) due("coughs " + wild, laws.coughs(wild, 0), BAD);
        for (int wild : new int[] {-1, 2}) due("coughs 1 " + wild, laws.coughs(1, wild), BAD);
        for (int wild : WILD) {
            due("coughs " + wild, laws.coughs(wild, 0), BAD);
            due("coughs 1 " + wild, laws.coughs(1, wild), BAD);
        }
    }

    private static void dueSeason(PlayedLaws laws, int z, int n, int nights, int clauses) {
        due("season " + z + " " + n + " 0", laws.season(z, n, 0), nights);
        due("season " + z + " " + n + " 1", laws.season(z, n, 1), clauses);
    }

    private static void season() {
        // z 0: x is 1, 6152, 12303, 18454, ..: draws 1, 41887, 12499, 38197: scene 0 is put on, 7: a night, 3, 5: a night
        PlayedLaws laws = laid("s0,1,0;s0,1,1;h0,0,30;h0,0,30;");
        dueSeason(laws, 0, 1, 0, 0);
        dueSeason(laws, 0, 2, 1, 2);
        dueSeason(laws, 0, 3, 1, 2);
        dueSeason(laws, 0, 4, 2, 2);
        int[] counts = {2, 2, 0, 20, 0, 0, 0, 0, 0, 0, 0};
        for (int what = 0; what < counts.length; what++) due("count " + what, laws.count(what), counts[what]);
        // nights ahead of it do not count, bonds do
        laws = laid("s2,1,5;s0,1,1;h0,0,30;h0,0,30;b0;");
        laws.play();
        laws.play();
        dueSeason(laws, 0, 1, 0, 2);
        dueSeason(laws, 0, 2, 1, 2);
        // one scene, one seat: the draws fall on them
        dueSeason(laid("s0,1,0;h0,0,30;"), 0, 2, 1, 1);
        // z 20: draws 22874 and 57143: scene 1 of two is cut, then a night; z 63: 5234 and 60023: scene 0
        laws = laid("s0,1,0;s0,9,1;h0,1,5;b01;");
        dueSeason(laws, 20, 2, 1, 1);
        dueSeason(laws, 63, 2, 0, 0);
        // z 60: draws 8844 and 28679: seat 1 of three is hired, then a night; z 39: 5836 and 43077: seat 0
        for (int till : new int[] {4, 5, 6, 20}) {
            laws = laid("s0,5,0;h0,0,0;h0,1,0;h0,1,0;b0;g" + till + ";");
            dueSeason(laws, 60, 2, till > 5 ? 1 : 0, till > 5 ? 3 : 0);
            dueSeason(laws, 39, 2, 0, 0);
        }
        // z 253: draws 29547 and 48535: seats 0 and 2 of three change places, then a night; z 73: 3067: 2 and 2 do not
        laws = laid("s0,5,0;h0,1,4;h0,1,7;h0,0,9;b0;");
        dueSeason(laws, 253, 2, 1, 3);
        dueSeason(laws, 73, 2, 0, 0);
        for (int wild : new int[] {-1, 10000}) due("season " + wild, laws.season(wild, 1, 0), BAD);
        for (int wild : new int[] {-1, 0, 41}) due("season 0 " + wild, laws.season(0, wild, 0), BAD);
        for (int wild : new int[] {-1, 2}) due("season 0 1 " + wild, laws.season(0, 1, wild), BAD);
        for (int wild : WILD) {
            due("season " + wild, laws.season(wild, 1, 0), BAD);
            due("season 0 " + wild, laws.season(0, wild, 0), BAD);
            due("season 0 1 " + wild, laws.season(0, 1, wild), BAD);
        }
        due("the dearest is answered", laws.season(9999, 40, 0) >= 0 ? 1 : 0, 1);
    }

    private static void keep() {
        PlayedLaws laws = new PlayedLaws();
        due("one", laws.keep(), 1);
        due("two", laws.keep(), 2);
        due("a third", laws.keep(), FULL);
        due("two still", laws.count(10), 2);
        due("nothing to undo", laws.count(9), 0);
        laws.cut(0);
        due("back to the second", laws.back(), 1);
        due("room again", laws.keep(), 2);
        laws.cut(1);
        laws.keep();
        due("undo is not hindered", laws.undo(), 0);
    }

    private static void back() {
        PlayedLaws laws = laid("s0,1,0;s0,1,1;h0,0,30;h0,0,30;b0;g30;");
        due("nothing kept", laws.back(), NO);
        laws.play();
        laws.keep();
        laws.swap(0, 1);
        laws.hire(1);
        laws.keep();
        laws.add(1);
        laws.play();
        laws.see(0, 1);
        laws.write('x');
        int letters = laws.count(11);
        due("back", laws.back(), 1);
        int[] later = {2, 2, 1, 27, 1, 1, 1, 2, 1, 0, 1, letters};
        for (int what = 0; what < later.length; what++) due("count " + what, laws.count(what), later[what]);
        due("nothing can be undone", laws.undo(), NO);
        due("the row as kept", laws.seat(0, 3), 1);
        due("the nights as kept", laws.scene(1, 4), 0);
        laws.cut(0);
        due("back once more", laws.back(), 0);
        int[] first = {2, 2, 1, 32, 1, 1, 0, 2, 1, 0, 0, letters};
        for (int what = 0; what < first.length; what++) due("count " + what, laws.count(what), first[what]);
        due("the row as it was", laws.seat(0, 3), 0);
        due("no more", laws.back(), NO);
        due("a refused one leaves what can be undone", laws.add(1) == 1 && laws.back() == NO ? laws.undo() : BAD, 0);
        // a search made before it is not told behind it
        laws = laid("s0,5,0;h0,1,0;b0;");
        laws.keep();
        laws.hire(0);
        due("hired, it stays", laws.seating(-1), 1);
        due("hired, it makes the law pass", laws.soonest(1, 0), 5);
        laws.back();
        due("as kept, it leaves", laws.seating(-1), 0);
        due("as kept, none passes", laws.soonest(1, 0), NONE);
        // and nothing of its own is told behind a text that is laid anew
        laws.hire(0);
        due("hired again", laws.seating(-1), 1);
        laws.lay();
        due("laid anew", laws.seating(-1), 0);
    }

    private static void count() {
        PlayedLaws laws = laid("s0,9,0;s2,1,1;h0,0,30;h3,0,30;h0,3,1;b01;g9;");
        laws.play();
        laws.see(0, 0);
        laws.keep();
        laws.write('y');
        int letters = laws.count(11);
        due("letters", letters, "s0,9,0;s2,1,1;h0,0,30;h3,0,30;h0,3,1;b01;g9;y".length());
        // 0 and 1 are bound to both clauses, 2 left behind the first: 5 together
        int[] want = {2, 3, 2, 9, 1, 1, 1, 5, 1, 1, 1};
        for (int what = 0; what < want.length; what++) due("count " + what, laws.count(what), want[what]);
        for (int wild : new int[] {-1, 12}) due("count " + wild, laws.count(wild), BAD);
        for (int wild : WILD) due("count " + wild, laws.count(wild), BAD);
    }
}
