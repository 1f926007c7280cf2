import java.lang.annotation.Retention;
import java.lang.annotation.RetentionPolicy;
import java.lang.reflect.Method;
import java.math.BigInteger;
import java.nio.charset.StandardCharsets;
import java.nio.file.Files;
import java.nio.file.Path;
import java.util.ArrayList;
import java.util.Arrays;
import java.util.List;
import java.util.TreeSet;

/**
 * The document sentence by sentence: each that names a boundary has a test of its own, which bears its words.
 *
 * A step of a test is a call as words, then what is due: "hire 0 = 4" the answer; "hire 0 ! NO" the answer,
 * and nothing has changed behind it; without either the answer is free.
 */
public final class PlayedLawsBounds {
    private static final Path DOCUMENT = Path.of("../shared/DOC.md");
    private static final int MOST_CALLS = 512;
    private static final String[] BELOW_AND_FAR = {"-1", "-2", "MIN", "MAX", "1073741824", "-1073741824"};

    private static String sentence = "";
    private static int wrong = 0;

    private PlayedLawsBounds() {
    }

    /** The sentence of the document that a test holds the class to, and the section in which it stands. */
    @Retention(RetentionPolicy.RUNTIME)
    private @interface Says {
        String in();
        String words();
    }

    public static void main(String[] args) throws Exception {
        String document = Files.exists(DOCUMENT) ? new String(Files.readAllBytes(DOCUMENT), StandardCharsets.UTF_8) : "";
        TreeSet<String> sections = new TreeSet<>();
        int tests = 0;
        for (Method method : PlayedLawsBounds.class.getDeclaredMethods()) {
            Says says = method.getAnnotation(Says.class);
            if (says == null) continue;
            sentence = says.in() + ", \"" + says.words() + "\" (" + method.getName() + ")";
            if (!document.isEmpty() && !section(document, says.in()).contains(says.words())) fail("the document does not say so");
            sections.add(says.in());
            tests++;
            method.invoke(null);
        }
        sentence = "the sections of the document";
        for (int promise = 1; promise <= 29; promise++) {
            if (!sections.contains("Promise " + promise)) fail("no test of promise " + promise);
        }
        System.out.println(wrong == 0 ? "all " + tests + " sentences hold" : wrong + " answers are not as the document says");
        if (wrong != 0) System.exit(1);
    }

    /** What stands below the title that begins so, up to the next title. */
    private static String section(String document, String title) {
        for (String part : document.split("\n## ")) {
            if (part.startsWith(title + ":") || part.startsWith(title + "\n")) return part;
        }
        return "";
    }

    private static void fail(String what) {
        wrong++;
        if (wrong <= 60) System.out.println(sentence + ": " + what);
    }

    // ---------------------------------------------------------------- a theatre that is told its steps

    private static final class Theatre {
        final PlayedLaws laws = new PlayedLaws();
        final List<String> done = new ArrayList<>();
        int calls = 0;

        int ask(String step) {
            done.add(step);
            calls++;
            if (calls > MOST_CALLS) fail("the test makes more calls than the document allows");
            return answer(laws, step.split(" "));
        }

        Theatre text(String text) {
            for (char letter : text.toCharArray()) ask("write " + (int) letter);
            return this;
        }

        Theatre due(String... steps) {
            for (String step : steps) {
                int mark = Math.max(step.indexOf(" = "), step.indexOf(" ! "));
                if (mark < 0) {
                    ask(step);
                    continue;
                }
                String call = step.substring(0, mark);
                if (step.charAt(mark + 1) == '!') changesNothing(done, call);
                int want = number(step.substring(mark + 3));
                int got = ask(call);
                if (got != want) fail(call + " answered " + got + ", due is " + want + behind());
            }
            return this;
        }

        /** The last steps, as a fault is read by them. */
        private String behind() {
            int from = Math.max(0, done.size() - 8);
            return ", behind " + done.subList(from, done.size() - 1);
        }

        static Theatre behind(List<String> steps) {
            Theatre theatre = new Theatre();
            for (String step : steps) theatre.ask(step);
            return theatre;
        }
    }

    private static int number(String word) {
        switch (word) {
            case "BAD": return PlayedLaws.BAD;
            case "NO": return PlayedLaws.NO;
            case "FULL": return PlayedLaws.FULL;
            case "NONE": return PlayedLaws.NONE;
            case "MIN": return Integer.MIN_VALUE;
            case "MAX": return Integer.MAX_VALUE;
            default: return Integer.parseInt(word);
        }
    }

    private static int answer(PlayedLaws x, String[] words) {
        int a = words.length > 1 ? number(words[1]) : 0;
        int b = words.length > 2 ? number(words[2]) : 0;
        int c = words.length > 3 ? number(words[3]) : 0;
        switch (words[0]) {
            case "write": return x.write(a);
            case "wipe": return x.wipe();
            case "fault": return x.fault();
            case "lay": return x.lay();
            case "scene": return x.scene(a, b);
            case "seat": return x.seat(a, b);
            case "tonight": return x.tonight(a, b);
            case "passes": return x.passes(a);
            case "add": return x.add(a);
            case "cut": return x.cut(a);
            case "play": return x.play();
            case "swap": return x.swap(a, b);
            case "hire": return x.hire(a);
            case "undo": return x.undo();
            case "soonest": return x.soonest(a, b);
            case "seating": return x.seating(a);
            case "claques": return x.claques(a);
            case "falls": return x.falls();
            case "run": return x.run();
            case "most": return x.most(a);
            case "see": return x.see(a, b);
            case "forget": return x.forget();
            case "fits": return x.fits(a, b);
            case "coughs": return x.coughs(a, b);
            case "season": return x.season(a, b, c);
            case "keep": return x.keep();
            case "back": return x.back();
            case "count": return x.count(a);
            default: throw new IllegalArgumentException("no call: " + words[0]);
        }
    }

    private static Theatre fresh() {
        return new Theatre();
    }

    private static Theatre written(String text) {
        return fresh().text(text);
    }

    private static Theatre laid(String text) {
        Theatre theatre = written(text);
        if (theatre.ask("lay") < 1) fail("not laid: " + text);
        return theatre;
    }

    private static String times(int many, String item) {
        return item.repeat(many);
    }

    // ---------------------------------------------------------------- nothing changes

    /** Two theatres, one with the call more behind the same steps, answer alike whatever is asked then. */
    private static void changesNothing(List<String> steps, String call) {
        List<String> more = new ArrayList<>(steps);
        more.add(call);
        for (int probe = 0; probe < PROBES; probe++) {
            List<String> without = probed(steps, probe), with = probed(more, probe);
            if (!without.equals(with)) fail(call + " changes what is behind it: " + firstUnlike(without, with));
        }
    }

    private static final int PROBES = 6;

    private static String firstUnlike(List<String> some, List<String> others) {
        for (int i = 0; i < some.size() && i < others.size(); i++) {
            if (!some.get(i).equals(others.get(i))) return some.get(i) + ", then " + others.get(i);
        }
        return some.size() + " answers, then " + others.size();
    }

    private static List<String> probed(List<String> steps, int probe) {
        Theatre theatre = Theatre.behind(steps);
        List<String> told = new ArrayList<>();
        switch (probe) {
            case 0: note(theatre, told, "fault"); look(theatre, told); break;
            case 1: lookAtPast(theatre, told); break;
            case 2: lookAtKept(theatre, told); break;
            case 3: lookAtSeen(theatre, told); break;
            case 4: lookAtText(theatre, told); break;
            default: search(theatre, told);
        }
        return told;
    }

    private static int note(Theatre theatre, List<String> told, String call) {
        int answer = theatre.ask(call);
        told.add(call + " = " + answer);
        return answer;
    }

    /** All that stands, without a search. */
    private static void look(Theatre theatre, List<String> told) {
        for (int what = 0; what < 12; what++) note(theatre, told, "count " + what);
        int scenes = theatre.laws.count(0), seats = theatre.laws.count(1);
        for (int i = 0; i < 7; i++) {
            for (int what = 0; what < 5 && i < scenes; what++) note(theatre, told, "scene " + i + " " + what);
            for (int what = 0; what < 5 && i < seats; what++) note(theatre, told, "seat " + i + " " + what);
            for (int what = 0; what < 3 && i < seats; what++) note(theatre, told, "tonight " + i + " " + what);
        }
    }

    /** What a change can have made another. */
    private static void glance(Theatre theatre, List<String> told) {
        for (int what = 2; what < 8; what++) note(theatre, told, "count " + what);
        int scenes = theatre.laws.count(0), seats = theatre.laws.count(1);
        for (int i = 0; i < scenes; i++) note(theatre, told, "scene " + i + " 3");
        for (int i = 0; i < seats; i++) {
            note(theatre, told, "seat " + i + " 0");
            note(theatre, told, "seat " + i + " 3");
        }
    }

    private static void lookAtPast(Theatre theatre, List<String> told) {
        for (int i = 0; i < 9 && note(theatre, told, "undo") >= 0; i++) glance(theatre, told);
    }

    private static void lookAtKept(Theatre theatre, List<String> told) {
        for (int i = 0; i < 3 && note(theatre, told, "back") >= 0; i++) look(theatre, told);
    }

    private static void lookAtSeen(Theatre theatre, List<String> told) {
        int seats = theatre.laws.count(1);
        for (int h = 0; h < seats; h++) {
            for (int n = 0; n < 2; n++) note(theatre, told, "fits " + h + " " + n);
        }
        for (int i = 0; i < 7 && theatre.calls < MOST_CALLS - 10; i++) note(theatre, told, "see 0 1");
        note(theatre, told, "forget");
    }

    private static void lookAtText(Theatre theatre, List<String> told) {
        note(theatre, told, "fault");
        note(theatre, told, "lay");
        look(theatre, told);
        note(theatre, told, "wipe");
    }

    private static void search(Theatre theatre, List<String> told) {
        int seats = theatre.laws.count(1);
        for (int set : new int[] {0, 1, 2, 4, 8, 128, 255}) {
            for (int k = 0; k < 3; k++) note(theatre, told, "soonest " + set + " " + k);
        }
        for (int k = -1; k < seats; k++) note(theatre, told, "seating " + k);
        String[] calls = {
            "claques 0", "claques 1", "falls", "run", "most 0", "most 1", "coughs 3 0", "coughs 3 1", "season 5 40 0",
            "season 5 40 1", "keep", "play", "run"
        };
        for (String call : calls) note(theatre, told, call);
        glance(theatre, told);
    }

    // ---------------------------------------------------------------- what it is: the text

    /** The text has no fault, by itself and behind another item. */
    private static void so(String... texts) {
        for (String text : texts) {
            written(text).due("fault = NONE");
            written("g5;" + text).due("fault = NONE");
        }
    }

    /** What stands behind the start is not so, and the text is not laid. */
    private static void notSo(String start, String... items) {
        for (String item : items) {
            written(start + item).due("fault = " + start.length(), "lay ! NO");
            written(start + item + "h0,0,0;").due("fault = " + start.length(), "lay ! NO");
        }
    }

    @Says(in = "What it is", words = "A TEXT is letters (200 at most)")
    private static void textOfTwoHundredLetters() {
        Theatre theatre = fresh();
        theatre.due("count 11 = 0", "fault = NONE");
        for (int i = 1; i <= 200; i++) theatre.due("write 115 = " + i);
        theatre.due("write 115 ! FULL", "write 59 ! FULL", "count 11 = 200", "fault = 0");
        // the last of the letters is read as well
        theatre = written("s0,1,0;h0,0,0;" + times(61, "g1;") + "g2").due("count 11 = 199", "fault = 197", "lay ! NO");
        theatre.due("write 59 = 200", "fault = NONE", "write 59 ! FULL", "lay = 1", "count 3 = 2");
    }

    @Says(in = "What it is", words = "ITEMS one behind the other, each a letter, then what it tells, parted by , and a ; behind it")
    private static void itemsAreParted() {
        so("s0,1,0;h0,0,0;s0,1,0;b10;g1;h0,0,0;");
        notSo("s0,1,0;", "h0,0,0", "h0,0;", "h0,0,0,;", "h0,0,0,0;", "h0;0;0;", "h0 ,0,0;", "h 0,0,0;", "h0,0,0 ;", "h0,,0;");
        notSo("s0,1,0;", "s0,1,0", "s0,1;", "s0,1,0,;", "s0,1,0,0;", "s0;1;0;", "s0.1.0;", "S0,1,0;", "H0,0,0;", "0,1,0;");
        notSo("s0,1,0;", ";", " ", ",", "b0", "b0,;", "b0 ;", "B0;", "g1", "g1,;", "g1,1;", "g 1;", "G1;", "x", "s", "h", "b", "g");
    }

    @Says(in = "What it is", words = "(numbers: one or two figures")
    private static void numbersOfOneOrTwoFigures() {
        so("s0,1,0;h0,0,0;g0;", "s00,01,00;h00,00,00;g00;", "s03,20,08;h03,03,30;g99;");
        notSo("", "s,1,0;", "s000,1,0;", "s0,,0;", "s0,001,0;", "s0,1,;", "s0,1,000;", "s-0,1,0;", "s+1,1,0;");
        notSo("", "h,0,0;", "h000,0,0;", "h0,,0;", "h0,000,0;", "h0,0,;", "h0,0,000;", "h0,0,-1;", "g;", "g000;", "g001;");
    }

    @Says(in = "What it is", words = "a row: single figures, one next to the other")
    private static void rowsOfSingleFigures() {
        String two = "s0,1,0;s0,1,0;";
        so(two + "b01;", two + "b10;", two + "b1;");
        notSo(two, "b0,1;", "b0 1;", "b,01;", "b01,;", "b;", "b-1;", "b0-1;");
    }

    @Says(in = "What it is", words = "a SCENE of KIND K (0 SPEECH, 1 SONG, 2 FARCE, 3 TRAGEDY)")
    private static void kindsOfScenes() {
        for (int kind = 0; kind <= 3; kind++) laid("s" + kind + ",1,0;h0,0,0;").due("scene 0 0 = " + kind);
        notSo("", "s4,1,0;", "s9,1,0;", "s04,1,0;", "s10,1,0;", "s99,1,0;");
    }

    @Says(in = "What it is", words = "M (1 to 20) minutes long")
    private static void minutesOfScenes() {
        for (int minutes = 1; minutes <= 20; minutes++) laid("s0," + minutes + ",0;h0,0,0;").due("scene 0 1 = " + minutes);
        notSo("", "s0,0,0;", "s0,00,0;", "s0,21,0;", "s0,30,0;", "s0,99,0;");
    }

    @Says(in = "What it is", words = "of CLAUSE C (0 to 7; 8: of none)")
    private static void clausesOfScenes() {
        for (int clause = 0; clause <= 7; clause++) laid("s0,1," + clause + ";h0,0,0;").due("scene 0 2 = " + clause);
        laid("s0,1,8;h0,0,0;").due("scene 0 2 ! NONE");
        notSo("", "s0,1,9;", "s0,1,09;", "s0,1,10;", "s0,1,18;", "s0,1,99;");
    }

    @Says(in = "What it is", words = "of CLAUSE C (0 to 7; 8: of none); 7 at most, 0, 1, ..")
    private static void sevenScenes() {
        StringBuilder text = new StringBuilder();
        for (int s = 0; s < 7; s++) text.append("s0,").append(s + 1).append(",0;");
        so(text.toString());
        Theatre theatre = laid(text + "h0,0,0;").due("count 0 = 7");
        for (int s = 0; s < 7; s++) theatre.due("scene " + s + " 1 = " + (s + 1));
        notSo(text.toString(), "s0,8,0;");
        laid("s0,1,0;h0,0,0;").due("count 0 = 1", "scene 0 1 = 1", "scene 1 1 ! BAD");
    }

    @Says(in = "What it is", words = "a SEAT of KIND K (0 PLAIN, 1 SLEEPER, 2 CRITIC, 3 CLAQUE)")
    private static void kindsOfSeats() {
        for (int kind = 0; kind <= 3; kind++) laid("s0,1,0;h" + kind + ",0,0;").due("seat 0 0 = " + kind);
        notSo("s0,1,0;", "h4,0,0;", "h9,0,0;", "h04,0,0;", "h10,0,0;", "h99,0,0;");
    }

    @Says(in = "What it is", words = "whose TASTE is SCENES of KIND T (0 to 3)")
    private static void tastesOfSeats() {
        for (int taste = 0; taste <= 3; taste++) laid("s0,1,0;h0," + taste + ",0;").due("seat 0 1 = " + taste);
        notSo("s0,1,0;", "h0,4,0;", "h0,9,0;", "h0,04,0;", "h0,10,0;", "h0,99,0;");
    }

    @Says(in = "What it is", words = "with PATIENCE P (0 to 30)")
    private static void patiencesOfSeats() {
        for (int patience = 0; patience <= 30; patience++) laid("s0,1,0;h0,0," + patience + ";").due("seat 0 2 = " + patience);
        notSo("s0,1,0;", "h0,0,31;", "h0,0,40;", "h0,0,99;");
    }

    @Says(in = "What it is", words = "with PATIENCE P (0 to 30); 7 at most, 0, 1, ..")
    private static void sevenSeats() {
        StringBuilder text = new StringBuilder();
        for (int h = 0; h < 7; h++) text.append("h0,0,").append(h).append(";");
        so(text.toString());
        Theatre theatre = written(text + "s0,1,0;").due("lay = 7", "count 1 = 7");
        for (int h = 0; h < 7; h++) theatre.due("seat " + h + " 2 = " + h);
        notSo(text.toString(), "h0,0,7;");
        written("s0,1,0;h0,0,0;").due("lay = 1", "count 1 = 1", "seat 0 2 = 0", "seat 1 2 ! BAD");
    }

    @Says(in = "What it is", words = "the BILL is SCENES R (told ahead; a row of one or more, unlike)")
    private static void billsOfScenesToldAhead() {
        String two = "s0,1,0;s0,1,0;", seven = times(7, "s0,1,0;");
        so(two + "b1;", two + "b10;", seven + "b6;", seven + "b6543210;");
        notSo("", "b0;", "b0;s0,1,0;");
        notSo(two, "b2;", "b2;s0,1,0;", "b02;", "b9;", "b;", "b00;", "b11;", "b010;", "b101;", "b011;");
        notSo(seven, "b7;", "b01234567;", "b01234560;", "b01234566;", "b0123456");
        laid(seven + "h0,0,0;b6543210;").due("count 2 = 7", "scene 6 3 = 0", "scene 0 3 = 6");
    }

    @Says(in = "What it is", words = "unlike) (none without; of several such the last one counts)")
    private static void theLastBillCounts() {
        laid("s0,1,0;s0,1,0;h0,0,0;").due("count 2 = 0", "scene 0 3 ! NONE", "scene 1 3 ! NONE");
        laid("s0,1,0;s0,1,0;h0,0,0;b01;b1;").due("count 2 = 1", "scene 0 3 ! NONE", "scene 1 3 = 0");
        laid("s0,1,0;b0;s0,1,0;b10;b01;h0,0,0;").due("count 2 = 2", "scene 0 3 = 0", "scene 1 3 = 1");
        // a later one does not mend an earlier one
        written("s0,1,0;b1;b0;h0,0,0;").due("fault = 7", "lay ! NO");
    }

    @Says(in = "What it is", words = "G (0 to 99) is in the TILL (20 without; of several such the last one counts)")
    private static void theLastTillCounts() {
        String house = "s0,1,0;h0,0,0;";
        laid(house).due("count 3 = 20");
        for (int till : new int[] {0, 1, 19, 21, 98, 99}) laid(house + "g" + till + ";").due("count 3 = " + till);
        laid("g1;" + house + "g99;g0;").due("count 3 = 0");
        laid("g99;" + house).due("count 3 = 99");
        notSo(house, "g100;", "g999;", "g;", "g-1;");
        written("s0,1,0;h0,0,0;g100;g9;").due("fault = 14", "lay ! NO");
    }

    @Says(in = "What it is", words = "FAULT: the place of the first letter of the first ITEM that is not so.")
    private static void faultIsWhereTheItemBegins() {
        written("x").due("fault = 0");
        written("s0,1,0;h0,0,31;g5;").due("fault = 7");
        written("s0,1,0;h0,0,30;x").due("fault = 15");
        written("s0,1,0;s4,1,0;h4,0,0;").due("fault = 7");
        written("g1;g2;g3").due("fault = 6", "write 59 = 9", "fault = NONE");
        written(times(66, "g1;") + "xy").due("fault = 198", "count 11 = 200");
        // what is told within the one that is not so does not count for those behind it
        written("s0,1,0;h0,0,0;b0x;b0;").due("fault = 14", "lay ! NO");
    }

    @Says(in = "What it is", words = "An object is used for at most 512 calls after it has been made")
    private static void theLastCallAnswers() {
        Theatre theatre = laid(times(7, "s0,9,0;") + times(7, "h0,1,9;") + "b0123456;g99;");
        while (theatre.calls < MOST_CALLS - 2) theatre.due("swap 0 6 = " + (theatre.ask("seat 0 3") == 0 ? 6 : 0));
        while (theatre.calls < MOST_CALLS) theatre.due("seating -1 = 0");
        theatre = laid("s0,1,0;h0,0,30;b0;g0;");
        while (theatre.calls < MOST_CALLS) theatre.due("play = 1");
        if (theatre.calls != 512) fail("512 calls were to be made");
    }

    // ---------------------------------------------------------------- terms: laid, a night

    @Says(in = "Terms", words = "LAID is a TEXT without FAULT, of a SCENE and a SEAT at least (NO else;")
    private static void laidWithSceneAndSeat() {
        fresh().due("lay ! NO");
        for (String text : new String[] {"s0,1,0;", "h0,0,0;", "g5;", "s0,1,0;b0;g5;", "s0,1,0;h0,0,0", "xs0,1,0;h0,0,0;"}) {
            written(text).due("lay ! NO");
        }
        written("s0,1,0;h0,0,0;").due("lay = 1");
        written("h0,0,0;s0,1,0;h0,0,0;").due("lay = 2");
        // a refused one leaves nights, changes, what was seen and what was kept
        Theatre theatre = laid("s0,1,0;s0,1,1;h0,0,9;h0,0,9;b0;").due("play = 1", "keep = 1", "see 1 0 = 1", "swap 0 1 = 1");
        theatre.text("x").due("lay ! NO", "count 4 = 1", "count 8 = 1", "count 9 = 2", "count 10 = 1", "seat 0 3 = 1");
    }

    @Says(in = "Terms", words = "at first s0,8,0;s2,6,1;s1,4,8;s3,12,2;s0,10,3;h0,2,9;h1,0,6;h0,1,14;h2,3,20;h0,0,5;h0,2,11;b01423;g25;)")
    private static void atFirst() {
        String first = "s0,8,0;s2,6,1;s1,4,8;s3,12,2;s0,10,3;h0,2,9;h1,0,6;h0,1,14;h2,3,20;h0,0,5;h0,2,11;b01423;g25;";
        Theatre told = laid(first);
        told.due("wipe = " + first.length());
        List<String> made = new ArrayList<>(), asTold = new ArrayList<>();
        look(fresh(), made);
        look(told, asTold);
        if (!made.equals(asTold)) fail("a new one is not as told: " + firstUnlike(made, asTold));
        fresh().due("count 11 = 0", "fault = NONE", "lay ! NO", "undo ! NO", "back ! NO", "forget = 0");
    }

    @Says(in = "Terms", words = "SEATS stand in a row, at first by number, bound to nothing.")
    private static void seatsAtFirst() {
        Theatre theatre = laid("s0,1,7;" + times(7, "h0,0,9;") + "b0;");
        for (int round = 0; round < 2; round++) {
            for (int h = 0; h < 7; h++) theatre.due("seat " + h + " 3 = " + h, "seat " + h + " 4 = 0");
            theatre.due("swap 0 6 = 6", "play = 1", "seat 6 3 = 0", "seat 6 4 = 128", "lay = 7");
        }
    }

    @Says(in = "Terms", words = "ahead of it no SEAT has LEFT or is ASLEEP, BOREDOM of all is 0")
    private static void eachNightBeginsAnew() {
        Theatre theatre = laid("s0,5,0;s1,1,1;h0,1,4;h1,1,4;" + times(4, "h3,1,0;") + "b01;g99;");
        for (int night = 0; night < 5; night++) {
            int boredom = 5 + 2 * Math.min(3, night);
            theatre.due("tonight 0 0 = 1", "tonight 0 1 = 1", "tonight 0 2 = " + boredom);
            theatre.due("tonight 1 1 = 1", "tonight 1 2 = " + boredom, "tonight 2 1 = 3", "play = 1");
        }
        laid("s0,5,0;h0,1,4;").due("tonight 0 0 ! NONE", "tonight 0 1 = 0", "tonight 0 2 = 0");
    }

    @Says(in = "Terms", words = "its BOREDOM is less by half the minutes, cut (0 at least)")
    private static void tasteLessensByHalf() {
        int[][] cases = {{1, 3}, {2, 2}, {3, 2}, {4, 1}, {5, 1}, {6, 0}, {7, 0}, {8, 0}, {20, 0}};
        for (int[] one : cases) {
            laid("s0,3,0;s2," + one[0] + ",0;h0,2,30;b01;").due("tonight 0 2 = " + one[1]);
        }
        // what would be below 0 is not owed later
        laid("s2,20,0;s0,3,0;s2,20,0;s0,2,0;h0,2,30;b0123;").due("tonight 0 2 = 2", "cut 3", "tonight 0 2 = 0");
    }

    @Says(in = "Terms", words = "more by the minutes and 2 for each NIGHT ahead of this one on whose BILL the SCENE was (3 of these at most)")
    private static void playedScenesBoreMore() {
        Theatre theatre = laid("s0,5,0;s0,5,1;s1,6,0;h0,1,30;b0;");
        for (int night = 0; night < 6; night++) {
            theatre.due("scene 0 4 = " + night, "tonight 0 2 = " + (5 + 2 * Math.min(3, night)), "play = 1");
        }
        // another scene was on none of their bills; what it is less by does not grow
        theatre.due("add 1 = 1", "tonight 0 2 = 16", "add 2 = 2", "tonight 0 2 = 13", "play = 1", "tonight 0 2 = 15");
        theatre.due("cut 0 = 2", "scene 0 4 = 7", "play = 1", "scene 0 4 = 7", "scene 1 4 = 2", "tonight 0 2 = 6");
        // a night that does not pass is one, a run or a season that is asked for is none
        theatre = laid("s0,5,0;h0,1,4;b0;").due("run = 0", "season 0 40 0", "tonight 0 2 = 5", "play = 0", "tonight 0 2 = 7");
        theatre.due("undo = 0", "tonight 0 2 = 5");
    }

    @Says(in = "Terms", words = "for a CRITIC by twice that (what is less is as of others)")
    private static void criticsAreBoredTwice() {
        Theatre theatre = laid("s0,5,0;s2,6,0;h2,2,30;h0,2,30;b01;");
        for (int night = 0; night < 5; night++) {
            int more = 5 + 2 * Math.min(3, night);
            theatre.due("tonight 0 2 = " + (2 * more - 3), "tonight 1 2 = " + (more - 3), "play = 1");
        }
        laid("s0,5,0;h2,1,10;b0;").due("tonight 0 0 ! NONE");
        laid("s0,5,0;h2,1,9;b0;").due("tonight 0 0 = 1", "tonight 0 2 = 10");
        // hired, it is none any more
        laid("s0,5,0;h2,1,9;b0;").due("hire 0", "tonight 0 2 = 5");
    }

    @Says(in = "Terms", words = "LEAVE, if BOREDOM is above PATIENCE less 3 for each of both SEATS next to it that has LEFT (0 at least)")
    private static void leavesAbovePatience() {
        for (int kind : new int[] {0, 2}) {
            int boredom = kind == 2 ? 10 : 5;
            laid("s0,5,0;h" + kind + ",1," + boredom + ";b0;").due("tonight 0 0 ! NONE");
            laid("s0,5,0;h" + kind + ",1," + (boredom - 1) + ";b0;").due("tonight 0 0 = 1");
            // the left one has left
            laid("s0,5,0;h0,1,0;h" + kind + ",1," + (boredom + 3) + ";b0;").due("tonight 1 0 ! NONE");
            laid("s0,5,0;h0,1,0;h" + kind + ",1," + (boredom + 2) + ";b0;").due("tonight 1 0 = 1");
        }
        // both have left ahead of the second scene: boredom is 6 then
        laid("s0,5,0;s0,1,0;h0,1,0;h0,1,12;h0,1,0;b01;").due("tonight 1 0 ! NONE");
        laid("s0,5,0;s0,1,0;h0,1,0;h0,1,11;h0,1,0;b01;").due("tonight 1 0 = 2");
        // 0 at least: 0 is not above it, 1 is
        for (int patience : new int[] {0, 1, 3, 5, 6}) {
            laid("s0,5,0;s0,5,0;h0,1,0;h0,0," + patience + ";h0,1,0;b01;").due("tonight 1 0 ! NONE");
            laid("s0,5,0;s2,1,0;h0,1,0;h0,0," + patience + ";h0,1,0;b01;").due("tonight 1 0 = 2");
        }
        laid("s0,5,0;s2,1,0;h0,1,0;h0,0,7;h0,1,0;b01;").due("tonight 1 0 ! NONE");
        // one next but one is not next, and behind both ends of the row there is nobody
        laid("s0,5,0;h0,1,4;h3,1,0;h0,1,5;b0;").due("tonight 2 0 ! NONE", "swap 0 1", "tonight 2 0 = 1");
        laid("s0,5,0;s1,1,0;h0,1,5;h3,1,0;h0,1,5;b01;").due("tonight 0 0 ! NONE", "tonight 2 0 ! NONE");
        laid("s0,5,0;s1,1,0;h0,1,5;h3,1,0;h3,1,0;h0,1,5;h3,0,0;h3,0,0;h0,1,0;b01;").due("tonight 0 0 ! NONE", "tonight 3 0 ! NONE");
    }

    @Says(in = "Terms", words = "that has LEFT (0 at least), be it just now")
    private static void leftJustNow() {
        // from the left to the right: three go one by one behind the same scene
        laid("s0,5,0;h0,1,4;h0,1,7;h0,1,7;h0,1,8;b0;").due("tonight 0 0 = 1", "tonight 1 0 = 1", "tonight 2 0 = 1", "tonight 3 0 ! NONE");
        // the other way it takes a scene for each
        Theatre theatre = laid("s0,5,0;s1,1,0;s1,1,0;s1,1,0;h0,1,8;h0,1,7;h0,1,7;h0,1,4;b0123;");
        theatre.due("tonight 3 0 = 1", "tonight 2 0 = 2", "tonight 1 0 = 3", "tonight 0 0 ! NONE", "cut 3", "cut 2", "tonight 1 0 ! NONE");
    }

    @Says(in = "Terms", words = "a SLEEPER is ASLEEP from then on, or awake, as its BOREDOM is above its PATIENCE, or not")
    private static void sleepersSleepAbovePatience() {
        laid("s0,5,0;s1,2,0;s1,1,0;h1,1,5;b012;").due("tonight 0 1 = 7", "tonight 0 0 ! NONE");
        laid("s0,5,0;s1,2,0;s1,1,0;h1,1,4;b012;").due("tonight 0 1 = 5", "tonight 0 0 ! NONE", "tonight 0 2 = 4");
        laid("s0,5,0;s1,2,0;s1,1,0;h1,1,3;b012;").due("tonight 0 1 = 1", "tonight 0 0 ! NONE");
        // who has left next to it does not change its own patience
        laid("s0,5,0;s1,1,0;s1,1,0;h0,1,0;h1,1,5;h0,1,0;b012;").due("tonight 1 1 = 7");
        laid("s1,1,0;h1,0,0;b0;").due("tonight 0 2 = 1", "tonight 0 1 = 1", "passes 0 = 1");
    }

    @Says(in = "Terms", words = "a CLAQUE stays awake.")
    private static void claquesStayAwake() {
        laid(times(7, "s0,20,0;") + "h3,1,0;b0123456;").due("tonight 0 0 ! NONE", "tonight 0 1 = 127", "tonight 0 2 = 140");
        laid("s0,20,0;s0,20,0;h1,1,0;b01;").due("tonight 0 1 = 1", "hire 0", "tonight 0 1 = 3");
    }

    @Says(in = "Terms", words = "A SEAT has SEEN a SCENE, if it had not LEFT and was not ASLEEP ahead of it.")
    private static void seenAheadOfLeaving() {
        String three = "s0,5,0;s0,5,1;s0,5,2;";
        int[][] cases = {{4, 1}, {5, 3}, {9, 3}, {10, 7}, {14, 7}, {15, 7}};
        for (int[] one : cases) {
            laid(three + "h0,1," + one[0] + ";b012;").due("tonight 0 1 = " + one[1]);
            laid(three + "h1,1," + one[0] + ";b012;").due("tonight 0 1 = " + one[1]);
            laid(three + "h0,1," + one[0] + ";h3,0,0;h3,0,0;b012;").due("play = 1", "seat 0 4 = " + one[1]);
            laid(three + "h1,1," + one[0] + ";b012;").due("play = 1", "seat 0 4 = " + one[1]);
        }
    }

    @Says(in = "Terms", words = "The NIGHT PASSES, if two thirds of all SEATS or more have not LEFT behind the last SCENE.")
    private static void twoThirdsPass() {
        int[] enough = {0, 1, 2, 2, 3, 4, 4, 5};
        for (int seats = 1; seats <= 7; seats++) {
            for (int staying = 0; staying <= seats; staying++) {
                String text = "s0,1,0;" + times(seats - staying, "h0,1,0;") + times(staying, "h3,1,0;") + "b0;g99;";
                int passes = staying >= enough[seats] ? 1 : 0;
                laid(text).due("passes 0 = " + staying, "passes 1 = " + passes, "play = " + passes, "count 5 = " + passes, "count 4 = 1");
            }
        }
        // who sleeps has not left; only behind the last scene it is told
        laid("s0,9,0;h1,1,0;b0;").due("passes 1 = 1", "play = 1");
        laid("s0,9,0;s0,9,0;h0,1,17;b01;").due("passes 1 = 0", "play = 0");
    }

    @Says(in = "Terms", words = "SEATS that have SEEN it are bound to its CLAUSE: by a SONG only those of whose TASTE it is")
    private static void boundByWhatWasSeen() {
        for (int kind = 0; kind <= 2; kind++) {
            for (int clause : new int[] {0, 7, 8}) {
                int bit = clause == 8 ? 0 : 1 << clause;
                Theatre theatre = laid("s" + kind + ",1," + clause + ";h0,1,30;h2,0,30;h3,2,0;h1,1,0;b0;").due("play = 1");
                int other = kind == 1 ? 0 : bit;
                theatre.due("seat 0 4 = " + bit, "seat 1 4 = " + other, "seat 2 4 = " + other, "seat 3 4 = " + bit);
            }
        }
        // as no night passes, nobody is bound
        laid("s0,1,0;h0,1,0;h3,0,0;b0;").due("play = 0", "count 7 = 0");
    }

    @Says(in = "Terms", words = "by a TRAGEDY they are bound to it no more.")
    private static void tragediesLoose() {
        Theatre theatre = laid("s0,1,0;s2,1,7;s3,1,0;s3,1,8;h0,0,30;b2;");
        theatre.due("play = 1", "seat 0 4 = 0", "cut 2", "add 0", "add 1", "play = 1", "seat 0 4 = 129");
        theatre.due("cut 0", "add 3", "play = 1", "seat 0 4 = 129", "add 2", "play = 1", "seat 0 4 = 128", "play = 1", "seat 0 4 = 128");
        // one that is asleep is not loosed; nobody is as the night does not pass
        laid("s2,9,0;s3,1,0;h1,0,8;b0;").due("play = 1", "seat 0 4 = 1", "add 1", "play = 1", "seat 0 4 = 1");
        laid("s0,1,0;s3,20,0;h0,0,19;b0;").due("play = 1", "seat 0 4 = 1", "add 1", "play = 0", "seat 0 4 = 1");
        laid("s0,1,0;s3,20,0;h0,0,20;b0;").due("play = 1", "seat 0 4 = 1", "add 1", "play = 1", "seat 0 4 = 0");
    }

    @Says(in = "Terms", words = "but for CLAQUES, brings 1 into the TILL (999 at most), PASSED or not; each CLAQUE costs 1, ahead of that.")
    private static void theTill() {
        Theatre theatre = laid("s0,1,0;" + times(7, "h0,0,0;") + "b0;g99;");
        for (int night = 1; night <= 128; night++) theatre.due("play = 1", "count 3 = " + (99 + 7 * night));
        theatre.due("play = 1", "count 3 = 999", "play = 1", "count 3 = 999");
        // what is hired costs ahead of what is brought, so that it is full again
        theatre.due("hire 0 = 994", "play = 1", "count 3 = 999", "play = 1", "count 3 = 999");
        theatre.due("hire 1 = 994", "hire 2 = 989", "hire 3 = 984", "play = 1", "count 3 = 983");
        // one more than 998 is the most
        theatre = laid("s0,1,0;s1,1,0;" + times(3, "h0,1,0;") + "h0,0,0;b0;g99;");
        theatre.due("play = 0", "count 3 = 100");
        // who sleeps brings 1, who has left brings none
        laid("s0,5,0;h0,1,0;h0,1,30;h1,1,0;h3,0,0;b0;g1;").due("play = 1", "count 3 = 2");
        laid("s0,5,0;h0,1,0;h0,1,30;b0;g0;").due("play = 0", "count 3 = 1");
        laid("s0,5,0;h0,1,0;h2,1,0;b0;g0;").due("play = 0", "count 3 = 0");
        laid("s0,5,0;" + times(7, "h3,1,0;") + "b0;g7;").due("play = 1", "count 3 = 0", "play ! NO");
    }

    @Says(in = "Terms", words = "A SCENE is put on the BILL behind the last one, or cut from it.")
    private static void billsGrowBehindTheLast() {
        Theatre theatre = laid(times(7, "s0,1,0;") + "h0,0,0;");
        for (int s = 6; s >= 0; s--) theatre.due("add " + s + " = " + (6 - s), "scene " + s + " 3 = " + (6 - s), "add " + s + " ! NO");
        theatre.due("cut 6 = 6", "scene 0 3 = 5", "cut 0 = 5", "scene 5 3 = 0", "cut 3 = 4", "scene 1 3 = 3", "scene 4 3 = 1");
        theatre.due("cut 1 = 3", "cut 5 = 2", "cut 4 = 1", "cut 2 = 0", "count 2 = 0", "cut 2 ! NO", "add 2 = 0");
    }

    @Says(in = "Terms", words = "A NIGHT is played, if the BILL is not empty, and there is as much in the TILL as CLAQUES cost.")
    private static void nightsThatCanBePlayed() {
        laid("s0,1,0;h0,0,0;g99;").due("play ! NO", "add 0", "play = 1", "cut 0", "play ! NO");
        for (int claques = 1; claques <= 7; claques++) {
            String house = "s0,1,0;" + times(claques, "h3,0,0;") + "b0;g";
            laid(house + (claques - 1) + ";").due("play ! NO", "count 4 = 0");
            laid(house + claques + ";").due("play = 1", "count 3 = 0", "play ! NO", "count 4 = 1");
        }
        laid("s0,1,0;h0,0,0;b0;g0;").due("play = 1", "count 3 = 1");
    }

    @Says(in = "Terms", words = "A SEAT is hired for 5 of the TILL: it is a CLAQUE.")
    private static void hiredForFive() {
        for (int kind = 0; kind <= 2; kind++) {
            laid("s0,1,0;h" + kind + ",2,9;g5;").due("hire 0 = 0", "seat 0 0 = 3", "seat 0 1 = 2", "seat 0 2 = 9", "count 6 = 1");
            laid("s0,1,0;h" + kind + ",2,9;g4;").due("hire 0 ! NO", "seat 0 0 = " + kind, "count 6 = 0");
            laid("s0,1,0;h" + kind + ",2,9;g0;").due("hire 0 ! NO");
        }
        laid("s0,1,0;h3,0,0;g99;").due("hire 0 ! NO");
        Theatre theatre = laid("s0,1,0;" + times(7, "h0,0,0;") + "g36;");
        for (int h = 0; h < 7; h++) theatre.due("hire " + h + " = " + (31 - 5 * h));
        theatre.due("count 6 = 7", "hire 6 ! NO");
    }

    @Says(in = "Terms", words = "UNDONE are the latest of these (the last 8 can be).")
    private static void theLastEightAreUndone() {
        Theatre theatre = laid("s0,1,0;h0,0,0;h0,0,0;").due("undo ! NO");
        for (int i = 1; i <= 8; i++) theatre.due("swap 0 1", "count 9 = " + i);
        for (int i = 7; i >= 0; i--) theatre.due("undo = " + i, "seat 0 3 = " + i % 2);
        theatre.due("undo ! NO", "seat 0 3 = 0");
        // of nine the first one stays
        for (int i = 1; i <= 9; i++) theatre.due("swap 0 1", "count 9 = " + Math.min(8, i));
        for (int i = 7; i >= 0; i--) theatre.due("undo = " + i);
        theatre.due("undo ! NO", "seat 0 3 = 1");
        // five undone make room for five, and no more
        for (int i = 0; i < 20; i++) theatre.due("add 0 = 0", "cut 0 = 0");
        theatre.due("undo = 7", "undo = 6", "undo = 5", "undo = 4", "undo = 3", "swap 0 1", "hire 0 = 15", "count 9 = 5");
        theatre.due("undo = 4", "undo = 3", "count 2 = 1", "undo = 2", "count 2 = 0", "undo = 1", "count 2 = 1", "undo = 0", "count 2 = 0", "undo ! NO");
    }

    @Says(in = "Terms", words = "TONIGHT is a NIGHT of the BILL as it is, whatever is in the TILL.")
    private static void tonightWhateverIsInTheTill() {
        for (int till : new int[] {0, 1, 2, 99}) {
            Theatre theatre = laid("s0,5,0;s0,5,1;h3,1,0;h3,1,0;h0,1,4;b0;g" + till + ";");
            theatre.due("tonight 2 0 = 1", "passes 0 = 2", "passes 1 = 1", "run = 30", "falls = 0", "claques 0 = 0", "coughs 5 0 = 1");
            theatre.due("most 0 = 10", "most 1 = 5", "soonest 2 0 = 5", "seating -1 = 2", "count 4 = 0", "count 3 = " + till);
        }
    }

    // ---------------------------------------------------------------- terms: what is best

    private static void dueRow(Theatre theatre, int set, int minutes, int... row) {
        theatre.due("soonest " + set + " 0 = " + minutes);
        for (int k = 1; k <= 7; k++) {
            theatre.due("soonest " + set + " " + k + (k <= row.length ? " = " + row[k - 1] : " = NONE"));
        }
    }

    private static void dueNoRow(Theatre theatre, int set) {
        for (int k = 0; k <= 7; k++) theatre.due("soonest " + set + " " + k + " = NONE");
        theatre.due("soonest " + set + " 0 ! NONE");
    }

    @Says(in = "Terms", words = "of all rows of one or more unlike SCENES on which each CLAUSE of the set is that of a SCENE which is no TRAGEDY")
    private static void rowsForEachClause() {
        Theatre theatre = laid("s3,1,0;s0,2,8;s2,3,1;s1,4,2;h3,0,0;");
        dueRow(theatre, 0, 1, 0);
        dueNoRow(theatre, 1);
        dueRow(theatre, 2, 3, 2);
        dueRow(theatre, 6, 7, 2, 3);
        dueNoRow(theatre, 7);
        dueNoRow(theatre, 8);
        dueNoRow(theatre, 255);
        // all seven in one row; for eight clauses there are not scenes enough
        theatre = laid("s0,20,0;s1,20,1;s2,20,2;s0,20,3;s1,20,4;s2,20,5;s0,20,7;h3,3,0;");
        dueRow(theatre, 191, 140, 0, 1, 2, 3, 4, 5, 6);
        dueNoRow(theatre, 255);
        dueRow(theatre, 128, 20, 6);
    }

    @Says(in = "Terms", words = "and that PASS TONIGHT, were they the BILL, that of fewest minutes, of several the first")
    private static void theShortestRowThatPasses() {
        // the speeches need what pleases between them
        dueRow(laid("s0,4,0;s0,4,1;s3,4,8;h0,3,6;"), 3, 12, 0, 2, 1);
        dueRow(laid("s0,4,0;s0,4,1;s3,4,8;h0,3,8;"), 3, 8, 0, 1);
        dueNoRow(laid("s0,4,0;s0,4,1;s3,4,8;h0,3,5;"), 3);
        // equally long ones: by the first scene, then by the second
        dueRow(laid("s0,4,0;s2,4,0;s1,4,1;s0,4,1;h0,0,30;"), 3, 8, 0, 2);
        dueRow(laid("s0,4,1;s2,4,0;s1,4,1;s0,4,0;h0,0,30;"), 3, 8, 0, 1);
        dueRow(laid("s2,5,0;s0,4,0;s1,4,0;h0,0,30;"), 1, 4, 1);
        // by whose patience only the later one passes
        dueRow(laid("s0,4,0;s1,4,0;h0,1,3;"), 1, 4, 1);
        dueNoRow(laid("s0,9,0;s1,9,1;h0,1,8;"), 1);
        dueRow(laid("s0,9,0;s1,9,1;h0,1,9;"), 1, 9, 0);
        // what is on the bill does not matter, the nights ahead do
        Theatre theatre = laid("s0,5,0;s0,6,0;h0,1,6;b1;");
        dueRow(theatre, 1, 5, 0);
        theatre.due("play = 1", "cut 1", "add 0", "play = 1");
        dueNoRow(theatre, 1);
        theatre.due("undo");
        dueRow(theatre, 1, 5, 0);
    }

    @Says(in = "Terms", words = "of all rows of SEATS that one by which most SEATS would not LEAVE TONIGHT, of several the first (by who is first, then second, ..)")
    private static void theFirstOfTheBestRows() {
        laid("s0,5,0;s2,1,0;h0,1,4;h0,1,8;h0,1,8;b01;").due("seating -1 = 1", "seating 0 = 1", "seating 1 = 2", "seating 2 = 0");
        laid("s0,5,0;s2,1,0;h0,1,8;h0,1,4;h3,1,0;b01;").due("seating -1 = 2", "seating 0 = 0", "seating 1 = 2", "seating 2 = 1");
        // none leaves, all leave, no bill, one seat: by number, however they stand now
        for (String text : new String[] {"s0,1,0;" + times(7, "h0,0,0;") + "b0;", "s0,1,0;" + times(7, "h0,1,0;") + "b0;", "s0,1,0;" + times(7, "h0,1,0;")}) {
            Theatre theatre = laid(text).due("swap 0 6", "seating -1 = " + (text.contains("h0,1,0;b") ? 0 : 7));
            for (int k = 0; k < 7; k++) theatre.due("seating " + k + " = " + k);
        }
        laid("s0,1,0;h0,1,0;b0;").due("seating -1 = 0", "seating 0 = 0", "seating 1 ! BAD");
    }

    @Says(in = "Terms", words = "were they CLAQUES (those that are, too), TONIGHT would PASS, that of fewest, of several the lowest as bits")
    private static void theFewestClaques() {
        int[] enough = {0, 1, 2, 2, 3, 4, 4, 5};
        for (int seats = 1; seats <= 7; seats++) {
            Theatre theatre = laid("s0,1,0;" + times(seats, "h0,1,0;") + "b0;g0;");
            theatre.due("claques 0 = " + enough[seats], "claques 1 = " + ((1 << enough[seats]) - 1), "count 6 = 0");
        }
        laid("s0,1,0;h0,0,0;b0;").due("claques 0 = 0", "claques 1 = 0");
        // the last one alone is a claque; two of three or four are wanted, three of four
        laid("s0,1,0;h0,1,0;h0,1,0;h3,1,0;b0;").due("claques 0 = 1", "claques 1 = 1");
        laid("s0,1,0;h3,1,0;h0,1,0;h0,1,0;b0;").due("claques 0 = 1", "claques 1 = 2");
        laid("s0,1,0;h3,1,0;h0,1,0;h3,1,0;h0,1,0;b0;").due("claques 0 = 1", "claques 1 = 2");
        // one in the midst keeps others: fewer go ahead of lower
        laid("s0,5,0;h0,1,5;h0,1,4;h0,1,7;b0;").due("passes 0 = 1", "claques 0 = 1", "claques 1 = 2");
    }

    @Says(in = "Terms", words = "how many; which; none (an empty BILL does not PASS)")
    private static void noClaquesMakeAnEmptyBillPass() {
        laid("s0,1,0;h0,0,0;").due("claques 0 ! NONE", "claques 1 ! NONE", "add 0", "claques 0 = 0", "claques 1 = 0");
        laid("s0,1,0;h3,0,0;").due("claques 0 ! NONE", "claques 1 ! NONE");
    }

    @Says(in = "Terms", words = "TONIGHT would not PASS (of an empty BILL: it would not), of several the lowest; none (TONIGHT does not PASS; there is none)")
    private static void whichCutMakesItFall() {
        laid("s0,1,0;s0,1,0;h0,0,0;b1;").due("falls = 1");
        laid("s0,1,0;s0,1,0;h0,0,0;b10;").due("falls ! NONE");
        laid("s0,9,0;h0,1,8;b0;").due("falls ! NONE");
        laid("s0,1,0;h0,0,0;").due("falls ! NONE");
        // two of the four are wanted: the lower one, though it is behind the other on the bill
        laid("s1,6,0;s0,4,1;s0,4,2;s1,6,3;h0,0,8;b0213;").due("falls = 1");
        laid("s1,6,0;s0,4,1;s0,4,2;s1,6,3;h0,0,10;b0213;").due("falls ! NONE");
        laid("s1,6,0;s0,4,1;s1,6,3;h0,0,10;b012;").due("falls = 1", "count 2 = 3", "count 9 = 0");
    }

    @Says(in = "Terms", words = "RUN: how many NIGHTS (0 to 30) from now on would PASS one behind the other, the BILL staying, whatever is in the TILL.")
    private static void runsOfNoneToThirty() {
        int[][] cases = {{4, 0}, {5, 1}, {6, 1}, {7, 2}, {8, 2}, {9, 3}, {10, 3}, {11, 30}, {30, 30}};
        for (int[] one : cases) {
            Theatre theatre = laid("s0,5,0;h0,1," + one[0] + ";b0;g0;").due("run = " + one[1]);
            for (int night = 1; night <= one[1] && night < 5; night++) {
                theatre.due("play = 1", "run = " + (one[1] == 30 ? 30 : one[1] - night));
            }
            if (one[1] < 30) theatre.due("play = 0", "run = 0");
        }
        laid("s0,5,0;h3,1,0;b0;g0;").due("play ! NO", "run = 30", "count 4 = 0", "scene 0 4 = 0");
    }

    @Says(in = "Terms", words = "of all SCENES not on the BILL, put at all places of it, that by which most SEATS would be bound to CLAUSES behind TONIGHT")
    private static void mostByAllPlaces() {
        // behind six tragedies, ahead of six songs, in the midst
        laid(times(6, "s3,1,0;") + "s0,1,0;h3,0,0;b012345;").due("most 0 = 66", "most 1 = 1");
        laid("s3,1,0;" + times(6, "s0,1,0;") + "h3,0,0;b123456;").due("most 0 = 0", "most 1 = 1");
        laid("s0,1,0;s3,1,0;s3,1,1;s0,1,1;h3,0,0;b013;").due("most 0 = 20", "most 1 = 1");
        laid("s3,1,0;s0,6,0;s1,6,1;h0,3,8;b12;").due("most 0 = 0", "most 1 = 0", "passes 1 = 0");
        laid("s3,8,8;s0,6,0;s1,6,1;h0,3,8;b12;").due("most 0 = 1", "most 1 = 1", "passes 1 = 0");
        // of several the first scene, then the first place
        laid("s0,1,0;s0,1,1;s0,1,2;h3,0,0;h3,0,0;b0;").due("most 0 = 10", "most 1 = 4");
    }

    @Says(in = "Terms", words = "(each SEAT counted for each of its CLAUSES), of several the first (by the SCENE, then the place): 10 times the SCENE and the place (0 ahead of all); how many; none.")
    private static void mostCountsEachSeat() {
        laid("s0,1,0;s0,1,1;h3,0,0;h3,0,0;h3,0,0;b0;").due("most 0 = 10", "most 1 = 6", "add 1", "most 0 ! NONE", "most 1 ! NONE");
        laid("s0,1,0;s0,1,1;h0,0,30;").due("most 0 = 0", "most 1 = 1");
        // those bound before count, and none more is bound to what it is bound to
        laid("s0,1,0;s0,1,0;h0,0,30;h0,0,30;b0;").due("play = 1", "most 0 = 10", "most 1 = 2");
        laid("s0,1,0;s1,20,1;h0,0,5;b0;").due("play = 1", "most 0 = 10", "most 1 = 1");
        // nobody would be: still the first
        laid("s0,1,8;s0,1,8;h0,0,30;b1;").due("most 0 = 0", "most 1 = 0");
    }

    // ---------------------------------------------------------------- terms: seen, coughs, seasons, kept

    @Says(in = "Terms", words = "SEEN GO (6 at most) is that a SEAT would LEAVE TONIGHT behind the n-th SCENE (1 to 7), or not (0).")
    private static void sixAreSeen() {
        Theatre theatre = laid("s0,5,0;h0,1,4;h0,1,9;b0;").due("count 8 = 0");
        for (int i = 1; i <= 6; i++) theatre.due("see 1 0 = " + i, "count 8 = " + i);
        theatre.due("see 1 0 ! FULL", "see 0 7 ! FULL", "count 8 = 6", "forget = 6");
        for (int n = 0; n <= 7; n++) laid("s0,5,0;h0,1,4;b0;").due("see 0 " + n + " = 1");
        // behind the seventh scene one leaves as well
        theatre = laid(times(7, "s0,4,0;") + "h0,1,27;b0123456;").due("tonight 0 0 = 7", "see 0 7 = 1", "fits 0 0 = " + (15 << 24));
        theatre.due("see 0 6 = 2", "fits 0 0 = 0");
    }

    @Says(in = "Terms", words = "PATIENCES of a SEAT: P (bits 0 to 30) by which all that is SEEN of it would be so, all others as they are")
    private static void patiencesByBits() {
        laid("s0,1,0;h0,1,9;b0;").due("fits 0 0 = MAX", "see 0 1", "fits 0 0 = 1");
        laid("s0,20,0;s0,10,0;h0,1,9;b01;").due("see 0 0", "fits 0 0 = " + (1 << 30), "seat 0 2 = 9");
        laid("s0,20,0;s0,11,0;h0,1,9;b01;").due("see 0 0", "fits 0 0 = 0");
        laid("s0,20,0;s0,10,0;h0,1,9;b01;").due("see 0 1", "fits 0 0 = " + ((1 << 20) - 1), "see 0 1", "fits 0 0 = " + ((1 << 20) - 1));
        laid("s0,20,0;s0,10,0;h0,1,9;b01;").due("see 0 2", "fits 0 0 = " + ((1 << 30) - (1 << 20)), "see 0 1", "fits 0 0 = 0");
        laid("s0,20,0;h1,1,9;h3,1,9;b0;").due("see 0 0", "see 1 0", "fits 0 0 = MAX", "fits 1 0 = MAX", "see 0 1", "fits 0 0 = 0", "fits 1 0 = MAX");
        laid("s0,20,0;h0,1,9;").due("see 0 0", "fits 0 0 = MAX", "see 0 1", "fits 0 0 = 0");
    }

    @Says(in = "Terms", words = "TASTES of it (bits 0 to 3) likewise.")
    private static void tastesByBits() {
        for (int kind = 0; kind <= 3; kind++) {
            Theatre theatre = laid("s" + kind + ",5,0;h0,0,4;b0;").due("fits 0 1 = 15", "see 0 0", "fits 0 1 = " + (1 << kind));
            theatre.due("forget", "see 0 1", "fits 0 1 = " + (15 - (1 << kind)), "see 0 0", "fits 0 1 = 0", "seat 0 1 = 0");
        }
        laid("s0,5,0;h0,0,4;h0,0,4;b0;").due("see 1 1", "fits 0 1 = 15", "fits 1 1 = 14");
    }

    @Says(in = "Terms", words = "behind the first SCENE TONIGHT each PLAIN one and CRITIC LEAVES by x (0 to 10) of ten, for itself")
    private static void coughsOfTen() {
        for (int x = 0; x <= 10; x++) {
            BigInteger[] chance = atMostTwoOfSeven(x);
            laid("s0,5,0;" + times(7, "h0,0,30;") + "b0;").due("coughs " + x + " 0 = " + chance[0], "coughs " + x + " 1 = " + chance[1]);
        }
        // sleepers and claques do not cough, critics do
        laid("s0,5,0;h1,0,0;b0;").due("coughs 10 0 = 1", "coughs 10 1 = 1");
        laid("s0,5,0;h3,0,0;b0;").due("coughs 10 0 = 1", "coughs 10 1 = 1");
        laid("s0,5,0;h2,0,30;b0;").due("coughs 10 0 = 0", "coughs 10 1 = 1", "coughs 1 0 = 9", "coughs 1 1 = 10");
        // behind the first one alone
        laid("s0,5,0;s0,5,0;h0,0,30;b01;").due("coughs 1 0 = 9", "coughs 1 1 = 10");
        laid("s0,5,0;h0,0,0;b0;").due("coughs 0 0 = 1", "coughs 0 1 = 1", "hire 0", "coughs 10 0 = 1");
    }

    private static BigInteger[] atMostTwoOfSeven(int x) {
        BigInteger above = BigInteger.ZERO, below = BigInteger.TEN.pow(7);
        int[] ways = {1, 7, 21};
        for (int leaving = 0; leaving <= 2; leaving++) {
            BigInteger cases = BigInteger.valueOf(x).pow(leaving).multiply(BigInteger.valueOf(10 - x).pow(7 - leaving));
            above = above.add(cases.multiply(BigInteger.valueOf(ways[leaving])));
        }
        BigInteger common = above.gcd(below);
        return new BigInteger[] {above.divide(common), below.divide(common)};
    }

    @Says(in = "Terms", words = "whatever its BOREDOM (ahead of what LEAVES by that): the chance that it PASSES, in lowest terms.")
    private static void coughsAheadOfBoredom() {
        // the right one's cough drives the left one out at once: it bears 5, then 2
        laid("s0,5,0;h0,1,5;h0,0,30;h3,0,0;b0;").due("coughs 5 0 = 1", "coughs 5 1 = 2", "coughs 0 0 = 1", "coughs 10 0 = 0", "coughs 10 1 = 1");
        laid("s0,5,0;h0,1,8;h0,0,30;h3,0,0;b0;").due("coughs 5 0 = 3", "coughs 5 1 = 4");
        // one that leaves by boredom anyway leaves once; never 2 of 4, always 1 of 1, never 0 of 10
        laid("s0,9,0;h0,1,0;h3,0,0;h3,0,0;b0;").due("coughs 4 0 = 1", "coughs 4 1 = 1", "coughs 10 0 = 1", "coughs 10 1 = 1");
        laid("s0,9,0;h0,1,0;h3,0,0;b0;").due("coughs 0 0 = 0", "coughs 0 1 = 1", "coughs 4 0 = 0", "coughs 4 1 = 1");
    }

    @Says(in = "Terms", words = "A SEASON by z (0 to 9999) of n (1 to 40) from now on")
    private static void seasonsOfOneToForty() {
        String[] houses = {
            "s0,3,0;s1,2,1;s2,4,2;s3,1,0;s0,2,7;h0,0,25;h1,1,8;h2,2,30;h0,3,28;h3,0,0;b01;g30;",
            "s0,1,0;h0,0,30;", "s0,9,1;s2,5,3;h0,1,12;h0,0,9;h2,2,20;b10;g4;", "s0,1,0;h3,0,0;h0,0,9;b0;g0;"
        };
        for (String house : houses) {
            for (int z : new int[] {0, 1, 4999, 9998, 9999}) {
                for (int n : new int[] {1, 2, 39, 40}) dueAsPlayed(house, z, n);
            }
        }
        Theatre theatre = laid(houses[0]);
        theatre.due("season -1 1 0 ! BAD", "season 10000 1 0 ! BAD", "season 0 0 0 ! BAD", "season 0 41 0 ! BAD");
    }

    /** The season is as if its draws were called one by one, and leaves all as it was. */
    private static void dueAsPlayed(String house, int z, int n) {
        Theatre asked = laid(house).due("play"), played = laid(house).due("play");
        int scenes = asked.laws.count(0), seats = asked.laws.count(1), before = asked.laws.count(5);
        for (int k = 0; k < n; k++) {
            BigInteger x = BigInteger.valueOf(7919).multiply(BigInteger.valueOf(z)).add(BigInteger.valueOf(6151L * k + 1));
            int draw = x.multiply(x).mod(BigInteger.valueOf(65521)).intValueExact();
            int deed = draw % 8, s = draw / 8 % scenes, h = draw / 8 % seats, g = draw / 64 % seats;
            String[] calls = {"add " + s, "add " + s, "cut " + s, "swap " + h + " " + g, "hire " + h, "play", "play", "play"};
            played.ask(calls[deed]);
        }
        String season = "season " + z + " " + n + " ";
        asked.due(season + "0 = " + (played.laws.count(5) - before), season + "1 = " + played.laws.count(7));
        changesNothing(asked.done, season + "0");
        changesNothing(asked.done, season + "1");
    }

    @Says(in = "Terms", words = "each if it can be; DRAW being (x times x) modulo 65521, x 7919 z, 6151 k and 1 together")
    private static void drawsThatCannotBe() {
        // draws 1, 41887, 12499, 38197, ..: the scene is put on, a night, a change of places, a night
        laid("s0,1,0;s0,1,1;h0,0,30;h0,0,30;").due("season 0 1 0 = 0", "season 0 2 0 = 1", "season 0 3 0 = 1", "season 0 4 0 = 2");
        // it is on the bill already, places of one seat do not change, a till too low keeps a night from being played
        laid("s0,1,0;h0,0,30;b0;").due("season 0 1 1 = 0", "season 0 2 0 = 1", "season 0 2 1 = 1", "season 0 4 0 = 2");
        laid("s0,1,0;h3,0,0;g0;").due("season 0 2 0 = 0", "season 0 4 1 = 0");
        laid("s0,1,0;h3,0,0;g1;").due("season 0 2 0 = 1", "season 0 4 0 = 1", "season 0 4 1 = 1");
        // draws 8844 and 28679: seat 1 of three is hired for 5, then a night
        laid("s0,5,0;h0,0,0;h0,1,0;h0,1,0;b0;g5;").due("season 60 2 0 = 0");
        laid("s0,5,0;h0,0,0;h0,1,0;h0,1,0;b0;g6;").due("season 60 2 0 = 1", "season 60 2 1 = 3");
    }

    @Says(in = "Terms", words = "how many CLAUSES all SEATS are bound to then together.")
    private static void clausesTogether() {
        laid("s0,1,0;s0,1,1;" + times(7, "h3,0,0;") + "b01;g99;").due("season 0 2 1 = 14", "season 0 1 1 = 0", "count 7 = 0");
        laid("s0,1,0;s0,1,1;" + times(3, "h0,0,9;") + "b01;").due("play = 1", "count 7 = 6", "season 0 1 1 = 6");
    }

    @Says(in = "Terms", words = "KEPT is all as it stands, but what is SEEN and THE TEXT (these stay by back(), behind which nothing can be UNDONE): 2 at most.")
    private static void twoAreKept() {
        Theatre theatre = laid("s0,1,0;s0,1,1;h0,0,9;h0,0,9;b0;g30;").due("back ! NO", "count 10 = 0", "keep = 1", "count 10 = 1");
        theatre.due("play = 1", "swap 0 1", "keep = 2", "count 10 = 2", "keep ! FULL", "hire 0", "add 1", "see 0 1 = 1");
        int letters = theatre.text("x").laws.count(11);
        theatre.due("count 9 = 4", "back = 1", "count 10 = 1", "count 9 = 0", "undo ! NO", "count 8 = 1", "count 11 = " + letters);
        theatre.due("count 4 = 1", "count 6 = 0", "count 2 = 1", "seat 0 3 = 1", "count 3 = 32", "count 7 = 2", "hire 1", "see 1 1 = 2");
        theatre.due("back = 0", "undo ! NO", "count 4 = 0", "count 7 = 0", "seat 0 3 = 0", "count 3 = 30", "scene 0 4 = 0", "seat 0 4 = 0");
        theatre.due("count 8 = 2", "count 11 = " + letters, "back ! NO", "keep = 1", "keep = 2", "keep ! FULL", "back = 1", "keep = 2");
    }

    @Says(in = "Terms", words = "BAD: a number is none that is told (SCENES, SEATS: such as there are).")
    private static void scenesAndSeatsSuchAsThereAre() {
        // two scenes and three seats; all calls that take one
        String house = "s0,1,0;s0,1,1;h0,0,9;h0,0,9;h0,0,9;b0;";
        dueBad(house, "scene % 0", 2);
        dueBad(house, "add %", 2);
        dueBad(house, "cut %", 2);
        for (String call : new String[] {"seat % 0", "tonight % 0", "swap % 0", "swap 0 %", "hire %", "seating %", "see % 0", "fits % 0"}) {
            dueBad(house, call, 3, call.equals("seating %") ? "-1" : "");
        }
    }

    /** The call with a number in the gap that is not told: the first behind the last one, and wild ones. */
    private static void dueBad(String house, String call, int first, String... told) {
        List<String> numbers = new ArrayList<>(Arrays.asList(BELOW_AND_FAR));
        numbers.add("" + first);
        numbers.add("" + (first + 1));
        numbers.add("" + (first + 256));
        numbers.removeAll(Arrays.asList(told));
        Theatre theatre = laid(house).due("keep", "see 0 0", "swap 0 1");
        for (String number : numbers) theatre.due(call.replace("%", number) + " ! BAD");
    }

    @Says(in = "Terms", words = "Of several the first in this order, whatever the order at a call; nothing changes then.")
    private static void badAheadOfAll() {
        written(times(200, "x")).due("write 127 ! BAD", "write 31 ! BAD", "write 126 ! FULL");
        laid("s0,1,0;h3,0,0;b0;g4;").due("add 1 ! BAD", "add 0 ! NO", "hire 1 ! BAD", "hire 0 ! NO", "most 2 ! BAD", "most 0 ! NONE");
        laid("s0,1,0;h0,0,0;g4;").due("cut 1 ! BAD", "cut 0 ! NO", "claques 2 ! BAD", "claques 0 ! NONE", "swap 1 1 ! BAD", "swap 0 0 ! BAD");
        laid("s0,1,0;h0,0,0;").due("soonest 256 8 ! BAD", "soonest 2 8 ! BAD", "soonest 2 0 ! NONE", "scene 1 3 ! BAD", "tonight 1 0 ! BAD");
        Theatre theatre = laid("s0,1,0;h0,0,0;");
        for (int i = 0; i < 6; i++) theatre.due("see 0 1");
        theatre.due("see 1 1 ! BAD", "see 0 8 ! BAD", "see 0 0 ! FULL");
    }

    // ---------------------------------------------------------------- the promises one by one

    @Says(in = "Promise 1", words = "`PlayedLaws()`: As told.")
    private static void newObject() {
        Theatre theatre = fresh();
        int[] counts = {5, 6, 5, 25, 0, 0, 0, 0, 0, 0, 0, 0};
        for (int what = 0; what < 12; what++) theatre.due("count " + what + " = " + counts[what]);
        int[] bill = {0, 1, 4, 2, 3};
        for (int place = 0; place < 5; place++) theatre.due("scene " + bill[place] + " 3 = " + place);
        // what one does is not seen in another
        theatre.due("cut 0", "play", "write 115");
        fresh().due("count 2 = 5", "count 4 = 0", "count 11 = 0");
    }

    @Says(in = "Promise 2", words = "A letter (32 to 126, as in ASCII) comes behind THE TEXT: how long it is. BAD; FULL.")
    private static void lettersOfTheText() {
        Theatre theatre = fresh();
        for (int letter = 32; letter <= 126; letter++) theatre.due("write " + letter + " = " + (letter - 31));
        for (String letter : BELOW_AND_FAR) theatre.due("write " + letter + " ! BAD");
        theatre = fresh().due("write 115 = 1");
        for (int letter : new int[] {0, 9, 10, 31, 127, 128, 160, 255, 256 + 59, 65536 + 59, 59 - 256}) theatre.due("write " + letter + " ! BAD");
        written(times(199, "s")).due("write 59 = 200", "write 59 ! FULL", "write 127 ! BAD", "wipe = 200", "write 59 = 1");
    }

    @Says(in = "Promise 3", words = "THE TEXT is empty: how long it was.")
    private static void wipedTexts() {
        fresh().due("wipe = 0", "wipe = 0", "count 11 = 0");
        written("x").due("fault = 0", "wipe = 1", "wipe = 0", "fault = NONE", "count 11 = 0", "write 103 = 1");
        written(times(200, "x")).due("wipe = 200", "write 103 = 1", "count 11 = 1");
        // the house stays, and nothing of the old text is read again
        laid("s0,1,0;h0,0,9;b0;").due("play = 1", "wipe = 17", "count 4 = 1", "lay ! NO", "count 4 = 1").text("h0,0,0;").due("lay ! NO");
    }

    @Says(in = "Promise 4", words = "FAULT. NONE.")
    private static void faultsOfTexts() {
        fresh().due("fault ! NONE");
        written("s0,1,0;").due("fault ! NONE", "write 120", "fault = 7", "fault = 7", "count 11 = 8");
        written(times(199, "x")).due("fault = 0");
        // reading it leaves the house that is laid
        laid("s0,1,0;h0,0,9;b0;").text("s0,1,0;").due("fault ! NONE", "count 0 = 1").text("?").due("fault = 24", "count 0 = 1", "count 2 = 1");
    }

    @Says(in = "Promise 5", words = "LAID: how many SEATS; no NIGHTS, nothing SEEN, UNDONE, KEPT; THE TEXT stays. NO.")
    private static void laidAnew() {
        Theatre theatre = laid("s0,1,3;s2,1,1;h0,0,9;h1,2,9;b0;g9;");
        theatre.due("play = 1", "keep = 1", "keep = 2", "see 0 1", "swap 0 1", "hire 0", "add 1", "play = 1", "lay = 2");
        int[] counts = {2, 2, 1, 9, 0, 0, 0, 0, 0, 0, 0, 34};
        for (int what = 0; what < 12; what++) theatre.due("count " + what + " = " + counts[what]);
        theatre.due("undo ! NO", "back ! NO", "forget = 0", "scene 0 4 = 0", "scene 1 3 ! NONE", "seat 0 0 = 0", "seat 0 3 = 0", "seat 0 4 = 0");
        theatre.due("fault = NONE", "write 120 = 35", "lay ! NO", "fault = 34");
        for (int seats = 1; seats <= 7; seats++) written("s0,1,0;" + times(seats, "h0,0,0;")).due("lay = " + seats);
        // what was found ahead of it is not told behind it
        theatre = laid("s0,5,0;s0,5,0;h0,1,4;b0;").due("hire 0", "seating -1 = 1", "soonest 1 0 = 5", "lay = 1");
        theatre.due("seating -1 = 0", "soonest 1 0 ! NONE");
        theatre.due("hire 0", "seating -1 = 1", "soonest 1 0 = 5", "lay = 1", "add 1 = 1", "seating -1 = 0", "soonest 1 0 ! NONE");
    }

    @Says(in = "Promise 6", words = "Of a SCENE: KIND (what = 0), M (1), C (2; NONE), its place on the BILL (3; NONE), on how many NIGHTS it was played (4). BAD.")
    private static void whatOfAScene() {
        String house = "s3,20,7;s1,1,8;h3,0,0;h0,0,0;b0;";
        laid(house).due("scene 0 0 = 3", "scene 0 1 = 20", "scene 0 2 = 7", "scene 0 3 = 0", "scene 0 4 = 0");
        laid(house).due("scene 1 0 = 1", "scene 1 1 = 1", "scene 1 2 ! NONE", "scene 1 3 ! NONE", "scene 1 4 = 0");
        dueBad(house, "scene 0 %", 5);
        dueBad(house, "scene 1 %", 5);
        dueBad(house, "scene % 4", 2);
        dueBad(times(7, "s0,1,0;") + "h0,0,0;h0,0,0;", "scene % 3", 7);
        laid(house).due("play", "play", "scene 0 4 = 2", "scene 1 4 = 0", "undo", "scene 0 4 = 1");
    }

    @Says(in = "Promise 7", words = "Of a SEAT: KIND (what = 0; as hired), T (1), P (2), at which place it is (3), CLAUSES to which it is bound (4; bits). BAD.")
    private static void whatOfASeat() {
        String house = "s0,1,0;s0,1,7;h2,3,30;h0,0,0;b01;g9;";
        laid(house).due("seat 0 0 = 2", "seat 0 1 = 3", "seat 0 2 = 30", "seat 0 3 = 0", "seat 0 4 = 0", "seat 1 3 = 1");
        laid(house).due("hire 0", "seat 0 0 = 3", "swap 0 1", "seat 0 3 = 1", "seat 1 3 = 0", "play = 1", "seat 0 4 = 129", "seat 1 4 = 129");
        dueBad(house, "seat 0 %", 5);
        dueBad(house, "seat % 4", 2);
        dueBad("s0,1,0;" + times(7, "h0,0,0;"), "seat % 3", 7);
    }

    @Says(in = "Promise 8", words = "behind the how manieth SCENE (1 ..) it LEAVES (what = 0; NONE: it does not), SCENES that it has SEEN (1; bits by places on the BILL), BOREDOM at the end, or as it LEFT (2). BAD.")
    private static void whatOfTonight() {
        // it leaves behind the first to the seventh of scenes put on the other way round
        for (int n = 1; n <= 7; n++) {
            Theatre theatre = laid(times(7, "s0,4,0;") + "h0,1," + (4 * n - 1) + ";b6543210;");
            theatre.due("tonight 0 0 = " + n, "tonight 0 1 = " + ((1 << n) - 1), "tonight 0 2 = " + 4 * n);
        }
        laid(times(7, "s0,4,0;") + "h0,1,28;b6543210;").due("tonight 0 0 ! NONE", "tonight 0 1 = 127", "tonight 0 2 = 28");
        laid("s0,1,0;h0,1,0;").due("tonight 0 0 ! NONE", "tonight 0 1 = 0", "tonight 0 2 = 0");
        String house = "s0,1,0;h0,0,0;h0,1,0;b0;";
        dueBad(house, "tonight 0 %", 3);
        dueBad(house, "tonight % 0", 2);
        dueBad(house, "tonight % 2", 2);
    }

    @Says(in = "Promise 9", words = "TONIGHT: how many SEATS have not LEFT (what = 0), 1 if it PASSES (1; an empty BILL: 0). BAD.")
    private static void whatOfPassing() {
        String house = "s0,1,0;" + times(7, "h0,0,0;");
        laid(house).due("passes 0 = 7", "passes 1 = 0", "add 0", "passes 1 = 1", "passes 0 = 7", "cut 0", "passes 1 = 0");
        laid("s0,1,0;" + times(7, "h0,1,0;") + "b0;").due("passes 0 = 0", "passes 1 = 0");
        dueBad(house, "passes %", 2);
    }

    @Says(in = "Promise 10", words = "A SCENE is put on the BILL: at which place. BAD; NO: it is on it.")
    private static void addedScenes() {
        Theatre theatre = laid(times(7, "s0,1,0;") + "h0,0,0;h0,0,0;");
        for (int s = 0; s < 7; s++) theatre.due("add " + s + " = " + s, "add " + s + " ! NO", "add 0 ! NO");
        theatre.due("add 7 ! BAD", "count 9 = 7", "undo = 6", "add 6 = 6");
        dueBad("s0,1,0;h0,0,0;h0,0,0;b0;", "add %", 1);
    }

    @Says(in = "Promise 11", words = "A SCENE is cut: how many are left. BAD; NO: it is not on it.")
    private static void cutScenes() {
        Theatre theatre = laid(times(7, "s0,1,0;") + "h0,0,0;h0,0,0;b0123456;");
        for (int s = 0; s < 7; s++) theatre.due("cut " + s + " = " + (6 - s), "cut " + s + " ! NO", "cut 0 ! NO");
        theatre.due("cut 7 ! BAD", "count 9 = 7", "undo = 6", "cut 6 = 0");
        dueBad("s0,1,0;h0,0,0;h0,0,0;", "cut %", 1);
    }

    @Says(in = "Promise 12", words = "A NIGHT: 1 if it PASSES, 0. NO.")
    private static void playedNights() {
        laid("s0,5,0;h0,1,5;b0;").due("play = 1", "count 4 = 1", "count 5 = 1", "play = 0", "count 4 = 2", "count 5 = 1", "count 9 = 2");
        laid("s0,5,0;h0,1,5;").due("play ! NO", "count 9 = 0");
        laid("s0,5,0;h3,1,5;b0;g0;").due("play ! NO", "count 9 = 0");
        laid("s0,5,0;h3,1,5;b0;g1;").due("play = 1", "play ! NO", "count 9 = 1");
    }

    @Says(in = "Promise 13", words = "Two SEATS change places: at which the first one is then. BAD (alike, too).")
    private static void swappedSeats() {
        Theatre theatre = laid("s0,1,0;" + times(7, "h0,0,0;"));
        theatre.due("swap 0 6 = 6", "seat 6 3 = 0", "swap 6 1 = 1", "seat 1 3 = 0", "seat 0 3 = 6", "swap 0 1 = 0", "seat 1 3 = 6");
        for (int h = 0; h < 7; h++) theatre.due("swap " + h + " " + h + " ! BAD");
        theatre.due("swap 7 7 ! BAD", "swap 7 0 ! BAD", "swap 0 7 ! BAD", "swap -1 0 ! BAD", "swap 0 -1 ! BAD", "count 9 = 3");
        laid("s0,1,0;h0,0,0;").due("swap 0 0 ! BAD", "swap 0 1 ! BAD", "count 9 = 0");
    }

    @Says(in = "Promise 14", words = "A SEAT is hired: what is left in the TILL. BAD; NO: it is a CLAQUE, fewer than 5.")
    private static void hiredSeats() {
        laid("s0,1,0;h0,0,0;h0,0,0;h3,0,0;g10;").due("hire 0 = 5", "hire 0 ! NO", "hire 2 ! NO", "hire 1 = 0", "count 9 = 2", "hire 1 ! NO");
        laid("s0,1,0;h0,0,0;h0,0,0;g9;").due("hire 0 = 4", "hire 1 ! NO", "undo = 0", "count 3 = 9", "hire 1 = 4");
        dueBad("s0,1,0;h0,0,0;h0,0,0;g4;", "hire %", 2);
        dueBad("s0,1,0;h3,0,0;h3,0,0;g99;", "hire %", 2);
    }

    @Says(in = "Promise 15", words = "UNDONE: how many more can be. NO.")
    private static void undoneChanges() {
        Theatre theatre = laid("s0,1,0;s0,1,1;h0,0,9;h0,0,9;b0;").due("undo ! NO");
        theatre.due("add 1", "cut 0", "play = 1", "swap 0 1", "hire 0", "undo = 4", "count 3 = 22", "seat 0 0 = 0", "undo = 3", "seat 0 3 = 0");
        theatre.due("undo = 2", "count 3 = 20", "count 4 = 0", "count 7 = 0", "undo = 1", "scene 0 3 = 0", "undo = 0", "scene 1 3 ! NONE", "undo ! NO");
        // what is refused, asked, seen, kept or written cannot be undone
        theatre.due("add 0", "cut 1", "swap 0 0", "hire 2", "see 0 0", "keep", "write 120", "forget", "run", "season 5 40 0", "undo ! NO");
        theatre.due("cut 0", "play ! NO", "undo = 0", "count 2 = 1", "count 10 = 1");
        // what was found ahead of it is not told behind it
        theatre = laid("s0,5,0;h0,1,4;b0;").due("seating -1 = 0", "soonest 1 0 = NONE", "hire 0", "seating -1 = 1", "soonest 1 0 = 5");
        theatre.due("undo = 0", "seating -1 = 0", "soonest 1 0 ! NONE");
        theatre = laid("s0,5,0;s0,5,0;h0,1,4;b0;").due("hire 0", "seating -1 = 1", "soonest 1 0 = 5", "undo = 0", "add 1 = 1");
        theatre.due("seating -1 = 0", "soonest 1 0 ! NONE");
    }

    @Says(in = "Promise 16", words = "SOONEST: how many minutes (k = 0), the k-th (1 to 7; NONE: there are not so many). NONE; BAD (a set below 256).")
    private static void whatOfSoonest() {
        String house = "s0,2,0;s0,1,1;h3,0,0;h3,0,0;b0;";
        dueRow(laid(house), 0, 1, 1);
        dueRow(laid(house), 3, 3, 0, 1);
        dueNoRow(laid(house), 4);
        laid(house).due("soonest 1 2 ! NONE", "soonest 1 7 ! NONE", "soonest 255 0 ! NONE", "soonest 255 7 ! NONE");
        dueBad(house, "soonest % 0", 256);
        dueBad(house, "soonest 3 %", 8);
        dueBad(house, "soonest 4 %", 8);
    }

    @Says(in = "Promise 17", words = "SEATING: how many (k = -1), who is at place k. BAD.")
    private static void whatOfSeating() {
        Theatre theatre = laid("s0,1,0;" + times(7, "h0,0,0;") + "b0;").due("seating -1 = 7", "seating 0 = 0", "seating 6 = 6");
        for (String k : new String[] {"-2", "7", "8", "MIN", "MAX"}) theatre.due("seating " + k + " ! BAD");
        laid("s0,1,0;h0,1,0;b0;").due("seating -1 = 0", "seating 0 = 0", "seating 1 ! BAD", "seating -2 ! BAD");
    }

    @Says(in = "Promise 18", words = "CLAQUES: how many (what = 0), which (1; bits). NONE; BAD.")
    private static void whatOfClaques() {
        String house = "s0,1,0;" + times(6, "h0,1,0;") + "h0,0,0;b0;";
        laid(house).due("claques 0 = 4", "claques 1 = 15", "cut 0", "claques 0 ! NONE", "claques 1 ! NONE", "claques 2 ! BAD");
        dueBad(house, "claques %", 2);
    }

    @Says(in = "Promise 19", words = "FALLS. NONE.")
    private static void whatOfFalls() {
        laid(times(6, "s0,1,0;") + "s1,1,0;h0,0,0;b6;").due("passes 1 = 0", "falls ! NONE", "cut 6", "falls ! NONE", "add 5", "falls = 5");
        laid(times(6, "s0,1,0;") + "s1,1,0;h0,1,0;b6;").due("falls = 6", "add 0", "falls ! NONE");
        laid("s0,1,0;h0,0,0;b0;").due("falls = 0");
    }

    @Says(in = "Promise 20", words = "RUN (an empty BILL: 0).")
    private static void whatOfRun() {
        laid("s0,1,0;h0,0,30;").due("run = 0", "add 0", "run = 30", "cut 0", "run = 0");
        laid("s0,1,0;h0,1,0;b0;").due("run = 0");
    }

    @Says(in = "Promise 21", words = "ADD: which and where (what = 0), how many (1). NONE; BAD.")
    private static void whatOfMost() {
        String house = "s0,1,0;s0,1,1;h3,0,0;h3,0,0;b0;";
        laid(house).due("most 0 = 10", "most 1 = 4", "count 2 = 1", "add 1", "most 0 ! NONE", "most 1 ! NONE", "most 2 ! BAD");
        laid(house).due("cut 0", "most 0 = 0", "most 1 = 2");
        dueBad(house, "most %", 2);
    }

    @Says(in = "Promise 22", words = "SEEN GO: how many. BAD; FULL.")
    private static void whatOfSee() {
        String house = "s0,1,0;h0,0,0;h0,0,0;b0;";
        Theatre theatre = laid(house);
        for (int i = 1; i <= 6; i++) theatre.due("see " + i % 2 + " " + (i + 1) + " = " + i);
        theatre.due("see 0 0 ! FULL", "see 2 0 ! BAD", "see 0 8 ! BAD", "see 0 -1 ! BAD", "count 9 = 0");
        dueBad(house, "see 0 %", 8);
        dueBad(house, "see % 7", 2);
    }

    @Says(in = "Promise 23", words = "Nothing is SEEN: how many were.")
    private static void whatOfForget() {
        Theatre theatre = laid("s0,5,0;h0,1,4;b0;").due("forget = 0", "see 0 0 = 1", "fits 0 1 = 1", "forget = 1", "fits 0 1 = 15", "forget = 0");
        for (int i = 1; i <= 6; i++) theatre.due("see 0 0 = " + i);
        theatre.due("see 0 0 ! FULL", "forget = 6", "count 8 = 0", "see 0 1 = 1", "fits 0 1 = 14", "forget = 1");
    }

    @Says(in = "Promise 24", words = "PATIENCES (what = 0), TASTES (1), as bits. BAD.")
    private static void whatOfFits() {
        String house = "s0,5,0;h0,1,4;h0,1,4;b0;";
        laid(house).due("fits 0 0 = MAX", "fits 1 1 = 15", "see 1 1", "fits 1 0 = 255", "fits 1 1 = 14", "fits 0 0 = MAX");
        dueBad(house, "fits 0 %", 2);
        dueBad(house, "fits % 0", 2);
        dueBad(house, "fits % 1", 2);
    }

    @Says(in = "Promise 25", words = "COUGHS: above (part = 0), below (1) (an empty BILL: 0 by 1). BAD.")
    private static void whatOfCoughs() {
        String house = "s0,5,0;h0,0,30;h3,0,0;";
        for (int x = 0; x <= 10; x++) laid(house).due("coughs " + x + " 0 = 0", "coughs " + x + " 1 = 1");
        laid(house + "b0;").due("coughs 0 0 = 1", "coughs 0 1 = 1", "coughs 5 0 = 1", "coughs 5 1 = 2", "coughs 10 0 = 0", "coughs 10 1 = 1");
        for (String bill : new String[] {"", "b0;"}) {
            dueBad(house + bill, "coughs % 0", 11);
            dueBad(house + bill, "coughs % 1", 11);
            dueBad(house + bill, "coughs 5 %", 2);
        }
    }

    @Says(in = "Promise 26", words = "A SEASON: NIGHTS (what = 0), CLAUSES (1). BAD.")
    private static void whatOfSeason() {
        String house = "s0,1,0;s0,1,1;h0,0,30;h0,0,30;b0;";
        dueBad(house, "season % 1 0", 10000);
        dueBad(house, "season 0 % 0", 41, "0");
        dueBad(house, "season 0 40 %", 2);
        laid(house).due("season 0 0 0 ! BAD", "season 0 2 0 = 1", "season 0 2 1 = 2", "count 4 = 0", "count 7 = 0", "count 9 = 0");
    }

    @Says(in = "Promise 27", words = "KEPT: how many. FULL.")
    private static void whatOfKeep() {
        fresh().due("keep = 1", "keep = 2", "keep ! FULL", "keep ! FULL", "count 10 = 2");
        laid("s0,1,0;h0,0,9;b0;").due("keep = 1", "play", "keep = 2", "play", "keep ! FULL", "back = 1", "count 4 = 1", "back = 0", "count 4 = 0");
        laid("s0,1,0;h0,0,9;b0;").due("cut 0", "keep = 1", "undo = 0", "count 2 = 1", "back = 0", "count 2 = 0", "undo ! NO");
    }

    @Says(in = "Promise 28", words = "As KEPT last (it is KEPT no more then): how many are left; nothing is UNDONE then. NO.")
    private static void whatOfBack() {
        laid("s0,1,0;h0,0,9;h0,0,9;b0;").due("back ! NO", "swap 0 1", "back ! NO", "undo = 0", "back ! NO", "seat 0 3 = 0");
        Theatre theatre = laid("s0,1,0;h0,0,9;h0,0,9;b0;").due("keep = 1", "swap 0 1", "keep = 2", "cut 0", "cut 0 ! NO", "back = 1");
        theatre.due("count 2 = 1", "seat 0 3 = 1", "count 9 = 0", "undo ! NO", "swap 0 1", "back = 0", "seat 0 3 = 0", "undo ! NO", "back ! NO");
        theatre = laid("s0,5,0;h0,1,4;b0;").due("keep", "hire 0", "seating -1 = 1", "soonest 1 0 = 5", "back = 0");
        theatre.due("seating -1 = 0", "soonest 1 0 ! NONE");
        theatre = laid("s0,5,0;s0,5,0;h0,1,4;b0;").due("keep", "hire 0", "seating -1 = 1", "soonest 1 0 = 5", "back = 0", "add 1 = 1");
        theatre.due("seating -1 = 0", "soonest 1 0 ! NONE");
    }

    @Says(in = "Promise 29", words = "9 that can be UNDONE, 10 KEPT, 11 letters of THE TEXT. BAD.")
    private static void whatOfCount() {
        // as few as can be
        Theatre theatre = laid("s0,1,8;h0,0,30;g0;");
        int[] least = {1, 1, 0, 0, 0, 0, 0, 0, 0, 0, 0, 18};
        for (int what = 0; what < 12; what++) theatre.due("count " + what + " = " + least[what]);
        theatre.due("wipe = 18", "count 11 = 0");
        // as many as can be
        StringBuilder text = new StringBuilder();
        for (int i = 0; i < 7; i++) text.append("s0,1,").append(i + 1).append(";h0,0,30;");
        theatre = laid(text + "b0123456;g99;");
        for (int night = 1; night <= 8; night++) theatre.due("play = 1", "count 4 = " + night, "count 5 = " + night, "count 9 = " + night);
        for (int h = 0; h < 7; h++) theatre.due("hire " + h, "count 6 = " + (h + 1), "see 0 1", "count 8 = " + Math.min(6, h + 1));
        theatre.due("keep", "keep", "keep", "count 10 = 2", "count 0 = 7", "count 1 = 7", "count 2 = 7", "count 3 = 120", "count 7 = 49", "count 9 = 8");
        while (theatre.ask("write 120") > 0) continue;
        theatre.due("count 11 = 200");
        dueBad("s0,1,0;h0,0,0;h0,0,0;", "count %", 12);
    }
}
