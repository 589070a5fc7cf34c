import java.util.Arrays;
import java.util.List;
import java.util.Map;
import java.util.TreeMap;

/** Edges of promises 1 to 10: THE TAPE, its TOKENS, its FAULTS, what there is. */
public final class TextEdgeTest {
    private static final Edges EDGES = new Edges("TextEdgeTest");
    private static final int BAD = Edges.BAD, FULL = Edges.FULL, NONE = Edges.NONE;

    /** Each line with the bounds of its numbers: the least, the most, and one that is in between. */
    private record Line(String name, int[]... bounds) { }

    private static final int[] X = {0, 9, 4}, Y = {1, 9, 4}, HOUR = {0, 23, 4}, ESTATE = {1, 99, 4}, HOOK = {0, 9, 4};
    private static final Line[] LINES = {
        new Line("tub", X, Y, HOUR, ESTATE), new Line("bottle", X, Y, HOUR, ESTATE),
        new Line("piano", X, Y, HOUR, ESTATE), new Line("coop", X, Y, HOUR, ESTATE),
        new Line("heir", X, new int[] {0, 4, 4}, new int[] {4, 23, 4}, HOOK),
        new Line("current", X, new int[] {0, 4, 3}), new Line("wind", HOUR, new int[] {0, 4, 3}),
        new Line("phase", new int[] {0, 5, 3})};

    public static void main(String[] args) {
        p1NewObject();
        p2FeedBytes();
        p2FeedToTheEnd();
        p3End();
        p3EndKeepsTheFirst();
        p4TextOfNothing();
        p4TextTellsAll();
        p4TextTellsNot();
        p4TextThatFails();
        p4Lines();
        p4Places();
        p4BytesAlone();
        p4BytesBetween();
        p4Blanks();
        p4Numbers();
        p4Names();
        p5FaultsInOrder();
        p5FaultTwo();
        p5FaultThree();
        p5FaultThreeOfUntil();
        p5FaultFour();
        p5FaultFourOfEach();
        p5FaultFive();
        p5FaultIsTheLatest();
        p6Rule();
        p7Tub();
        p8Heir();
        p9Current();
        p10Wind();
        EDGES.finish();
    }

    /** "No TUBS, no HEIRS; SHEETS have nothing", and all that is "at first". */
    private static void p1NewObject() {
        Map<String, Long> want = new TreeMap<>();
        for (String name : Sight.plain().keySet()) {
            long at = 0;
            if (name.matches("(tub|heir) .*")) at = BAD;
            if (name.matches("tape: (tub|heir) .*")) at = BAD;
            if (name.matches("(tape: )?current .")) at = 2;
            if (name.matches("sheet . lane|count 3")) at = NONE;
            if (name.matches("image .: back .")) at = Edges.STATE;
            want.put(name, at);
        }
        List<String> changes = Sight.changes(want, Sight.plain());
        EDGES.holds("a new object: " + changes, changes.isEmpty());
        EDGES.behind();
        EDGES.still("text", 0);
        EDGES.still("fault", 0);
        EDGES.still("torn", 0);
        EDGES.still("end 0", 0);
        EDGES.still("sink 0", 0);
        EDGES.still("forget 0", 0);
        for (int k = 0; k <= 3; k++) EDGES.still("lay " + k + " 0 0", -11);
    }

    /** "A byte (0 to 127) comes behind THE TAPE: how many it has. BAD". */
    private static void p2FeedBytes() {
        EDGES.behind(Edges.BUSY);
        EDGES.bounds("feed .", 0, 127);
        EDGES.changes("feed 0", 22, "count 2 = 22");
        EDGES.changes("feed 127", 22, "count 2 = 22");
        EDGES.behind();
        for (int c = 0; c <= 127; c++) EDGES.answers("feed " + c, 1);
    }

    /** "THE TAPE has 160 bytes"; "FULL: more than 160"; BAD is answered first. */
    private static void p2FeedToTheEnd() {
        EDGES.behind("type " + Edges.blanks(159));
        EDGES.changes("feed 32", 160, "count 2 = 160");
        EDGES.behind("type phase 3;" + Edges.blanks(152));
        for (int c : new int[] {0, 32, 59, 127}) EDGES.still("feed " + c, FULL);
        EDGES.bounds("feed .", 0, 127);
        EDGES.script("type " + Edges.blanks(160) + " = 160", "feed 64 = -3", "end 159 = 160", "feed 32 = 160",
            "feed 64 = -3", "text = 0", "feed 32 = 1");
        EDGES.script("type " + Edges.blanks(160) + " = 160", "feed 64 = -3", "end 0 = 160", "feed 64 = 1");
    }

    /** "THE TAPE keeps its first n bytes: how many it had. BAD (n above that, too)". */
    private static void p3End() {
        EDGES.behind(Edges.BUSY);
        EDGES.bounds("end .", 0, 21);
        EDGES.still("end 21", 21);
        EDGES.changes("end 20", 21, "count 2 = 20");
        EDGES.changes("end 1", 21, "count 2 = 1");
        EDGES.changes("end 0", 21, "count 2 = 0");
        EDGES.behind();
        EDGES.bounds("end .", 0, 0);
        EDGES.still("end 0", 0);
        EDGES.behind("type " + Edges.blanks(160));
        EDGES.bounds("end .", 0, 160);
        EDGES.still("end 160", 160);
        EDGES.changes("end 159", 160, "count 2 = 159");
        EDGES.changes("end 0", 160, "count 2 = 0");
        EDGES.script("type abc = 3", "end 2 = 3", "end 3 = -1", "end 2 = 2", "end 1 = 2", "end 2 = -1", "end 0 = 1",
            "end 1 = -1", "end 0 = 0");
    }

    private static void p3EndKeepsTheFirst() {
        EDGES.script("type phase 3;wind @ = 14", "end 8 = 14", "text = 1", "rule 2 = 3");
        EDGES.script("type phase 3;wind @ = 14", "end 9 = 14", "text = -18", "fault = 2");
        EDGES.script("type phase 3;wind @ = 14", "end 13 = 14", "text = -23", "fault = 2");
        EDGES.script("type phase 3;wind @ = 14", "end 14 = 14", "text = -23", "fault = 1");
        EDGES.script("type phase 33; = 9", "end 7 = 9", "text = -17", "fault = 2");
        EDGES.script("type phase 3; = 8", "end 0 = 8", "text = 0", "rule 2 = 0");
        EDGES.script("type phase 3; = 8", "end 6 = 8", "type 4; = 8", "text = 1", "rule 2 = 4");
    }

    /** A TAPE that is empty, or full of blanks, has no lines, and "what no line tells is as at first". */
    private static void p4TextOfNothing() {
        for (int n : new int[] {0, 1, 160}) {
            String[] blank = Edges.and(Edges.BUSY, "end 0", "type " + Edges.blanks(n));
            EDGES.behind(blank);
            EDGES.answers("text", 0);
            toldAll(Sight.whole(Edges.and(blank, "text")), Sight.whole());
        }
        EDGES.script("type " + Edges.blanks(160) + " = 160", "text = 0", "fault = 0", "count 2 = 0");
    }

    /** What a text leaves is what a new object has, but for SHEETS and torn(). */
    private static void toldAll(Map<String, Long> got, Map<String, Long> want) {
        Map<String, Long> busy = Sight.whole(Edges.BUSY);
        for (Map.Entry<String, Long> one : got.entrySet()) {
            String name = one.getKey();
            Map<String, Long> from = name.matches("sheet .*|torn|count 3") ? busy : want;
            EDGES.holds(name + " = " + one.getValue() + " behind a text, due is " + from.get(name),
                one.getValue().equals(from.get(name)));
        }
        for (String name : want.keySet()) EDGES.holds(name + " is told", got.containsKey(name));
    }

    /** "A text that is taken tells all, in place of what there was"; "nothing is SEEN; IMAGES are gone; SHEETS stay". */
    private static void p4TextTellsAll() {
        for (String text : new String[] {Edges.CROWD, "heir 1 2 3 4;", "current 3 3;", "wind 9 4;", "phase 1;"}) {
            String[] calls = Edges.and(Edges.BUSY, "end 0", "tell " + text);
            toldAll(Sight.whole(calls), Sight.whole("tell " + text));
        }
    }

    /** "what no line tells is as at first": each ROW, each HOUR that the text before told, or a call. */
    private static void p4TextTellsNot() {
        for (int row = 0; row <= 9; row++) {
            EDGES.script("tell current " + row + " 4; = 1", "current " + row + " = 4", "tell phase 0; = 1",
                "current " + row + " = 2", "set " + row + " 0 = 2", "text = 0", "current " + row + " = 2");
        }
        for (int hour = 0; hour <= 23; hour++) {
            EDGES.script("tell wind " + hour + " 4; = 1", "wind " + hour + " = 4", "tell phase 0; = 1",
                "wind " + hour + " = 0", "blow " + hour + " 1 = 0", "text = 0", "wind " + hour + " = 0");
        }
        EDGES.script("tell phase 5; = 1", "rule 2 = 5", "text = 0", "rule 2 = 0", "tell " + Edges.CROWD + " = 8",
            "text = 0", "rule 0 = 0", "rule 1 = 0", "tub 0 0 = -1", "heir 0 0 = -1");
        // What a text told that failed is not told by the next one either.
        EDGES.script("tell wind 0 1;current 0 1;phase 5;tub 1 1 1 1;heir 1 1 1 1;@ = -64", "tell wind 1 1; = 1",
            "wind 0 = 0", "current 0 = 2", "rule 2 = 0", "rule 0 = 0", "rule 1 = 0");
    }

    /** "that which was told stays"; "THE TAPE (empty then, by a FAULT, too)"; and it is the FAULT of the latest. */
    private static void p4TextThatFails() {
        String[] faulty = {"@", "phase 4;x", "phase 6", "phase 4;phase 4;", Edges.CROWD + "heir"};
        int[] places = {0, 8, 6, 8, 98};
        for (int n = 0; n < faulty.length; n++) {
            EDGES.behind(Edges.and(Edges.BUSY, "end 0", "type " + faulty[n]));
            String[] changes = {"count 2 = 0", "fault = " + (n + 1)};
            // In BUSY it is 2 already.
            EDGES.changes("text", -10 - places[n], n == 1 ? Arrays.copyOf(changes, 1) : changes);
            String[] calls = Edges.and(Edges.BUSY, "end 0", "tell " + faulty[n]);
            String[] empty = Edges.and(Edges.BUSY, "end 0");
            List<String> day = Sight.changes(Sight.whole(empty), Sight.whole(calls));
            day.removeIf(change -> change.matches("fault = [1345]"));
            EDGES.holds("by a FAULT nothing else changes: " + day, day.isEmpty());
        }
    }

    /** "how many lines". */
    private static void p4Lines() {
        EDGES.script("tell phase 0; = 1", "tell phase 0;wind 0 0; = 2", "tell phase 0;wind 0 0;wind 1 0; = 3");
        StringBuilder most = new StringBuilder("phase0;");
        for (int hour = 0; hour <= 17; hour++) most.append("wind").append(hour).append(" 4;");
        most.append(' ');
        EDGES.script("type " + most + " = 160", "text = 19", "rule 4 = 18", "wind 17 = 4", "wind 18 = 0");
        EDGES.script("tell " + Edges.CROWD + " = 8", "rule 0 = 4", "rule 1 = 4");
    }

    /** "-10 less the place of its FAULT", "places from 0"; "the end: the length". */
    private static void p4Places() {
        faulty("@", 0, 1);
        faulty(Edges.blanks(159) + "@", 159, 1);
        faulty(Edges.blanks(158) + "@ ", 158, 1);
        faulty(Edges.blanks(159) + ";", 159, 2);
        faulty(Edges.blanks(159) + "z", 159, 2);
        faulty(Edges.blanks(159) + "0", 159, 2);
        faulty(Edges.blanks(157) + "000", 157, 1);
        faulty(Edges.blanks(155) + "phase", 160, 2);
        faulty("phase" + Edges.blanks(155), 160, 2);
        faulty("phase" + Edges.blanks(154) + "3", 160, 2);
        faulty("phase" + Edges.blanks(154) + "6", 159, 3);
        faulty("phase", 5, 2);
        faulty("phase ", 6, 2);
        EDGES.script("tell phase" + Edges.blanks(153) + "3; = 1", "rule 2 = 3");
    }

    private static void faulty(String text, int place, int fault) {
        EDGES.script("tell " + text + " = " + (-10 - place), "fault = " + fault, "count 2 = 0", "rule 2 = 0");
    }

    private static boolean isLetter(char c) {
        return c >= 'a' && c <= 'z';
    }

    private static boolean isFigure(char c) {
        return c >= '0' && c <= '9';
    }

    /** "NAMES (a .. z), NUMBERS (1 or 2 figures), the sign ; (every other byte is no TOKEN)". */
    private static void p4BytesAlone() {
        for (char c = 0; c <= 127; c++) {
            boolean token = isLetter(c) || isFigure(c) || c == ';';
            if (c == ' ') EDGES.script("tell   = 0", "fault = 0");
            else faulty("" + c, 0, token ? 2 : 1);
        }
    }

    private static void p4BytesBetween() {
        for (char c = 0; c <= 127; c++) {
            String inName = "pha" + c + "se 3;";
            String behindName = "phase" + c + "3;";
            String between = "wind 1" + c + "2;";
            String behind = "phase 0" + c + ";";
            if (c == ' ') {
                faulty(inName, 0, 2);
                EDGES.script("tell " + behindName + " = 1", "rule 2 = 3");
                EDGES.script("tell " + between + " = 1", "wind 1 = 2");
                EDGES.script("tell " + behind + " = 1", "fault = 0");
            } else if (isLetter(c)) {
                faulty(inName, 0, 2);
                faulty(behindName, 0, 2);
                faulty(between, 6, 2);
                faulty(behind, 7, 2);
            } else if (isFigure(c)) {
                faulty(inName, 0, 2);
                if (c == '0') EDGES.script("tell " + behindName + " = 1", "rule 2 = 3");
                else faulty(behindName, 5, 3);
                faulty(between, 5, 1);
                if (c <= '5') EDGES.script("tell " + behind + " = 1", "rule 2 = " + c);
                else faulty(behind, 6, 3);
            } else {
                faulty(inName, 0, 2);
                faulty(behindName, 5, c == ';' ? 2 : 1);
                faulty(between, 6, c == ';' ? 2 : 1);
                faulty(behind, c == ';' ? 8 : 7, c == ';' ? 2 : 1);
            }
        }
    }

    /** "any number of blanks (32) ahead of, between, behind them (one at least between two NAMES, ...; else none is needed)". */
    private static void p4Blanks() {
        EDGES.script("tell tub2 3 0 10;phase5;heir2 0 23 3;current3 4;wind4 1; = 5", "tub 0 4 = 10", "rule 2 = 5",
            "heir 0 3 = 3", "current 3 = 4", "wind 4 = 1");
        EDGES.script("tell   tub  2   3  0    10  ;  phase  5 ;  = 2", "tub 0 1 = 2", "tub 0 4 = 10", "rule 2 = 5");
        EDGES.script("tell " + Edges.blanks(152) + "phase 4; = 1", "rule 2 = 4");
        EDGES.script("tell phase 4" + Edges.blanks(152) + "; = 1", "rule 2 = 4");
        EDGES.script("tell phase 4;" + Edges.blanks(152) + " = 1", "rule 2 = 4");
        EDGES.script("tell wind 4" + Edges.blanks(151) + "1; = 1", "wind 4 = 1");
        faulty("wind 41;", 5, 3);
        faulty("wind 11;", 7, 2);
        faulty("tub 1 1 1;", 9, 2);
        faulty("windwind 1 1;", 0, 2);
        faulty("wind wind 1 1;", 5, 2);
        faulty("phase 1;phasewind 1 1;", 8, 2);
    }

    /** "each as long as may be"; "a NUMBER that is too long (its first byte)". */
    private static void p4Numbers() {
        EDGES.script("tell phase 0; = 1", "tell phase 00; = 1", "rule 2 = 0", "tell phase 05; = 1", "rule 2 = 5",
            "tell tub 09 09 23 99; = 1", "tub 0 1 = 9", "tub 0 2 = 9", "tub 0 3 = 23", "tub 0 4 = 99",
            "tell tub 00 01 00 01; = 1", "tub 0 1 = 0", "tub 0 2 = 1", "tub 0 3 = 0", "tub 0 4 = 1");
        faulty("phase 000;", 6, 1);
        faulty("phase 005;", 6, 1);
        faulty("phase 100;", 6, 1);
        faulty("phase 999;", 6, 1);
        faulty("phase " + "0".repeat(154), 6, 1);
        faulty("0".repeat(160), 0, 1);
        faulty("000", 0, 1);
        faulty("00", 0, 2);
        faulty("phase 000", 6, 1);
        faulty("phase 00", 8, 2);
    }

    /** "a NAME that begins no line": each name of a line cut, made longer, another sign at either end. */
    private static void p4Names() {
        for (Line line : LINES) {
            String name = line.name;
            String rest = lineOf(line).substring(name.length());
            EDGES.script("tell " + name + rest + " = 1");
            faulty(name + name + rest, 0, 2);
            faulty(name.substring(0, name.length() - 1) + rest, 0, 2);
            faulty(name.substring(1) + rest, 0, 2);
            for (char c : new char[] {'a', 's', 'z'}) {
                faulty(name + c + rest, 0, 2);
                faulty(c + name + rest, 0, 2);
                faulty(c + name.substring(1) + rest, 0, 2);
                faulty(name.substring(0, name.length() - 1) + c + rest, 0, 2);
            }
            faulty(Character.toUpperCase(name.charAt(0)) + name.substring(1) + rest, 0, 1);
            faulty(name.substring(0, 1) + "E" + rest, 0, 2);
        }
        faulty("z".repeat(160), 0, 2);
    }

    /** A line whose numbers are all in between. */
    private static String lineOf(Line line) {
        return String.join(" ", tokensOf(line));
    }

    private static String[] tokensOf(Line line) {
        String[] tokens = new String[line.bounds.length + 2];
        tokens[0] = line.name;
        for (int n = 0; n < line.bounds.length; n++) tokens[n + 1] = "" + line.bounds[n][2];
        tokens[tokens.length - 1] = ";";
        return tokens;
    }

    /** "the first met as it is read (a TOKEN is read when the one before has been taken)". */
    private static void p5FaultsInOrder() {
        faulty("boat @", 0, 2);
        faulty("boat 123", 0, 2);
        faulty("phase 6@", 6, 3);
        faulty("phase 6 123", 6, 3);
        faulty("phase 6 phase 5", 6, 3);
        faulty("phase 5 @ phase", 8, 1);
        faulty("phase 5 phase @", 8, 2);
        faulty("phase 5 123;", 8, 1);
        faulty("phase @;boat", 6, 1);
        faulty("phase 123 @", 6, 1);
        faulty("tub 1 1 1 1 1 @", 12, 2);
        faulty("tub 1 1 1 1@1", 11, 1);
        faulty("tub 10 0 24 0;", 4, 3);
        faulty("tub 9 0 24 0;", 6, 3);
        faulty("tub 9 9 24 0;", 8, 3);
        faulty("phase 1;phase 123", 8, 4);
        faulty("phase 1;phase 9", 8, 4);
        faulty("phase 1;phase", 8, 4);
        faulty("current 1 2;current 1", 20, 4);
        faulty("current 1 2;current 1 5", 20, 4);
        faulty("current 1 2;current 1 123", 20, 4);
        faulty("wind 1 2;wind 1 @", 14, 4);
        faulty("wind 1 2;wind 1 5", 14, 4);
        faulty("wind 1 5;wind 1 2", 7, 3);
        faulty("tub1 1 1 1;tub1 1 1 1;tub1 1 1 1;tub1 1 1 1;tub 10", 44, 5);
        faulty("tub1 1 1 1;tub1 1 1 1;tub1 1 1 1;tub1 1 1 1;tub 123", 44, 5);
        faulty("tub1 1 1 1;tub1 1 1 1;tub1 1 1 1;tub1 1 1 1;tub", 44, 5);
        faulty("tub1 1 1 1;tub1 1 1 1;tub1 1 1 1;tub1 1 1 0;tub", 42, 3);
        faulty("phase 1;tub1 1 1 1;tub1 1 1 1;tub1 1 1 1;tub1 1 1 1;phase 1;tub", 52, 4);
        faulty("tub1 1 1 1;tub1 1 1 1;tub1 1 1 1;tub1 1 1 1;tub1 1 1 1;@", 44, 5);
    }

    /** "a TOKEN that can not stand there": each other sort at each place of each line, and the end there. */
    private static void p5FaultTwo() {
        for (Line line : LINES) {
            String[] tokens = tokensOf(line);
            for (int at = 0; at < tokens.length; at++) {
                String before = String.join(" ", Arrays.copyOf(tokens, at)) + " ";
                boolean first = at == 0;
                boolean last = at == tokens.length - 1;
                int place = before.length();
                if (!last) faulty(before + "; @", place, 2);
                if (!first) faulty(before + "tub @", place, 2);
                faulty(before + "boat @", place, 2);
                if (first || last) faulty(before + "5 @", place, 2);
                faulty(before + "@ @", place, 1);
                faulty(before + "123 @", place, 1);
                if (!first) faulty(before, place, 2);
            }
            EDGES.script("tell " + String.join(" ", tokens) + " = 1");
        }
    }

    /** "a NUMBER out of its bounds": each NUMBER of each line at both bounds and just outside. */
    private static void p5FaultThree() {
        for (Line line : LINES) {
            for (int n = 0; n < line.bounds.length; n++) {
                String[] tokens = tokensOf(line);
                String before = String.join(" ", Arrays.copyOf(tokens, n + 1)) + " ";
                String behind = " " + String.join(" ", Arrays.copyOfRange(tokens, n + 2, tokens.length));
                int least = line.bounds[n][0];
                int most = line.bounds[n][1];
                for (int v : new int[] {least, most}) EDGES.script("tell " + before + v + behind + " = 1", "fault = 0");
                if (least > 0) faulty(before + (least - 1) + behind, before.length(), 3);
                boolean from = line.name.equals("heir") && n == 1;
                if (from) faulty(before + (most + 1) + behind, before.length() + 2, 3);
                else if (most < 99) faulty(before + (most + 1) + behind, before.length(), 3);
                if (most < 99) faulty(before + 99 + behind, before.length(), 3);
                if (most == 99) faulty(before + 100 + behind, before.length(), 1);
            }
        }
    }

    /** "UNTIL an HOUR (that one, too; no less than FROM)". */
    private static void p5FaultThreeOfUntil() {
        faulty("heir 1 24 24 1;", 7, 3);
        faulty("heir 1 23 22 1;", 10, 3);
        faulty("heir 1 1 0 1;", 9, 3);
        faulty("heir 1 23 0 1;", 10, 3);
        EDGES.script("tell heir 1 23 23 1;heir 1 0 0 1;heir 1 0 23 1;heir 1 22 23 1; = 4", "heir 0 1 = 23",
            "heir 0 2 = 23", "heir 1 2 = 0", "heir 2 2 = 23", "heir 3 1 = 22", "heir 3 2 = 23");
        // The FROM of the heir before is no bound.
        EDGES.script("tell heir 1 9 9 1;heir 1 0 8 1; = 2", "heir 1 2 = 8");
    }

    /** "phase for the second time (its NAME); a ROW whose CURRENT, an HOUR whose WIND is told already (it)". */
    private static void p5FaultFour() {
        faulty("phase 0;phase 0;", 8, 4);
        faulty("phase 1; heir 1 1 1 1; phase 2;", 23, 4);
        faulty("current 1 2;wind 1 0;current 1 2;", 29, 4);
        faulty("current 1 2; current  01 2;", 22, 4);
        faulty("wind 01 0;wind 1 0;", 15, 4);
        EDGES.script("tell current 1 2;wind 1 2;current 2 2;wind 2 2; = 4");
        EDGES.script("tell current 0 1;wind 0 1;phase 1; = 3", "tell current 0 2;wind 0 2;phase 2; = 3",
            "current 0 = 2", "wind 0 = 2", "rule 2 = 2");
        // What a text told that failed is not told already.
        EDGES.script("tell current 0 1;wind 0 1;phase 1;@ = -39", "tell current 0 2;wind 0 2;phase 2; = 3");
        // What was set by calls is not told.
        EDGES.script("set 0 1 = 2", "blow 0 1 = 0", "phase 1 = 0", "tell current 0 2;wind 0 2;phase 2; = 3");
    }

    private static void p5FaultFourOfEach() {
        for (int row = 0; row <= 9; row++) {
            String line = "current " + row + " " + row % 5 + ";";
            faulty(line + line, line.length() + 8, 4);
            EDGES.script("tell " + line + "current " + (row + 1) % 10 + " 1; = 2", "current " + row + " = " + row % 5);
        }
        for (int hour = 0; hour <= 23; hour++) {
            String line = "wind " + hour + " " + hour % 5 + ";";
            faulty(line + line, line.length() + 5, 4);
            EDGES.script("tell " + line + "wind " + (hour + 1) % 24 + " 1; = 2", "wind " + hour + " = " + hour % 5);
        }
        EDGES.script("tell current0 0;current1 1;current2 2;current3 3;current4 4;current5 0;current6 1;current7 3;"
            + "current8 3;current9 4; = 10", "current 0 = 0", "current 9 = 4", "count 5 = 9");
    }

    /** "the 5th TUB, the 5th heir (its NAME)". */
    private static void p5FaultFive() {
        String tubs = "tub1 1 1 1;bottle1 1 1 1;piano1 1 1 1;coop1 1 1 1;";
        String heirs = "heir1 1 1 1;heir1 1 1 1;heir1 1 1 1;heir1 1 1 1;";
        EDGES.script("tell " + tubs + " = 4", "rule 0 = 4", "tell " + heirs + " = 4", "rule 1 = 4", "rule 0 = 0");
        EDGES.script("tell " + tubs + heirs + "phase 5; = 9", "rule 0 = 4", "rule 1 = 4", "rule 2 = 5");
        for (String name : new String[] {"tub", "bottle", "piano", "coop"}) {
            faulty(tubs + name + "1 1 1 1;", tubs.length(), 5);
            faulty(tubs + heirs + " " + name + "1 1 1 1;", tubs.length() + heirs.length() + 1, 5);
        }
        faulty(heirs + "heir1 1 1 1;", heirs.length(), 5);
        faulty(tubs + heirs + "heir1 1 1 1;", tubs.length() + heirs.length(), 5);
        // Those that there were are no bound: all is told anew.
        EDGES.script("tell " + tubs + heirs + " = 8", "tell " + heirs + tubs + " = 8", "cast 1 1 1 = -3",
            "tell " + tubs + "@ = " + (-10 - tubs.length()), "tell " + tubs + " = 4");
    }

    /** "The FAULT of the latest text(); 0." */
    private static void p5FaultIsTheLatest() {
        EDGES.script("fault = 0", "tell phase 0;phase @ = -18", "fault = 4", "feed 64 = 1", "fault = 4", "end 0 = 1",
            "fault = 4", "read 0 0 0 1 = 0", "fault = 4", "cast 0 0 0 = -1", "fault = 4", "tell phase 9 = -16",
            "fault = 3", "text = 0", "fault = 0", "tell @ = -10", "fault = 1", "fault = 1", "tell x = -10", "fault = 2",
            "tell phase 1; = 1", "fault = 0");
        EDGES.behind(Edges.BUSY);
        EDGES.still("fault", 2);
    }

    /** "0 TUBS, 1 HEIRS, 2 PHASE, 3 ESTATES of all, 4 HOURS with a WIND (how many). BAD." */
    private static void p6Rule() {
        EDGES.behind(Edges.BUSY);
        EDGES.bounds("rule .", 0, 4);
        int[] want = {2, 2, 5, 51, 2};
        for (int what = 0; what <= 4; what++) EDGES.still("rule " + what, want[what]);
        EDGES.script("tell tub 1 1 1 99;tub 1 1 1 99;tub 1 1 1 99;tub 1 1 1 99; = 4", "rule 3 = 396", "sink 1 = 4",
            "rule 3 = 99", "rule 0 = 1", "sink 0 = 1", "rule 3 = 0", "rule 0 = 0");
        Play windy = new Play();
        for (int hour = 0; hour <= 23; hour++) {
            EDGES.holds("HOURS with a WIND", windy.answer("rule 4") == hour);
            windy.answer("blow " + hour + " " + (1 + hour % 4));
        }
        EDGES.holds("24 HOURS with a WIND", windy.answer("rule 4") == 24);
    }

    /** "Of a TUB: 0 KIND, 1 X, 2 Y, 3 HOUR, 4 ESTATE, 5 WINDAGE. BAD": no TUBS, 4, and those between. */
    private static void p7Tub() {
        EDGES.behind();
        EDGES.still("tub 0 0", BAD);
        EDGES.behind(Edges.BUSY);
        EDGES.bounds("tub . 0", 0, 1);
        EDGES.bounds("tub 1 .", 0, 5);
        EDGES.behind("tell " + Edges.CROWD);
        EDGES.bounds("tub . 5", 0, 3);
        int[] windage = {1, 0, 2, 3};
        for (int t = 0; t <= 3; t++) {
            EDGES.still("tub " + t + " 0", t);
            for (int what = 1; what <= 4; what++) EDGES.still("tub " + t + " " + what, t + what);
            EDGES.still("tub " + t + " 5", windage[t]);
        }
        EDGES.script("tell tub 0 1 0 1;tub 9 9 23 99; = 2", "tub 0 1 = 0", "tub 0 2 = 1", "tub 0 3 = 0", "tub 0 4 = 1",
            "tub 1 1 = 9", "tub 1 2 = 9", "tub 1 3 = 23", "tub 1 4 = 99");
        // Both where it is put in, not where it has come to.
        EDGES.script("tell tub 3 3 3 1; = 1", "fate 0 0 = 2", "tub 0 1 = 3", "tub 0 2 = 3");
    }

    /** "Of an HEIR: 0 PLACE, 1 FROM, 2 UNTIL, 3 HOOK. BAD": no HEIRS, 4, and those between. */
    private static void p8Heir() {
        EDGES.behind();
        EDGES.still("heir 0 0", BAD);
        EDGES.behind(Edges.BUSY);
        EDGES.bounds("heir . 0", 0, 1);
        EDGES.bounds("heir 1 .", 0, 3);
        EDGES.behind("tell " + Edges.CROWD);
        EDGES.bounds("heir . 3", 0, 3);
        for (int i = 0; i <= 3; i++) {
            for (int what = 0; what <= 3; what++) EDGES.still("heir " + i + " " + what, i + what + 1);
        }
        EDGES.script("tell heir 0 0 0 0;heir 9 23 23 9; = 2", "heir 0 0 = 0", "heir 0 1 = 0", "heir 0 2 = 0",
            "heir 0 3 = 0", "heir 1 0 = 9", "heir 1 1 = 23", "heir 1 2 = 23", "heir 1 3 = 9");
    }

    private static void p9Current() {
        EDGES.behind(Edges.BUSY);
        EDGES.bounds("current .", 0, 9);
        int[] want = {0, 2, 2, 2, 2, 2, 2, 2, 2, 4};
        for (int row = 0; row <= 9; row++) EDGES.still("current " + row, want[row]);
    }

    private static void p10Wind() {
        EDGES.behind(Edges.BUSY);
        EDGES.bounds("wind .", 0, 23);
        for (int hour = 0; hour <= 23; hour++) EDGES.still("wind " + hour, hour == 4 ? 1 : hour == 23 ? 4 : 0);
    }
}
