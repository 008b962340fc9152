/** The boundary cases of promises 12 to 14: append, read and faultPosition. */
public final class EdgesOfTextsTest {
    /** 59 characters and 12 entries, as many as there may be. */
    private static final String TWELVE = "t0=1;t1=2;t2=3;t3=4;t4=5;t5=6;t6=7;t7=8;t8=9;w0=1;w1=2;w2=3";

    private EdgesOfTextsTest() {
    }

    public static void main(String[] args) {
        skippedBytes();
        leastAndGreatestSign();
        sixtySigns();
        badSignsFirst();
        textIsEmptyAfterwards();
        noneIsMade();
        inTheirOrder();
        numberOfEntries();
        faultsFirst();
        refusedEntries();
        mostRecentText();
        noFaultPosition();
        oneOrMoreEntries();
        digits();
        minus();
        numbersOfAnEntry();
        tooEarly();
        entriesBefore();
        refusedAsTheCall();
        smallChanges();
        Check.finish();
    }

    private static void read(String text, int answer, int faultPosition) {
        Run run = Run.easy().call("addCrossing", 0, 0, 0, 5).text(text);
        Check.due("read() of " + text, answer, run.ask("read"));
        Check.due("faultPosition() of " + text, faultPosition, run.ask("faultPosition"));
        run.due(0, "count", 5);
    }

    private static void good(String text, int entries) {
        read(text, entries, Check.NONE);
    }

    private static void fault(String text, int position) {
        read(text, Check.BAD, position);
    }

    private static void refused(String text, int position) {
        Run.rich().call("read").text(text).refusedRead(Check.STATE, position);
    }

    /** All ways to put the signs of a text into one int each, with bytes that are 0 in every place. */
    private static void skippedBytes() {
        Check.sentence("Promise 12", "Appends up to four characters to the text: the bytes of an int from the most significant one "
                + "to the least significant one, where bytes that are 0 are skipped.");
        String text = "t1=23;w4=56;t2=-7";
        for (int filled = 1; filled < 16; filled++) {
            Run run = new Run();
            for (int at = 0; at < text.length();) {
                int packed = 0;
                for (int bit = 3; bit >= 0; bit--) {
                    boolean isFilled = (filled >> bit & 1) == 1 && at < text.length();
                    packed = packed << 8 | (isFilled ? text.charAt(at) : 0);
                    at += isFilled ? 1 : 0;
                }
                run.due(at, "append", packed);
            }
            run.due(3, "read").due(23, "tide", 1).due(56, "wind", 4).due(-7, "tide", 2);
        }
        new Run().due(0, "append", 0).due(0, "count", 5).due(Check.BAD, "read");
        Run.rich().due(4, "append", 0).due(1, "read").due(7, "tide", 5);
    }

    private static void leastAndGreatestSign() {
        Check.sentence("Promise 12", "BAD_VALUE if a byte that is not 0 is not from 33 to 126");
        for (int shift = 0; shift <= 24; shift += 8) {
            for (int good : new int[] {33, 34, 125, 126}) {
                Run.rich().due(5, "append", good << shift).due(5, "count", 5);
            }
            for (int bad : new int[] {1, 31, 32, 127, 128, 254, 255}) {
                Run.rich().refused(Check.BAD, "append", bad << shift);
                int others = 0x61626364 & ~(255 << shift);
                Run.rich().refused(Check.BAD, "append", others | bad << shift);
            }
        }
        Run.rich().refused(Check.BAD, "append", -1).refused(Check.BAD, "append", Integer.MIN_VALUE)
                .refused(Check.BAD, "append", Integer.MAX_VALUE);
        Run.rich().due(8, "append", 0x21212121).due(12, "append", 0x7e7e7e7e);
    }

    private static Run withSigns(int signs) {
        Run run = new Run();
        for (int i = 0; i < signs; i++) {
            run.due(i + 1, "append", 'a' + i % 26);
        }
        return run;
    }

    private static void sixtySigns() {
        Check.sentence("Promise 12", "FULL if it would have more than 60 characters.");
        for (int signs = 54; signs <= 60; signs++) {
            int[] packs = {0, 'a', 'a' << 24 | 'b', 'a' << 16 | 'b' << 8 | 'c', 0x61626364};
            for (int added = 0; added <= 4; added++) {
                if (signs + added <= 60) {
                    withSigns(signs).due(signs + added, "append", packs[added]).due(signs + added, "count", 5);
                } else {
                    withSigns(signs).refused(Check.FULL, "append", packs[added]).due(signs, "count", 5);
                }
            }
        }
        // the first signs of a pack that is refused are not appended either
        Run run = new Run().text(TWELVE).refused(Check.FULL, "append", '1' << 24 | '2').due(60, "append", '4');
        run.refused(Check.FULL, "append", '5').due(60, "append", 0).due(12, "read").due(34, "wind", 2).due(4, "append", 0x61626364);
    }

    private static void badSignsFirst() {
        Check.sentence("Promise 12", "(checked first)");
        withSigns(60).refused(Check.BAD, "append", 32).refused(Check.BAD, "append", 'a' << 8 | 127)
                .refused(Check.BAD, "append", 'a' << 24 | 200);
        withSigns(57).refused(Check.BAD, "append", 0x61626320).refused(Check.FULL, "append", 0x61626364).due(60, "append", 0x616263);
    }

    private static void textIsEmptyAfterwards() {
        Check.sentence("Promise 13", "The text is empty afterwards in any case.");
        Run run = new Run().text(TWELVE).due(12, "read").due(0, "count", 5);
        run.text(TWELVE + ";").due(60, "count", 5).due(Check.BAD, "read").due(0, "count", 5);
        run.text("t49=1").due(Check.STATE, "read").due(0, "count", 5);
        run.due(Check.BAD, "read").due(0, "count", 5);
        // nothing of an earlier text comes back
        run.text("t3=9").due(1, "read").due(9, "tide", 3).text("t").due(Check.BAD, "read").due(1, "faultPosition");
        run.text(TWELVE + "4").due(60, "count", 5).due(12, "read").due(34, "wind", 2);
    }

    private static void noneIsMade() {
        Check.sentence("Promise 13", "If an entry is refused, none of them is made.");
        refused("t49=1", 0);
        refused("t5=1;t49=1", 5);
        refused("t49=1;t5=1", 0);
        refused("t5=1;w5=2;c0,0,900,950;v4,3,0;w5=100", 30);
        refused("c0,0,900,950;c1,1,900,950;v4,3,0;v5,4,1;v6,5,2", 40);
        refused("t5=1;t5=2;t5=3;t5=1000;t5=4", 15);
        refused("t0=1;t1=2;t2=3;t3=4;t4=5;t5=6;t6=7;t7=8;t8=9;w0=1;w1=2;w48=3", 55);
    }

    private static void inTheirOrder() {
        Check.sentence("Promise 13", "Reads the text as entries and makes them in their order.");
        new Run().text("t5=1;t5=2;t5=3").due(3, "read").due(3, "tide", 5);
        Run run = Run.rich().call("read").text("c0,0,900,950;v4,3,0;c1,1,900,960;v5,4,1;v4,5,2").due(5, "read");
        run.due(0, "crossing", 4, 0).due(1, "crossing", 5, 0).due(4, "vehicle", 7, 0).due(5, "vehicle", 8, 0).due(5, "vehicle", 9, 1);
        Run first = new Run().text("w0=1").due(1, "read").due(1, "wind", 0);
        // what no entry names stays
        first.text("t1=1;w1=1;t47=7").due(3, "read").due(1, "wind", 0).due(0, "tide", 0).due(50, "count", 6).call("setTide", 0, 8);
        first.text("w1=2").due(1, "read").due(8, "tide", 0).due(1, "wind", 0).due(7, "tide", 47);
        first.text("t0=1;t1=2;t2=3;t3=4;t4=5;t5=6;t6=7;t7=8;t8=9;w0=2;w0=3;w0=4").due(12, "read").due(4, "wind", 0).due(9, "tide", 8);
    }

    private static void numberOfEntries() {
        Check.sentence("Promise 13", "Returns the number of entries");
        good("t0=1", 1);
        good("t0=1;w0=1", 2);
        good(TWELVE.substring(0, TWELVE.length() - 5), 11);
        good(TWELVE, 12);
        good(TWELVE + "0", 12);
        fault(TWELVE + ";", 60);
        good("c0,0,0900,1000;c0,0,0900,1000;c0,0,0900,1000;c0,0,1900,2000", 4);
    }

    private static void faultsFirst() {
        Check.sentence("Promise 13", "BAD_VALUE if the text has a fault, as an empty one has (checked first)");
        Run.rich().text("x").refusedRead(Check.BAD, 4);
        Run.rich().call("read").refusedRead(Check.BAD, 0);
        new Run().refusedRead(Check.BAD, 0);
        // the refused entry stands before the fault, and the fault counts
        Run.rich().text(";t49=1;").refusedRead(Check.BAD, 11);
        Run.rich().text(";t49=1;w").refusedRead(Check.BAD, 12);
        Run.rich().text(";t5=1000x").refusedRead(Check.BAD, 12);
        Run.rich().text(";t5=8;t6=9:").refusedRead(Check.BAD, 14);
    }

    private static void refusedEntries() {
        Check.sentence("Promise 13", "STATE if an entry is refused.");
        Run.rich().text(";t5=8;w47=99;w48=0").refusedRead(Check.STATE, 17);
        Run.rich().text(";t5=8;w47=99;w48=0").due(Check.STATE, "read").due(0, "tide", 5).due(0, "wind", 47);
        Run.rich().text(";t5=8;w47=99;w46=0").due(4, "read").due(8, "tide", 5).due(99, "wind", 47);
    }

    private static void mostRecentText() {
        Check.sentence("Promise 14", "Returns the fault position of the text that was read most recently, or the index of the first "
                + "character of the first entry that was refused.");
        Run run = new Run().text("t3=x").due(Check.NONE, "faultPosition").due(Check.BAD, "read").due(3, "faultPosition");
        run.text("t1=1;w48=1;t49=1").due(3, "faultPosition").due(Check.STATE, "read").due(5, "faultPosition");
        run.text("t49=1").due(Check.STATE, "read").due(0, "faultPosition");
        run.text(TWELVE + "x").due(Check.BAD, "read").due(59, "faultPosition");
        run.text(TWELVE + ";").due(Check.BAD, "read").due(60, "faultPosition");
        run.due(Check.BAD, "read").due(0, "faultPosition");
        run.text("t1=1").due(1, "read").due(Check.NONE, "faultPosition");
        run.text("t1").due(Check.BAD, "read").due(2, "faultPosition").due(0, "undo").due(2, "faultPosition");
        run.call("save").call("restore").call("setTide", 0, 1).text("t2=2").due(2, "faultPosition");
    }

    private static void noFaultPosition() {
        Check.sentence("Promise 14", "NONE if that text had no fault and no entry was refused, or none was read.");
        new Run().due(Check.NONE, "faultPosition").text("x").due(Check.NONE, "faultPosition");
        Run.rich().due(3, "faultPosition").due(1, "read").due(Check.NONE, "faultPosition").due(5, "undo").due(Check.NONE, "faultPosition");
        // an append that is refused is no text that is read
        withSigns(60).call("append", 'x').call("append", 32).due(Check.NONE, "faultPosition");
    }

    private static void oneOrMoreEntries() {
        Check.sentence("Texts", "A text consists of one or more entries with a \";\" between two of them");
        fault("", 0);
        good("t1=2", 1);
        good("t1=2;t1=3", 2);
        fault(";", 0);
        fault(";t1=2", 0);
        fault("t1=2;", 5);
        fault("t1=2;;", 5);
        fault("t1=2;;t1=3", 5);
        fault("t1=2t1=3", 4);
        fault("t1=2,t1=3", 4);
        Check.sentence("Texts", "c ship,berth,arrival,departure adds a crossing");
        good("c0,0,7,9", 1);
        fault("C0,0,7,9", 0);
        Check.sentence("Texts", "v crossing,length,port adds a vehicle");
        good("v0,3,0", 1);
        fault("V0,3,0", 0);
        Check.sentence("Texts", "w hour=wind sets the wind at an hour.");
        good("w47=99", 1);
        fault("w47,99", 3);
        for (char sign = 33; sign <= 126; sign++) {
            if ("cvtw".indexOf(sign) < 0) {
                fault(sign + "0=1", 0);
                fault("t0=1;" + sign + "0=1", 5);
            } else {
                fault("" + sign, 1);
                fault("t0=1;" + sign, 6);
            }
        }
    }

    private static void digits() {
        Check.sentence("Texts", "All numbers have 1 to 4 digits, also with zeros at the front, and there are no blanks");
        String[] kinds = {"c#,0,7,9", "c0,#,7,9", "c0,0,#,9", "c0,0,7,#", "v#,3,0", "v0,#,0", "v0,3,#", "t#=5", "t5=#", "t5=-#", "w#=5", "w5=#"};
        int[] goodNumbers = {0, 0, 7, 9, 0, 3, 0, 5, 5, 5, 5, 5};
        for (int i = 0; i < kinds.length; i++) {
            int at = kinds[i].indexOf('#');
            boolean isLast = at == kinds[i].length() - 1;
            for (String zeros : new String[] {"", "0", "00", "000"}) {
                good(kinds[i].replace("#", zeros + goodNumbers[i]), 1);
            }
            fault(kinds[i].replace("#", "0000" + goodNumbers[i]), at + 4);
            fault(kinds[i].replace("#", ""), at);
            fault(kinds[i].replace("#", "+1"), at);
            fault(kinds[i].replace("#", "1_"), at + 1);
            fault(kinds[i].replace("#", "1/"), at + 1);
            fault(kinds[i].replace("#", "1:"), at + 1);
            fault(kinds[i].substring(0, at) + "1234" + (isLast ? "5" : ""), at + 4);
        }
        Run.rich().call("read").refused(Check.BAD, "append", Check.packed("t1 ="));
        Run run = new Run().text("t0007=0040;w0007=0009;t8=-0040").due(3, "read");
        run.due(40, "tide", 7).due(9, "wind", 7).due(-40, "tide", 8);
        // four digits may be read and are then refused by the call
        refused("t9999=9999", 0);
        refused("w9999=9999", 0);
        refused("c9999,9999,9999,9999", 0);
        refused("v9999,9999,9999", 0);
        refused("t0=-9999", 0);
    }

    private static void minus() {
        Check.sentence("Texts", "the height can begin with \"-\"");
        good("t3=-0", 1);
        good("t3=-999", 1);
        refused("t3=-1000", 0);
        good("t3=999", 1);
        refused("t3=1000", 0);
        new Run().text("t3=-999;t4=999;t5=-0").due(3, "read").due(-999, "tide", 3).due(999, "tide", 4).due(0, "tide", 5);
        fault("t3=-", 4);
        fault("t3=--1", 4);
        fault("t3=1-", 4);
        fault("t3=-;", 4);
        fault("t-3=1", 1);
        fault("w3=-1", 3);
        fault("w-3=1", 1);
        fault("c-0,0,7,9", 1);
        fault("c0,-0,7,9", 3);
        fault("c0,0,-7,9", 5);
        fault("c0,0,7,-9", 7);
        fault("v-0,3,0", 1);
        fault("v0,-3,0", 3);
        fault("v0,3,-0", 5);
    }

    private static void numbersOfAnEntry() {
        Check.sentence("Texts", "c ship,berth,arrival,departure");
        fault("c0,0,7", 6);
        fault("c0,0,7;", 6);
        fault("c0,0,7,9,", 8);
        fault("c0,0,7,9,1", 8);
        fault("c0=0,7,9", 2);
        Check.sentence("Texts", "v crossing,length,port");
        fault("v0,3", 4);
        fault("v0,3;", 4);
        fault("v0,3,0,", 6);
        fault("v0=3,0", 2);
        Check.sentence("Texts", "t hour=height");
        fault("t3", 2);
        fault("t3;", 2);
        fault("t3,1", 2);
        fault("t3=1=", 4);
        fault("t3=1,1", 4);
        Check.sentence("Texts", "w hour=wind");
        fault("w3", 2);
        fault("w3;", 2);
        fault("w3,1", 2);
        fault("w3=1=1", 4);
    }

    /** Every start of a text that is good as a whole. */
    private static void tooEarly() {
        Check.sentence("Texts", "The fault position of a text is the index of the first character that cannot continue a text, "
                + "or the length of the text if it ends too early.");
        String text = "c0,0,60,120;v0,12,3;t3=-40;w12=34";
        for (int length = 0; length <= text.length(); length++) {
            String start = text.substring(0, length);
            switch (length) {
                // a departure of 1 or 12 is before the arrival
                case 9, 10 -> refused(start, 0);
                case 11 -> good(start, 1);
                case 19 -> good(start, 2);
                case 25, 26 -> good(start, 3);
                case 32, 33 -> good(start, 4);
                default -> fault(start, length);
            }
            fault(start + "x", length);
        }
    }

    private static void entriesBefore() {
        Check.sentence("Texts", "An entry is refused if the call for it, made after the entries before it, would return an error code.");
        // crossing 4 is not there before
        refused("v4,3,0", 0);
        refused("v4,3,0;c0,0,900,950", 0);
        Run.rich().call("read").text("c0,0,900,950;v4,3,0").due(2, "read").due(4, "vehicle", 7, 0);
        refused("c0,0,900,950;v5,3,0", 13);
        Run eleven = Run.easy();
        for (int i = 0; i < 11; i++) {
            eleven.call("addCrossing", 0, 0, 10 * i, 10 * i + 10);
        }
        eleven.again().text("c0,0,900,950").due(1, "read").due(12, "count", 2);
        eleven.again().text("c0,0,900,950;c0,0,900,951").refusedRead(Check.STATE, 13);
        Run vehicles = Run.easy().call("addCrossing", 0, 0, 0, 10);
        for (int i = 0; i < 22; i++) {
            vehicles.call("addVehicle", 0, 3, 0);
        }
        vehicles.again().text("v0,3,0;v0,4,1").due(2, "read").due(24, "count", 3).due(4, "vehicle", 23, 1);
        vehicles.again().text("v0,3,0;v0,4,1;v0,5,2").refusedRead(Check.STATE, 14);
    }

    private static void refusedAsTheCall() {
        Check.sentence("Texts", "would return an error code");
        refused("c2,0,900,950", 0);
        refused("c0,2,900,950", 0);
        refused("c0,0,900,900", 0);
        refused("c0,0,900,899", 0);
        refused("c0,0,900,1201", 0);
        refused("c0,0,2501,2801", 0);
        refused("v0,2,0", 0);
        refused("v0,31,0", 0);
        refused("v0,3,6", 0);
        refused("t49=0", 0);
        refused("w48=0", 0);
        refused("w47=100", 0);
        Run full = Run.full().call("read");
        full.again().text("c0,0,900,950").refusedRead(Check.STATE, 0);
        full.again().text("v0,3,0").refusedRead(Check.STATE, 0);
        good("c0,0,0,1;c0,0,0,300;c0,0,2799,2800;c0,0,2500,2800", 4);
        good("v0,3,0;v0,30,5", 2);
        good("t0=0;t48=0;w0=0;w47=0", 4);
    }

    /** Each text that is one sign away from a good one, answered by FerryTimetable and by Oracle. */
    private static void smallChanges() {
        Check.sentence("Texts", "the index of the first character that cannot continue a text");
        String[] texts = {"c0,0,60,120;t3=-40", "v0,12,3", "t48=-999;w47=99", "w0012=0007;c0,0,0001,0002;v0,30,5"};
        String signs = "0159,;=-cvtwx";
        for (String text : texts) {
            for (int at = 0; at <= text.length(); at++) {
                String before = text.substring(0, at);
                for (int i = 0; i < signs.length(); i++) {
                    asOracle(before + signs.charAt(i) + text.substring(at));
                    asOracle(before + signs.charAt(i) + text.substring(Math.min(at + 1, text.length())));
                }
                asOracle(before + text.substring(Math.min(at + 1, text.length())));
                asOracle(before);
            }
        }
    }

    private static void asOracle(String text) {
        FerryTimetable x = new FerryTimetable();
        Oracle due = new Oracle();
        x.addShip(100, 2, 20, 50);
        due.addShip(100, 2, 20, 50);
        x.addBerth(300, 1);
        due.addBerth(300, 1);
        x.addCrossing(0, 0, 0, 5);
        due.addCrossing(0, 0, 0, 5);
        for (int i = 0; i < text.length(); i++) {
            x.append(text.charAt(i));
            due.append(text.charAt(i));
        }
        Check.due("read() of " + text, due.read(), x.read());
        Check.due("faultPosition() of " + text, due.faultPosition(), x.faultPosition());
        for (int what = 2; what <= 5; what++) {
            Check.due("count(" + what + ") of " + text, due.count(what), x.count(what));
        }
        Check.due("undo() of " + text, due.undo(), x.undo());
    }
}
