/** Promises 12 to 14: append, read and faultPosition. */
public final class TextTest {
    private TextTest() {
    }

    public static void main(String[] args) {
        append();
        readMakesEntries();
        faults();
        refusals();
        readIsOneChange();
        mostEntries();
        faultStays();
        Check.finish();
    }

    private static void append() {
        Check.part("Promise 12");
        FerryTimetable x = new FerryTimetable();
        Check.due("append(0)", 0, x.append(0));
        Check.due("append(\"c\")", 1, x.append('c'));
        Check.due("append of a sign in the highest byte", 2, x.append('0' << 24));
        Check.due("append of two signs with a gap", 4, x.append(',' << 16 | '0'));
        Check.due("append of the least sign, 33", 5, x.append(33));
        Check.due("append of the greatest sign, 126", 6, x.append(126 << 8));
        for (int bad : new int[] {1, 32, 127, 128, 255}) {
            for (int shift = 0; shift <= 24; shift += 8) {
                Check.due("append of " + bad + " << " + shift, Check.BAD, x.append(bad << shift));
            }
        }
        Check.due("append(-1)", Check.BAD, x.append(-1));
        Check.due("append of one bad sign among good ones", Check.BAD, x.append(Check.packed("ab d")));
        Check.due("count(5)", 6, x.count(5));
        for (int i = 0; i < 13; i++) {
            x.append(Check.packed("abcd"));
        }
        Check.due("count(5)", 58, x.count(5));
        Check.due("append of 3 to 58", Check.FULL, x.append(Check.packed("abc")));
        Check.due("append of 3 to 58, one bad", Check.BAD, x.append(Check.packed("a c") << 8));
        Check.due("append of 2 to 58", 60, x.append(Check.packed("ab") << 16));
        Check.due("append of 1 to 60", Check.FULL, x.append('a'));
        Check.due("append of none to 60", 60, x.append(0));
        Check.due("append of a bad one to 60", Check.BAD, x.append(32));
        Check.due("read()", Check.BAD, x.read());
        Check.due("faultPosition()", 4, x.faultPosition());
        Check.due("count(5)", 0, x.count(5));

        FerryTimetable order = new FerryTimetable();
        order.append('t' << 24 | '1' << 16 | '=' << 8 | '2');
        Check.due("read() of t1=2", 1, order.read());
        Check.due("tide(1), the highest byte comes first", 2, order.tide(1));
    }

    private static void readMakesEntries() {
        Check.part("Promise 13");
        FerryTimetable x = Check.easyPort();
        Check.append(x, "c0,0,60,120;v0,12,3;t48=-999;w47=99;t0=999;t1=-0");
        Check.due("read()", 6, x.read());
        Check.due("faultPosition()", Check.NONE, x.faultPosition());
        Check.due("count(5)", 0, x.count(5));
        Check.due("count(2)", 1, x.count(2));
        Check.due("crossing(0, 2)", 60, x.crossing(0, 2));
        Check.due("crossing(0, 3)", 120, x.crossing(0, 3));
        Check.due("vehicle(0, 0)", 0, x.vehicle(0, 0));
        Check.due("vehicle(0, 1)", 12, x.vehicle(0, 1));
        Check.due("vehicle(0, 2)", 3, x.vehicle(0, 2));
        Check.due("tide(48)", -999, x.tide(48));
        Check.due("tide(0)", 999, x.tide(0));
        Check.due("tide(1)", 0, x.tide(1));
        Check.due("wind(47)", 99, x.wind(47));
        Check.append(x, "c0000,0000,0007,0009;v0001,0004,0005;t0002=-0003;w0004=0005");
        Check.due("read() with zeros at the front", 4, x.read());
        Check.due("crossing(1, 2)", 7, x.crossing(1, 2));
        Check.due("crossing(1, 3)", 9, x.crossing(1, 3));
        Check.due("vehicle(1, 0)", 1, x.vehicle(1, 0));
        Check.due("vehicle(1, 1)", 4, x.vehicle(1, 1));
        Check.due("vehicle(1, 2)", 5, x.vehicle(1, 2));
        Check.due("tide(2)", -3, x.tide(2));
        Check.due("wind(4)", 5, x.wind(4));
        Check.append(x, "t5=1;t5=2;t5=3");
        Check.due("read()", 3, x.read());
        Check.due("tide(5), the last entry counts", 3, x.tide(5));

        FerryTimetable ships = Check.easyPort();
        ships.addShip(100, 1, 10, 10);
        ships.addBerth(1, 1);
        Check.append(ships, "c1,0,3,5;c0,1,4,6");
        Check.due("read()", 2, ships.read());
        Check.due("crossing(0, 0)", 1, ships.crossing(0, 0));
        Check.due("crossing(0, 1)", 0, ships.crossing(0, 1));
        Check.due("crossing(1, 0)", 0, ships.crossing(1, 0));
        Check.due("crossing(1, 1)", 1, ships.crossing(1, 1));
    }

    private static void faultAt(String text, int position) {
        FerryTimetable x = Check.easyPort();
        Check.append(x, text);
        Check.due("read() of " + text, Check.BAD, x.read());
        Check.due("faultPosition() of " + text, position, x.faultPosition());
        Check.due("count(5) after " + text, 0, x.count(5));
        Check.due("count(2) after " + text, 0, x.count(2));
        Check.due("tide(3) after " + text, 0, x.tide(3));
        Check.due("undo() after " + text, 1, x.undo());
    }

    private static void faults() {
        Check.part("Promises 13 and 14");
        faultAt("", 0);
        faultAt("x", 0);
        faultAt("0", 0);
        faultAt(";", 0);
        faultAt("C0,0,1,2", 0);
        faultAt("c", 1);
        faultAt("c,", 1);
        faultAt("cc", 1);
        faultAt("c-1,0,1,2", 1);
        faultAt("c0", 2);
        faultAt("c0=", 2);
        faultAt("c0;", 2);
        faultAt("c0,", 3);
        faultAt("c0,0", 4);
        faultAt("c0,0,60", 7);
        faultAt("c0,0,60,", 8);
        faultAt("c0,0,60,-1", 8);
        faultAt("c0,0,60,120,", 11);
        faultAt("c0,0,60,120x", 11);
        faultAt("c0,0,60,12000", 12);
        faultAt("c00000,0,60,120", 5);
        faultAt("c0,0,60,120;", 12);
        faultAt("c0,0,60,120;;", 12);
        faultAt("c0,0,60,120;x", 12);
        faultAt("v0,3", 4);
        faultAt("v0,3,0,1", 6);
        faultAt("v0,3=0", 4);
        faultAt("v0,3,-1", 5);
        faultAt("t3", 2);
        faultAt("t3,4", 2);
        faultAt("t3=", 3);
        faultAt("t3=-", 4);
        faultAt("t3=--4", 4);
        faultAt("t3=+4", 3);
        faultAt("t3=4-", 4);
        faultAt("t3=-40000", 8);
        faultAt("t-3=4", 1);
        faultAt("t3=4=5", 4);
        faultAt("t3=4,5", 4);
        faultAt("t=4", 1);
        faultAt("w4=;", 3);
        faultAt("w4=-1", 3);
        faultAt("w4", 2);
        faultAt("w4=12345", 7);
        faultAt("t3=4;w", 6);
        faultAt("t3=4;c9,9,9,9;y", 14);
    }

    /** The latest change before and after it is setMargin(50), so that undo can be looked at. */
    private static void refusedAt(FerryTimetable x, String text, int position) {
        int undoable = x.undo();
        x.setMargin(50);
        int crossings = x.count(2);
        int vehicles = x.count(3);
        int tide = x.tide(3);
        int wind = x.wind(3);
        Check.append(x, text);
        Check.due("read() of " + text, Check.STATE, x.read());
        Check.due("faultPosition() of " + text, position, x.faultPosition());
        Check.due("count(5) after " + text, 0, x.count(5));
        Check.due("count(2) after " + text, crossings, x.count(2));
        Check.due("count(3) after " + text, vehicles, x.count(3));
        Check.due("tide(3) after " + text, tide, x.tide(3));
        Check.due("wind(3) after " + text, wind, x.wind(3));
        Check.due("undo() after " + text, undoable, x.undo());
        x.setMargin(50);
    }

    private static void refusals() {
        Check.part("Promises 13 and 14, refused entries");
        FerryTimetable x = Check.easyPort();
        x.setTide(3, 17);
        x.setWind(3, 18);
        x.setMargin(50);
        refusedAt(x, "c1,0,60,120", 0);
        refusedAt(x, "c0,1,60,120", 0);
        refusedAt(x, "c0,0,60,60", 0);
        refusedAt(x, "c0,0,60,361", 0);
        refusedAt(x, "c0,0,2799,2801", 0);
        refusedAt(x, "v0,3,0", 0);
        refusedAt(x, "c0,0,1,2;v1,3,0", 9);
        refusedAt(x, "v0,3,0;c0,0,1,2", 0);
        refusedAt(x, "t3=4;t49=0", 5);
        refusedAt(x, "t3=4;t3=1000", 5);
        refusedAt(x, "t3=-1000", 0);
        refusedAt(x, "w3=4;w48=0", 5);
        refusedAt(x, "w3=4;t3=4;w3=100;w99=1", 10);
        refusedAt(x, "c0,0,1,2;v0,2,0", 9);
        refusedAt(x, "c0,0,1,2;v0,31,0", 9);
        refusedAt(x, "c0,0,1,2;v0,3,6", 9);
        for (int c = 0; c < 11; c++) {
            x.addCrossing(0, 0, c, c + 1);
        }
        x.setMargin(50);
        refusedAt(x, "c0,0,1,2;c0,0,1,2;c0,0,1,2", 9);
        for (int v = 0; v < 22; v++) {
            x.addVehicle(0, 3, 0);
        }
        x.setMargin(50);
        refusedAt(x, "v0,3,0;v0,3,1;v0,3,2;v0,3,3", 14);
    }

    private static void readIsOneChange() {
        Check.part("Promises 13 and 15");
        FerryTimetable x = Check.easyPort();
        Check.append(x, "t3=4;t4=5;w5=6;c0,0,1,2;v0,3,0");
        Check.due("read()", 5, x.read());
        Check.due("undo()", 2, x.undo());
        Check.due("tide(3)", 0, x.tide(3));
        Check.due("tide(4)", 0, x.tide(4));
        Check.due("wind(5)", 0, x.wind(5));
        Check.due("count(2)", 0, x.count(2));
        Check.due("count(3)", 0, x.count(3));
    }

    private static void mostEntries() {
        Check.part("Promise 13, the most entries");
        FerryTimetable x = new FerryTimetable();
        Check.append(x, "t0=1;t1=2;t2=3;t3=4;t4=5;t5=6;t6=7;t7=8;t8=9;w0=1;w1=2;w2=3");
        Check.due("count(5)", 59, x.count(5));
        Check.due("read()", 12, x.read());
        Check.due("tide(8)", 9, x.tide(8));
        Check.due("wind(2)", 3, x.wind(2));
        Check.append(x, "t0=1;t1=2;t2=3;t3=4;t4=5;t5=6;t6=7;t7=8;t8=9;w0=1;w1=2;w2=3;");
        Check.due("read() of one sign more", Check.BAD, x.read());
        Check.due("faultPosition()", 60, x.faultPosition());
        Check.append(x, "t0=1;t1=2;t2=3;t3=4;t4=5;t5=6;t6=7;t7=8;t8=9;w0=1;w1=2;w2=34");
        Check.due("read() of 60 signs", 12, x.read());
        Check.due("wind(2)", 34, x.wind(2));
    }

    private static void faultStays() {
        Check.part("Promise 14");
        FerryTimetable x = Check.easyPort();
        Check.due("faultPosition()", Check.NONE, x.faultPosition());
        Check.append(x, "t3=x");
        Check.due("faultPosition() before read", Check.NONE, x.faultPosition());
        x.read();
        Check.due("faultPosition()", 3, x.faultPosition());
        x.save();
        x.setTide(1, 1);
        x.undo();
        x.restore();
        Check.append(x, "t4=1");
        Check.due("faultPosition() after other calls", 3, x.faultPosition());
        Check.due("read()", 1, x.read());
        Check.due("faultPosition()", Check.NONE, x.faultPosition());
        Check.append(x, "t4=1;t99=1");
        x.read();
        Check.due("faultPosition()", 5, x.faultPosition());
        Check.due("read() of an empty text", Check.BAD, x.read());
        Check.due("faultPosition()", 0, x.faultPosition());
    }
}
