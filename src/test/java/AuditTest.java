import java.lang.reflect.Field;
import java.util.List;

/**
 * An audit answers 0 whatever is called, so that whether it looks at all can be seen only by breaking what it looks at:
 * here, and here alone, a test reaches inside the class.
 */
public final class AuditTest {
    private static final int NONE = -6;
    private static final int KEY = 0, PART = 2, PLACE = 3, WIDTH = 4;

    public static void main(String[] args) throws Exception {
        wholeIsRight();
        rowsAboveTheMark();
        rowsOfPartsThatAreNot();
        rowsTwice();
        rowsMissing();
        rowsOutOfOrder();
        keysOfTables();
        severalAtOnce();
        Due.end("AuditTest");
    }

    /** Lines and a table, each with parts of two rows of marks 3 and 5, both shown, and one of mark 7 that waits. */
    private static TwoStepOutputs shown() {
        TwoStepOutputs x = new TwoStepOutputs();
        x.output(0);
        x.output(1);
        for (int mark = 3; mark <= 7; mark += 2) {
            for (int o = 0; o < 2; o++) {
                x.write(o, 0, mark);
                x.write(o, mark, mark);
            }
            x.barrier(mark);
        }
        x.keep(5);
        return x;
    }

    private static Object inside(Object of, String name) throws Exception {
        return field(of, name).get(of);
    }

    private static Field field(Object of, String name) throws Exception {
        Class<?> where = of.getClass();
        while (!has(where, name)) where = where.getSuperclass();
        Field found = where.getDeclaredField(name);
        found.setAccessible(true);
        return found;
    }

    private static boolean has(Class<?> type, String name) {
        for (Field field : type.getDeclaredFields()) {
            if (field.getName().equals(name)) return true;
        }
        return false;
    }

    private static Object output(TwoStepOutputs x, int o) throws Exception {
        return ((List<?>) inside(x, "outputs")).get(o);
    }

    private static Object part(TwoStepOutputs x, int o, int p) throws Exception {
        return ((List<?>) inside(output(x, o), "parts")).get(p);
    }

    private static void setLine(TwoStepOutputs x, int i, int what, int number) throws Exception {
        ((int[]) inside(inside(output(x, 0), "lines"), "cells"))[i * WIDTH + what] = number;
    }

    private static void setKey(TwoStepOutputs x, int key, int part) throws Exception {
        ((int[]) inside(inside(output(x, 1), "table"), "parts"))[key] = part;
    }

    private static void setLines(TwoStepOutputs x, int count) throws Exception {
        Object lines = inside(output(x, 0), "lines");
        field(lines, "count").setInt(lines, count);
    }

    private static void wholeIsRight() throws Exception {
        TwoStepOutputs x = shown();
        Due.is("rows out there", x.about(0, 3), 4);
        Due.is("keys out there", x.about(1, 3), 3);
        Due.is("audit", x.audit(), 0);
        Due.is("audit again", x.audit(), 0);
    }

    private static void rowsAboveTheMark() throws Exception {
        for (int mark = 3; mark <= 7; mark++) {
            TwoStepOutputs x = shown();
            field(x, "theMark").setInt(x, mark);
            Due.is("the mark is " + mark, x.audit(), mark < 5 ? 1 : 0);
        }
        TwoStepOutputs table = shown();
        Object ofTable = part(table, 1, 1);
        field(ofTable, "mark").setInt(ofTable, 6);
        Due.is("a row of the table alone", table.audit(), 1);
        TwoStepOutputs lines = shown();
        Object ofLines = part(lines, 0, 0);
        field(ofLines, "mark").setInt(ofLines, 6);
        Due.is("rows of the lines alone", lines.audit(), 1);
    }

    private static void rowsOfPartsThatAreNot() throws Exception {
        TwoStepOutputs unclosed = shown();
        for (int o = 0; o < 2; o++) {
            Object part = part(unclosed, o, 1);
            field(part, "state").setInt(part, 0);
            Due.is("of output " + o + " a part is not closed", unclosed.audit(), 1);
        }
        TwoStepOutputs waiting = shown();
        setKey(waiting, 3, 2);
        Due.is("a key of a part that waits", waiting.audit(), 1);
    }

    private static void rowsTwice() throws Exception {
        for (int first = 0; first < 4; first++) {
            TwoStepOutputs x = shown();
            setLines(x, 5);
            setLine(x, 4, PART, first / 2);
            setLine(x, 4, PLACE, first % 2);
            Due.is("row " + first + " is there twice", x.audit(), 1);
        }
    }

    private static void rowsMissing() throws Exception {
        TwoStepOutputs last = shown();
        setLines(last, 3);
        Due.is("without the last row", last.audit(), 1);
        TwoStepOutputs none = shown();
        setLines(none, 0);
        Due.is("without any row", none.audit(), 1);
        TwoStepOutputs some = shown();
        Object part = part(some, 0, 1);
        field(part, "state").setInt(part, 1);
        setLines(some, 3);
        Due.is("a part that is not shown yet", some.audit(), 0);
    }

    private static void rowsOutOfOrder() throws Exception {
        TwoStepOutputs turned = shown();
        setLine(turned, 0, PLACE, 1);
        setLine(turned, 1, PLACE, 0);
        Due.is("the second row first", turned.audit(), 1);
        TwoStepOutputs apart = shown();
        setLine(apart, 1, PART, 1);
        setLine(apart, 1, PLACE, 0);
        setLine(apart, 2, PART, 0);
        setLine(apart, 2, PLACE, 1);
        Due.is("side by side or not", apart.audit(), 0);
        TwoStepOutputs keys = shown();
        setLine(keys, 0, KEY, 9);
        Due.is("keys are not looked at", keys.audit(), 0);
    }

    private static void keysOfTables() throws Exception {
        for (int key = 0; key <= 5; key++) {
            TwoStepOutputs x = shown();
            setKey(x, key, NONE);
            Due.is("key " + key + " has no value", x.audit(), key == 0 || key == 3 || key == 5 ? 1 : 0);
        }
        TwoStepOutputs lesser = shown();
        setKey(lesser, 0, 0);
        Due.is("a value of a lesser part", lesser.audit(), 1);
        TwoStepOutputs greater = shown();
        setKey(greater, 3, 1);
        Due.is("a value of a greater part", greater.audit(), 0);
    }

    private static void severalAtOnce() throws Exception {
        TwoStepOutputs x = shown();
        field(x, "theMark").setInt(x, 4);
        setKey(x, 0, 0);
        Due.is("two of them", x.audit(), 2);
        setLine(x, 1, PLACE, 0);
        Due.is("all four", x.audit(), 4);
    }
}
