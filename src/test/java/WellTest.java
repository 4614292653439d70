import java.lang.reflect.Array;
import java.lang.reflect.Field;

/** Promise 40 where not all is well, which no run of calls can bring about: so a cell or a book is set from within. */
public final class WellTest {
    public static void main(String[] args) throws ReflectiveOperationException {
        plainCells();
        carefulCells();
        books();
        cellsOfNobody();
        Checks.end();
    }

    private static Object inside(Object owner, String name) throws ReflectiveOperationException {
        return field(owner, name).get(owner);
    }

    private static Field field(Object owner, String name) throws ReflectiveOperationException {
        Field field = owner.getClass().getDeclaredField(name);
        field.setAccessible(true);
        return field;
    }

    private static void addToCell(CrowdSketches x, int row, int cell, int more) throws ReflectiveOperationException {
        Object rows = inside(inside(x, "now"), "rows");
        int[] cells = (int[]) inside(Array.get(rows, row), "cells");
        cells[cell] += more;
    }

    private static void addToBook(CrowdSketches x, int name, int more) throws ReflectiveOperationException {
        Object names = inside(inside(x, "now"), "names");
        Object owner = Array.get(names, name);
        field(owner, "booked").setInt(owner, x.booked(name) + more);
    }

    private static void well(String what, CrowdSketches x, boolean due) {
        Checks.same("promise 40: " + what, x.isWell(), due);
    }

    /** "bo" is in the cells 2 and 0, "ed" in 0 and 1, "a" in the cell 1 of both rows. */
    private static CrowdSketches crowd() {
        CrowdSketches x = Checks.crowd();
        Checks.count(x, "a", 4);
        return x;
    }

    private static void plainCells() throws ReflectiveOperationException {
        well("plain", crowd(), true);
        for (int row = 0; row < 2; row++) {
            for (int cell = 0; cell < 3; cell++) {
                int[] more = {1, -1, 100};
                for (int many : more) {
                    CrowdSketches x = crowd();
                    addToCell(x, row, cell, many);
                    well(many + " more in the cell " + cell + " of row " + row, x, false);
                    addToCell(x, row, cell, -many);
                    well("as it was", x, true);
                }
            }
        }
    }

    /** More in a cell is no harm in the careful manner, as long as no guess is less than what the book tells. */
    private static void carefulCells() throws ReflectiveOperationException {
        CrowdSketches x = crowd();
        x.manner(true);
        for (int name = 0; name < 3; name++) {
            for (int row = 0; row < 2; row++) {
                int cell = x.cellOf(row, name);
                int spare = x.cell(row, cell) - x.booked(name);
                addToCell(x, row, cell, 7);
                well("careful, more for " + name + " in row " + row, x, true);
                addToCell(x, row, cell, -7 - spare - 1);
                well("careful, less than the book for " + name + " in row " + row, x, false);
                addToCell(x, row, cell, spare + 1);
                well("careful, as it was", x, true);
            }
        }
    }

    private static void books() throws ReflectiveOperationException {
        for (int name = 0; name < 3; name++) {
            CrowdSketches x = crowd();
            addToBook(x, name, -1);
            well("plain, the book of " + name + " less than the cells", x, false);
            addToBook(x, name, 2);
            well("plain, the book of " + name + " more than the cells", x, false);
            CrowdSketches y = crowd();
            y.manner(true);
            addToBook(y, name, -1);
            well("careful, the book of " + name + " less than the guess", y, true);
            addToBook(y, name, y.error(name));
            well("careful, the book of " + name + " just the guess", y, true);
            addToBook(y, name, 1);
            well("careful, the book of " + name + " more than the guess", y, false);
        }
    }

    private static void cellsOfNobody() throws ReflectiveOperationException {
        CrowdSketches x = new CrowdSketches();
        addToCell(x, 0, 7, 1);
        well("plain, no names, but a count", x, false);
        x.manner(true);
        well("careful, made anew", x, true);
        addToCell(x, 0, 7, 1);
        well("careful, no names, but a count", x, true);
        x.manner(false);
        well("plain, made anew", x, true);
        addToCell(x, 0, 8, 1);
        well("a cell behind the last is none", x, true);
    }
}
