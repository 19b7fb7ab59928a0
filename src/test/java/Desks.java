/** Objects with some things told, for tests to begin with. */
final class Desks {
    private Desks() {
    }

    /** So many LANDS, and so many private PERSONS of LAND 0. */
    static SalePart of(int lands, int persons) {
        SalePart desk = new SalePart();
        for (int i = 0; i < lands; i++) {
            desk.land();
        }
        for (int i = 0; i < persons; i++) {
            desk.person(0, 0);
        }
        return desk;
    }

    /** With a WORK of PERSON 0 beside them. */
    static SalePart ofWork(int lands, int persons) {
        SalePart desk = of(lands, persons);
        desk.work(0, 1, 1, 0, 1, 1);
        return desk;
    }
}
