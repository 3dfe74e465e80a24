/** FINDINGS, in the order of their numbers. */
enum Finding {
    BEYOND, FULL, KIND, NONE, STATE, MISSING, SIZE, OVER;

    private static final long LOW = -1000001L;
    private static final long LONG_LOW = -4000000000000000001L;

    long toldBy(Class<?> answers) {
        return (answers == long.class ? LONG_LOW : LOW) - ordinal();
    }
}
